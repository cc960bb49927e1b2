section FA
theorem ck_0 : ae_cl 0 RX0 TX0 3 tyX0 := ⟨rfl, by decide +kernel, nmX0, tyX0_ok⟩
theorem ck_1 : ae_cl 1 RX1 TX1 9 tyX1 := ⟨rfl, by decide +kernel, nmX1, tyX1_ok⟩
theorem ck_2 : ae_cl 2 RX2 TX2 15 tyX2 := ⟨rfl, by decide +kernel, nmX2, tyX2_ok⟩
theorem ck_3 : ae_cl 3 RX4 TX4 4 tyX4 := ⟨rfl, by decide +kernel, nmX4, tyX4_ok⟩
theorem ck_4 : ae_cl 4 RX5 TX5 12 tyX5 := ⟨rfl, by decide +kernel, nmX5, tyX5_ok⟩
theorem ck_5 : ae_cl 5 RX6 TX6 18 tyX6 := ⟨rfl, by decide +kernel, nmX6, tyX6_ok⟩
theorem ck_6 : ae_cl 6 RX7 TX7 18 tyX7 := ⟨rfl, by decide +kernel, nmX7, tyX7_ok⟩
theorem ck_7 : ae_cl 7 RX8 TX8 3 tyX8 := ⟨rfl, by decide +kernel, nmX8, tyX8_ok⟩
theorem ck_8 : ae_cl 8 RX9 TX9 14 tyX9 := ⟨rfl, by decide +kernel, nmX9, tyX9_ok⟩
theorem ck_9 : ae_cl 9 RX10 TX10 15 tyX10 := ⟨rfl, by decide +kernel, nmX10, tyX10_ok⟩
theorem ck_10 : ae_cl 10 RX11 TX11 52 tyX11 := ⟨rfl, by decide +kernel, nmX11, tyX11_ok⟩
theorem sp_0 : shp 0 = (4, 9, [(0, 1), (2, 0), (2, 0), (0, 37), (0, 48), (0, 58), (0, 63), (0, 72), (0, 75), (0, 85), (0, 88), (1, 0), (1, 0), (1, 0), (1, 0)]) := by decide +kernel
theorem of_0 : oF 0 RX10 := ⟨9, 15, TX10, tyX10, _, ck_9, sp_0⟩
theorem fc_0_0 : fC 0 0 1 RX10 "kept" "LPhraseRoads$Knowledge;" := ⟨9, 15, TX10, tyX10, _, ck_9, sp_0, by decide, rfl, rfl, rfl, rfl⟩
theorem fr_0_1 : fR 0 1 RX10 "now" "LPhraseRoads$Knowledge;" := ⟨9, 15, TX10, tyX10, _, ck_9, sp_0, by decide, rfl, rfl, rfl, rfl, rfl, rfl⟩
theorem fr_0_2 : fR 0 2 RX10 "draft" "LPhraseRoads$Knowledge;" := ⟨9, 15, TX10, tyX10, _, ck_9, sp_0, by decide, rfl, rfl, rfl, rfl, rfl, rfl⟩
theorem fc_0_3 : fC 0 3 37 RX10 "reader" "LPhraseRoads$Reader;" := ⟨9, 15, TX10, tyX10, _, ck_9, sp_0, by decide, rfl, rfl, rfl, rfl⟩
theorem fc_0_4 : fC 0 4 48 RX10 "options" "LPhraseRoads$Options;" := ⟨9, 15, TX10, tyX10, _, ck_9, sp_0, by decide, rfl, rfl, rfl, rfl⟩
theorem fc_0_5 : fC 0 5 58 RX10 "knots" "LPhraseRoads$Knots;" := ⟨9, 15, TX10, tyX10, _, ck_9, sp_0, by decide, rfl, rfl, rfl, rfl⟩
theorem fc_0_6 : fC 0 6 63 RX10 "ways" "LPhraseRoads$Ways;" := ⟨9, 15, TX10, tyX10, _, ck_9, sp_0, by decide, rfl, rfl, rfl, rfl⟩
theorem fc_0_7 : fC 0 7 72 RX10 "stretches" "LPhraseRoads$Stretches;" := ⟨9, 15, TX10, tyX10, _, ck_9, sp_0, by decide, rfl, rfl, rfl, rfl⟩
theorem fc_0_8 : fC 0 8 75 RX10 "stacks" "LPhraseRoads$Stacks;" := ⟨9, 15, TX10, tyX10, _, ck_9, sp_0, by decide, rfl, rfl, rfl, rfl⟩
theorem fc_0_9 : fC 0 9 85 RX10 "counting" "LPhraseRoads$Counting;" := ⟨9, 15, TX10, tyX10, _, ck_9, sp_0, by decide, rfl, rfl, rfl, rfl⟩
theorem fc_0_10 : fC 0 10 88 RX10 "likeness" "LPhraseRoads$Likeness;" := ⟨9, 15, TX10, tyX10, _, ck_9, sp_0, by decide, rfl, rfl, rfl, rfl⟩
theorem fi_0_11 : fI 0 11 RX10 "hasImage" "Z" := ⟨9, 15, TX10, tyX10, _, ck_9, sp_0, by decide, rfl, rfl, rfl, rfl, rfl, Or.inr rfl⟩
theorem fi_0_12 : fI 0 12 RX10 "optionsReady" "Z" := ⟨9, 15, TX10, tyX10, _, ck_9, sp_0, by decide, rfl, rfl, rfl, rfl, rfl, Or.inr rfl⟩
theorem fi_0_13 : fI 0 13 RX10 "waysReady" "Z" := ⟨9, 15, TX10, tyX10, _, ck_9, sp_0, by decide, rfl, rfl, rfl, rfl, rfl, Or.inr rfl⟩
theorem fi_0_14 : fI 0 14 RX10 "stacksReady" "Z" := ⟨9, 15, TX10, tyX10, _, ck_9, sp_0, by decide, rfl, rfl, rfl, rfl, rfl, Or.inr rfl⟩
theorem sp_1 : shp 1 = (4, 2, [(0, 2), (0, 3), (1, 0), (0, 4), (0, 5), (0, 6), (0, 7), (0, 8), (0, 9), (1, 0), (0, 10), (1, 0), (0, 11), (1, 0), (0, 12)]) := by decide +kernel
theorem of_1 : oF 1 RX2 := ⟨2, 15, TX2, tyX2, _, ck_2, sp_1⟩
theorem fc_1_0 : fC 1 0 2 RX2 "letters" "[I" := ⟨2, 15, TX2, tyX2, _, ck_2, sp_1, by decide, rfl, rfl, rfl, rfl⟩
theorem fc_1_1 : fC 1 1 3 RX2 "lengths" "[I" := ⟨2, 15, TX2, tyX2, _, ck_2, sp_1, by decide, rfl, rfl, rfl, rfl⟩
theorem fi_1_2 : fI 1 2 RX2 "words" "I" := ⟨2, 15, TX2, tyX2, _, ck_2, sp_1, by decide, rfl, rfl, rfl, rfl, rfl, Or.inl rfl⟩
theorem fc_1_3 : fC 1 3 4 RX2 "sources" "[I" := ⟨2, 15, TX2, tyX2, _, ck_2, sp_1, by decide, rfl, rfl, rfl, rfl⟩
theorem fc_1_4 : fC 1 4 5 RX2 "sourceSizes" "[I" := ⟨2, 15, TX2, tyX2, _, ck_2, sp_1, by decide, rfl, rfl, rfl, rfl⟩
theorem fc_1_5 : fC 1 5 6 RX2 "targets" "[I" := ⟨2, 15, TX2, tyX2, _, ck_2, sp_1, by decide, rfl, rfl, rfl, rfl⟩
theorem fc_1_6 : fC 1 6 7 RX2 "targetSizes" "[I" := ⟨2, 15, TX2, tyX2, _, ck_2, sp_1, by decide, rfl, rfl, rfl, rfl⟩
theorem fc_1_7 : fC 1 7 8 RX2 "costs" "[I" := ⟨2, 15, TX2, tyX2, _, ck_2, sp_1, by decide, rfl, rfl, rfl, rfl⟩
theorem fc_1_8 : fC 1 8 9 RX2 "gone" "[Z" := ⟨2, 15, TX2, tyX2, _, ck_2, sp_1, by decide, rfl, rfl, rfl, rfl⟩
theorem fi_1_9 : fI 1 9 RX2 "phrases" "I" := ⟨2, 15, TX2, tyX2, _, ck_2, sp_1, by decide, rfl, rfl, rfl, rfl, rfl, Or.inl rfl⟩
theorem fc_1_10 : fC 1 10 10 RX2 "flows" "[I" := ⟨2, 15, TX2, tyX2, _, ck_2, sp_1, by decide, rfl, rfl, rfl, rfl⟩
theorem fi_1_11 : fI 1 11 RX2 "pairs" "I" := ⟨2, 15, TX2, tyX2, _, ck_2, sp_1, by decide, rfl, rfl, rfl, rfl, rfl, Or.inl rfl⟩
theorem fc_1_12 : fC 1 12 11 RX2 "places" "[I" := ⟨2, 15, TX2, tyX2, _, ck_2, sp_1, by decide, rfl, rfl, rfl, rfl⟩
theorem fi_1_13 : fI 1 13 RX2 "size" "I" := ⟨2, 15, TX2, tyX2, _, ck_2, sp_1, by decide, rfl, rfl, rfl, rfl, rfl, Or.inl rfl⟩
theorem fc_1_14 : fC 1 14 12 RX2 "settings" "[I" := ⟨2, 15, TX2, tyX2, _, ck_2, sp_1, by decide, rfl, rfl, rfl, rfl⟩
theorem aI_2 : aI 2 320 := ⟨by decide +kernel, by decide⟩
theorem aI_3 : aI 3 40 := ⟨by decide +kernel, by decide⟩
theorem aI_4 : aI 4 90 := ⟨by decide +kernel, by decide⟩
theorem aI_5 : aI 5 30 := ⟨by decide +kernel, by decide⟩
theorem aI_6 : aI 6 90 := ⟨by decide +kernel, by decide⟩
theorem aI_7 : aI 7 30 := ⟨by decide +kernel, by decide⟩
theorem aI_8 : aI 8 30 := ⟨by decide +kernel, by decide⟩
theorem aZ_9 : aZ 9 30 := ⟨by decide +kernel, by decide⟩
theorem aI_10 : aI 10 1681 := ⟨by decide +kernel, by decide⟩
theorem aI_11 : aI 11 6 := ⟨by decide +kernel, by decide⟩
theorem aI_12 : aI 12 5 := ⟨by decide +kernel, by decide⟩
theorem sp_13 : shp 13 = (4, 2, [(0, 14), (0, 15), (1, 0), (0, 16), (0, 17), (0, 18), (0, 19), (0, 20), (0, 21), (1, 0), (0, 22), (1, 0), (0, 23), (1, 0), (0, 24)]) := by decide +kernel
theorem of_13 : oF 13 RX2 := ⟨2, 15, TX2, tyX2, _, ck_2, sp_13⟩
theorem fc_13_0 : fC 13 0 14 RX2 "letters" "[I" := ⟨2, 15, TX2, tyX2, _, ck_2, sp_13, by decide, rfl, rfl, rfl, rfl⟩
theorem fc_13_1 : fC 13 1 15 RX2 "lengths" "[I" := ⟨2, 15, TX2, tyX2, _, ck_2, sp_13, by decide, rfl, rfl, rfl, rfl⟩
theorem fi_13_2 : fI 13 2 RX2 "words" "I" := ⟨2, 15, TX2, tyX2, _, ck_2, sp_13, by decide, rfl, rfl, rfl, rfl, rfl, Or.inl rfl⟩
theorem fc_13_3 : fC 13 3 16 RX2 "sources" "[I" := ⟨2, 15, TX2, tyX2, _, ck_2, sp_13, by decide, rfl, rfl, rfl, rfl⟩
theorem fc_13_4 : fC 13 4 17 RX2 "sourceSizes" "[I" := ⟨2, 15, TX2, tyX2, _, ck_2, sp_13, by decide, rfl, rfl, rfl, rfl⟩
theorem fc_13_5 : fC 13 5 18 RX2 "targets" "[I" := ⟨2, 15, TX2, tyX2, _, ck_2, sp_13, by decide, rfl, rfl, rfl, rfl⟩
theorem fc_13_6 : fC 13 6 19 RX2 "targetSizes" "[I" := ⟨2, 15, TX2, tyX2, _, ck_2, sp_13, by decide, rfl, rfl, rfl, rfl⟩
theorem fc_13_7 : fC 13 7 20 RX2 "costs" "[I" := ⟨2, 15, TX2, tyX2, _, ck_2, sp_13, by decide, rfl, rfl, rfl, rfl⟩
theorem fc_13_8 : fC 13 8 21 RX2 "gone" "[Z" := ⟨2, 15, TX2, tyX2, _, ck_2, sp_13, by decide, rfl, rfl, rfl, rfl⟩
theorem fi_13_9 : fI 13 9 RX2 "phrases" "I" := ⟨2, 15, TX2, tyX2, _, ck_2, sp_13, by decide, rfl, rfl, rfl, rfl, rfl, Or.inl rfl⟩
theorem fc_13_10 : fC 13 10 22 RX2 "flows" "[I" := ⟨2, 15, TX2, tyX2, _, ck_2, sp_13, by decide, rfl, rfl, rfl, rfl⟩
theorem fi_13_11 : fI 13 11 RX2 "pairs" "I" := ⟨2, 15, TX2, tyX2, _, ck_2, sp_13, by decide, rfl, rfl, rfl, rfl, rfl, Or.inl rfl⟩
theorem fc_13_12 : fC 13 12 23 RX2 "places" "[I" := ⟨2, 15, TX2, tyX2, _, ck_2, sp_13, by decide, rfl, rfl, rfl, rfl⟩
theorem fi_13_13 : fI 13 13 RX2 "size" "I" := ⟨2, 15, TX2, tyX2, _, ck_2, sp_13, by decide, rfl, rfl, rfl, rfl, rfl, Or.inl rfl⟩
theorem fc_13_14 : fC 13 14 24 RX2 "settings" "[I" := ⟨2, 15, TX2, tyX2, _, ck_2, sp_13, by decide, rfl, rfl, rfl, rfl⟩
theorem aI_14 : aI 14 320 := ⟨by decide +kernel, by decide⟩
theorem aI_15 : aI 15 40 := ⟨by decide +kernel, by decide⟩
theorem aI_16 : aI 16 90 := ⟨by decide +kernel, by decide⟩
theorem aI_17 : aI 17 30 := ⟨by decide +kernel, by decide⟩
theorem aI_18 : aI 18 90 := ⟨by decide +kernel, by decide⟩
theorem aI_19 : aI 19 30 := ⟨by decide +kernel, by decide⟩
theorem aI_20 : aI 20 30 := ⟨by decide +kernel, by decide⟩
theorem aZ_21 : aZ 21 30 := ⟨by decide +kernel, by decide⟩
theorem aI_22 : aI 22 1681 := ⟨by decide +kernel, by decide⟩
theorem aI_23 : aI 23 6 := ⟨by decide +kernel, by decide⟩
theorem aI_24 : aI 24 5 := ⟨by decide +kernel, by decide⟩
theorem sp_25 : shp 25 = (4, 2, [(0, 26), (0, 27), (1, 0), (0, 28), (0, 29), (0, 30), (0, 31), (0, 32), (0, 33), (1, 0), (0, 34), (1, 0), (0, 35), (1, 0), (0, 36)]) := by decide +kernel
theorem of_25 : oF 25 RX2 := ⟨2, 15, TX2, tyX2, _, ck_2, sp_25⟩
theorem fc_25_0 : fC 25 0 26 RX2 "letters" "[I" := ⟨2, 15, TX2, tyX2, _, ck_2, sp_25, by decide, rfl, rfl, rfl, rfl⟩
theorem fc_25_1 : fC 25 1 27 RX2 "lengths" "[I" := ⟨2, 15, TX2, tyX2, _, ck_2, sp_25, by decide, rfl, rfl, rfl, rfl⟩
theorem fi_25_2 : fI 25 2 RX2 "words" "I" := ⟨2, 15, TX2, tyX2, _, ck_2, sp_25, by decide, rfl, rfl, rfl, rfl, rfl, Or.inl rfl⟩
theorem fc_25_3 : fC 25 3 28 RX2 "sources" "[I" := ⟨2, 15, TX2, tyX2, _, ck_2, sp_25, by decide, rfl, rfl, rfl, rfl⟩
theorem fc_25_4 : fC 25 4 29 RX2 "sourceSizes" "[I" := ⟨2, 15, TX2, tyX2, _, ck_2, sp_25, by decide, rfl, rfl, rfl, rfl⟩
theorem fc_25_5 : fC 25 5 30 RX2 "targets" "[I" := ⟨2, 15, TX2, tyX2, _, ck_2, sp_25, by decide, rfl, rfl, rfl, rfl⟩
theorem fc_25_6 : fC 25 6 31 RX2 "targetSizes" "[I" := ⟨2, 15, TX2, tyX2, _, ck_2, sp_25, by decide, rfl, rfl, rfl, rfl⟩
theorem fc_25_7 : fC 25 7 32 RX2 "costs" "[I" := ⟨2, 15, TX2, tyX2, _, ck_2, sp_25, by decide, rfl, rfl, rfl, rfl⟩
theorem fc_25_8 : fC 25 8 33 RX2 "gone" "[Z" := ⟨2, 15, TX2, tyX2, _, ck_2, sp_25, by decide, rfl, rfl, rfl, rfl⟩
theorem fi_25_9 : fI 25 9 RX2 "phrases" "I" := ⟨2, 15, TX2, tyX2, _, ck_2, sp_25, by decide, rfl, rfl, rfl, rfl, rfl, Or.inl rfl⟩
theorem fc_25_10 : fC 25 10 34 RX2 "flows" "[I" := ⟨2, 15, TX2, tyX2, _, ck_2, sp_25, by decide, rfl, rfl, rfl, rfl⟩
theorem fi_25_11 : fI 25 11 RX2 "pairs" "I" := ⟨2, 15, TX2, tyX2, _, ck_2, sp_25, by decide, rfl, rfl, rfl, rfl, rfl, Or.inl rfl⟩
theorem fc_25_12 : fC 25 12 35 RX2 "places" "[I" := ⟨2, 15, TX2, tyX2, _, ck_2, sp_25, by decide, rfl, rfl, rfl, rfl⟩
theorem fi_25_13 : fI 25 13 RX2 "size" "I" := ⟨2, 15, TX2, tyX2, _, ck_2, sp_25, by decide, rfl, rfl, rfl, rfl, rfl, Or.inl rfl⟩
theorem fc_25_14 : fC 25 14 36 RX2 "settings" "[I" := ⟨2, 15, TX2, tyX2, _, ck_2, sp_25, by decide, rfl, rfl, rfl, rfl⟩
theorem aI_26 : aI 26 320 := ⟨by decide +kernel, by decide⟩
theorem aI_27 : aI 27 40 := ⟨by decide +kernel, by decide⟩
theorem aI_28 : aI 28 90 := ⟨by decide +kernel, by decide⟩
theorem aI_29 : aI 29 30 := ⟨by decide +kernel, by decide⟩
theorem aI_30 : aI 30 90 := ⟨by decide +kernel, by decide⟩
theorem aI_31 : aI 31 30 := ⟨by decide +kernel, by decide⟩
theorem aI_32 : aI 32 30 := ⟨by decide +kernel, by decide⟩
theorem aZ_33 : aZ 33 30 := ⟨by decide +kernel, by decide⟩
theorem aI_34 : aI 34 1681 := ⟨by decide +kernel, by decide⟩
theorem aI_35 : aI 35 6 := ⟨by decide +kernel, by decide⟩
theorem aI_36 : aI 36 5 := ⟨by decide +kernel, by decide⟩
theorem sp_37 : shp 37 = (4, 5, [(0, 38), (1, 0), (1, 0), (0, 39), (0, 40), (0, 41), (0, 42), (0, 43), (0, 44), (1, 0), (0, 45), (1, 0), (0, 46), (1, 0), (0, 47), (1, 0), (2, 0), (1, 0)]) := by decide +kernel
theorem of_37 : oF 37 RX6 := ⟨5, 18, TX6, tyX6, _, ck_5, sp_37⟩
theorem fc_37_0 : fC 37 0 38 RX6 "bytes" "[I" := ⟨5, 18, TX6, tyX6, _, ck_5, sp_37, by decide, rfl, rfl, rfl, rfl⟩
theorem fi_37_1 : fI 37 1 RX6 "length" "I" := ⟨5, 18, TX6, tyX6, _, ck_5, sp_37, by decide, rfl, rfl, rfl, rfl, rfl, Or.inl rfl⟩
theorem fi_37_2 : fI 37 2 RX6 "bad" "I" := ⟨5, 18, TX6, tyX6, _, ck_5, sp_37, by decide, rfl, rfl, rfl, rfl, rfl, Or.inl rfl⟩
theorem fc_37_3 : fC 37 3 39 RX6 "begins" "[I" := ⟨5, 18, TX6, tyX6, _, ck_5, sp_37, by decide, rfl, rfl, rfl, rfl⟩
theorem fc_37_4 : fC 37 4 40 RX6 "sources" "[I" := ⟨5, 18, TX6, tyX6, _, ck_5, sp_37, by decide, rfl, rfl, rfl, rfl⟩
theorem fc_37_5 : fC 37 5 41 RX6 "sourceSizes" "[I" := ⟨5, 18, TX6, tyX6, _, ck_5, sp_37, by decide, rfl, rfl, rfl, rfl⟩
theorem fc_37_6 : fC 37 6 42 RX6 "targets" "[I" := ⟨5, 18, TX6, tyX6, _, ck_5, sp_37, by decide, rfl, rfl, rfl, rfl⟩
theorem fc_37_7 : fC 37 7 43 RX6 "targetSizes" "[I" := ⟨5, 18, TX6, tyX6, _, ck_5, sp_37, by decide, rfl, rfl, rfl, rfl⟩
theorem fc_37_8 : fC 37 8 44 RX6 "numbers" "[I" := ⟨5, 18, TX6, tyX6, _, ck_5, sp_37, by decide, rfl, rfl, rfl, rfl⟩
theorem fi_37_9 : fI 37 9 RX6 "entries" "I" := ⟨5, 18, TX6, tyX6, _, ck_5, sp_37, by decide, rfl, rfl, rfl, rfl, rfl, Or.inl rfl⟩
theorem fc_37_10 : fC 37 10 45 RX6 "row" "[I" := ⟨5, 18, TX6, tyX6, _, ck_5, sp_37, by decide, rfl, rfl, rfl, rfl⟩
theorem fi_37_11 : fI 37 11 RX6 "rowSize" "I" := ⟨5, 18, TX6, tyX6, _, ck_5, sp_37, by decide, rfl, rfl, rfl, rfl, rfl, Or.inl rfl⟩
theorem fc_37_12 : fC 37 12 46 RX6 "otherRow" "[I" := ⟨5, 18, TX6, tyX6, _, ck_5, sp_37, by decide, rfl, rfl, rfl, rfl⟩
theorem fi_37_13 : fI 37 13 RX6 "otherSize" "I" := ⟨5, 18, TX6, tyX6, _, ck_5, sp_37, by decide, rfl, rfl, rfl, rfl, rfl, Or.inl rfl⟩
theorem fc_37_14 : fC 37 14 47 RX6 "links" "[I" := ⟨5, 18, TX6, tyX6, _, ck_5, sp_37, by decide, rfl, rfl, rfl, rfl⟩
theorem fi_37_15 : fI 37 15 RX6 "at" "I" := ⟨5, 18, TX6, tyX6, _, ck_5, sp_37, by decide, rfl, rfl, rfl, rfl, rfl, Or.inl rfl⟩
theorem fr_37_16 : fR 37 16 RX6 "dictionary" "LPhraseRoads$Knowledge;" := ⟨5, 18, TX6, tyX6, _, ck_5, sp_37, by decide, rfl, rfl, rfl, rfl, rfl, rfl⟩
theorem fi_37_17 : fI 37 17 RX6 "growing" "Z" := ⟨5, 18, TX6, tyX6, _, ck_5, sp_37, by decide, rfl, rfl, rfl, rfl, rfl, Or.inr rfl⟩
theorem aI_38 : aI 38 400 := ⟨by decide +kernel, by decide⟩
theorem aI_39 : aI 39 12 := ⟨by decide +kernel, by decide⟩
theorem aI_40 : aI 40 36 := ⟨by decide +kernel, by decide⟩
theorem aI_41 : aI 41 12 := ⟨by decide +kernel, by decide⟩
theorem aI_42 : aI 42 36 := ⟨by decide +kernel, by decide⟩
theorem aI_43 : aI 43 12 := ⟨by decide +kernel, by decide⟩
theorem aI_44 : aI 44 12 := ⟨by decide +kernel, by decide⟩
theorem aI_45 : aI 45 18 := ⟨by decide +kernel, by decide⟩
theorem aI_46 : aI 46 6 := ⟨by decide +kernel, by decide⟩
theorem aI_47 : aI 47 6 := ⟨by decide +kernel, by decide⟩
theorem sp_48 : shp 48 = (4, 4, [(0, 49), (0, 50), (0, 51), (0, 52), (0, 53), (0, 54), (0, 55), (0, 56), (0, 57), (1, 0), (1, 0), (2, 0)]) := by decide +kernel
theorem of_48 : oF 48 RX5 := ⟨4, 12, TX5, tyX5, _, ck_4, sp_48⟩
theorem fc_48_0 : fC 48 0 49 RX5 "starts" "[I" := ⟨4, 12, TX5, tyX5, _, ck_4, sp_48, by decide, rfl, rfl, rfl, rfl⟩
theorem fc_48_1 : fC 48 1 50 RX5 "ends" "[I" := ⟨4, 12, TX5, tyX5, _, ck_4, sp_48, by decide, rfl, rfl, rfl, rfl⟩
theorem fc_48_2 : fC 48 2 51 RX5 "covers" "[I" := ⟨4, 12, TX5, tyX5, _, ck_4, sp_48, by decide, rfl, rfl, rfl, rfl⟩
theorem fc_48_3 : fC 48 3 52 RX5 "numbers" "[I" := ⟨4, 12, TX5, tyX5, _, ck_4, sp_48, by decide, rfl, rfl, rfl, rfl⟩
theorem fc_48_4 : fC 48 4 53 RX5 "targets" "[I" := ⟨4, 12, TX5, tyX5, _, ck_4, sp_48, by decide, rfl, rfl, rfl, rfl⟩
theorem fc_48_5 : fC 48 5 54 RX5 "targetSizes" "[I" := ⟨4, 12, TX5, tyX5, _, ck_4, sp_48, by decide, rfl, rfl, rfl, rfl⟩
theorem fc_48_6 : fC 48 6 55 RX5 "firsts" "[I" := ⟨4, 12, TX5, tyX5, _, ck_4, sp_48, by decide, rfl, rfl, rfl, rfl⟩
theorem fc_48_7 : fC 48 7 56 RX5 "lasts" "[I" := ⟨4, 12, TX5, tyX5, _, ck_4, sp_48, by decide, rfl, rfl, rfl, rfl⟩
theorem fc_48_8 : fC 48 8 57 RX5 "owns" "[I" := ⟨4, 12, TX5, tyX5, _, ck_4, sp_48, by decide, rfl, rfl, rfl, rfl⟩
theorem fi_48_9 : fI 48 9 RX5 "many" "I" := ⟨4, 12, TX5, tyX5, _, ck_4, sp_48, by decide, rfl, rfl, rfl, rfl, rfl, Or.inl rfl⟩
theorem fi_48_10 : fI 48 10 RX5 "places" "I" := ⟨4, 12, TX5, tyX5, _, ck_4, sp_48, by decide, rfl, rfl, rfl, rfl, rfl, Or.inl rfl⟩
theorem fr_48_11 : fR 48 11 RX5 "known" "LPhraseRoads$Knowledge;" := ⟨4, 12, TX5, tyX5, _, ck_4, sp_48, by decide, rfl, rfl, rfl, rfl, rfl, rfl⟩
theorem aI_49 : aI 49 186 := ⟨by decide +kernel, by decide⟩
theorem aI_50 : aI 50 186 := ⟨by decide +kernel, by decide⟩
theorem aI_51 : aI 51 186 := ⟨by decide +kernel, by decide⟩
theorem aI_52 : aI 52 186 := ⟨by decide +kernel, by decide⟩
theorem aI_53 : aI 53 558 := ⟨by decide +kernel, by decide⟩
theorem aI_54 : aI 54 186 := ⟨by decide +kernel, by decide⟩
theorem aI_55 : aI 55 186 := ⟨by decide +kernel, by decide⟩
theorem aI_56 : aI 56 186 := ⟨by decide +kernel, by decide⟩
theorem aI_57 : aI 57 186 := ⟨by decide +kernel, by decide⟩
theorem sp_58 : shp 58 = (4, 1, [(0, 48), (0, 59), (0, 60), (0, 61), (0, 62), (1, 0), (1, 0), (1, 0), (1, 0)]) := by decide +kernel
theorem of_58 : oF 58 RX1 := ⟨1, 9, TX1, tyX1, _, ck_1, sp_58⟩
theorem fc_58_0 : fC 58 0 48 RX1 "options" "LPhraseRoads$Options;" := ⟨1, 9, TX1, tyX1, _, ck_1, sp_58, by decide, rfl, rfl, rfl, rfl⟩
theorem fc_58_1 : fC 58 1 59 RX1 "seats" "[I" := ⟨1, 9, TX1, tyX1, _, ck_1, sp_58, by decide, rfl, rfl, rfl, rfl⟩
theorem fc_58_2 : fC 58 2 60 RX1 "codes" "[I" := ⟨1, 9, TX1, tyX1, _, ck_1, sp_58, by decide, rfl, rfl, rfl, rfl⟩
theorem fc_58_3 : fC 58 3 61 RX1 "rests" "[I" := ⟨1, 9, TX1, tyX1, _, ck_1, sp_58, by decide, rfl, rfl, rfl, rfl⟩
theorem fc_58_4 : fC 58 4 62 RX1 "firsts" "[I" := ⟨1, 9, TX1, tyX1, _, ck_1, sp_58, by decide, rfl, rfl, rfl, rfl⟩
theorem fi_58_5 : fI 58 5 RX1 "many" "I" := ⟨1, 9, TX1, tyX1, _, ck_1, sp_58, by decide, rfl, rfl, rfl, rfl, rfl, Or.inl rfl⟩
theorem fi_58_6 : fI 58 6 RX1 "jump" "I" := ⟨1, 9, TX1, tyX1, _, ck_1, sp_58, by decide, rfl, rfl, rfl, rfl, rfl, Or.inl rfl⟩
theorem fi_58_7 : fI 58 7 RX1 "far" "I" := ⟨1, 9, TX1, tyX1, _, ck_1, sp_58, by decide, rfl, rfl, rfl, rfl, rfl, Or.inl rfl⟩
theorem fi_58_8 : fI 58 8 RX1 "without" "I" := ⟨1, 9, TX1, tyX1, _, ck_1, sp_58, by decide, rfl, rfl, rfl, rfl, rfl, Or.inl rfl⟩
theorem aI_59 : aI 59 18368 := ⟨by decide +kernel, by decide⟩
theorem aI_60 : aI 60 7913 := ⟨by decide +kernel, by decide⟩
theorem aI_61 : aI 61 7913 := ⟨by decide +kernel, by decide⟩
theorem aI_62 : aI 62 8 := ⟨by decide +kernel, by decide⟩
theorem sp_63 : shp 63 = (4, 8, [(0, 48), (0, 58), (0, 64), (0, 65), (0, 66), (0, 67), (1, 0), (0, 68), (1, 0), (0, 69), (0, 70), (1, 0), (0, 71), (1, 0)]) := by decide +kernel
theorem of_63 : oF 63 RX9 := ⟨8, 14, TX9, tyX9, _, ck_8, sp_63⟩
theorem fc_63_0 : fC 63 0 48 RX9 "options" "LPhraseRoads$Options;" := ⟨8, 14, TX9, tyX9, _, ck_8, sp_63, by decide, rfl, rfl, rfl, rfl⟩
theorem fc_63_1 : fC 63 1 58 RX9 "knots" "LPhraseRoads$Knots;" := ⟨8, 14, TX9, tyX9, _, ck_8, sp_63, by decide, rfl, rfl, rfl, rfl⟩
theorem fc_63_2 : fC 63 2 64 RX9 "keys" "[J" := ⟨8, 14, TX9, tyX9, _, ck_8, sp_63, by decide, rfl, rfl, rfl, rfl⟩
theorem fc_63_3 : fC 63 3 65 RX9 "ends" "[I" := ⟨8, 14, TX9, tyX9, _, ck_8, sp_63, by decide, rfl, rfl, rfl, rfl⟩
theorem fc_63_4 : fC 63 4 66 RX9 "spent" "[I" := ⟨8, 14, TX9, tyX9, _, ck_8, sp_63, by decide, rfl, rfl, rfl, rfl⟩
theorem fc_63_5 : fC 63 5 67 RX9 "depths" "[I" := ⟨8, 14, TX9, tyX9, _, ck_8, sp_63, by decide, rfl, rfl, rfl, rfl⟩
theorem fi_63_6 : fI 63 6 RX9 "waiting" "I" := ⟨8, 14, TX9, tyX9, _, ck_8, sp_63, by decide, rfl, rfl, rfl, rfl, rfl, Or.inl rfl⟩
theorem fc_63_7 : fC 63 7 68 RX9 "ready" "[J" := ⟨8, 14, TX9, tyX9, _, ck_8, sp_63, by decide, rfl, rfl, rfl, rfl⟩
theorem fi_63_8 : fI 63 8 RX9 "many" "I" := ⟨8, 14, TX9, tyX9, _, ck_8, sp_63, by decide, rfl, rfl, rfl, rfl, rfl, Or.inl rfl⟩
theorem fc_63_9 : fC 63 9 69 RX9 "steps" "[I" := ⟨8, 14, TX9, tyX9, _, ck_8, sp_63, by decide, rfl, rfl, rfl, rfl⟩
theorem fc_63_10 : fC 63 10 70 RX9 "stepCosts" "[I" := ⟨8, 14, TX9, tyX9, _, ck_8, sp_63, by decide, rfl, rfl, rfl, rfl⟩
theorem fi_63_11 : fI 63 11 RX9 "size" "I" := ⟨8, 14, TX9, tyX9, _, ck_8, sp_63, by decide, rfl, rfl, rfl, rfl, rfl, Or.inl rfl⟩
theorem fc_63_12 : fC 63 12 71 RX9 "text" "[I" := ⟨8, 14, TX9, tyX9, _, ck_8, sp_63, by decide, rfl, rfl, rfl, rfl⟩
theorem fi_63_13 : fI 63 13 RX9 "textSize" "I" := ⟨8, 14, TX9, tyX9, _, ck_8, sp_63, by decide, rfl, rfl, rfl, rfl, rfl, Or.inl rfl⟩
theorem aL_64 : aL 64 30 := ⟨by decide +kernel, by decide⟩
theorem aI_65 : aI 65 30 := ⟨by decide +kernel, by decide⟩
theorem aI_66 : aI 66 30 := ⟨by decide +kernel, by decide⟩
theorem aI_67 : aI 67 30 := ⟨by decide +kernel, by decide⟩
theorem aL_68 : aL 68 30 := ⟨by decide +kernel, by decide⟩
theorem aI_69 : aI 69 6 := ⟨by decide +kernel, by decide⟩
theorem aI_70 : aI 70 6 := ⟨by decide +kernel, by decide⟩
theorem aI_71 : aI 71 18 := ⟨by decide +kernel, by decide⟩
theorem sp_72 : shp 72 = (4, 7, [(0, 48), (0, 73), (0, 74)]) := by decide +kernel
theorem of_72 : oF 72 RX8 := ⟨7, 3, TX8, tyX8, _, ck_7, sp_72⟩
theorem fc_72_0 : fC 72 0 48 RX8 "options" "LPhraseRoads$Options;" := ⟨7, 3, TX8, tyX8, _, ck_7, sp_72, by decide, rfl, rfl, rfl, rfl⟩
theorem fc_72_1 : fC 72 1 73 RX8 "costs" "[I" := ⟨7, 3, TX8, tyX8, _, ck_7, sp_72, by decide, rfl, rfl, rfl, rfl⟩
theorem fc_72_2 : fC 72 2 74 RX8 "aheads" "[I" := ⟨7, 3, TX8, tyX8, _, ck_7, sp_72, by decide, rfl, rfl, rfl, rfl⟩
theorem aI_73 : aI 73 36 := ⟨by decide +kernel, by decide⟩
theorem aI_74 : aI 74 64 := ⟨by decide +kernel, by decide⟩
theorem sp_75 : shp 75 = (4, 6, [(0, 48), (0, 58), (0, 72), (0, 76), (0, 77), (0, 78), (0, 79), (0, 80), (0, 81), (0, 82), (0, 83), (1, 0), (1, 0), (1, 0), (1, 0), (1, 0), (0, 84), (1, 0)]) := by decide +kernel
theorem of_75 : oF 75 RX7 := ⟨6, 18, TX7, tyX7, _, ck_6, sp_75⟩
theorem fc_75_0 : fC 75 0 48 RX7 "options" "LPhraseRoads$Options;" := ⟨6, 18, TX7, tyX7, _, ck_6, sp_75, by decide, rfl, rfl, rfl, rfl⟩
theorem fc_75_1 : fC 75 1 58 RX7 "knots" "LPhraseRoads$Knots;" := ⟨6, 18, TX7, tyX7, _, ck_6, sp_75, by decide, rfl, rfl, rfl, rfl⟩
theorem fc_75_2 : fC 75 2 72 RX7 "stretches" "LPhraseRoads$Stretches;" := ⟨6, 18, TX7, tyX7, _, ck_6, sp_75, by decide, rfl, rfl, rfl, rfl⟩
theorem fc_75_3 : fC 75 3 76 RX7 "costs" "[I" := ⟨6, 18, TX7, tyX7, _, ck_6, sp_75, by decide, rfl, rfl, rfl, rfl⟩
theorem fc_75_4 : fC 75 4 77 RX7 "times" "[I" := ⟨6, 18, TX7, tyX7, _, ck_6, sp_75, by decide, rfl, rfl, rfl, rfl⟩
theorem fc_75_5 : fC 75 5 78 RX7 "parents" "[I" := ⟨6, 18, TX7, tyX7, _, ck_6, sp_75, by decide, rfl, rfl, rfl, rfl⟩
theorem fc_75_6 : fC 75 6 79 RX7 "steps" "[I" := ⟨6, 18, TX7, tyX7, _, ck_6, sp_75, by decide, rfl, rfl, rfl, rfl⟩
theorem fc_75_7 : fC 75 7 80 RX7 "counts" "[I" := ⟨6, 18, TX7, tyX7, _, ck_6, sp_75, by decide, rfl, rfl, rfl, rfl⟩
theorem fc_75_8 : fC 75 8 81 RX7 "leasts" "[I" := ⟨6, 18, TX7, tyX7, _, ck_6, sp_75, by decide, rfl, rfl, rfl, rfl⟩
theorem fc_75_9 : fC 75 9 82 RX7 "ranks" "[J" := ⟨6, 18, TX7, tyX7, _, ck_6, sp_75, by decide, rfl, rfl, rfl, rfl⟩
theorem fc_75_10 : fC 75 10 83 RX7 "stayers" "[I" := ⟨6, 18, TX7, tyX7, _, ck_6, sp_75, by decide, rfl, rfl, rfl, rfl⟩
theorem fi_75_11 : fI 75 11 RX7 "staying" "I" := ⟨6, 18, TX7, tyX7, _, ck_6, sp_75, by decide, rfl, rfl, rfl, rfl, rfl, Or.inl rfl⟩
theorem fi_75_12 : fI 75 12 RX7 "made" "I" := ⟨6, 18, TX7, tyX7, _, ck_6, sp_75, by decide, rfl, rfl, rfl, rfl, rfl, Or.inl rfl⟩
theorem fi_75_13 : fI 75 13 RX7 "merged" "I" := ⟨6, 18, TX7, tyX7, _, ck_6, sp_75, by decide, rfl, rfl, rfl, rfl, rfl, Or.inl rfl⟩
theorem fi_75_14 : fI 75 14 RX7 "cut" "I" := ⟨6, 18, TX7, tyX7, _, ck_6, sp_75, by decide, rfl, rfl, rfl, rfl, rfl, Or.inl rfl⟩
theorem fi_75_15 : fI 75 15 RX7 "foundCost" "I" := ⟨6, 18, TX7, tyX7, _, ck_6, sp_75, by decide, rfl, rfl, rfl, rfl, rfl, Or.inl rfl⟩
theorem fc_75_16 : fC 75 16 84 RX7 "path" "[I" := ⟨6, 18, TX7, tyX7, _, ck_6, sp_75, by decide, rfl, rfl, rfl, rfl⟩
theorem fi_75_17 : fI 75 17 RX7 "pathSize" "I" := ⟨6, 18, TX7, tyX7, _, ck_6, sp_75, by decide, rfl, rfl, rfl, rfl, rfl, Or.inl rfl⟩
theorem aI_76 : aI 76 7913 := ⟨by decide +kernel, by decide⟩
theorem aI_77 : aI 77 7913 := ⟨by decide +kernel, by decide⟩
theorem aI_78 : aI 78 7913 := ⟨by decide +kernel, by decide⟩
theorem aI_79 : aI 79 7913 := ⟨by decide +kernel, by decide⟩
theorem aI_80 : aI 80 7 := ⟨by decide +kernel, by decide⟩
theorem aI_81 : aI 81 7 := ⟨by decide +kernel, by decide⟩
theorem aL_82 : aL 82 40 := ⟨by decide +kernel, by decide⟩
theorem aI_83 : aI 83 40 := ⟨by decide +kernel, by decide⟩
theorem aI_84 : aI 84 6 := ⟨by decide +kernel, by decide⟩
theorem sp_85 : shp 85 = (4, 0, [(0, 48), (0, 86), (0, 87)]) := by decide +kernel
theorem of_85 : oF 85 RX0 := ⟨0, 3, TX0, tyX0, _, ck_0, sp_85⟩
theorem fc_85_0 : fC 85 0 48 RX0 "options" "LPhraseRoads$Options;" := ⟨0, 3, TX0, tyX0, _, ck_0, sp_85, by decide, rfl, rfl, rfl, rfl⟩
theorem fc_85_1 : fC 85 1 86 RX0 "counts" "[I" := ⟨0, 3, TX0, tyX0, _, ck_0, sp_85, by decide, rfl, rfl, rfl, rfl⟩
theorem fc_85_2 : fC 85 2 87 RX0 "costs" "[I" := ⟨0, 3, TX0, tyX0, _, ck_0, sp_85, by decide, rfl, rfl, rfl, rfl⟩
theorem aI_86 : aI 86 448 := ⟨by decide +kernel, by decide⟩
theorem aI_87 : aI 87 8512 := ⟨by decide +kernel, by decide⟩
theorem sp_88 : shp 88 = (4, 3, [(0, 89), (0, 90), (0, 101), (1, 0)]) := by decide +kernel
theorem of_88 : oF 88 RX4 := ⟨3, 4, TX4, tyX4, _, ck_3, sp_88⟩
theorem fc_88_0 : fC 88 0 89 RX4 "fewest" "[I" := ⟨3, 4, TX4, tyX4, _, ck_3, sp_88, by decide, rfl, rfl, rfl, rfl⟩
theorem fc_88_1 : fC 88 1 90 RX4 "texts" "[[I" := ⟨3, 4, TX4, tyX4, _, ck_3, sp_88, by decide, rfl, rfl, rfl, rfl⟩
theorem fc_88_2 : fC 88 2 101 RX4 "textSizes" "[I" := ⟨3, 4, TX4, tyX4, _, ck_3, sp_88, by decide, rfl, rfl, rfl, rfl⟩
theorem fi_88_3 : fI 88 3 RX4 "many" "I" := ⟨3, 4, TX4, tyX4, _, ck_3, sp_88, by decide, rfl, rfl, rfl, rfl, rfl, Or.inl rfl⟩
theorem aI_89 : aI 89 19 := ⟨by decide +kernel, by decide⟩
theorem aA_90 : aA 90 10 := ⟨by decide +kernel, by decide⟩
theorem aI_91 : aI 91 18 := ⟨by decide +kernel, by decide⟩
theorem aI_92 : aI 92 18 := ⟨by decide +kernel, by decide⟩
theorem aI_93 : aI 93 18 := ⟨by decide +kernel, by decide⟩
theorem aI_94 : aI 94 18 := ⟨by decide +kernel, by decide⟩
theorem aI_95 : aI 95 18 := ⟨by decide +kernel, by decide⟩
theorem aI_96 : aI 96 18 := ⟨by decide +kernel, by decide⟩
theorem aI_97 : aI 97 18 := ⟨by decide +kernel, by decide⟩
theorem aI_98 : aI 98 18 := ⟨by decide +kernel, by decide⟩
theorem aI_99 : aI 99 18 := ⟨by decide +kernel, by decide⟩
theorem aI_100 : aI 100 18 := ⟨by decide +kernel, by decide⟩
theorem aI_101 : aI 101 10 := ⟨by decide +kernel, by decide⟩
theorem sp_102 : shp 102 = (4, 10, [(1, 0), (0, 103), (0, 104), (0, 105), (1, 0), (0, 106), (1, 0), (1, 0), (1, 0), (1, 0), (0, 107), (0, 108), (1, 0), (0, 109), (1, 0), (1, 0), (0, 110), (0, 111), (1, 0), (0, 112), (1, 0), (0, 113), (1, 0), (1, 0), (0, 114), (0, 115), (1, 0), (1, 0), (1, 0), (1, 0), (1, 0), (0, 116), (1, 0), (0, 117), (0, 118), (0, 119), (0, 120), (0, 121), (0, 122), (0, 123), (0, 124), (0, 125), (0, 126), (1, 0), (1, 0), (1, 0), (1, 0), (1, 0), (0, 127), (0, 128), (0, 129), (0, 130)]) := by decide +kernel
theorem of_102 : oF 102 RX11 := ⟨10, 52, TX11, tyX11, _, ck_10, sp_102⟩
theorem fi_102_0 : fI 102 0 RX11 "thrown" "I" := ⟨10, 52, TX11, tyX11, _, ck_10, sp_102, by decide, rfl, rfl, rfl, rfl, rfl, Or.inl rfl⟩
theorem fc_102_1 : fC 102 1 103 RX11 "m" "[I" := ⟨10, 52, TX11, tyX11, _, ck_10, sp_102, by decide, rfl, rfl, rfl, rfl⟩
theorem fc_102_2 : fC 102 2 104 RX11 "aside" "[I" := ⟨10, 52, TX11, tyX11, _, ck_10, sp_102, by decide, rfl, rfl, rfl, rfl⟩
theorem fc_102_3 : fC 102 3 105 RX11 "kept" "[I" := ⟨10, 52, TX11, tyX11, _, ck_10, sp_102, by decide, rfl, rfl, rfl, rfl⟩
theorem fi_102_4 : fI 102 4 RX11 "hasImage" "Z" := ⟨10, 52, TX11, tyX11, _, ck_10, sp_102, by decide, rfl, rfl, rfl, rfl, rfl, Or.inr rfl⟩
theorem fc_102_5 : fC 102 5 106 RX11 "tape" "[I" := ⟨10, 52, TX11, tyX11, _, ck_10, sp_102, by decide, rfl, rfl, rfl, rfl⟩
theorem fi_102_6 : fI 102 6 RX11 "taped" "I" := ⟨10, 52, TX11, tyX11, _, ck_10, sp_102, by decide, rfl, rfl, rfl, rfl, rfl, Or.inl rfl⟩
theorem fi_102_7 : fI 102 7 RX11 "end" "I" := ⟨10, 52, TX11, tyX11, _, ck_10, sp_102, by decide, rfl, rfl, rfl, rfl, rfl, Or.inl rfl⟩
theorem fi_102_8 : fI 102 8 RX11 "at" "I" := ⟨10, 52, TX11, tyX11, _, ck_10, sp_102, by decide, rfl, rfl, rfl, rfl, rfl, Or.inl rfl⟩
theorem fi_102_9 : fI 102 9 RX11 "fault" "I" := ⟨10, 52, TX11, tyX11, _, ck_10, sp_102, by decide, rfl, rfl, rfl, rfl, rfl, Or.inl rfl⟩
theorem fc_102_10 : fC 102 10 107 RX11 "rows" "[I" := ⟨10, 52, TX11, tyX11, _, ck_10, sp_102, by decide, rfl, rfl, rfl, rfl⟩
theorem fc_102_11 : fC 102 11 108 RX11 "begun" "[I" := ⟨10, 52, TX11, tyX11, _, ck_10, sp_102, by decide, rfl, rfl, rfl, rfl⟩
theorem fi_102_12 : fI 102 12 RX11 "rowMany" "I" := ⟨10, 52, TX11, tyX11, _, ck_10, sp_102, by decide, rfl, rfl, rfl, rfl, rfl, Or.inl rfl⟩
theorem fc_102_13 : fC 102 13 109 RX11 "told" "[I" := ⟨10, 52, TX11, tyX11, _, ck_10, sp_102, by decide, rfl, rfl, rfl, rfl⟩
theorem fi_102_14 : fI 102 14 RX11 "toldMany" "I" := ⟨10, 52, TX11, tyX11, _, ck_10, sp_102, by decide, rfl, rfl, rfl, rfl, rfl, Or.inl rfl⟩
theorem fi_102_15 : fI 102 15 RX11 "left" "I" := ⟨10, 52, TX11, tyX11, _, ck_10, sp_102, by decide, rfl, rfl, rfl, rfl, rfl, Or.inl rfl⟩
theorem fc_102_16 : fC 102 16 110 RX11 "linkA" "[I" := ⟨10, 52, TX11, tyX11, _, ck_10, sp_102, by decide, rfl, rfl, rfl, rfl⟩
theorem fc_102_17 : fC 102 17 111 RX11 "linkB" "[I" := ⟨10, 52, TX11, tyX11, _, ck_10, sp_102, by decide, rfl, rfl, rfl, rfl⟩
theorem fi_102_18 : fI 102 18 RX11 "linkMany" "I" := ⟨10, 52, TX11, tyX11, _, ck_10, sp_102, by decide, rfl, rfl, rfl, rfl, rfl, Or.inl rfl⟩
theorem fc_102_19 : fC 102 19 112 RX11 "least" "[I" := ⟨10, 52, TX11, tyX11, _, ck_10, sp_102, by decide, rfl, rfl, rfl, rfl⟩
theorem fi_102_20 : fI 102 20 RX11 "isLaid" "Z" := ⟨10, 52, TX11, tyX11, _, ck_10, sp_102, by decide, rfl, rfl, rfl, rfl, rfl, Or.inr rfl⟩
theorem fc_102_21 : fC 102 21 113 RX11 "ways" "[J" := ⟨10, 52, TX11, tyX11, _, ck_10, sp_102, by decide, rfl, rfl, rfl, rfl⟩
theorem fi_102_22 : fI 102 22 RX11 "stepCost" "I" := ⟨10, 52, TX11, tyX11, _, ck_10, sp_102, by decide, rfl, rfl, rfl, rfl, rfl, Or.inl rfl⟩
theorem fi_102_23 : fI 102 23 RX11 "stepLast" "I" := ⟨10, 52, TX11, tyX11, _, ck_10, sp_102, by decide, rfl, rfl, rfl, rfl, rfl, Or.inl rfl⟩
theorem fc_102_24 : fC 102 24 114 RX11 "starts" "[I" := ⟨10, 52, TX11, tyX11, _, ck_10, sp_102, by decide, rfl, rfl, rfl, rfl⟩
theorem fc_102_25 : fC 102 25 115 RX11 "options" "[I" := ⟨10, 52, TX11, tyX11, _, ck_10, sp_102, by decide, rfl, rfl, rfl, rfl⟩
theorem fi_102_26 : fI 102 26 RX11 "steps" "I" := ⟨10, 52, TX11, tyX11, _, ck_10, sp_102, by decide, rfl, rfl, rfl, rfl, rfl, Or.inl rfl⟩
theorem fi_102_27 : fI 102 27 RX11 "wayCost" "I" := ⟨10, 52, TX11, tyX11, _, ck_10, sp_102, by decide, rfl, rfl, rfl, rfl, rfl, Or.inl rfl⟩
theorem fi_102_28 : fI 102 28 RX11 "bound" "I" := ⟨10, 52, TX11, tyX11, _, ck_10, sp_102, by decide, rfl, rfl, rfl, rfl, rfl, Or.inl rfl⟩
theorem fi_102_29 : fI 102 29 RX11 "beyond" "I" := ⟨10, 52, TX11, tyX11, _, ck_10, sp_102, by decide, rfl, rfl, rfl, rfl, rfl, Or.inl rfl⟩
theorem fi_102_30 : fI 102 30 RX11 "need" "I" := ⟨10, 52, TX11, tyX11, _, ck_10, sp_102, by decide, rfl, rfl, rfl, rfl, rfl, Or.inl rfl⟩
theorem fc_102_31 : fC 102 31 116 RX11 "text" "[I" := ⟨10, 52, TX11, tyX11, _, ck_10, sp_102, by decide, rfl, rfl, rfl, rfl⟩
theorem fi_102_32 : fI 102 32 RX11 "textMany" "I" := ⟨10, 52, TX11, tyX11, _, ck_10, sp_102, by decide, rfl, rfl, rfl, rfl, rfl, Or.inl rfl⟩
theorem fc_102_33 : fC 102 33 117 RX11 "stretches" "[I" := ⟨10, 52, TX11, tyX11, _, ck_10, sp_102, by decide, rfl, rfl, rfl, rfl⟩
theorem fc_102_34 : fC 102 34 118 RX11 "lies" "[Z" := ⟨10, 52, TX11, tyX11, _, ck_10, sp_102, by decide, rfl, rfl, rfl, rfl⟩
theorem fc_102_35 : fC 102 35 119 RX11 "isTaken" "[Z" := ⟨10, 52, TX11, tyX11, _, ck_10, sp_102, by decide, rfl, rfl, rfl, rfl⟩
theorem fc_102_36 : fC 102 36 120 RX11 "costs" "[I" := ⟨10, 52, TX11, tyX11, _, ck_10, sp_102, by decide, rfl, rfl, rfl, rfl⟩
theorem fc_102_37 : fC 102 37 121 RX11 "made" "[I" := ⟨10, 52, TX11, tyX11, _, ck_10, sp_102, by decide, rfl, rfl, rfl, rfl⟩
theorem fc_102_38 : fC 102 38 122 RX11 "from" "[I" := ⟨10, 52, TX11, tyX11, _, ck_10, sp_102, by decide, rfl, rfl, rfl, rfl⟩
theorem fc_102_39 : fC 102 39 123 RX11 "byStart" "[I" := ⟨10, 52, TX11, tyX11, _, ck_10, sp_102, by decide, rfl, rfl, rfl, rfl⟩
theorem fc_102_40 : fC 102 40 124 RX11 "byOption" "[I" := ⟨10, 52, TX11, tyX11, _, ck_10, sp_102, by decide, rfl, rfl, rfl, rfl⟩
theorem fc_102_41 : fC 102 41 125 RX11 "lay" "[I" := ⟨10, 52, TX11, tyX11, _, ck_10, sp_102, by decide, rfl, rfl, rfl, rfl⟩
theorem fc_102_42 : fC 102 42 126 RX11 "low" "[I" := ⟨10, 52, TX11, tyX11, _, ck_10, sp_102, by decide, rfl, rfl, rfl, rfl⟩
theorem fi_102_43 : fI 102 43 RX11 "madeMany" "I" := ⟨10, 52, TX11, tyX11, _, ck_10, sp_102, by decide, rfl, rfl, rfl, rfl, rfl, Or.inl rfl⟩
theorem fi_102_44 : fI 102 44 RX11 "mergedMany" "I" := ⟨10, 52, TX11, tyX11, _, ck_10, sp_102, by decide, rfl, rfl, rfl, rfl, rfl, Or.inl rfl⟩
theorem fi_102_45 : fI 102 45 RX11 "cutMany" "I" := ⟨10, 52, TX11, tyX11, _, ck_10, sp_102, by decide, rfl, rfl, rfl, rfl, rfl, Or.inl rfl⟩
theorem fi_102_46 : fI 102 46 RX11 "foundKey" "I" := ⟨10, 52, TX11, tyX11, _, ck_10, sp_102, by decide, rfl, rfl, rfl, rfl, rfl, Or.inl rfl⟩
theorem fi_102_47 : fI 102 47 RX11 "foundCost" "I" := ⟨10, 52, TX11, tyX11, _, ck_10, sp_102, by decide, rfl, rfl, rfl, rfl, rfl, Or.inl rfl⟩
theorem fc_102_48 : fC 102 48 127 RX11 "forcedBy" "[I" := ⟨10, 52, TX11, tyX11, _, ck_10, sp_102, by decide, rfl, rfl, rfl, rfl⟩
theorem fc_102_49 : fC 102 49 128 RX11 "edits" "[I" := ⟨10, 52, TX11, tyX11, _, ck_10, sp_102, by decide, rfl, rfl, rfl, rfl⟩
theorem fc_102_50 : fC 102 50 129 RX11 "texts" "[I" := ⟨10, 52, TX11, tyX11, _, ck_10, sp_102, by decide, rfl, rfl, rfl, rfl⟩
theorem fc_102_51 : fC 102 51 130 RX11 "textLong" "[I" := ⟨10, 52, TX11, tyX11, _, ck_10, sp_102, by decide, rfl, rfl, rfl, rfl⟩
theorem aI_103 : aI 103 855 := ⟨by decide +kernel, by decide⟩
theorem aI_104 : aI 104 855 := ⟨by decide +kernel, by decide⟩
theorem aI_105 : aI 105 855 := ⟨by decide +kernel, by decide⟩
theorem aI_106 : aI 106 400 := ⟨by decide +kernel, by decide⟩
theorem aI_107 : aI 107 120 := ⟨by decide +kernel, by decide⟩
theorem aI_108 : aI 108 12 := ⟨by decide +kernel, by decide⟩
theorem aI_109 : aI 109 18 := ⟨by decide +kernel, by decide⟩
theorem aI_110 : aI 110 12 := ⟨by decide +kernel, by decide⟩
theorem aI_111 : aI 111 12 := ⟨by decide +kernel, by decide⟩
theorem aI_112 : aI 112 18816 := ⟨by decide +kernel, by decide⟩
theorem aL_113 : aL 113 448 := ⟨by decide +kernel, by decide⟩
theorem aI_114 : aI 114 6 := ⟨by decide +kernel, by decide⟩
theorem aI_115 : aI 115 6 := ⟨by decide +kernel, by decide⟩
theorem aI_116 : aI 116 18 := ⟨by decide +kernel, by decide⟩
theorem aI_117 : aI 117 36 := ⟨by decide +kernel, by decide⟩
theorem aZ_118 : aZ 118 18816 := ⟨by decide +kernel, by decide⟩
theorem aZ_119 : aZ 119 18816 := ⟨by decide +kernel, by decide⟩
theorem aI_120 : aI 120 18816 := ⟨by decide +kernel, by decide⟩
theorem aI_121 : aI 121 18816 := ⟨by decide +kernel, by decide⟩
theorem aI_122 : aI 122 18816 := ⟨by decide +kernel, by decide⟩
theorem aI_123 : aI 123 18816 := ⟨by decide +kernel, by decide⟩
theorem aI_124 : aI 124 18816 := ⟨by decide +kernel, by decide⟩
theorem aI_125 : aI 125 7 := ⟨by decide +kernel, by decide⟩
theorem aI_126 : aI 126 7 := ⟨by decide +kernel, by decide⟩
theorem aI_127 : aI 127 8512 := ⟨by decide +kernel, by decide⟩
theorem aI_128 : aI 128 361 := ⟨by decide +kernel, by decide⟩
theorem aI_129 : aI 129 180 := ⟨by decide +kernel, by decide⟩
theorem aI_130 : aI 130 10 := ⟨by decide +kernel, by decide⟩
theorem aL_131 : aL 131 1 := ⟨by decide +kernel, by decide⟩
theorem ofK {k : Nat} (h : isK k) : oF k RX2 := by rcases h with rfl | rfl | rfl; exacts [of_1, of_13, of_25]
theorem fcK_0 {k : Nat} (h : isK k) : fC k 0 (k + 1) RX2 "letters" "[I" := by rcases h with rfl | rfl | rfl; exacts [fc_1_0, fc_13_0, fc_25_0]
theorem aIK_1 {k : Nat} (h : isK k) : aI (k + 1) 320 := by rcases h with rfl | rfl | rfl; exacts [aI_2, aI_14, aI_26]
theorem fcK_1 {k : Nat} (h : isK k) : fC k 1 (k + 2) RX2 "lengths" "[I" := by rcases h with rfl | rfl | rfl; exacts [fc_1_1, fc_13_1, fc_25_1]
theorem aIK_2 {k : Nat} (h : isK k) : aI (k + 2) 40 := by rcases h with rfl | rfl | rfl; exacts [aI_3, aI_15, aI_27]
theorem fiK_2 {k : Nat} (h : isK k) : fI k 2 RX2 "words" "I" := by rcases h with rfl | rfl | rfl; exacts [fi_1_2, fi_13_2, fi_25_2]
theorem fcK_3 {k : Nat} (h : isK k) : fC k 3 (k + 3) RX2 "sources" "[I" := by rcases h with rfl | rfl | rfl; exacts [fc_1_3, fc_13_3, fc_25_3]
theorem aIK_3 {k : Nat} (h : isK k) : aI (k + 3) 90 := by rcases h with rfl | rfl | rfl; exacts [aI_4, aI_16, aI_28]
theorem fcK_4 {k : Nat} (h : isK k) : fC k 4 (k + 4) RX2 "sourceSizes" "[I" := by rcases h with rfl | rfl | rfl; exacts [fc_1_4, fc_13_4, fc_25_4]
theorem aIK_4 {k : Nat} (h : isK k) : aI (k + 4) 30 := by rcases h with rfl | rfl | rfl; exacts [aI_5, aI_17, aI_29]
theorem fcK_5 {k : Nat} (h : isK k) : fC k 5 (k + 5) RX2 "targets" "[I" := by rcases h with rfl | rfl | rfl; exacts [fc_1_5, fc_13_5, fc_25_5]
theorem aIK_5 {k : Nat} (h : isK k) : aI (k + 5) 90 := by rcases h with rfl | rfl | rfl; exacts [aI_6, aI_18, aI_30]
theorem fcK_6 {k : Nat} (h : isK k) : fC k 6 (k + 6) RX2 "targetSizes" "[I" := by rcases h with rfl | rfl | rfl; exacts [fc_1_6, fc_13_6, fc_25_6]
theorem aIK_6 {k : Nat} (h : isK k) : aI (k + 6) 30 := by rcases h with rfl | rfl | rfl; exacts [aI_7, aI_19, aI_31]
theorem fcK_7 {k : Nat} (h : isK k) : fC k 7 (k + 7) RX2 "costs" "[I" := by rcases h with rfl | rfl | rfl; exacts [fc_1_7, fc_13_7, fc_25_7]
theorem aIK_7 {k : Nat} (h : isK k) : aI (k + 7) 30 := by rcases h with rfl | rfl | rfl; exacts [aI_8, aI_20, aI_32]
theorem fcK_8 {k : Nat} (h : isK k) : fC k 8 (k + 8) RX2 "gone" "[Z" := by rcases h with rfl | rfl | rfl; exacts [fc_1_8, fc_13_8, fc_25_8]
theorem aZK_8 {k : Nat} (h : isK k) : aZ (k + 8) 30 := by rcases h with rfl | rfl | rfl; exacts [aZ_9, aZ_21, aZ_33]
theorem fiK_9 {k : Nat} (h : isK k) : fI k 9 RX2 "phrases" "I" := by rcases h with rfl | rfl | rfl; exacts [fi_1_9, fi_13_9, fi_25_9]
theorem fcK_10 {k : Nat} (h : isK k) : fC k 10 (k + 9) RX2 "flows" "[I" := by rcases h with rfl | rfl | rfl; exacts [fc_1_10, fc_13_10, fc_25_10]
theorem aIK_9 {k : Nat} (h : isK k) : aI (k + 9) 1681 := by rcases h with rfl | rfl | rfl; exacts [aI_10, aI_22, aI_34]
theorem fiK_11 {k : Nat} (h : isK k) : fI k 11 RX2 "pairs" "I" := by rcases h with rfl | rfl | rfl; exacts [fi_1_11, fi_13_11, fi_25_11]
theorem fcK_12 {k : Nat} (h : isK k) : fC k 12 (k + 10) RX2 "places" "[I" := by rcases h with rfl | rfl | rfl; exacts [fc_1_12, fc_13_12, fc_25_12]
theorem aIK_10 {k : Nat} (h : isK k) : aI (k + 10) 6 := by rcases h with rfl | rfl | rfl; exacts [aI_11, aI_23, aI_35]
theorem fiK_13 {k : Nat} (h : isK k) : fI k 13 RX2 "size" "I" := by rcases h with rfl | rfl | rfl; exacts [fi_1_13, fi_13_13, fi_25_13]
theorem fcK_14 {k : Nat} (h : isK k) : fC k 14 (k + 11) RX2 "settings" "[I" := by rcases h with rfl | rfl | rfl; exacts [fc_1_14, fc_13_14, fc_25_14]
theorem aIK_11 {k : Nat} (h : isK k) : aI (k + 11) 5 := by rcases h with rfl | rfl | rfl; exacts [aI_12, aI_24, aI_36]
theorem wd_0 : Cond.selects "PhraseRoads$Reader" ({ cls := "PhraseRoads$Reader", name := "append", desc := "(I)V" } : Jvm.MethodName) ({ cls := "PhraseRoads$Reader", name := "append", desc := "(I)V" } : Jvm.MethodName) ∈ lw_tbl := List.mem_of_getElem? (i := 0) (by decide +kernel)
theorem wd_1 : Cond.selects "PhraseRoads" ({ cls := "PhraseRoads", name := "prepareOptions", desc := "()V" } : Jvm.MethodName) ({ cls := "PhraseRoads", name := "prepareOptions", desc := "()V" } : Jvm.MethodName) ∈ lw_tbl := List.mem_of_getElem? (i := 1) (by decide +kernel)
theorem wd_2 : Cond.selects "PhraseRoads$Options" ({ cls := "PhraseRoads$Options", name := "gather", desc := "(LPhraseRoads$Knowledge;)V" } : Jvm.MethodName) ({ cls := "PhraseRoads$Options", name := "gather", desc := "(LPhraseRoads$Knowledge;)V" } : Jvm.MethodName) ∈ lw_tbl := List.mem_of_getElem? (i := 2) (by decide +kernel)
theorem wd_3 : Cond.selects "PhraseRoads$Knowledge" ({ cls := "PhraseRoads$Knowledge", name := "isOption", desc := "(II)Z" } : Jvm.MethodName) ({ cls := "PhraseRoads$Knowledge", name := "isOption", desc := "(II)Z" } : Jvm.MethodName) ∈ lw_tbl := List.mem_of_getElem? (i := 3) (by decide +kernel)
theorem wd_4 : Cond.selects "PhraseRoads$Options" ({ cls := "PhraseRoads$Options", name := "add", desc := "(IIII)V" } : Jvm.MethodName) ({ cls := "PhraseRoads$Options", name := "add", desc := "(IIII)V" } : Jvm.MethodName) ∈ lw_tbl := List.mem_of_getElem? (i := 4) (by decide +kernel)
theorem wd_5 : Cond.selects "PhraseRoads$Options" ({ cls := "PhraseRoads$Options", name := "bring", desc := "([III)V" } : Jvm.MethodName) ({ cls := "PhraseRoads$Options", name := "bring", desc := "([III)V" } : Jvm.MethodName) ∈ lw_tbl := List.mem_of_getElem? (i := 5) (by decide +kernel)
theorem wd_6 : Cond.selects "PhraseRoads$Knowledge" ({ cls := "PhraseRoads$Knowledge", name := "flow", desc := "(II)I" } : Jvm.MethodName) ({ cls := "PhraseRoads$Knowledge", name := "flow", desc := "(II)I" } : Jvm.MethodName) ∈ lw_tbl := List.mem_of_getElem? (i := 6) (by decide +kernel)
theorem wd_7 : Cond.selects "PhraseRoads$Knots" ({ cls := "PhraseRoads$Knots", name := "explore", desc := "()V" } : Jvm.MethodName) ({ cls := "PhraseRoads$Knots", name := "explore", desc := "()V" } : Jvm.MethodName) ∈ lw_tbl := List.mem_of_getElem? (i := 7) (by decide +kernel)
theorem wd_8 : Cond.selects "PhraseRoads$Options" ({ cls := "PhraseRoads$Options", name := "full", desc := "()I" } : Jvm.MethodName) ({ cls := "PhraseRoads$Options", name := "full", desc := "()I" } : Jvm.MethodName) ∈ lw_tbl := List.mem_of_getElem? (i := 8) (by decide +kernel)
theorem wd_9 : Cond.selects "PhraseRoads$Knots" ({ cls := "PhraseRoads$Knots", name := "exploreMask", desc := "(I)V" } : Jvm.MethodName) ({ cls := "PhraseRoads$Knots", name := "exploreMask", desc := "(I)V" } : Jvm.MethodName) ∈ lw_tbl := List.mem_of_getElem? (i := 9) (by decide +kernel)
theorem wd_10 : Cond.selects "PhraseRoads$Knots" ({ cls := "PhraseRoads$Knots", name := "meetFrom", desc := "(II)V" } : Jvm.MethodName) ({ cls := "PhraseRoads$Knots", name := "meetFrom", desc := "(II)V" } : Jvm.MethodName) ∈ lw_tbl := List.mem_of_getElem? (i := 10) (by decide +kernel)
theorem wd_11 : Cond.selects "PhraseRoads$Knots" ({ cls := "PhraseRoads$Knots", name := "codeBehind", desc := "(III)I" } : Jvm.MethodName) ({ cls := "PhraseRoads$Knots", name := "codeBehind", desc := "(III)I" } : Jvm.MethodName) ∈ lw_tbl := List.mem_of_getElem? (i := 11) (by decide +kernel)
theorem wd_12 : Cond.selects "PhraseRoads$Stretches" ({ cls := "PhraseRoads$Stretches", name := "reckon", desc := "()V" } : Jvm.MethodName) ({ cls := "PhraseRoads$Stretches", name := "reckon", desc := "()V" } : Jvm.MethodName) ∈ lw_tbl := List.mem_of_getElem? (i := 12) (by decide +kernel)
theorem wd_13 : Cond.selects "PhraseRoads$Stretches" ({ cls := "PhraseRoads$Stretches", name := "join", desc := "(II)V" } : Jvm.MethodName) ({ cls := "PhraseRoads$Stretches", name := "join", desc := "(II)V" } : Jvm.MethodName) ∈ lw_tbl := List.mem_of_getElem? (i := 13) (by decide +kernel)
theorem wd_14 : Cond.selects "PhraseRoads$Stretches" ({ cls := "PhraseRoads$Stretches", name := "reckonAhead", desc := "(I)I" } : Jvm.MethodName) ({ cls := "PhraseRoads$Stretches", name := "reckonAhead", desc := "(I)I" } : Jvm.MethodName) ∈ lw_tbl := List.mem_of_getElem? (i := 14) (by decide +kernel)
theorem wd_15 : Cond.selects "PhraseRoads" ({ cls := "PhraseRoads", name := "prepareWays", desc := "()V" } : Jvm.MethodName) ({ cls := "PhraseRoads", name := "prepareWays", desc := "()V" } : Jvm.MethodName) ∈ lw_tbl := List.mem_of_getElem? (i := 15) (by decide +kernel)
theorem wd_16 : Cond.selects "PhraseRoads$Knots" ({ cls := "PhraseRoads$Knots", name := "reckon", desc := "(III)V" } : Jvm.MethodName) ({ cls := "PhraseRoads$Knots", name := "reckon", desc := "(III)V" } : Jvm.MethodName) ∈ lw_tbl := List.mem_of_getElem? (i := 16) (by decide +kernel)
theorem wd_17 : Cond.selects "PhraseRoads$Knots" ({ cls := "PhraseRoads$Knots", name := "last", desc := "(I)I" } : Jvm.MethodName) ({ cls := "PhraseRoads$Knots", name := "last", desc := "(I)I" } : Jvm.MethodName) ∈ lw_tbl := List.mem_of_getElem? (i := 17) (by decide +kernel)
theorem wd_18 : Cond.selects "PhraseRoads$Options" ({ cls := "PhraseRoads$Options", name := "ending", desc := "(I)I" } : Jvm.MethodName) ({ cls := "PhraseRoads$Options", name := "ending", desc := "(I)I" } : Jvm.MethodName) ∈ lw_tbl := List.mem_of_getElem? (i := 18) (by decide +kernel)
theorem wd_19 : Cond.selects "PhraseRoads$Knots" ({ cls := "PhraseRoads$Knots", name := "leastRest", desc := "(I)I" } : Jvm.MethodName) ({ cls := "PhraseRoads$Knots", name := "leastRest", desc := "(I)I" } : Jvm.MethodName) ∈ lw_tbl := List.mem_of_getElem? (i := 19) (by decide +kernel)
theorem wd_20 : Cond.selects "PhraseRoads$Knots" ({ cls := "PhraseRoads$Knots", name := "mask", desc := "(I)I" } : Jvm.MethodName) ({ cls := "PhraseRoads$Knots", name := "mask", desc := "(I)I" } : Jvm.MethodName) ∈ lw_tbl := List.mem_of_getElem? (i := 20) (by decide +kernel)
theorem wd_21 : Cond.selects "PhraseRoads$Knots" ({ cls := "PhraseRoads$Knots", name := "behind", desc := "(I)I" } : Jvm.MethodName) ({ cls := "PhraseRoads$Knots", name := "behind", desc := "(I)I" } : Jvm.MethodName) ∈ lw_tbl := List.mem_of_getElem? (i := 21) (by decide +kernel)
theorem wd_22 : Cond.selects "PhraseRoads$Options" ({ cls := "PhraseRoads$Options", name := "gap", desc := "(II)I" } : Jvm.MethodName) ({ cls := "PhraseRoads$Options", name := "gap", desc := "(II)I" } : Jvm.MethodName) ∈ lw_tbl := List.mem_of_getElem? (i := 22) (by decide +kernel)
theorem wd_23 : Cond.selects "PhraseRoads$Knots" ({ cls := "PhraseRoads$Knots", name := "follow", desc := "(III)I" } : Jvm.MethodName) ({ cls := "PhraseRoads$Knots", name := "follow", desc := "(III)I" } : Jvm.MethodName) ∈ lw_tbl := List.mem_of_getElem? (i := 23) (by decide +kernel)
theorem wd_24 : Cond.selects "PhraseRoads$Options" ({ cls := "PhraseRoads$Options", name := "standing", desc := "(II)I" } : Jvm.MethodName) ({ cls := "PhraseRoads$Options", name := "standing", desc := "(II)I" } : Jvm.MethodName) ∈ lw_tbl := List.mem_of_getElem? (i := 24) (by decide +kernel)
theorem wd_25 : Cond.selects "PhraseRoads$Ways" ({ cls := "PhraseRoads$Ways", name := "begin", desc := "()V" } : Jvm.MethodName) ({ cls := "PhraseRoads$Ways", name := "begin", desc := "()V" } : Jvm.MethodName) ∈ lw_tbl := List.mem_of_getElem? (i := 25) (by decide +kernel)
theorem wd_26 : Cond.selects "PhraseRoads$Knots" ({ cls := "PhraseRoads$Knots", name := "cheapest", desc := "()I" } : Jvm.MethodName) ({ cls := "PhraseRoads$Knots", name := "cheapest", desc := "()I" } : Jvm.MethodName) ∈ lw_tbl := List.mem_of_getElem? (i := 26) (by decide +kernel)
theorem wd_27 : Cond.selects "PhraseRoads$Ways" ({ cls := "PhraseRoads$Ways", name := "enqueue", desc := "(JIII)V" } : Jvm.MethodName) ({ cls := "PhraseRoads$Ways", name := "enqueue", desc := "(JIII)V" } : Jvm.MethodName) ∈ lw_tbl := List.mem_of_getElem? (i := 27) (by decide +kernel)
theorem wd_28 : Cond.selects "PhraseRoads$Counting" ({ cls := "PhraseRoads$Counting", name := "countWays", desc := "(I)I" } : Jvm.MethodName) ({ cls := "PhraseRoads$Counting", name := "countWays", desc := "(I)I" } : Jvm.MethodName) ∈ lw_tbl := List.mem_of_getElem? (i := 28) (by decide +kernel)
theorem wd_29 : Cond.selects "PhraseRoads$Counting" ({ cls := "PhraseRoads$Counting", name := "countFrom", desc := "(II)V" } : Jvm.MethodName) ({ cls := "PhraseRoads$Counting", name := "countFrom", desc := "(II)V" } : Jvm.MethodName) ∈ lw_tbl := List.mem_of_getElem? (i := 29) (by decide +kernel)
theorem wd_30 : Cond.selects "PhraseRoads" ({ cls := "PhraseRoads", name := "unfoldWay", desc := "(I)Z" } : Jvm.MethodName) ({ cls := "PhraseRoads", name := "unfoldWay", desc := "(I)Z" } : Jvm.MethodName) ∈ lw_tbl := List.mem_of_getElem? (i := 30) (by decide +kernel)
theorem wd_31 : Cond.selects "PhraseRoads$Ways" ({ cls := "PhraseRoads$Ways", name := "bring", desc := "(I)V" } : Jvm.MethodName) ({ cls := "PhraseRoads$Ways", name := "bring", desc := "(I)V" } : Jvm.MethodName) ∈ lw_tbl := List.mem_of_getElem? (i := 31) (by decide +kernel)
theorem wd_32 : Cond.selects "PhraseRoads$Ways" ({ cls := "PhraseRoads$Ways", name := "takeFirst", desc := "()V" } : Jvm.MethodName) ({ cls := "PhraseRoads$Ways", name := "takeFirst", desc := "()V" } : Jvm.MethodName) ∈ lw_tbl := List.mem_of_getElem? (i := 32) (by decide +kernel)
theorem wd_33 : Cond.selects "PhraseRoads$Ways" ({ cls := "PhraseRoads$Ways", name := "goOn", desc := "(JIII)V" } : Jvm.MethodName) ({ cls := "PhraseRoads$Ways", name := "goOn", desc := "(JIII)V" } : Jvm.MethodName) ∈ lw_tbl := List.mem_of_getElem? (i := 33) (by decide +kernel)
theorem wd_34 : Cond.selects "PhraseRoads$Ways" ({ cls := "PhraseRoads$Ways", name := "unfold", desc := "(I)Z" } : Jvm.MethodName) ({ cls := "PhraseRoads$Ways", name := "unfold", desc := "(I)Z" } : Jvm.MethodName) ∈ lw_tbl := List.mem_of_getElem? (i := 34) (by decide +kernel)
theorem wd_35 : Cond.selects "PhraseRoads" ({ cls := "PhraseRoads", name := "phrasesUnfolded", desc := "()I" } : Jvm.MethodName) ({ cls := "PhraseRoads", name := "phrasesUnfolded", desc := "()I" } : Jvm.MethodName) ∈ lw_tbl := List.mem_of_getElem? (i := 35) (by decide +kernel)
theorem wd_36 : Cond.selects "PhraseRoads" ({ cls := "PhraseRoads", name := "reckonOtherwise", desc := "(III)I" } : Jvm.MethodName) ({ cls := "PhraseRoads", name := "reckonOtherwise", desc := "(III)I" } : Jvm.MethodName) ∈ lw_tbl := List.mem_of_getElem? (i := 36) (by decide +kernel)
theorem wd_37 : Cond.selects "PhraseRoads$Options" ({ cls := "PhraseRoads$Options", name := "howOften", desc := "(I)I" } : Jvm.MethodName) ({ cls := "PhraseRoads$Options", name := "howOften", desc := "(I)I" } : Jvm.MethodName) ∈ lw_tbl := List.mem_of_getElem? (i := 37) (by decide +kernel)
theorem wd_38 : Cond.selects "PhraseRoads$Stacks" ({ cls := "PhraseRoads$Stacks", name := "fill", desc := "(III)V" } : Jvm.MethodName) ({ cls := "PhraseRoads$Stacks", name := "fill", desc := "(III)V" } : Jvm.MethodName) ∈ lw_tbl := List.mem_of_getElem? (i := 38) (by decide +kernel)
theorem wd_39 : Cond.selects "PhraseRoads$Stacks" ({ cls := "PhraseRoads$Stacks", name := "lay", desc := "(IIII)V" } : Jvm.MethodName) ({ cls := "PhraseRoads$Stacks", name := "lay", desc := "(IIII)V" } : Jvm.MethodName) ∈ lw_tbl := List.mem_of_getElem? (i := 39) (by decide +kernel)
theorem wd_40 : Cond.selects "PhraseRoads$Stacks" ({ cls := "PhraseRoads$Stacks", name := "score", desc := "(I)I" } : Jvm.MethodName) ({ cls := "PhraseRoads$Stacks", name := "score", desc := "(I)I" } : Jvm.MethodName) ∈ lw_tbl := List.mem_of_getElem? (i := 40) (by decide +kernel)
theorem wd_41 : Cond.selects "PhraseRoads$Stacks" ({ cls := "PhraseRoads$Stacks", name := "choose", desc := "(II)V" } : Jvm.MethodName) ({ cls := "PhraseRoads$Stacks", name := "choose", desc := "(II)V" } : Jvm.MethodName) ∈ lw_tbl := List.mem_of_getElem? (i := 41) (by decide +kernel)
theorem wd_42 : Cond.selects "PhraseRoads$Stacks" ({ cls := "PhraseRoads$Stacks", name := "offer", desc := "(II)V" } : Jvm.MethodName) ({ cls := "PhraseRoads$Stacks", name := "offer", desc := "(II)V" } : Jvm.MethodName) ∈ lw_tbl := List.mem_of_getElem? (i := 42) (by decide +kernel)
theorem wd_43 : Cond.selects "PhraseRoads$Stacks" ({ cls := "PhraseRoads$Stacks", name := "goOn", desc := "(III)V" } : Jvm.MethodName) ({ cls := "PhraseRoads$Stacks", name := "goOn", desc := "(III)V" } : Jvm.MethodName) ∈ lw_tbl := List.mem_of_getElem? (i := 43) (by decide +kernel)
theorem wd_44 : Cond.selects "PhraseRoads$Stacks" ({ cls := "PhraseRoads$Stacks", name := "find", desc := "()V" } : Jvm.MethodName) ({ cls := "PhraseRoads$Stacks", name := "find", desc := "()V" } : Jvm.MethodName) ∈ lw_tbl := List.mem_of_getElem? (i := 44) (by decide +kernel)
theorem wd_45 : Cond.selects "PhraseRoads$Stacks" ({ cls := "PhraseRoads$Stacks", name := "tracePath", desc := "(I)V" } : Jvm.MethodName) ({ cls := "PhraseRoads$Stacks", name := "tracePath", desc := "(I)V" } : Jvm.MethodName) ∈ lw_tbl := List.mem_of_getElem? (i := 45) (by decide +kernel)
theorem wd_46 : Cond.selects "PhraseRoads$Knowledge" ({ cls := "PhraseRoads$Knowledge", name := "copy", desc := "(LPhraseRoads$Knowledge;)V" } : Jvm.MethodName) ({ cls := "PhraseRoads$Knowledge", name := "copy", desc := "(LPhraseRoads$Knowledge;)V" } : Jvm.MethodName) ∈ lw_tbl := List.mem_of_getElem? (i := 46) (by decide +kernel)
theorem wd_47 : Cond.selects "PhraseRoads" ({ cls := "PhraseRoads", name := "forgetOptions", desc := "()V" } : Jvm.MethodName) ({ cls := "PhraseRoads", name := "forgetOptions", desc := "()V" } : Jvm.MethodName) ∈ lw_tbl := List.mem_of_getElem? (i := 47) (by decide +kernel)
theorem wd_48 : Cond.selects "PhraseRoads" ({ cls := "PhraseRoads", name := "forgetWays", desc := "()V" } : Jvm.MethodName) ({ cls := "PhraseRoads", name := "forgetWays", desc := "()V" } : Jvm.MethodName) ∈ lw_tbl := List.mem_of_getElem? (i := 48) (by decide +kernel)
theorem wd_49 : Cond.selects "PhraseRoads$Knowledge" ({ cls := "PhraseRoads$Knowledge", name := "livingPhrases", desc := "()I" } : Jvm.MethodName) ({ cls := "PhraseRoads$Knowledge", name := "livingPhrases", desc := "()I" } : Jvm.MethodName) ∈ lw_tbl := List.mem_of_getElem? (i := 49) (by decide +kernel)
theorem wd_50 : Cond.selects "PhraseRoads$Reader" ({ cls := "PhraseRoads$Reader", name := "readBook", desc := "(LPhraseRoads$Knowledge;)V" } : Jvm.MethodName) ({ cls := "PhraseRoads$Reader", name := "readBook", desc := "(LPhraseRoads$Knowledge;)V" } : Jvm.MethodName) ∈ lw_tbl := List.mem_of_getElem? (i := 50) (by decide +kernel)
theorem wd_51 : Cond.selects "PhraseRoads$Reader" ({ cls := "PhraseRoads$Reader", name := "start", desc := "(LPhraseRoads$Knowledge;Z)V" } : Jvm.MethodName) ({ cls := "PhraseRoads$Reader", name := "start", desc := "(LPhraseRoads$Knowledge;Z)V" } : Jvm.MethodName) ∈ lw_tbl := List.mem_of_getElem? (i := 51) (by decide +kernel)
theorem wd_52 : Cond.selects "PhraseRoads$Reader" ({ cls := "PhraseRoads$Reader", name := "skipBlanks", desc := "()V" } : Jvm.MethodName) ({ cls := "PhraseRoads$Reader", name := "skipBlanks", desc := "()V" } : Jvm.MethodName) ∈ lw_tbl := List.mem_of_getElem? (i := 52) (by decide +kernel)
theorem wd_53 : Cond.selects "PhraseRoads$Reader" ({ cls := "PhraseRoads$Reader", name := "readEntry", desc := "(I)V" } : Jvm.MethodName) ({ cls := "PhraseRoads$Reader", name := "readEntry", desc := "(I)V" } : Jvm.MethodName) ∈ lw_tbl := List.mem_of_getElem? (i := 53) (by decide +kernel)
theorem wd_54 : Cond.selects "PhraseRoads$Reader" ({ cls := "PhraseRoads$Reader", name := "readWords", desc := "([III)I" } : Jvm.MethodName) ({ cls := "PhraseRoads$Reader", name := "readWords", desc := "([III)I" } : Jvm.MethodName) ∈ lw_tbl := List.mem_of_getElem? (i := 54) (by decide +kernel)
theorem wd_55 : Cond.selects "PhraseRoads$Reader" ({ cls := "PhraseRoads$Reader", name := "isRight", desc := "()Z" } : Jvm.MethodName) ({ cls := "PhraseRoads$Reader", name := "isRight", desc := "()Z" } : Jvm.MethodName) ∈ lw_tbl := List.mem_of_getElem? (i := 55) (by decide +kernel)
theorem wd_56 : Cond.selects "PhraseRoads$Reader" ({ cls := "PhraseRoads$Reader", name := "atLetter", desc := "()Z" } : Jvm.MethodName) ({ cls := "PhraseRoads$Reader", name := "atLetter", desc := "()Z" } : Jvm.MethodName) ∈ lw_tbl := List.mem_of_getElem? (i := 56) (by decide +kernel)
theorem wd_57 : Cond.selects "PhraseRoads$Reader" ({ cls := "PhraseRoads$Reader", name := "readWord", desc := "()I" } : Jvm.MethodName) ({ cls := "PhraseRoads$Reader", name := "readWord", desc := "()I" } : Jvm.MethodName) ∈ lw_tbl := List.mem_of_getElem? (i := 57) (by decide +kernel)
theorem wd_58 : Cond.selects "PhraseRoads$Reader" ({ cls := "PhraseRoads$Reader", name := "fail", desc := "(I)V" } : Jvm.MethodName) ({ cls := "PhraseRoads$Reader", name := "fail", desc := "(I)V" } : Jvm.MethodName) ∈ lw_tbl := List.mem_of_getElem? (i := 58) (by decide +kernel)
theorem wd_59 : Cond.selects "PhraseRoads$Knowledge" ({ cls := "PhraseRoads$Knowledge", name := "findWord", desc := "([III)I" } : Jvm.MethodName) ({ cls := "PhraseRoads$Knowledge", name := "findWord", desc := "([III)I" } : Jvm.MethodName) ∈ lw_tbl := List.mem_of_getElem? (i := 59) (by decide +kernel)
theorem wd_60 : Cond.selects "PhraseRoads$Knowledge" ({ cls := "PhraseRoads$Knowledge", name := "addWord", desc := "([III)I" } : Jvm.MethodName) ({ cls := "PhraseRoads$Knowledge", name := "addWord", desc := "([III)I" } : Jvm.MethodName) ∈ lw_tbl := List.mem_of_getElem? (i := 60) (by decide +kernel)
theorem wd_61 : Cond.selects "PhraseRoads$Reader" ({ cls := "PhraseRoads$Reader", name := "needSome", desc := "(I)V" } : Jvm.MethodName) ({ cls := "PhraseRoads$Reader", name := "needSome", desc := "(I)V" } : Jvm.MethodName) ∈ lw_tbl := List.mem_of_getElem? (i := 61) (by decide +kernel)
theorem wd_62 : Cond.selects "PhraseRoads$Reader" ({ cls := "PhraseRoads$Reader", name := "expect", desc := "(I)V" } : Jvm.MethodName) ({ cls := "PhraseRoads$Reader", name := "expect", desc := "(I)V" } : Jvm.MethodName) ∈ lw_tbl := List.mem_of_getElem? (i := 62) (by decide +kernel)
theorem wd_63 : Cond.selects "PhraseRoads$Reader" ({ cls := "PhraseRoads$Reader", name := "take", desc := "(I)Z" } : Jvm.MethodName) ({ cls := "PhraseRoads$Reader", name := "take", desc := "(I)Z" } : Jvm.MethodName) ∈ lw_tbl := List.mem_of_getElem? (i := 63) (by decide +kernel)
theorem wd_64 : Cond.selects "PhraseRoads$Reader" ({ cls := "PhraseRoads$Reader", name := "readNumber", desc := "(I)I" } : Jvm.MethodName) ({ cls := "PhraseRoads$Reader", name := "readNumber", desc := "(I)I" } : Jvm.MethodName) ∈ lw_tbl := List.mem_of_getElem? (i := 64) (by decide +kernel)
theorem wd_65 : Cond.selects "PhraseRoads$Reader" ({ cls := "PhraseRoads$Reader", name := "goesOn", desc := "(I)Z" } : Jvm.MethodName) ({ cls := "PhraseRoads$Reader", name := "goesOn", desc := "(I)Z" } : Jvm.MethodName) ∈ lw_tbl := List.mem_of_getElem? (i := 65) (by decide +kernel)
theorem wd_66 : Cond.selects "PhraseRoads$Knowledge" ({ cls := "PhraseRoads$Knowledge", name := "enterBook", desc := "(LPhraseRoads$Reader;)I" } : Jvm.MethodName) ({ cls := "PhraseRoads$Knowledge", name := "enterBook", desc := "(LPhraseRoads$Reader;)I" } : Jvm.MethodName) ∈ lw_tbl := List.mem_of_getElem? (i := 66) (by decide +kernel)
theorem wd_67 : Cond.selects "PhraseRoads$Knowledge" ({ cls := "PhraseRoads$Knowledge", name := "findPhrase", desc := "([III[III)I" } : Jvm.MethodName) ({ cls := "PhraseRoads$Knowledge", name := "findPhrase", desc := "([III[III)I" } : Jvm.MethodName) ∈ lw_tbl := List.mem_of_getElem? (i := 67) (by decide +kernel)
theorem wd_68 : Cond.selects "PhraseRoads$Knowledge" ({ cls := "PhraseRoads$Knowledge", name := "addPhrase", desc := "([III[IIII)V" } : Jvm.MethodName) ({ cls := "PhraseRoads$Knowledge", name := "addPhrase", desc := "([III[IIII)V" } : Jvm.MethodName) ∈ lw_tbl := List.mem_of_getElem? (i := 68) (by decide +kernel)
theorem wd_69 : Cond.selects "PhraseRoads" ({ cls := "PhraseRoads", name := "checkText", desc := "()V" } : Jvm.MethodName) ({ cls := "PhraseRoads", name := "checkText", desc := "()V" } : Jvm.MethodName) ∈ lw_tbl := List.mem_of_getElem? (i := 69) (by decide +kernel)
theorem wd_70 : Cond.selects "java/lang/Throwable" ({ cls := "java/lang/Throwable", name := "fillInStackTrace", desc := "(I)Ljava/lang/Throwable;" } : Jvm.MethodName) ({ cls := "java/lang/Throwable", name := "fillInStackTrace", desc := "(I)Ljava/lang/Throwable;" } : Jvm.MethodName) ∈ lw_tbl := List.mem_of_getElem? (i := 70) (by decide +kernel)
theorem wd_71 : Cond.selects "PhraseRoads" ({ cls := "PhraseRoads", name := "keepDraft", desc := "()V" } : Jvm.MethodName) ({ cls := "PhraseRoads", name := "keepDraft", desc := "()V" } : Jvm.MethodName) ∈ lw_tbl := List.mem_of_getElem? (i := 71) (by decide +kernel)
theorem wd_72 : Cond.selects "PhraseRoads$Reader" ({ cls := "PhraseRoads$Reader", name := "readFluency", desc := "(LPhraseRoads$Knowledge;)V" } : Jvm.MethodName) ({ cls := "PhraseRoads$Reader", name := "readFluency", desc := "(LPhraseRoads$Knowledge;)V" } : Jvm.MethodName) ∈ lw_tbl := List.mem_of_getElem? (i := 72) (by decide +kernel)
theorem wd_73 : Cond.selects "PhraseRoads$Reader" ({ cls := "PhraseRoads$Reader", name := "readPair", desc := "(I)V" } : Jvm.MethodName) ({ cls := "PhraseRoads$Reader", name := "readPair", desc := "(I)V" } : Jvm.MethodName) ∈ lw_tbl := List.mem_of_getElem? (i := 73) (by decide +kernel)
theorem wd_74 : Cond.selects "PhraseRoads$Knowledge" ({ cls := "PhraseRoads$Knowledge", name := "enterFluency", desc := "(LPhraseRoads$Reader;)V" } : Jvm.MethodName) ({ cls := "PhraseRoads$Knowledge", name := "enterFluency", desc := "(LPhraseRoads$Reader;)V" } : Jvm.MethodName) ∈ lw_tbl := List.mem_of_getElem? (i := 74) (by decide +kernel)
theorem wd_75 : Cond.selects "PhraseRoads$Reader" ({ cls := "PhraseRoads$Reader", name := "readRow", desc := "(LPhraseRoads$Knowledge;ZI)V" } : Jvm.MethodName) ({ cls := "PhraseRoads$Reader", name := "readRow", desc := "(LPhraseRoads$Knowledge;ZI)V" } : Jvm.MethodName) ∈ lw_tbl := List.mem_of_getElem? (i := 75) (by decide +kernel)
theorem wd_76 : Cond.selects "PhraseRoads$Knowledge" ({ cls := "PhraseRoads$Knowledge", name := "enterSentence", desc := "(LPhraseRoads$Reader;)V" } : Jvm.MethodName) ({ cls := "PhraseRoads$Knowledge", name := "enterSentence", desc := "(LPhraseRoads$Reader;)V" } : Jvm.MethodName) ∈ lw_tbl := List.mem_of_getElem? (i := 76) (by decide +kernel)
theorem wd_77 : Cond.selects "PhraseRoads$Reader" ({ cls := "PhraseRoads$Reader", name := "readLesson", desc := "(LPhraseRoads$Knowledge;)V" } : Jvm.MethodName) ({ cls := "PhraseRoads$Reader", name := "readLesson", desc := "(LPhraseRoads$Knowledge;)V" } : Jvm.MethodName) ∈ lw_tbl := List.mem_of_getElem? (i := 77) (by decide +kernel)
theorem wd_78 : Cond.selects "PhraseRoads$Reader" ({ cls := "PhraseRoads$Reader", name := "readLink", desc := "()V" } : Jvm.MethodName) ({ cls := "PhraseRoads$Reader", name := "readLink", desc := "()V" } : Jvm.MethodName) ∈ lw_tbl := List.mem_of_getElem? (i := 78) (by decide +kernel)
theorem wd_79 : Cond.selects "PhraseRoads" ({ cls := "PhraseRoads", name := "checkWord", desc := "(I)V" } : Jvm.MethodName) ({ cls := "PhraseRoads", name := "checkWord", desc := "(I)V" } : Jvm.MethodName) ∈ lw_tbl := List.mem_of_getElem? (i := 79) (by decide +kernel)
theorem wd_80 : Cond.selects "PhraseRoads" ({ cls := "PhraseRoads", name := "checkPhrase", desc := "(I)V" } : Jvm.MethodName) ({ cls := "PhraseRoads", name := "checkPhrase", desc := "(I)V" } : Jvm.MethodName) ∈ lw_tbl := List.mem_of_getElem? (i := 80) (by decide +kernel)
theorem wd_81 : Cond.selects "PhraseRoads" ({ cls := "PhraseRoads", name := "worthOf", desc := "(I)I" } : Jvm.MethodName) ({ cls := "PhraseRoads", name := "worthOf", desc := "(I)I" } : Jvm.MethodName) ∈ lw_tbl := List.mem_of_getElem? (i := 81) (by decide +kernel)
theorem wd_82 : Cond.selects "PhraseRoads" ({ cls := "PhraseRoads", name := "checkPlace", desc := "(I)V" } : Jvm.MethodName) ({ cls := "PhraseRoads", name := "checkPlace", desc := "(I)V" } : Jvm.MethodName) ∈ lw_tbl := List.mem_of_getElem? (i := 82) (by decide +kernel)
theorem wd_83 : Cond.selects "PhraseRoads$Knowledge" ({ cls := "PhraseRoads$Knowledge", name := "hasTwin", desc := "(I)Z" } : Jvm.MethodName) ({ cls := "PhraseRoads$Knowledge", name := "hasTwin", desc := "(I)Z" } : Jvm.MethodName) ∈ lw_tbl := List.mem_of_getElem? (i := 83) (by decide +kernel)
theorem wd_84 : Cond.selects "PhraseRoads$Options" ({ cls := "PhraseRoads$Options", name := "numberAt", desc := "(II)I" } : Jvm.MethodName) ({ cls := "PhraseRoads$Options", name := "numberAt", desc := "(II)I" } : Jvm.MethodName) ∈ lw_tbl := List.mem_of_getElem? (i := 84) (by decide +kernel)
theorem wd_85 : Cond.selects "PhraseRoads" ({ cls := "PhraseRoads", name := "checkWay", desc := "(I)V" } : Jvm.MethodName) ({ cls := "PhraseRoads", name := "checkWay", desc := "(I)V" } : Jvm.MethodName) ∈ lw_tbl := List.mem_of_getElem? (i := 85) (by decide +kernel)
theorem wd_86 : Cond.selects "PhraseRoads$Ways" ({ cls := "PhraseRoads$Ways", name := "costOf", desc := "(I)I" } : Jvm.MethodName) ({ cls := "PhraseRoads$Ways", name := "costOf", desc := "(I)I" } : Jvm.MethodName) ∈ lw_tbl := List.mem_of_getElem? (i := 86) (by decide +kernel)
theorem wd_87 : Cond.selects "PhraseRoads" ({ cls := "PhraseRoads", name := "prepareStacks", desc := "()V" } : Jvm.MethodName) ({ cls := "PhraseRoads", name := "prepareStacks", desc := "()V" } : Jvm.MethodName) ∈ lw_tbl := List.mem_of_getElem? (i := 87) (by decide +kernel)
theorem wd_88 : Cond.selects "PhraseRoads" ({ cls := "PhraseRoads", name := "readTold", desc := "()V" } : Jvm.MethodName) ({ cls := "PhraseRoads", name := "readTold", desc := "()V" } : Jvm.MethodName) ∈ lw_tbl := List.mem_of_getElem? (i := 88) (by decide +kernel)
theorem wd_89 : Cond.selects "PhraseRoads$Counting" ({ cls := "PhraseRoads$Counting", name := "cheapestTelling", desc := "([IIII)I" } : Jvm.MethodName) ({ cls := "PhraseRoads$Counting", name := "cheapestTelling", desc := "([IIII)I" } : Jvm.MethodName) ∈ lw_tbl := List.mem_of_getElem? (i := 89) (by decide +kernel)
theorem wd_90 : Cond.selects "PhraseRoads$Counting" ({ cls := "PhraseRoads$Counting", name := "tellFrom", desc := "(I[IIII)V" } : Jvm.MethodName) ({ cls := "PhraseRoads$Counting", name := "tellFrom", desc := "(I[IIII)V" } : Jvm.MethodName) ∈ lw_tbl := List.mem_of_getElem? (i := 90) (by decide +kernel)
theorem wd_91 : Cond.selects "PhraseRoads$Counting" ({ cls := "PhraseRoads$Counting", name := "tells", desc := "(I[III)Z" } : Jvm.MethodName) ({ cls := "PhraseRoads$Counting", name := "tells", desc := "(I[III)Z" } : Jvm.MethodName) ∈ lw_tbl := List.mem_of_getElem? (i := 91) (by decide +kernel)
theorem wd_92 : Cond.selects "PhraseRoads$Likeness" ({ cls := "PhraseRoads$Likeness", name := "apart", desc := "([II[II)I" } : Jvm.MethodName) ({ cls := "PhraseRoads$Likeness", name := "apart", desc := "([II[II)I" } : Jvm.MethodName) ∈ lw_tbl := List.mem_of_getElem? (i := 92) (by decide +kernel)
theorem wd_93 : Cond.selects "PhraseRoads$Likeness" ({ cls := "PhraseRoads$Likeness", name := "common", desc := "([II[III)I" } : Jvm.MethodName) ({ cls := "PhraseRoads$Likeness", name := "common", desc := "([II[III)I" } : Jvm.MethodName) ∈ lw_tbl := List.mem_of_getElem? (i := 93) (by decide +kernel)
theorem wd_94 : Cond.selects "PhraseRoads$Likeness" ({ cls := "PhraseRoads$Likeness", name := "howOften", desc := "([II[III)I" } : Jvm.MethodName) ({ cls := "PhraseRoads$Likeness", name := "howOften", desc := "([II[III)I" } : Jvm.MethodName) ∈ lw_tbl := List.mem_of_getElem? (i := 94) (by decide +kernel)
theorem wd_95 : Cond.selects "PhraseRoads$Likeness" ({ cls := "PhraseRoads$Likeness", name := "clear", desc := "()V" } : Jvm.MethodName) ({ cls := "PhraseRoads$Likeness", name := "clear", desc := "()V" } : Jvm.MethodName) ∈ lw_tbl := List.mem_of_getElem? (i := 95) (by decide +kernel)
theorem wd_96 : Cond.selects "PhraseRoads$Likeness" ({ cls := "PhraseRoads$Likeness", name := "add", desc := "([II)V" } : Jvm.MethodName) ({ cls := "PhraseRoads$Likeness", name := "add", desc := "([II)V" } : Jvm.MethodName) ∈ lw_tbl := List.mem_of_getElem? (i := 96) (by decide +kernel)
theorem wd_97 : Cond.selects "PhraseRoads$Likeness" ({ cls := "PhraseRoads$Likeness", name := "middle", desc := "()I" } : Jvm.MethodName) ({ cls := "PhraseRoads$Likeness", name := "middle", desc := "()I" } : Jvm.MethodName) ∈ lw_tbl := List.mem_of_getElem? (i := 97) (by decide +kernel)
theorem wd_98 : Cond.selects "PhraseRoadsModel" ({ cls := "PhraseRoadsModel", name := "begins", desc := "()V" } : Jvm.MethodName) ({ cls := "PhraseRoadsModel", name := "begins", desc := "()V" } : Jvm.MethodName) ∈ lw_tbl := List.mem_of_getElem? (i := 98) (by decide +kernel)
theorem wd_99 : Cond.selects "PhraseRoadsModel" ({ cls := "PhraseRoadsModel", name := "reads", desc := "(Z)V" } : Jvm.MethodName) ({ cls := "PhraseRoadsModel", name := "reads", desc := "(Z)V" } : Jvm.MethodName) ∈ lw_tbl := List.mem_of_getElem? (i := 99) (by decide +kernel)
theorem wd_100 : Cond.selects "PhraseRoadsModel" ({ cls := "PhraseRoadsModel", name := "here", desc := "()I" } : Jvm.MethodName) ({ cls := "PhraseRoadsModel", name := "here", desc := "()I" } : Jvm.MethodName) ∈ lw_tbl := List.mem_of_getElem? (i := 100) (by decide +kernel)
theorem wd_101 : Cond.selects "PhraseRoadsModel" ({ cls := "PhraseRoadsModel", name := "wrong", desc := "(I)V" } : Jvm.MethodName) ({ cls := "PhraseRoadsModel", name := "wrong", desc := "(I)V" } : Jvm.MethodName) ∈ lw_tbl := List.mem_of_getElem? (i := 101) (by decide +kernel)
theorem wd_102 : Cond.selects "PhraseRoadsModel" ({ cls := "PhraseRoadsModel", name := "entry", desc := "()V" } : Jvm.MethodName) ({ cls := "PhraseRoadsModel", name := "entry", desc := "()V" } : Jvm.MethodName) ∈ lw_tbl := List.mem_of_getElem? (i := 102) (by decide +kernel)
theorem wd_103 : Cond.selects "PhraseRoadsModel" ({ cls := "PhraseRoadsModel", name := "wordsInto", desc := "([IIIZ)I" } : Jvm.MethodName) ({ cls := "PhraseRoadsModel", name := "wordsInto", desc := "([IIIZ)I" } : Jvm.MethodName) ∈ lw_tbl := List.mem_of_getElem? (i := 103) (by decide +kernel)
theorem wd_104 : Cond.selects "PhraseRoadsModel" ({ cls := "PhraseRoadsModel", name := "isLetter", desc := "()Z" } : Jvm.MethodName) ({ cls := "PhraseRoadsModel", name := "isLetter", desc := "()Z" } : Jvm.MethodName) ∈ lw_tbl := List.mem_of_getElem? (i := 104) (by decide +kernel)
theorem wd_105 : Cond.selects "PhraseRoadsModel" ({ cls := "PhraseRoadsModel", name := "word", desc := "(Z)I" } : Jvm.MethodName) ({ cls := "PhraseRoadsModel", name := "word", desc := "(Z)I" } : Jvm.MethodName) ∈ lw_tbl := List.mem_of_getElem? (i := 105) (by decide +kernel)
theorem wd_106 : Cond.selects "PhraseRoadsModel" ({ cls := "PhraseRoadsModel", name := "isSpelt", desc := "(III)Z" } : Jvm.MethodName) ({ cls := "PhraseRoadsModel", name := "isSpelt", desc := "(III)Z" } : Jvm.MethodName) ∈ lw_tbl := List.mem_of_getElem? (i := 106) (by decide +kernel)
theorem wd_107 : Cond.selects "PhraseRoadsModel" ({ cls := "PhraseRoadsModel", name := "mustSign", desc := "(I)V" } : Jvm.MethodName) ({ cls := "PhraseRoadsModel", name := "mustSign", desc := "(I)V" } : Jvm.MethodName) ∈ lw_tbl := List.mem_of_getElem? (i := 107) (by decide +kernel)
theorem wd_108 : Cond.selects "PhraseRoadsModel" ({ cls := "PhraseRoadsModel", name := "isSign", desc := "(I)Z" } : Jvm.MethodName) ({ cls := "PhraseRoadsModel", name := "isSign", desc := "(I)Z" } : Jvm.MethodName) ∈ lw_tbl := List.mem_of_getElem? (i := 108) (by decide +kernel)
theorem wd_109 : Cond.selects "PhraseRoadsModel" ({ cls := "PhraseRoadsModel", name := "number", desc := "(I)I" } : Jvm.MethodName) ({ cls := "PhraseRoadsModel", name := "number", desc := "(I)I" } : Jvm.MethodName) ∈ lw_tbl := List.mem_of_getElem? (i := 109) (by decide +kernel)
theorem wd_110 : Cond.selects "PhraseRoadsModel" ({ cls := "PhraseRoadsModel", name := "pair", desc := "()V" } : Jvm.MethodName) ({ cls := "PhraseRoadsModel", name := "pair", desc := "()V" } : Jvm.MethodName) ∈ lw_tbl := List.mem_of_getElem? (i := 110) (by decide +kernel)
theorem wd_111 : Cond.selects "PhraseRoadsModel" ({ cls := "PhraseRoadsModel", name := "alike", desc := "([III)I" } : Jvm.MethodName) ({ cls := "PhraseRoadsModel", name := "alike", desc := "([III)I" } : Jvm.MethodName) ∈ lw_tbl := List.mem_of_getElem? (i := 111) (by decide +kernel)
theorem wd_112 : Cond.selects "PhraseRoadsModel" ({ cls := "PhraseRoadsModel", name := "of", desc := "(II)I" } : Jvm.MethodName) ({ cls := "PhraseRoadsModel", name := "of", desc := "(II)I" } : Jvm.MethodName) ∈ lw_tbl := List.mem_of_getElem? (i := 112) (by decide +kernel)
theorem wd_113 : Cond.selects "PhraseRoadsModel" ({ cls := "PhraseRoadsModel", name := "comes", desc := "(II)V" } : Jvm.MethodName) ({ cls := "PhraseRoadsModel", name := "comes", desc := "(II)V" } : Jvm.MethodName) ∈ lw_tbl := List.mem_of_getElem? (i := 113) (by decide +kernel)
theorem wd_114 : Cond.selects "PhraseRoadsModel" ({ cls := "PhraseRoadsModel", name := "isRight", desc := "()Z" } : Jvm.MethodName) ({ cls := "PhraseRoadsModel", name := "isRight", desc := "()Z" } : Jvm.MethodName) ∈ lw_tbl := List.mem_of_getElem? (i := 114) (by decide +kernel)
theorem wd_115 : Cond.selects "PhraseRoadsModel" ({ cls := "PhraseRoadsModel", name := "pairOf", desc := "(II)I" } : Jvm.MethodName) ({ cls := "PhraseRoadsModel", name := "pairOf", desc := "(II)I" } : Jvm.MethodName) ∈ lw_tbl := List.mem_of_getElem? (i := 115) (by decide +kernel)
theorem wd_116 : Cond.selects "PhraseRoadsModel" ({ cls := "PhraseRoadsModel", name := "lesson", desc := "()V" } : Jvm.MethodName) ({ cls := "PhraseRoadsModel", name := "lesson", desc := "()V" } : Jvm.MethodName) ∈ lw_tbl := List.mem_of_getElem? (i := 116) (by decide +kernel)
theorem wd_117 : Cond.selects "PhraseRoadsModel" ({ cls := "PhraseRoadsModel", name := "link", desc := "()V" } : Jvm.MethodName) ({ cls := "PhraseRoadsModel", name := "link", desc := "()V" } : Jvm.MethodName) ∈ lw_tbl := List.mem_of_getElem? (i := 117) (by decide +kernel)
theorem wd_118 : Cond.selects "PhraseRoadsModel" ({ cls := "PhraseRoadsModel", name := "goTogether", desc := "(IIII)Z" } : Jvm.MethodName) ({ cls := "PhraseRoadsModel", name := "goTogether", desc := "(IIII)Z" } : Jvm.MethodName) ∈ lw_tbl := List.mem_of_getElem? (i := 118) (by decide +kernel)
theorem wd_119 : Cond.selects "PhraseRoadsModel" ({ cls := "PhraseRoadsModel", name := "learns", desc := "(IIII)I" } : Jvm.MethodName) ({ cls := "PhraseRoadsModel", name := "learns", desc := "(IIII)I" } : Jvm.MethodName) ∈ lw_tbl := List.mem_of_getElem? (i := 119) (by decide +kernel)
theorem wd_120 : Cond.selects "PhraseRoadsModel" ({ cls := "PhraseRoadsModel", name := "unlinked", desc := "(IIII)I" } : Jvm.MethodName) ({ cls := "PhraseRoadsModel", name := "unlinked", desc := "(IIII)I" } : Jvm.MethodName) ∈ lw_tbl := List.mem_of_getElem? (i := 120) (by decide +kernel)
theorem wd_121 : Cond.selects "PhraseRoadsModel" ({ cls := "PhraseRoadsModel", name := "isWord", desc := "(I)Z" } : Jvm.MethodName) ({ cls := "PhraseRoadsModel", name := "isWord", desc := "(I)Z" } : Jvm.MethodName) ∈ lw_tbl := List.mem_of_getElem? (i := 121) (by decide +kernel)
theorem wd_122 : Cond.selects "PhraseRoadsModel" ({ cls := "PhraseRoadsModel", name := "isPhrase", desc := "(I)Z" } : Jvm.MethodName) ({ cls := "PhraseRoadsModel", name := "isPhrase", desc := "(I)Z" } : Jvm.MethodName) ∈ lw_tbl := List.mem_of_getElem? (i := 122) (by decide +kernel)
theorem wd_123 : Cond.selects "PhraseRoadsModel" ({ cls := "PhraseRoadsModel", name := "placesOf", desc := "(I)I" } : Jvm.MethodName) ({ cls := "PhraseRoadsModel", name := "placesOf", desc := "(I)I" } : Jvm.MethodName) ∈ lw_tbl := List.mem_of_getElem? (i := 123) (by decide +kernel)
theorem wd_124 : Cond.selects "PhraseRoadsModel" ({ cls := "PhraseRoadsModel", name := "isOption", desc := "(II)Z" } : Jvm.MethodName) ({ cls := "PhraseRoadsModel", name := "isOption", desc := "(II)Z" } : Jvm.MethodName) ∈ lw_tbl := List.mem_of_getElem? (i := 124) (by decide +kernel)
theorem wd_125 : Cond.selects "PhraseRoadsModel" ({ cls := "PhraseRoadsModel", name := "isPlace", desc := "(I)Z" } : Jvm.MethodName) ({ cls := "PhraseRoadsModel", name := "isPlace", desc := "(I)Z" } : Jvm.MethodName) ∈ lw_tbl := List.mem_of_getElem? (i := 125) (by decide +kernel)
theorem wd_126 : Cond.selects "PhraseRoadsModel" ({ cls := "PhraseRoadsModel", name := "covers", desc := "(I)I" } : Jvm.MethodName) ({ cls := "PhraseRoadsModel", name := "covers", desc := "(I)I" } : Jvm.MethodName) ∈ lw_tbl := List.mem_of_getElem? (i := 126) (by decide +kernel)
theorem wd_127 : Cond.selects "PhraseRoadsModel" ({ cls := "PhraseRoadsModel", name := "worth", desc := "(I)I" } : Jvm.MethodName) ({ cls := "PhraseRoadsModel", name := "worth", desc := "(I)I" } : Jvm.MethodName) ∈ lw_tbl := List.mem_of_getElem? (i := 127) (by decide +kernel)
theorem wd_128 : Cond.selects "PhraseRoadsModel" ({ cls := "PhraseRoadsModel", name := "exact0", desc := "()I" } : Jvm.MethodName) ({ cls := "PhraseRoadsModel", name := "exact0", desc := "()I" } : Jvm.MethodName) ∈ lw_tbl := List.mem_of_getElem? (i := 128) (by decide +kernel)
theorem wd_129 : Cond.selects "PhraseRoadsModel" ({ cls := "PhraseRoadsModel", name := "lays", desc := "()V" } : Jvm.MethodName) ({ cls := "PhraseRoadsModel", name := "lays", desc := "()V" } : Jvm.MethodName) ∈ lw_tbl := List.mem_of_getElem? (i := 129) (by decide +kernel)
theorem wd_130 : Cond.selects "PhraseRoadsModel" ({ cls := "PhraseRoadsModel", name := "rest", desc := "(III)I" } : Jvm.MethodName) ({ cls := "PhraseRoadsModel", name := "rest", desc := "(III)I" } : Jvm.MethodName) ∈ lw_tbl := List.mem_of_getElem? (i := 130) (by decide +kernel)
theorem wd_131 : Cond.selects "PhraseRoadsModel" ({ cls := "PhraseRoadsModel", name := "full", desc := "()I" } : Jvm.MethodName) ({ cls := "PhraseRoadsModel", name := "full", desc := "()I" } : Jvm.MethodName) ∈ lw_tbl := List.mem_of_getElem? (i := 131) (by decide +kernel)
theorem wd_132 : Cond.selects "PhraseRoadsModel" ({ cls := "PhraseRoadsModel", name := "after0", desc := "(II)I" } : Jvm.MethodName) ({ cls := "PhraseRoadsModel", name := "after0", desc := "(II)I" } : Jvm.MethodName) ∈ lw_tbl := List.mem_of_getElem? (i := 132) (by decide +kernel)
theorem wd_133 : Cond.selects "PhraseRoadsModel" ({ cls := "PhraseRoadsModel", name := "next", desc := "(I)I" } : Jvm.MethodName) ({ cls := "PhraseRoadsModel", name := "next", desc := "(I)I" } : Jvm.MethodName) ∈ lw_tbl := List.mem_of_getElem? (i := 133) (by decide +kernel)
theorem wd_134 : Cond.selects "PhraseRoadsModel" ({ cls := "PhraseRoadsModel", name := "may", desc := "(IIII)Z" } : Jvm.MethodName) ({ cls := "PhraseRoadsModel", name := "may", desc := "(IIII)Z" } : Jvm.MethodName) ∈ lw_tbl := List.mem_of_getElem? (i := 134) (by decide +kernel)
theorem wd_135 : Cond.selects "PhraseRoadsModel" ({ cls := "PhraseRoadsModel", name := "maskOf", desc := "(II)I" } : Jvm.MethodName) ({ cls := "PhraseRoadsModel", name := "maskOf", desc := "(II)I" } : Jvm.MethodName) ∈ lw_tbl := List.mem_of_getElem? (i := 135) (by decide +kernel)
theorem wd_136 : Cond.selects "PhraseRoadsModel" ({ cls := "PhraseRoadsModel", name := "weighs", desc := "(IIII)V" } : Jvm.MethodName) ({ cls := "PhraseRoadsModel", name := "weighs", desc := "(IIII)V" } : Jvm.MethodName) ∈ lw_tbl := List.mem_of_getElem? (i := 136) (by decide +kernel)
theorem wd_137 : Cond.selects "PhraseRoadsModel" ({ cls := "PhraseRoadsModel", name := "targetMany", desc := "(I)I" } : Jvm.MethodName) ({ cls := "PhraseRoadsModel", name := "targetMany", desc := "(I)I" } : Jvm.MethodName) ∈ lw_tbl := List.mem_of_getElem? (i := 137) (by decide +kernel)
theorem wd_138 : Cond.selects "PhraseRoadsModel" ({ cls := "PhraseRoadsModel", name := "targetOf", desc := "(III)I" } : Jvm.MethodName) ({ cls := "PhraseRoadsModel", name := "targetOf", desc := "(III)I" } : Jvm.MethodName) ∈ lw_tbl := List.mem_of_getElem? (i := 138) (by decide +kernel)
theorem wd_139 : Cond.selects "PhraseRoadsModel" ({ cls := "PhraseRoadsModel", name := "waysFrom", desc := "(II)J" } : Jvm.MethodName) ({ cls := "PhraseRoadsModel", name := "waysFrom", desc := "(II)J" } : Jvm.MethodName) ∈ lw_tbl := List.mem_of_getElem? (i := 139) (by decide +kernel)
theorem wd_140 : Cond.selects "PhraseRoadsModel" ({ cls := "PhraseRoadsModel", name := "isWay", desc := "(I)Z" } : Jvm.MethodName) ({ cls := "PhraseRoadsModel", name := "isWay", desc := "(I)Z" } : Jvm.MethodName) ∈ lw_tbl := List.mem_of_getElem? (i := 140) (by decide +kernel)
theorem wd_141 : Cond.selects "PhraseRoadsModel" ({ cls := "PhraseRoadsModel", name := "goes", desc := "(IIIII)Z" } : Jvm.MethodName) ({ cls := "PhraseRoadsModel", name := "goes", desc := "(IIIII)Z" } : Jvm.MethodName) ∈ lw_tbl := List.mem_of_getElem? (i := 141) (by decide +kernel)
theorem wd_142 : Cond.selects "PhraseRoadsModel" ({ cls := "PhraseRoadsModel", name := "spells", desc := "()V" } : Jvm.MethodName) ({ cls := "PhraseRoadsModel", name := "spells", desc := "()V" } : Jvm.MethodName) ∈ lw_tbl := List.mem_of_getElem? (i := 142) (by decide +kernel)
theorem wd_143 : Cond.selects "PhraseRoadsModel" ({ cls := "PhraseRoadsModel", name := "costOf", desc := "(I)I" } : Jvm.MethodName) ({ cls := "PhraseRoadsModel", name := "costOf", desc := "(I)I" } : Jvm.MethodName) ∈ lw_tbl := List.mem_of_getElem? (i := 143) (by decide +kernel)
theorem wd_144 : Cond.selects "PhraseRoadsModel" ({ cls := "PhraseRoadsModel", name := "laysStretches", desc := "()V" } : Jvm.MethodName) ({ cls := "PhraseRoadsModel", name := "laysStretches", desc := "()V" } : Jvm.MethodName) ∈ lw_tbl := List.mem_of_getElem? (i := 144) (by decide +kernel)
theorem wd_145 : Cond.selects "PhraseRoadsModel" ({ cls := "PhraseRoadsModel", name := "optionFor", desc := "(II)I" } : Jvm.MethodName) ({ cls := "PhraseRoadsModel", name := "optionFor", desc := "(II)I" } : Jvm.MethodName) ∈ lw_tbl := List.mem_of_getElem? (i := 145) (by decide +kernel)
theorem wd_146 : Cond.selects "PhraseRoadsModel" ({ cls := "PhraseRoadsModel", name := "stacks", desc := "()V" } : Jvm.MethodName) ({ cls := "PhraseRoadsModel", name := "stacks", desc := "()V" } : Jvm.MethodName) ∈ lw_tbl := List.mem_of_getElem? (i := 146) (by decide +kernel)
theorem wd_147 : Cond.selects "PhraseRoadsModel" ({ cls := "PhraseRoadsModel", name := "lies", desc := "(IIIII)V" } : Jvm.MethodName) ({ cls := "PhraseRoadsModel", name := "lies", desc := "(IIIII)V" } : Jvm.MethodName) ∈ lw_tbl := List.mem_of_getElem? (i := 147) (by decide +kernel)
theorem wd_148 : Cond.selects "PhraseRoadsModel" ({ cls := "PhraseRoadsModel", name := "counts", desc := "(I)V" } : Jvm.MethodName) ({ cls := "PhraseRoadsModel", name := "counts", desc := "(I)V" } : Jvm.MethodName) ∈ lw_tbl := List.mem_of_getElem? (i := 148) (by decide +kernel)
theorem wd_149 : Cond.selects "PhraseRoadsModel" ({ cls := "PhraseRoadsModel", name := "scoreOf", desc := "(I)I" } : Jvm.MethodName) ({ cls := "PhraseRoadsModel", name := "scoreOf", desc := "(I)I" } : Jvm.MethodName) ∈ lw_tbl := List.mem_of_getElem? (i := 149) (by decide +kernel)
theorem wd_150 : Cond.selects "PhraseRoadsModel" ({ cls := "PhraseRoadsModel", name := "setOf", desc := "(I)I" } : Jvm.MethodName) ({ cls := "PhraseRoadsModel", name := "setOf", desc := "(I)I" } : Jvm.MethodName) ∈ lw_tbl := List.mem_of_getElem? (i := 150) (by decide +kernel)
theorem wd_151 : Cond.selects "PhraseRoadsModel" ({ cls := "PhraseRoadsModel", name := "aheadOf", desc := "(I)I" } : Jvm.MethodName) ({ cls := "PhraseRoadsModel", name := "aheadOf", desc := "(I)I" } : Jvm.MethodName) ∈ lw_tbl := List.mem_of_getElem? (i := 151) (by decide +kernel)
theorem wd_152 : Cond.selects "PhraseRoadsModel" ({ cls := "PhraseRoadsModel", name := "nextOf", desc := "(I)I" } : Jvm.MethodName) ({ cls := "PhraseRoadsModel", name := "nextOf", desc := "(I)I" } : Jvm.MethodName) ∈ lw_tbl := List.mem_of_getElem? (i := 152) (by decide +kernel)
theorem wd_153 : Cond.selects "PhraseRoadsModel" ({ cls := "PhraseRoadsModel", name := "goesOn", desc := "(I)V" } : Jvm.MethodName) ({ cls := "PhraseRoadsModel", name := "goesOn", desc := "(I)V" } : Jvm.MethodName) ∈ lw_tbl := List.mem_of_getElem? (i := 153) (by decide +kernel)
theorem wd_154 : Cond.selects "PhraseRoadsModel" ({ cls := "PhraseRoadsModel", name := "placeOf", desc := "(I)I" } : Jvm.MethodName) ({ cls := "PhraseRoadsModel", name := "placeOf", desc := "(I)I" } : Jvm.MethodName) ∈ lw_tbl := List.mem_of_getElem? (i := 154) (by decide +kernel)
theorem wd_155 : Cond.selects "PhraseRoadsModel" ({ cls := "PhraseRoadsModel", name := "lastOf", desc := "(I)I" } : Jvm.MethodName) ({ cls := "PhraseRoadsModel", name := "lastOf", desc := "(I)I" } : Jvm.MethodName) ∈ lw_tbl := List.mem_of_getElem? (i := 155) (by decide +kernel)
theorem wd_156 : Cond.selects "PhraseRoadsModel" ({ cls := "PhraseRoadsModel", name := "finds", desc := "()V" } : Jvm.MethodName) ({ cls := "PhraseRoadsModel", name := "finds", desc := "()V" } : Jvm.MethodName) ∈ lw_tbl := List.mem_of_getElem? (i := 156) (by decide +kernel)
theorem wd_157 : Cond.selects "PhraseRoadsModel" ({ cls := "PhraseRoadsModel", name := "stepsOf", desc := "(I)I" } : Jvm.MethodName) ({ cls := "PhraseRoadsModel", name := "stepsOf", desc := "(I)I" } : Jvm.MethodName) ∈ lw_tbl := List.mem_of_getElem? (i := 157) (by decide +kernel)
theorem wd_158 : Cond.selects "PhraseRoadsModel" ({ cls := "PhraseRoadsModel", name := "isTold", desc := "()Z" } : Jvm.MethodName) ({ cls := "PhraseRoadsModel", name := "isTold", desc := "()Z" } : Jvm.MethodName) ∈ lw_tbl := List.mem_of_getElem? (i := 158) (by decide +kernel)
theorem wd_159 : Cond.selects "PhraseRoadsModel" ({ cls := "PhraseRoadsModel", name := "forcedFrom", desc := "(III)I" } : Jvm.MethodName) ({ cls := "PhraseRoadsModel", name := "forcedFrom", desc := "(III)I" } : Jvm.MethodName) ∈ lw_tbl := List.mem_of_getElem? (i := 159) (by decide +kernel)
theorem wd_160 : Cond.selects "PhraseRoadsModel" ({ cls := "PhraseRoadsModel", name := "isSpoken", desc := "(III)Z" } : Jvm.MethodName) ({ cls := "PhraseRoadsModel", name := "isSpoken", desc := "(III)Z" } : Jvm.MethodName) ∈ lw_tbl := List.mem_of_getElem? (i := 160) (by decide +kernel)
theorem wd_161 : Cond.selects "PhraseRoadsModel" ({ cls := "PhraseRoadsModel", name := "nearTold", desc := "()I" } : Jvm.MethodName) ({ cls := "PhraseRoadsModel", name := "nearTold", desc := "()I" } : Jvm.MethodName) ∈ lw_tbl := List.mem_of_getElem? (i := 161) (by decide +kernel)
theorem wd_162 : Cond.selects "PhraseRoadsModel" ({ cls := "PhraseRoadsModel", name := "apart", desc := "([III[III)I" } : Jvm.MethodName) ({ cls := "PhraseRoadsModel", name := "apart", desc := "([III[III)I" } : Jvm.MethodName) ∈ lw_tbl := List.mem_of_getElem? (i := 162) (by decide +kernel)
theorem wd_163 : Cond.selects "PhraseRoadsModel" ({ cls := "PhraseRoadsModel", name := "exactBy", desc := "(II)I" } : Jvm.MethodName) ({ cls := "PhraseRoadsModel", name := "exactBy", desc := "(II)I" } : Jvm.MethodName) ∈ lw_tbl := List.mem_of_getElem? (i := 163) (by decide +kernel)
theorem wd_164 : Jvm.Cond.initialized "PhraseRoadsLaw" ∈ lw_tbl := List.mem_of_getElem? (i := 164) (by decide +kernel)
theorem wd_165 : Jvm.Cond.initialized "PhraseRoads" ∈ lw_tbl := List.mem_of_getElem? (i := 165) (by decide +kernel)
theorem wd_166 : Jvm.Cond.initialized "PhraseRoads$Knowledge" ∈ lw_tbl := List.mem_of_getElem? (i := 166) (by decide +kernel)
theorem wd_167 : Jvm.Cond.initialized "PhraseRoads$Reader" ∈ lw_tbl := List.mem_of_getElem? (i := 167) (by decide +kernel)
theorem wd_168 : Jvm.Cond.initialized "PhraseRoads$Options" ∈ lw_tbl := List.mem_of_getElem? (i := 168) (by decide +kernel)
theorem wd_169 : Jvm.Cond.initialized "PhraseRoads$Knots" ∈ lw_tbl := List.mem_of_getElem? (i := 169) (by decide +kernel)
theorem wd_170 : Jvm.Cond.initialized "PhraseRoads$Ways" ∈ lw_tbl := List.mem_of_getElem? (i := 170) (by decide +kernel)
theorem wd_171 : Jvm.Cond.initialized "PhraseRoads$Stretches" ∈ lw_tbl := List.mem_of_getElem? (i := 171) (by decide +kernel)
theorem wd_172 : Jvm.Cond.initialized "PhraseRoads$Stacks" ∈ lw_tbl := List.mem_of_getElem? (i := 172) (by decide +kernel)
theorem wd_173 : Jvm.Cond.initialized "PhraseRoads$Counting" ∈ lw_tbl := List.mem_of_getElem? (i := 173) (by decide +kernel)
theorem wd_174 : Jvm.Cond.initialized "PhraseRoads$Likeness" ∈ lw_tbl := List.mem_of_getElem? (i := 174) (by decide +kernel)
theorem wd_175 : Jvm.Cond.initialized "PhraseRoadsModel" ∈ lw_tbl := List.mem_of_getElem? (i := 175) (by decide +kernel)
theorem wd_176 : Jvm.Cond.initialized "java/lang/System" ∈ lw_tbl := List.mem_of_getElem? (i := 176) (by decide +kernel)
theorem wd_177 : Jvm.Cond.initialized "java/lang/Throwable" ∈ lw_tbl := List.mem_of_getElem? (i := 177) (by decide +kernel)
theorem wd_178 : Jvm.Cond.initialized "java/lang/Exception" ∈ lw_tbl := List.mem_of_getElem? (i := 178) (by decide +kernel)
theorem wd_179 : Jvm.Cond.initialized "java/lang/RuntimeException" ∈ lw_tbl := List.mem_of_getElem? (i := 179) (by decide +kernel)
theorem wd_180 : Jvm.Cond.initialized "java/lang/IllegalArgumentException" ∈ lw_tbl := List.mem_of_getElem? (i := 180) (by decide +kernel)
theorem wd_181 : Jvm.Cond.initialized "java/util/Arrays" ∈ lw_tbl := List.mem_of_getElem? (i := 181) (by decide +kernel)
theorem wd_182 : Jvm.Cond.initialized "PhraseRoads$Lesson" ∈ lw_tbl := List.mem_of_getElem? (i := 182) (by decide +kernel)
theorem wd_183 : Jvm.Cond.initialized "java/lang/Math" ∈ lw_tbl := List.mem_of_getElem? (i := 183) (by decide +kernel)
theorem wd_184 : Jvm.Cond.initialized "java/lang/Integer" ∈ lw_tbl := List.mem_of_getElem? (i := 184) (by decide +kernel)
theorem wd_185 : Jvm.Cond.initialized "java/lang/UnsupportedOperationException" ∈ lw_tbl := List.mem_of_getElem? (i := 185) (by decide +kernel)
theorem wd_186 : Jvm.Cond.initialized "java/lang/IndexOutOfBoundsException" ∈ lw_tbl := List.mem_of_getElem? (i := 186) (by decide +kernel)
theorem wd_187 : Jvm.Cond.initialized "java/util/NoSuchElementException" ∈ lw_tbl := List.mem_of_getElem? (i := 187) (by decide +kernel)
theorem wd_188 : Jvm.Cond.classLink "PhraseRoadsLaw" (8 : Nat) "PhraseRoads" ∈ lw_tbl := List.mem_of_getElem? (i := 188) (by decide +kernel)
theorem wd_189 : Jvm.Cond.instantiable "PhraseRoads" (15 : Nat) ∈ lw_tbl := List.mem_of_getElem? (i := 189) (by decide +kernel)
theorem wd_190 : Jvm.Cond.methodLink "PhraseRoadsLaw" (101 : Nat) ({ cls := "PhraseRoads", name := "<init>", desc := "()V" } : Jvm.MethodName) ∈ lw_tbl := List.mem_of_getElem? (i := 190) (by decide +kernel)
theorem wd_191 : Jvm.Cond.instanceMethod ({ cls := "PhraseRoads", name := "<init>", desc := "()V" } : Jvm.MethodName) ∈ lw_tbl := List.mem_of_getElem? (i := 191) (by decide +kernel)
theorem wd_192 : Jvm.Cond.code ({ cls := "PhraseRoads", name := "<init>", desc := "()V" } : Jvm.MethodName) prog_1_method_1_code (1 : Nat) (Option.none : Option Jvm.ClassFile.FieldType) ∈ lw_tbl := List.mem_of_getElem? (i := 192) (by decide +kernel)
theorem wd_193 : Jvm.Cond.methodLink "PhraseRoads" (3 : Nat) ({ cls := "java/lang/Object", name := "<init>", desc := "()V" } : Jvm.MethodName) ∈ lw_tbl := List.mem_of_getElem? (i := 193) (by decide +kernel)
theorem wd_194 : Jvm.Cond.instanceMethod ({ cls := "java/lang/Object", name := "<init>", desc := "()V" } : Jvm.MethodName) ∈ lw_tbl := List.mem_of_getElem? (i := 194) (by decide +kernel)
theorem wd_195 : Jvm.Cond.code ({ cls := "java/lang/Object", name := "<init>", desc := "()V" } : Jvm.MethodName) object_method_1_code (1 : Nat) (Option.none : Option Jvm.ClassFile.FieldType) ∈ lw_tbl := List.mem_of_getElem? (i := 195) (by decide +kernel)
theorem wd_196 : Jvm.Cond.classLink "PhraseRoads" (9 : Nat) "PhraseRoads$Knowledge" ∈ lw_tbl := List.mem_of_getElem? (i := 196) (by decide +kernel)
theorem wd_197 : Jvm.Cond.instantiable "PhraseRoads$Knowledge" (15 : Nat) ∈ lw_tbl := List.mem_of_getElem? (i := 197) (by decide +kernel)
theorem wd_198 : Jvm.Cond.methodLinkNest "PhraseRoads" (11 : Nat) ({ cls := "PhraseRoads$Knowledge", name := "<init>", desc := "()V" } : Jvm.MethodName) "PhraseRoads" ∈ lw_tbl := List.mem_of_getElem? (i := 198) (by decide +kernel)
theorem wd_199 : Jvm.Cond.instanceMethod ({ cls := "PhraseRoads$Knowledge", name := "<init>", desc := "()V" } : Jvm.MethodName) ∈ lw_tbl := List.mem_of_getElem? (i := 199) (by decide +kernel)
theorem wd_200 : Jvm.Cond.code ({ cls := "PhraseRoads$Knowledge", name := "<init>", desc := "()V" } : Jvm.MethodName) prog_4_method_1_code (1 : Nat) (Option.none : Option Jvm.ClassFile.FieldType) ∈ lw_tbl := List.mem_of_getElem? (i := 200) (by decide +kernel)
theorem wd_201 : Jvm.Cond.methodLink "PhraseRoads$Knowledge" (3 : Nat) ({ cls := "java/lang/Object", name := "<init>", desc := "()V" } : Jvm.MethodName) ∈ lw_tbl := List.mem_of_getElem? (i := 201) (by decide +kernel)
theorem wd_202 : Jvm.Cond.fieldLink "PhraseRoads$Knowledge" (9 : Nat) "PhraseRoads$Knowledge" "letters" "[I" ∈ lw_tbl := List.mem_of_getElem? (i := 202) (by decide +kernel)
theorem wd_203 : Jvm.Cond.fieldLinkNest "PhraseRoads" (160 : Nat) "PhraseRoads$Knowledge" "letters" "[I" "PhraseRoads" ∈ lw_tbl := List.mem_of_getElem? (i := 203) (by decide +kernel)
theorem wd_204 : Jvm.Cond.fieldLink "PhraseRoads$Knowledge" (15 : Nat) "PhraseRoads$Knowledge" "lengths" "[I" ∈ lw_tbl := List.mem_of_getElem? (i := 204) (by decide +kernel)
theorem wd_205 : Jvm.Cond.fieldLinkNest "PhraseRoads" (156 : Nat) "PhraseRoads$Knowledge" "lengths" "[I" "PhraseRoads" ∈ lw_tbl := List.mem_of_getElem? (i := 205) (by decide +kernel)
theorem wd_206 : Jvm.Cond.fieldLink "PhraseRoads$Knowledge" (52 : Nat) "PhraseRoads$Knowledge" "words" "I" ∈ lw_tbl := List.mem_of_getElem? (i := 206) (by decide +kernel)
theorem wd_207 : Jvm.Cond.fieldLinkNest "PhraseRoads$Reader" (132 : Nat) "PhraseRoads$Knowledge" "words" "I" "PhraseRoads" ∈ lw_tbl := List.mem_of_getElem? (i := 207) (by decide +kernel)
theorem wd_208 : Jvm.Cond.fieldLinkNest "PhraseRoads" (390 : Nat) "PhraseRoads$Knowledge" "words" "I" "PhraseRoads" ∈ lw_tbl := List.mem_of_getElem? (i := 208) (by decide +kernel)
theorem wd_209 : Jvm.Cond.fieldLink "PhraseRoads$Knowledge" (18 : Nat) "PhraseRoads$Knowledge" "sources" "[I" ∈ lw_tbl := List.mem_of_getElem? (i := 209) (by decide +kernel)
theorem wd_210 : Jvm.Cond.fieldLinkNest "PhraseRoads" (201 : Nat) "PhraseRoads$Knowledge" "sources" "[I" "PhraseRoads" ∈ lw_tbl := List.mem_of_getElem? (i := 210) (by decide +kernel)
theorem wd_211 : Jvm.Cond.fieldLink "PhraseRoads$Knowledge" (21 : Nat) "PhraseRoads$Knowledge" "sourceSizes" "[I" ∈ lw_tbl := List.mem_of_getElem? (i := 211) (by decide +kernel)
theorem wd_212 : Jvm.Cond.fieldLinkNest "PhraseRoads$Options" (62 : Nat) "PhraseRoads$Knowledge" "sourceSizes" "[I" "PhraseRoads" ∈ lw_tbl := List.mem_of_getElem? (i := 212) (by decide +kernel)
theorem wd_213 : Jvm.Cond.fieldLinkNest "PhraseRoads" (166 : Nat) "PhraseRoads$Knowledge" "sourceSizes" "[I" "PhraseRoads" ∈ lw_tbl := List.mem_of_getElem? (i := 213) (by decide +kernel)
theorem wd_214 : Jvm.Cond.fieldLink "PhraseRoads$Knowledge" (24 : Nat) "PhraseRoads$Knowledge" "targets" "[I" ∈ lw_tbl := List.mem_of_getElem? (i := 214) (by decide +kernel)
theorem wd_215 : Jvm.Cond.fieldLinkNest "PhraseRoads$Options" (72 : Nat) "PhraseRoads$Knowledge" "targets" "[I" "PhraseRoads" ∈ lw_tbl := List.mem_of_getElem? (i := 215) (by decide +kernel)
theorem wd_216 : Jvm.Cond.fieldLinkNest "PhraseRoads" (198 : Nat) "PhraseRoads$Knowledge" "targets" "[I" "PhraseRoads" ∈ lw_tbl := List.mem_of_getElem? (i := 216) (by decide +kernel)
theorem wd_217 : Jvm.Cond.fieldLink "PhraseRoads$Knowledge" (27 : Nat) "PhraseRoads$Knowledge" "targetSizes" "[I" ∈ lw_tbl := List.mem_of_getElem? (i := 217) (by decide +kernel)
theorem wd_218 : Jvm.Cond.fieldLinkNest "PhraseRoads$Options" (73 : Nat) "PhraseRoads$Knowledge" "targetSizes" "[I" "PhraseRoads" ∈ lw_tbl := List.mem_of_getElem? (i := 218) (by decide +kernel)
theorem wd_219 : Jvm.Cond.fieldLinkNest "PhraseRoads" (169 : Nat) "PhraseRoads$Knowledge" "targetSizes" "[I" "PhraseRoads" ∈ lw_tbl := List.mem_of_getElem? (i := 219) (by decide +kernel)
theorem wd_220 : Jvm.Cond.fieldLink "PhraseRoads$Knowledge" (30 : Nat) "PhraseRoads$Knowledge" "costs" "[I" ∈ lw_tbl := List.mem_of_getElem? (i := 220) (by decide +kernel)
theorem wd_221 : Jvm.Cond.fieldLinkNest "PhraseRoads$Options" (65 : Nat) "PhraseRoads$Knowledge" "costs" "[I" "PhraseRoads" ∈ lw_tbl := List.mem_of_getElem? (i := 221) (by decide +kernel)
theorem wd_222 : Jvm.Cond.fieldLinkNest "PhraseRoads$Lesson" (41 : Nat) "PhraseRoads$Knowledge" "costs" "[I" "PhraseRoads" ∈ lw_tbl := List.mem_of_getElem? (i := 222) (by decide +kernel)
theorem wd_223 : Jvm.Cond.fieldLinkNest "PhraseRoads" (172 : Nat) "PhraseRoads$Knowledge" "costs" "[I" "PhraseRoads" ∈ lw_tbl := List.mem_of_getElem? (i := 223) (by decide +kernel)
theorem wd_224 : Jvm.Cond.fieldLink "PhraseRoads$Knowledge" (33 : Nat) "PhraseRoads$Knowledge" "gone" "[Z" ∈ lw_tbl := List.mem_of_getElem? (i := 224) (by decide +kernel)
theorem wd_225 : Jvm.Cond.fieldLinkNest "PhraseRoads" (175 : Nat) "PhraseRoads$Knowledge" "gone" "[Z" "PhraseRoads" ∈ lw_tbl := List.mem_of_getElem? (i := 225) (by decide +kernel)
theorem wd_226 : Jvm.Cond.fieldLinkNest "PhraseRoads$Options" (55 : Nat) "PhraseRoads$Knowledge" "phrases" "I" "PhraseRoads" ∈ lw_tbl := List.mem_of_getElem? (i := 226) (by decide +kernel)
theorem wd_227 : Jvm.Cond.fieldLink "PhraseRoads$Knowledge" (56 : Nat) "PhraseRoads$Knowledge" "phrases" "I" ∈ lw_tbl := List.mem_of_getElem? (i := 227) (by decide +kernel)
theorem wd_228 : Jvm.Cond.fieldLinkNest "PhraseRoads$Lesson" (50 : Nat) "PhraseRoads$Knowledge" "phrases" "I" "PhraseRoads" ∈ lw_tbl := List.mem_of_getElem? (i := 228) (by decide +kernel)
theorem wd_229 : Jvm.Cond.fieldLinkNest "PhraseRoads" (362 : Nat) "PhraseRoads$Knowledge" "phrases" "I" "PhraseRoads" ∈ lw_tbl := List.mem_of_getElem? (i := 229) (by decide +kernel)
theorem wd_230 : Jvm.Cond.fieldLink "PhraseRoads$Knowledge" (37 : Nat) "PhraseRoads$Knowledge" "flows" "[I" ∈ lw_tbl := List.mem_of_getElem? (i := 230) (by decide +kernel)
theorem wd_231 : Jvm.Cond.fieldLink "PhraseRoads$Knowledge" (59 : Nat) "PhraseRoads$Knowledge" "pairs" "I" ∈ lw_tbl := List.mem_of_getElem? (i := 231) (by decide +kernel)
theorem wd_232 : Jvm.Cond.fieldLinkNest "PhraseRoads" (117 : Nat) "PhraseRoads$Knowledge" "pairs" "I" "PhraseRoads" ∈ lw_tbl := List.mem_of_getElem? (i := 232) (by decide +kernel)
theorem wd_233 : Jvm.Cond.fieldLink "PhraseRoads$Knowledge" (40 : Nat) "PhraseRoads$Knowledge" "places" "[I" ∈ lw_tbl := List.mem_of_getElem? (i := 233) (by decide +kernel)
theorem wd_234 : Jvm.Cond.fieldLinkNest "PhraseRoads$Options" (81 : Nat) "PhraseRoads$Knowledge" "places" "[I" "PhraseRoads" ∈ lw_tbl := List.mem_of_getElem? (i := 234) (by decide +kernel)
theorem wd_235 : Jvm.Cond.fieldLinkNest "PhraseRoads" (211 : Nat) "PhraseRoads$Knowledge" "places" "[I" "PhraseRoads" ∈ lw_tbl := List.mem_of_getElem? (i := 235) (by decide +kernel)
theorem wd_236 : Jvm.Cond.fieldLinkNest "PhraseRoads$Options" (43 : Nat) "PhraseRoads$Knowledge" "size" "I" "PhraseRoads" ∈ lw_tbl := List.mem_of_getElem? (i := 236) (by decide +kernel)
theorem wd_237 : Jvm.Cond.fieldLink "PhraseRoads$Knowledge" (62 : Nat) "PhraseRoads$Knowledge" "size" "I" ∈ lw_tbl := List.mem_of_getElem? (i := 237) (by decide +kernel)
theorem wd_238 : Jvm.Cond.fieldLinkNest "PhraseRoads" (127 : Nat) "PhraseRoads$Knowledge" "size" "I" "PhraseRoads" ∈ lw_tbl := List.mem_of_getElem? (i := 238) (by decide +kernel)
theorem wd_239 : Jvm.Cond.fieldLink "PhraseRoads$Knowledge" (43 : Nat) "PhraseRoads$Knowledge" "settings" "[I" ∈ lw_tbl := List.mem_of_getElem? (i := 239) (by decide +kernel)
theorem wd_240 : Jvm.Cond.fieldLinkNest "PhraseRoads$Options" (78 : Nat) "PhraseRoads$Knowledge" "settings" "[I" "PhraseRoads" ∈ lw_tbl := List.mem_of_getElem? (i := 240) (by decide +kernel)
theorem wd_241 : Jvm.Cond.fieldLinkNest "PhraseRoads" (237 : Nat) "PhraseRoads$Knowledge" "settings" "[I" "PhraseRoads" ∈ lw_tbl := List.mem_of_getElem? (i := 241) (by decide +kernel)
theorem wd_275 : Jvm.Cond.classLink "PhraseRoads" (22 : Nat) "PhraseRoads$Reader" ∈ lw_tbl := List.mem_of_getElem? (i := 275) (by decide +kernel)
theorem wd_276 : Jvm.Cond.instantiable "PhraseRoads$Reader" (18 : Nat) ∈ lw_tbl := List.mem_of_getElem? (i := 276) (by decide +kernel)
theorem wd_277 : Jvm.Cond.methodLinkNest "PhraseRoads" (24 : Nat) ({ cls := "PhraseRoads$Reader", name := "<init>", desc := "(LPhraseRoads$Knowledge;)V" } : Jvm.MethodName) "PhraseRoads" ∈ lw_tbl := List.mem_of_getElem? (i := 277) (by decide +kernel)
theorem wd_278 : Jvm.Cond.instanceMethod ({ cls := "PhraseRoads$Reader", name := "<init>", desc := "(LPhraseRoads$Knowledge;)V" } : Jvm.MethodName) ∈ lw_tbl := List.mem_of_getElem? (i := 278) (by decide +kernel)
theorem wd_279 : Jvm.Cond.code ({ cls := "PhraseRoads$Reader", name := "<init>", desc := "(LPhraseRoads$Knowledge;)V" } : Jvm.MethodName) prog_8_method_1_code (2 : Nat) (Option.none : Option Jvm.ClassFile.FieldType) ∈ lw_tbl := List.mem_of_getElem? (i := 279) (by decide +kernel)
theorem wd_280 : Jvm.Cond.methodLink "PhraseRoads$Reader" (3 : Nat) ({ cls := "java/lang/Object", name := "<init>", desc := "()V" } : Jvm.MethodName) ∈ lw_tbl := List.mem_of_getElem? (i := 280) (by decide +kernel)
theorem wd_281 : Jvm.Cond.fieldLink "PhraseRoads$Reader" (9 : Nat) "PhraseRoads$Reader" "bytes" "[I" ∈ lw_tbl := List.mem_of_getElem? (i := 281) (by decide +kernel)
theorem wd_282 : Jvm.Cond.fieldLinkNest "PhraseRoads" (86 : Nat) "PhraseRoads$Reader" "length" "I" "PhraseRoads" ∈ lw_tbl := List.mem_of_getElem? (i := 282) (by decide +kernel)
theorem wd_283 : Jvm.Cond.fieldLink "PhraseRoads$Reader" (50 : Nat) "PhraseRoads$Reader" "length" "I" ∈ lw_tbl := List.mem_of_getElem? (i := 283) (by decide +kernel)
theorem wd_284 : Jvm.Cond.fieldLink "PhraseRoads$Reader" (15 : Nat) "PhraseRoads$Reader" "bad" "I" ∈ lw_tbl := List.mem_of_getElem? (i := 284) (by decide +kernel)
theorem wd_285 : Jvm.Cond.fieldLinkNest "PhraseRoads" (150 : Nat) "PhraseRoads$Reader" "bad" "I" "PhraseRoads" ∈ lw_tbl := List.mem_of_getElem? (i := 285) (by decide +kernel)
theorem wd_286 : Jvm.Cond.fieldLink "PhraseRoads$Reader" (19 : Nat) "PhraseRoads$Reader" "begins" "[I" ∈ lw_tbl := List.mem_of_getElem? (i := 286) (by decide +kernel)
theorem wd_287 : Jvm.Cond.fieldLinkNest "PhraseRoads$Knowledge" (89 : Nat) "PhraseRoads$Reader" "begins" "[I" "PhraseRoads" ∈ lw_tbl := List.mem_of_getElem? (i := 287) (by decide +kernel)
theorem wd_288 : Jvm.Cond.fieldLink "PhraseRoads$Reader" (22 : Nat) "PhraseRoads$Reader" "sources" "[I" ∈ lw_tbl := List.mem_of_getElem? (i := 288) (by decide +kernel)
theorem wd_289 : Jvm.Cond.fieldLinkNest "PhraseRoads$Knowledge" (82 : Nat) "PhraseRoads$Reader" "sources" "[I" "PhraseRoads" ∈ lw_tbl := List.mem_of_getElem? (i := 289) (by decide +kernel)
theorem wd_290 : Jvm.Cond.fieldLink "PhraseRoads$Reader" (25 : Nat) "PhraseRoads$Reader" "sourceSizes" "[I" ∈ lw_tbl := List.mem_of_getElem? (i := 290) (by decide +kernel)
theorem wd_291 : Jvm.Cond.fieldLinkNest "PhraseRoads$Knowledge" (83 : Nat) "PhraseRoads$Reader" "sourceSizes" "[I" "PhraseRoads" ∈ lw_tbl := List.mem_of_getElem? (i := 291) (by decide +kernel)
theorem wd_292 : Jvm.Cond.fieldLink "PhraseRoads$Reader" (28 : Nat) "PhraseRoads$Reader" "targets" "[I" ∈ lw_tbl := List.mem_of_getElem? (i := 292) (by decide +kernel)
theorem wd_293 : Jvm.Cond.fieldLinkNest "PhraseRoads$Knowledge" (84 : Nat) "PhraseRoads$Reader" "targets" "[I" "PhraseRoads" ∈ lw_tbl := List.mem_of_getElem? (i := 293) (by decide +kernel)
theorem wd_294 : Jvm.Cond.fieldLink "PhraseRoads$Reader" (31 : Nat) "PhraseRoads$Reader" "targetSizes" "[I" ∈ lw_tbl := List.mem_of_getElem? (i := 294) (by decide +kernel)
theorem wd_295 : Jvm.Cond.fieldLinkNest "PhraseRoads$Knowledge" (85 : Nat) "PhraseRoads$Reader" "targetSizes" "[I" "PhraseRoads" ∈ lw_tbl := List.mem_of_getElem? (i := 295) (by decide +kernel)
theorem wd_296 : Jvm.Cond.fieldLink "PhraseRoads$Reader" (34 : Nat) "PhraseRoads$Reader" "numbers" "[I" ∈ lw_tbl := List.mem_of_getElem? (i := 296) (by decide +kernel)
theorem wd_297 : Jvm.Cond.fieldLinkNest "PhraseRoads$Knowledge" (86 : Nat) "PhraseRoads$Reader" "numbers" "[I" "PhraseRoads" ∈ lw_tbl := List.mem_of_getElem? (i := 297) (by decide +kernel)
theorem wd_298 : Jvm.Cond.fieldLink "PhraseRoads$Reader" (107 : Nat) "PhraseRoads$Reader" "entries" "I" ∈ lw_tbl := List.mem_of_getElem? (i := 298) (by decide +kernel)
theorem wd_299 : Jvm.Cond.fieldLinkNest "PhraseRoads$Knowledge" (73 : Nat) "PhraseRoads$Reader" "entries" "I" "PhraseRoads" ∈ lw_tbl := List.mem_of_getElem? (i := 299) (by decide +kernel)
theorem wd_300 : Jvm.Cond.fieldLink "PhraseRoads$Reader" (37 : Nat) "PhraseRoads$Reader" "row" "[I" ∈ lw_tbl := List.mem_of_getElem? (i := 300) (by decide +kernel)
theorem wd_301 : Jvm.Cond.fieldLinkNest "PhraseRoads$Lesson" (28 : Nat) "PhraseRoads$Reader" "row" "[I" "PhraseRoads" ∈ lw_tbl := List.mem_of_getElem? (i := 301) (by decide +kernel)
theorem wd_302 : Jvm.Cond.fieldLinkNest "PhraseRoads$Knowledge" (103 : Nat) "PhraseRoads$Reader" "row" "[I" "PhraseRoads" ∈ lw_tbl := List.mem_of_getElem? (i := 302) (by decide +kernel)
theorem wd_303 : Jvm.Cond.fieldLinkNest "PhraseRoads" (327 : Nat) "PhraseRoads$Reader" "row" "[I" "PhraseRoads" ∈ lw_tbl := List.mem_of_getElem? (i := 303) (by decide +kernel)
theorem wd_304 : Jvm.Cond.fieldLinkNest "PhraseRoads$Lesson" (9 : Nat) "PhraseRoads$Reader" "rowSize" "I" "PhraseRoads" ∈ lw_tbl := List.mem_of_getElem? (i := 304) (by decide +kernel)
theorem wd_305 : Jvm.Cond.fieldLink "PhraseRoads$Reader" (75 : Nat) "PhraseRoads$Reader" "rowSize" "I" ∈ lw_tbl := List.mem_of_getElem? (i := 305) (by decide +kernel)
theorem wd_306 : Jvm.Cond.fieldLinkNest "PhraseRoads$Knowledge" (100 : Nat) "PhraseRoads$Reader" "rowSize" "I" "PhraseRoads" ∈ lw_tbl := List.mem_of_getElem? (i := 306) (by decide +kernel)
theorem wd_307 : Jvm.Cond.fieldLinkNest "PhraseRoads" (330 : Nat) "PhraseRoads$Reader" "rowSize" "I" "PhraseRoads" ∈ lw_tbl := List.mem_of_getElem? (i := 307) (by decide +kernel)
theorem wd_308 : Jvm.Cond.fieldLink "PhraseRoads$Reader" (40 : Nat) "PhraseRoads$Reader" "otherRow" "[I" ∈ lw_tbl := List.mem_of_getElem? (i := 308) (by decide +kernel)
theorem wd_309 : Jvm.Cond.fieldLinkNest "PhraseRoads$Lesson" (32 : Nat) "PhraseRoads$Reader" "otherRow" "[I" "PhraseRoads" ∈ lw_tbl := List.mem_of_getElem? (i := 309) (by decide +kernel)
theorem wd_310 : Jvm.Cond.fieldLinkNest "PhraseRoads$Lesson" (21 : Nat) "PhraseRoads$Reader" "otherSize" "I" "PhraseRoads" ∈ lw_tbl := List.mem_of_getElem? (i := 310) (by decide +kernel)
theorem wd_311 : Jvm.Cond.fieldLink "PhraseRoads$Reader" (87 : Nat) "PhraseRoads$Reader" "otherSize" "I" ∈ lw_tbl := List.mem_of_getElem? (i := 311) (by decide +kernel)
theorem wd_312 : Jvm.Cond.fieldLink "PhraseRoads$Reader" (43 : Nat) "PhraseRoads$Reader" "links" "[I" ∈ lw_tbl := List.mem_of_getElem? (i := 312) (by decide +kernel)
theorem wd_313 : Jvm.Cond.fieldLinkNest "PhraseRoads$Lesson" (64 : Nat) "PhraseRoads$Reader" "links" "[I" "PhraseRoads" ∈ lw_tbl := List.mem_of_getElem? (i := 313) (by decide +kernel)
theorem wd_314 : Jvm.Cond.fieldLink "PhraseRoads$Reader" (57 : Nat) "PhraseRoads$Reader" "at" "I" ∈ lw_tbl := List.mem_of_getElem? (i := 314) (by decide +kernel)
theorem wd_315 : Jvm.Cond.fieldLink "PhraseRoads$Reader" (46 : Nat) "PhraseRoads$Reader" "dictionary" "LPhraseRoads$Knowledge;" ∈ lw_tbl := List.mem_of_getElem? (i := 315) (by decide +kernel)
theorem wd_316 : Jvm.Cond.fieldLink "PhraseRoads$Reader" (103 : Nat) "PhraseRoads$Reader" "growing" "Z" ∈ lw_tbl := List.mem_of_getElem? (i := 316) (by decide +kernel)
theorem wd_354 : Jvm.Cond.classLink "PhraseRoads" (31 : Nat) "PhraseRoads$Options" ∈ lw_tbl := List.mem_of_getElem? (i := 354) (by decide +kernel)
theorem wd_355 : Jvm.Cond.instantiable "PhraseRoads$Options" (12 : Nat) ∈ lw_tbl := List.mem_of_getElem? (i := 355) (by decide +kernel)
theorem wd_356 : Jvm.Cond.methodLinkNest "PhraseRoads" (33 : Nat) ({ cls := "PhraseRoads$Options", name := "<init>", desc := "(LPhraseRoads$Knowledge;)V" } : Jvm.MethodName) "PhraseRoads" ∈ lw_tbl := List.mem_of_getElem? (i := 356) (by decide +kernel)
theorem wd_357 : Jvm.Cond.instanceMethod ({ cls := "PhraseRoads$Options", name := "<init>", desc := "(LPhraseRoads$Knowledge;)V" } : Jvm.MethodName) ∈ lw_tbl := List.mem_of_getElem? (i := 357) (by decide +kernel)
theorem wd_358 : Jvm.Cond.code ({ cls := "PhraseRoads$Options", name := "<init>", desc := "(LPhraseRoads$Knowledge;)V" } : Jvm.MethodName) prog_7_method_1_code (2 : Nat) (Option.none : Option Jvm.ClassFile.FieldType) ∈ lw_tbl := List.mem_of_getElem? (i := 358) (by decide +kernel)
theorem wd_359 : Jvm.Cond.methodLink "PhraseRoads$Options" (3 : Nat) ({ cls := "java/lang/Object", name := "<init>", desc := "()V" } : Jvm.MethodName) ∈ lw_tbl := List.mem_of_getElem? (i := 359) (by decide +kernel)
theorem wd_360 : Jvm.Cond.fieldLink "PhraseRoads$Options" (9 : Nat) "PhraseRoads$Options" "starts" "[I" ∈ lw_tbl := List.mem_of_getElem? (i := 360) (by decide +kernel)
theorem wd_361 : Jvm.Cond.fieldLinkNest "PhraseRoads$Stretches" (35 : Nat) "PhraseRoads$Options" "starts" "[I" "PhraseRoads" ∈ lw_tbl := List.mem_of_getElem? (i := 361) (by decide +kernel)
theorem wd_362 : Jvm.Cond.fieldLinkNest "PhraseRoads" (279 : Nat) "PhraseRoads$Options" "starts" "[I" "PhraseRoads" ∈ lw_tbl := List.mem_of_getElem? (i := 362) (by decide +kernel)
theorem wd_363 : Jvm.Cond.fieldLink "PhraseRoads$Options" (15 : Nat) "PhraseRoads$Options" "ends" "[I" ∈ lw_tbl := List.mem_of_getElem? (i := 363) (by decide +kernel)
theorem wd_364 : Jvm.Cond.fieldLinkNest "PhraseRoads$Stretches" (38 : Nat) "PhraseRoads$Options" "ends" "[I" "PhraseRoads" ∈ lw_tbl := List.mem_of_getElem? (i := 364) (by decide +kernel)
theorem wd_365 : Jvm.Cond.fieldLinkNest "PhraseRoads$Counting" (55 : Nat) "PhraseRoads$Options" "ends" "[I" "PhraseRoads" ∈ lw_tbl := List.mem_of_getElem? (i := 365) (by decide +kernel)
theorem wd_366 : Jvm.Cond.fieldLinkNest "PhraseRoads$Ways" (99 : Nat) "PhraseRoads$Options" "ends" "[I" "PhraseRoads" ∈ lw_tbl := List.mem_of_getElem? (i := 366) (by decide +kernel)
theorem wd_367 : Jvm.Cond.fieldLinkNest "PhraseRoads$Knots" (33 : Nat) "PhraseRoads$Options" "ends" "[I" "PhraseRoads" ∈ lw_tbl := List.mem_of_getElem? (i := 367) (by decide +kernel)
theorem wd_368 : Jvm.Cond.fieldLink "PhraseRoads$Options" (18 : Nat) "PhraseRoads$Options" "covers" "[I" ∈ lw_tbl := List.mem_of_getElem? (i := 368) (by decide +kernel)
theorem wd_369 : Jvm.Cond.fieldLinkNest "PhraseRoads$Counting" (49 : Nat) "PhraseRoads$Options" "covers" "[I" "PhraseRoads" ∈ lw_tbl := List.mem_of_getElem? (i := 369) (by decide +kernel)
theorem wd_370 : Jvm.Cond.fieldLinkNest "PhraseRoads$Knots" (28 : Nat) "PhraseRoads$Options" "covers" "[I" "PhraseRoads" ∈ lw_tbl := List.mem_of_getElem? (i := 370) (by decide +kernel)
theorem wd_371 : Jvm.Cond.fieldLinkNest "PhraseRoads$Stacks" (135 : Nat) "PhraseRoads$Options" "covers" "[I" "PhraseRoads" ∈ lw_tbl := List.mem_of_getElem? (i := 371) (by decide +kernel)
theorem wd_372 : Jvm.Cond.fieldLinkNest "PhraseRoads$Ways" (124 : Nat) "PhraseRoads$Options" "covers" "[I" "PhraseRoads" ∈ lw_tbl := List.mem_of_getElem? (i := 372) (by decide +kernel)
theorem wd_373 : Jvm.Cond.fieldLink "PhraseRoads$Options" (21 : Nat) "PhraseRoads$Options" "numbers" "[I" ∈ lw_tbl := List.mem_of_getElem? (i := 373) (by decide +kernel)
theorem wd_374 : Jvm.Cond.fieldLinkNest "PhraseRoads$Knots" (98 : Nat) "PhraseRoads$Options" "numbers" "[I" "PhraseRoads" ∈ lw_tbl := List.mem_of_getElem? (i := 374) (by decide +kernel)
theorem wd_375 : Jvm.Cond.fieldLinkNest "PhraseRoads" (282 : Nat) "PhraseRoads$Options" "numbers" "[I" "PhraseRoads" ∈ lw_tbl := List.mem_of_getElem? (i := 375) (by decide +kernel)
theorem wd_376 : Jvm.Cond.fieldLink "PhraseRoads$Options" (24 : Nat) "PhraseRoads$Options" "targets" "[I" ∈ lw_tbl := List.mem_of_getElem? (i := 376) (by decide +kernel)
theorem wd_377 : Jvm.Cond.fieldLinkNest "PhraseRoads$Ways" (90 : Nat) "PhraseRoads$Options" "targets" "[I" "PhraseRoads" ∈ lw_tbl := List.mem_of_getElem? (i := 377) (by decide +kernel)
theorem wd_378 : Jvm.Cond.fieldLinkNest "PhraseRoads$Counting" (81 : Nat) "PhraseRoads$Options" "targets" "[I" "PhraseRoads" ∈ lw_tbl := List.mem_of_getElem? (i := 378) (by decide +kernel)
theorem wd_379 : Jvm.Cond.fieldLink "PhraseRoads$Options" (27 : Nat) "PhraseRoads$Options" "targetSizes" "[I" ∈ lw_tbl := List.mem_of_getElem? (i := 379) (by decide +kernel)
theorem wd_380 : Jvm.Cond.fieldLinkNest "PhraseRoads$Ways" (87 : Nat) "PhraseRoads$Options" "targetSizes" "[I" "PhraseRoads" ∈ lw_tbl := List.mem_of_getElem? (i := 380) (by decide +kernel)
theorem wd_381 : Jvm.Cond.fieldLinkNest "PhraseRoads$Counting" (75 : Nat) "PhraseRoads$Options" "targetSizes" "[I" "PhraseRoads" ∈ lw_tbl := List.mem_of_getElem? (i := 381) (by decide +kernel)
theorem wd_382 : Jvm.Cond.fieldLink "PhraseRoads$Options" (30 : Nat) "PhraseRoads$Options" "firsts" "[I" ∈ lw_tbl := List.mem_of_getElem? (i := 382) (by decide +kernel)
theorem wd_383 : Jvm.Cond.fieldLink "PhraseRoads$Options" (33 : Nat) "PhraseRoads$Options" "lasts" "[I" ∈ lw_tbl := List.mem_of_getElem? (i := 383) (by decide +kernel)
theorem wd_384 : Jvm.Cond.fieldLinkNest "PhraseRoads$Ways" (100 : Nat) "PhraseRoads$Options" "lasts" "[I" "PhraseRoads" ∈ lw_tbl := List.mem_of_getElem? (i := 384) (by decide +kernel)
theorem wd_385 : Jvm.Cond.fieldLinkNest "PhraseRoads$Knots" (36 : Nat) "PhraseRoads$Options" "lasts" "[I" "PhraseRoads" ∈ lw_tbl := List.mem_of_getElem? (i := 385) (by decide +kernel)
theorem wd_386 : Jvm.Cond.fieldLink "PhraseRoads$Options" (36 : Nat) "PhraseRoads$Options" "owns" "[I" ∈ lw_tbl := List.mem_of_getElem? (i := 386) (by decide +kernel)
theorem wd_387 : Jvm.Cond.fieldLinkNest "PhraseRoads$Stretches" (41 : Nat) "PhraseRoads$Options" "owns" "[I" "PhraseRoads" ∈ lw_tbl := List.mem_of_getElem? (i := 387) (by decide +kernel)
theorem wd_388 : Jvm.Cond.fieldLink "PhraseRoads$Options" (52 : Nat) "PhraseRoads$Options" "many" "I" ∈ lw_tbl := List.mem_of_getElem? (i := 388) (by decide +kernel)
theorem wd_389 : Jvm.Cond.fieldLinkNest "PhraseRoads$Stretches" (29 : Nat) "PhraseRoads$Options" "many" "I" "PhraseRoads" ∈ lw_tbl := List.mem_of_getElem? (i := 389) (by decide +kernel)
theorem wd_390 : Jvm.Cond.fieldLinkNest "PhraseRoads$Counting" (45 : Nat) "PhraseRoads$Options" "many" "I" "PhraseRoads" ∈ lw_tbl := List.mem_of_getElem? (i := 390) (by decide +kernel)
theorem wd_391 : Jvm.Cond.fieldLinkNest "PhraseRoads$Stacks" (131 : Nat) "PhraseRoads$Options" "many" "I" "PhraseRoads" ∈ lw_tbl := List.mem_of_getElem? (i := 391) (by decide +kernel)
theorem wd_392 : Jvm.Cond.fieldLinkNest "PhraseRoads$Ways" (123 : Nat) "PhraseRoads$Options" "many" "I" "PhraseRoads" ∈ lw_tbl := List.mem_of_getElem? (i := 392) (by decide +kernel)
theorem wd_393 : Jvm.Cond.fieldLinkNest "PhraseRoads$Knots" (72 : Nat) "PhraseRoads$Options" "many" "I" "PhraseRoads" ∈ lw_tbl := List.mem_of_getElem? (i := 393) (by decide +kernel)
theorem wd_394 : Jvm.Cond.fieldLink "PhraseRoads$Options" (49 : Nat) "PhraseRoads$Options" "places" "I" ∈ lw_tbl := List.mem_of_getElem? (i := 394) (by decide +kernel)
theorem wd_395 : Jvm.Cond.fieldLinkNest "PhraseRoads$Stacks" (77 : Nat) "PhraseRoads$Options" "places" "I" "PhraseRoads" ∈ lw_tbl := List.mem_of_getElem? (i := 395) (by decide +kernel)
theorem wd_396 : Jvm.Cond.fieldLinkNest "PhraseRoads$Stretches" (50 : Nat) "PhraseRoads$Options" "places" "I" "PhraseRoads" ∈ lw_tbl := List.mem_of_getElem? (i := 396) (by decide +kernel)
theorem wd_397 : Jvm.Cond.fieldLinkNest "PhraseRoads$Knots" (47 : Nat) "PhraseRoads$Options" "places" "I" "PhraseRoads" ∈ lw_tbl := List.mem_of_getElem? (i := 397) (by decide +kernel)
theorem wd_398 : Jvm.Cond.fieldLink "PhraseRoads$Options" (39 : Nat) "PhraseRoads$Options" "known" "LPhraseRoads$Knowledge;" ∈ lw_tbl := List.mem_of_getElem? (i := 398) (by decide +kernel)
theorem wd_424 : Jvm.Cond.classLink "PhraseRoads" (38 : Nat) "PhraseRoads$Knots" ∈ lw_tbl := List.mem_of_getElem? (i := 424) (by decide +kernel)
theorem wd_425 : Jvm.Cond.instantiable "PhraseRoads$Knots" (9 : Nat) ∈ lw_tbl := List.mem_of_getElem? (i := 425) (by decide +kernel)
theorem wd_426 : Jvm.Cond.methodLinkNest "PhraseRoads" (40 : Nat) ({ cls := "PhraseRoads$Knots", name := "<init>", desc := "(LPhraseRoads$Options;)V" } : Jvm.MethodName) "PhraseRoads" ∈ lw_tbl := List.mem_of_getElem? (i := 426) (by decide +kernel)
theorem wd_427 : Jvm.Cond.instanceMethod ({ cls := "PhraseRoads$Knots", name := "<init>", desc := "(LPhraseRoads$Options;)V" } : Jvm.MethodName) ∈ lw_tbl := List.mem_of_getElem? (i := 427) (by decide +kernel)
theorem wd_428 : Jvm.Cond.code ({ cls := "PhraseRoads$Knots", name := "<init>", desc := "(LPhraseRoads$Options;)V" } : Jvm.MethodName) prog_3_method_1_code (2 : Nat) (Option.none : Option Jvm.ClassFile.FieldType) ∈ lw_tbl := List.mem_of_getElem? (i := 428) (by decide +kernel)
theorem wd_429 : Jvm.Cond.methodLink "PhraseRoads$Knots" (3 : Nat) ({ cls := "java/lang/Object", name := "<init>", desc := "()V" } : Jvm.MethodName) ∈ lw_tbl := List.mem_of_getElem? (i := 429) (by decide +kernel)
theorem wd_430 : Jvm.Cond.fieldLink "PhraseRoads$Knots" (24 : Nat) "PhraseRoads$Knots" "options" "LPhraseRoads$Options;" ∈ lw_tbl := List.mem_of_getElem? (i := 430) (by decide +kernel)
theorem wd_431 : Jvm.Cond.fieldLink "PhraseRoads$Knots" (9 : Nat) "PhraseRoads$Knots" "seats" "[I" ∈ lw_tbl := List.mem_of_getElem? (i := 431) (by decide +kernel)
theorem wd_432 : Jvm.Cond.fieldLink "PhraseRoads$Knots" (15 : Nat) "PhraseRoads$Knots" "codes" "[I" ∈ lw_tbl := List.mem_of_getElem? (i := 432) (by decide +kernel)
theorem wd_433 : Jvm.Cond.fieldLink "PhraseRoads$Knots" (18 : Nat) "PhraseRoads$Knots" "rests" "[I" ∈ lw_tbl := List.mem_of_getElem? (i := 433) (by decide +kernel)
theorem wd_434 : Jvm.Cond.fieldLinkNest "PhraseRoads$Ways" (134 : Nat) "PhraseRoads$Knots" "rests" "[I" "PhraseRoads" ∈ lw_tbl := List.mem_of_getElem? (i := 434) (by decide +kernel)
theorem wd_435 : Jvm.Cond.fieldLink "PhraseRoads$Knots" (21 : Nat) "PhraseRoads$Knots" "firsts" "[I" ∈ lw_tbl := List.mem_of_getElem? (i := 435) (by decide +kernel)
theorem wd_436 : Jvm.Cond.fieldLinkNest "PhraseRoads$Stacks" (119 : Nat) "PhraseRoads$Knots" "firsts" "[I" "PhraseRoads" ∈ lw_tbl := List.mem_of_getElem? (i := 436) (by decide +kernel)
theorem wd_437 : Jvm.Cond.fieldLinkNest "PhraseRoads$Stacks" (52 : Nat) "PhraseRoads$Knots" "many" "I" "PhraseRoads" ∈ lw_tbl := List.mem_of_getElem? (i := 437) (by decide +kernel)
theorem wd_438 : Jvm.Cond.fieldLink "PhraseRoads$Knots" (43 : Nat) "PhraseRoads$Knots" "many" "I" ∈ lw_tbl := List.mem_of_getElem? (i := 438) (by decide +kernel)
theorem wd_439 : Jvm.Cond.fieldLinkNest "PhraseRoads$Ways" (81 : Nat) "PhraseRoads$Knots" "jump" "I" "PhraseRoads" ∈ lw_tbl := List.mem_of_getElem? (i := 439) (by decide +kernel)
theorem wd_440 : Jvm.Cond.fieldLink "PhraseRoads$Knots" (73 : Nat) "PhraseRoads$Knots" "jump" "I" ∈ lw_tbl := List.mem_of_getElem? (i := 440) (by decide +kernel)
theorem wd_441 : Jvm.Cond.fieldLinkNest "PhraseRoads$Ways" (127 : Nat) "PhraseRoads$Knots" "far" "I" "PhraseRoads" ∈ lw_tbl := List.mem_of_getElem? (i := 441) (by decide +kernel)
theorem wd_442 : Jvm.Cond.fieldLink "PhraseRoads$Knots" (76 : Nat) "PhraseRoads$Knots" "far" "I" ∈ lw_tbl := List.mem_of_getElem? (i := 442) (by decide +kernel)
theorem wd_443 : Jvm.Cond.fieldLink "PhraseRoads$Knots" (79 : Nat) "PhraseRoads$Knots" "without" "I" ∈ lw_tbl := List.mem_of_getElem? (i := 443) (by decide +kernel)
theorem wd_463 : Jvm.Cond.classLink "PhraseRoads" (47 : Nat) "PhraseRoads$Ways" ∈ lw_tbl := List.mem_of_getElem? (i := 463) (by decide +kernel)
theorem wd_464 : Jvm.Cond.instantiable "PhraseRoads$Ways" (14 : Nat) ∈ lw_tbl := List.mem_of_getElem? (i := 464) (by decide +kernel)
theorem wd_465 : Jvm.Cond.methodLinkNest "PhraseRoads" (49 : Nat) ({ cls := "PhraseRoads$Ways", name := "<init>", desc := "(LPhraseRoads$Options;LPhraseRoads$Knots;)V" } : Jvm.MethodName) "PhraseRoads" ∈ lw_tbl := List.mem_of_getElem? (i := 465) (by decide +kernel)
theorem wd_466 : Jvm.Cond.instanceMethod ({ cls := "PhraseRoads$Ways", name := "<init>", desc := "(LPhraseRoads$Options;LPhraseRoads$Knots;)V" } : Jvm.MethodName) ∈ lw_tbl := List.mem_of_getElem? (i := 466) (by decide +kernel)
theorem wd_467 : Jvm.Cond.code ({ cls := "PhraseRoads$Ways", name := "<init>", desc := "(LPhraseRoads$Options;LPhraseRoads$Knots;)V" } : Jvm.MethodName) prog_11_method_1_code (3 : Nat) (Option.none : Option Jvm.ClassFile.FieldType) ∈ lw_tbl := List.mem_of_getElem? (i := 467) (by decide +kernel)
theorem wd_468 : Jvm.Cond.methodLink "PhraseRoads$Ways" (3 : Nat) ({ cls := "java/lang/Object", name := "<init>", desc := "()V" } : Jvm.MethodName) ∈ lw_tbl := List.mem_of_getElem? (i := 468) (by decide +kernel)
theorem wd_469 : Jvm.Cond.fieldLink "PhraseRoads$Ways" (37 : Nat) "PhraseRoads$Ways" "options" "LPhraseRoads$Options;" ∈ lw_tbl := List.mem_of_getElem? (i := 469) (by decide +kernel)
theorem wd_470 : Jvm.Cond.fieldLink "PhraseRoads$Ways" (41 : Nat) "PhraseRoads$Ways" "knots" "LPhraseRoads$Knots;" ∈ lw_tbl := List.mem_of_getElem? (i := 470) (by decide +kernel)
theorem wd_471 : Jvm.Cond.fieldLink "PhraseRoads$Ways" (9 : Nat) "PhraseRoads$Ways" "keys" "[J" ∈ lw_tbl := List.mem_of_getElem? (i := 471) (by decide +kernel)
theorem wd_472 : Jvm.Cond.fieldLink "PhraseRoads$Ways" (15 : Nat) "PhraseRoads$Ways" "ends" "[I" ∈ lw_tbl := List.mem_of_getElem? (i := 472) (by decide +kernel)
theorem wd_473 : Jvm.Cond.fieldLink "PhraseRoads$Ways" (19 : Nat) "PhraseRoads$Ways" "spent" "[I" ∈ lw_tbl := List.mem_of_getElem? (i := 473) (by decide +kernel)
theorem wd_474 : Jvm.Cond.fieldLink "PhraseRoads$Ways" (22 : Nat) "PhraseRoads$Ways" "depths" "[I" ∈ lw_tbl := List.mem_of_getElem? (i := 474) (by decide +kernel)
theorem wd_475 : Jvm.Cond.fieldLink "PhraseRoads$Ways" (49 : Nat) "PhraseRoads$Ways" "waiting" "I" ∈ lw_tbl := List.mem_of_getElem? (i := 475) (by decide +kernel)
theorem wd_476 : Jvm.Cond.fieldLink "PhraseRoads$Ways" (25 : Nat) "PhraseRoads$Ways" "ready" "[J" ∈ lw_tbl := List.mem_of_getElem? (i := 476) (by decide +kernel)
theorem wd_477 : Jvm.Cond.fieldLink "PhraseRoads$Ways" (45 : Nat) "PhraseRoads$Ways" "many" "I" ∈ lw_tbl := List.mem_of_getElem? (i := 477) (by decide +kernel)
theorem wd_478 : Jvm.Cond.fieldLink "PhraseRoads$Ways" (28 : Nat) "PhraseRoads$Ways" "steps" "[I" ∈ lw_tbl := List.mem_of_getElem? (i := 478) (by decide +kernel)
theorem wd_479 : Jvm.Cond.fieldLinkNest "PhraseRoads" (276 : Nat) "PhraseRoads$Ways" "steps" "[I" "PhraseRoads" ∈ lw_tbl := List.mem_of_getElem? (i := 479) (by decide +kernel)
theorem wd_480 : Jvm.Cond.fieldLink "PhraseRoads$Ways" (31 : Nat) "PhraseRoads$Ways" "stepCosts" "[I" ∈ lw_tbl := List.mem_of_getElem? (i := 480) (by decide +kernel)
theorem wd_481 : Jvm.Cond.fieldLinkNest "PhraseRoads" (273 : Nat) "PhraseRoads$Ways" "stepCosts" "[I" "PhraseRoads" ∈ lw_tbl := List.mem_of_getElem? (i := 481) (by decide +kernel)
theorem wd_482 : Jvm.Cond.fieldLink "PhraseRoads$Ways" (65 : Nat) "PhraseRoads$Ways" "size" "I" ∈ lw_tbl := List.mem_of_getElem? (i := 482) (by decide +kernel)
theorem wd_483 : Jvm.Cond.fieldLinkNest "PhraseRoads" (267 : Nat) "PhraseRoads$Ways" "size" "I" "PhraseRoads" ∈ lw_tbl := List.mem_of_getElem? (i := 483) (by decide +kernel)
theorem wd_484 : Jvm.Cond.fieldLink "PhraseRoads$Ways" (34 : Nat) "PhraseRoads$Ways" "text" "[I" ∈ lw_tbl := List.mem_of_getElem? (i := 484) (by decide +kernel)
theorem wd_485 : Jvm.Cond.fieldLinkNest "PhraseRoads" (285 : Nat) "PhraseRoads$Ways" "text" "[I" "PhraseRoads" ∈ lw_tbl := List.mem_of_getElem? (i := 485) (by decide +kernel)
theorem wd_486 : Jvm.Cond.fieldLink "PhraseRoads$Ways" (68 : Nat) "PhraseRoads$Ways" "textSize" "I" ∈ lw_tbl := List.mem_of_getElem? (i := 486) (by decide +kernel)
theorem wd_487 : Jvm.Cond.fieldLinkNest "PhraseRoads" (268 : Nat) "PhraseRoads$Ways" "textSize" "I" "PhraseRoads" ∈ lw_tbl := List.mem_of_getElem? (i := 487) (by decide +kernel)
theorem wd_518 : Jvm.Cond.classLink "PhraseRoads" (56 : Nat) "PhraseRoads$Stretches" ∈ lw_tbl := List.mem_of_getElem? (i := 518) (by decide +kernel)
theorem wd_519 : Jvm.Cond.instantiable "PhraseRoads$Stretches" (3 : Nat) ∈ lw_tbl := List.mem_of_getElem? (i := 519) (by decide +kernel)
theorem wd_520 : Jvm.Cond.methodLinkNest "PhraseRoads" (58 : Nat) ({ cls := "PhraseRoads$Stretches", name := "<init>", desc := "(LPhraseRoads$Options;)V" } : Jvm.MethodName) "PhraseRoads" ∈ lw_tbl := List.mem_of_getElem? (i := 520) (by decide +kernel)
theorem wd_521 : Jvm.Cond.instanceMethod ({ cls := "PhraseRoads$Stretches", name := "<init>", desc := "(LPhraseRoads$Options;)V" } : Jvm.MethodName) ∈ lw_tbl := List.mem_of_getElem? (i := 521) (by decide +kernel)
theorem wd_522 : Jvm.Cond.code ({ cls := "PhraseRoads$Stretches", name := "<init>", desc := "(LPhraseRoads$Options;)V" } : Jvm.MethodName) prog_10_method_1_code (2 : Nat) (Option.none : Option Jvm.ClassFile.FieldType) ∈ lw_tbl := List.mem_of_getElem? (i := 522) (by decide +kernel)
theorem wd_523 : Jvm.Cond.methodLink "PhraseRoads$Stretches" (3 : Nat) ({ cls := "java/lang/Object", name := "<init>", desc := "()V" } : Jvm.MethodName) ∈ lw_tbl := List.mem_of_getElem? (i := 523) (by decide +kernel)
theorem wd_524 : Jvm.Cond.fieldLink "PhraseRoads$Stretches" (18 : Nat) "PhraseRoads$Stretches" "options" "LPhraseRoads$Options;" ∈ lw_tbl := List.mem_of_getElem? (i := 524) (by decide +kernel)
theorem wd_525 : Jvm.Cond.fieldLink "PhraseRoads$Stretches" (9 : Nat) "PhraseRoads$Stretches" "costs" "[I" ∈ lw_tbl := List.mem_of_getElem? (i := 525) (by decide +kernel)
theorem wd_526 : Jvm.Cond.fieldLinkNest "PhraseRoads" (248 : Nat) "PhraseRoads$Stretches" "costs" "[I" "PhraseRoads" ∈ lw_tbl := List.mem_of_getElem? (i := 526) (by decide +kernel)
theorem wd_527 : Jvm.Cond.fieldLink "PhraseRoads$Stretches" (15 : Nat) "PhraseRoads$Stretches" "aheads" "[I" ∈ lw_tbl := List.mem_of_getElem? (i := 527) (by decide +kernel)
theorem wd_528 : Jvm.Cond.fieldLinkNest "PhraseRoads$Stacks" (114 : Nat) "PhraseRoads$Stretches" "aheads" "[I" "PhraseRoads" ∈ lw_tbl := List.mem_of_getElem? (i := 528) (by decide +kernel)
theorem wd_536 : Jvm.Cond.classLink "PhraseRoads" (63 : Nat) "PhraseRoads$Stacks" ∈ lw_tbl := List.mem_of_getElem? (i := 536) (by decide +kernel)
theorem wd_537 : Jvm.Cond.instantiable "PhraseRoads$Stacks" (18 : Nat) ∈ lw_tbl := List.mem_of_getElem? (i := 537) (by decide +kernel)
theorem wd_538 : Jvm.Cond.methodLinkNest "PhraseRoads" (65 : Nat) ({ cls := "PhraseRoads$Stacks", name := "<init>", desc := "(LPhraseRoads$Options;LPhraseRoads$Knots;LPhraseRoads$Stretches;)V" } : Jvm.MethodName) "PhraseRoads" ∈ lw_tbl := List.mem_of_getElem? (i := 538) (by decide +kernel)
theorem wd_539 : Jvm.Cond.instanceMethod ({ cls := "PhraseRoads$Stacks", name := "<init>", desc := "(LPhraseRoads$Options;LPhraseRoads$Knots;LPhraseRoads$Stretches;)V" } : Jvm.MethodName) ∈ lw_tbl := List.mem_of_getElem? (i := 539) (by decide +kernel)
theorem wd_540 : Jvm.Cond.code ({ cls := "PhraseRoads$Stacks", name := "<init>", desc := "(LPhraseRoads$Options;LPhraseRoads$Knots;LPhraseRoads$Stretches;)V" } : Jvm.MethodName) prog_9_method_1_code (4 : Nat) (Option.none : Option Jvm.ClassFile.FieldType) ∈ lw_tbl := List.mem_of_getElem? (i := 540) (by decide +kernel)
theorem wd_541 : Jvm.Cond.methodLink "PhraseRoads$Stacks" (3 : Nat) ({ cls := "java/lang/Object", name := "<init>", desc := "()V" } : Jvm.MethodName) ∈ lw_tbl := List.mem_of_getElem? (i := 541) (by decide +kernel)
theorem wd_542 : Jvm.Cond.fieldLink "PhraseRoads$Stacks" (40 : Nat) "PhraseRoads$Stacks" "options" "LPhraseRoads$Options;" ∈ lw_tbl := List.mem_of_getElem? (i := 542) (by decide +kernel)
theorem wd_543 : Jvm.Cond.fieldLink "PhraseRoads$Stacks" (44 : Nat) "PhraseRoads$Stacks" "knots" "LPhraseRoads$Knots;" ∈ lw_tbl := List.mem_of_getElem? (i := 543) (by decide +kernel)
theorem wd_544 : Jvm.Cond.fieldLink "PhraseRoads$Stacks" (48 : Nat) "PhraseRoads$Stacks" "stretches" "LPhraseRoads$Stretches;" ∈ lw_tbl := List.mem_of_getElem? (i := 544) (by decide +kernel)
theorem wd_545 : Jvm.Cond.fieldLink "PhraseRoads$Stacks" (9 : Nat) "PhraseRoads$Stacks" "costs" "[I" ∈ lw_tbl := List.mem_of_getElem? (i := 545) (by decide +kernel)
theorem wd_546 : Jvm.Cond.fieldLink "PhraseRoads$Stacks" (15 : Nat) "PhraseRoads$Stacks" "times" "[I" ∈ lw_tbl := List.mem_of_getElem? (i := 546) (by decide +kernel)
theorem wd_547 : Jvm.Cond.fieldLink "PhraseRoads$Stacks" (18 : Nat) "PhraseRoads$Stacks" "parents" "[I" ∈ lw_tbl := List.mem_of_getElem? (i := 547) (by decide +kernel)
theorem wd_548 : Jvm.Cond.fieldLink "PhraseRoads$Stacks" (21 : Nat) "PhraseRoads$Stacks" "steps" "[I" ∈ lw_tbl := List.mem_of_getElem? (i := 548) (by decide +kernel)
theorem wd_549 : Jvm.Cond.fieldLink "PhraseRoads$Stacks" (24 : Nat) "PhraseRoads$Stacks" "counts" "[I" ∈ lw_tbl := List.mem_of_getElem? (i := 549) (by decide +kernel)
theorem wd_550 : Jvm.Cond.fieldLinkNest "PhraseRoads" (318 : Nat) "PhraseRoads$Stacks" "counts" "[I" "PhraseRoads" ∈ lw_tbl := List.mem_of_getElem? (i := 550) (by decide +kernel)
theorem wd_551 : Jvm.Cond.fieldLink "PhraseRoads$Stacks" (27 : Nat) "PhraseRoads$Stacks" "leasts" "[I" ∈ lw_tbl := List.mem_of_getElem? (i := 551) (by decide +kernel)
theorem wd_552 : Jvm.Cond.fieldLinkNest "PhraseRoads" (321 : Nat) "PhraseRoads$Stacks" "leasts" "[I" "PhraseRoads" ∈ lw_tbl := List.mem_of_getElem? (i := 552) (by decide +kernel)
theorem wd_553 : Jvm.Cond.fieldLink "PhraseRoads$Stacks" (30 : Nat) "PhraseRoads$Stacks" "ranks" "[J" ∈ lw_tbl := List.mem_of_getElem? (i := 553) (by decide +kernel)
theorem wd_554 : Jvm.Cond.fieldLink "PhraseRoads$Stacks" (34 : Nat) "PhraseRoads$Stacks" "stayers" "[I" ∈ lw_tbl := List.mem_of_getElem? (i := 554) (by decide +kernel)
theorem wd_555 : Jvm.Cond.fieldLink "PhraseRoads$Stacks" (86 : Nat) "PhraseRoads$Stacks" "staying" "I" ∈ lw_tbl := List.mem_of_getElem? (i := 555) (by decide +kernel)
theorem wd_556 : Jvm.Cond.fieldLink "PhraseRoads$Stacks" (64 : Nat) "PhraseRoads$Stacks" "made" "I" ∈ lw_tbl := List.mem_of_getElem? (i := 556) (by decide +kernel)
theorem wd_557 : Jvm.Cond.fieldLinkNest "PhraseRoads" (299 : Nat) "PhraseRoads$Stacks" "made" "I" "PhraseRoads" ∈ lw_tbl := List.mem_of_getElem? (i := 557) (by decide +kernel)
theorem wd_558 : Jvm.Cond.fieldLink "PhraseRoads$Stacks" (67 : Nat) "PhraseRoads$Stacks" "merged" "I" ∈ lw_tbl := List.mem_of_getElem? (i := 558) (by decide +kernel)
theorem wd_559 : Jvm.Cond.fieldLinkNest "PhraseRoads" (302 : Nat) "PhraseRoads$Stacks" "merged" "I" "PhraseRoads" ∈ lw_tbl := List.mem_of_getElem? (i := 559) (by decide +kernel)
theorem wd_560 : Jvm.Cond.fieldLink "PhraseRoads$Stacks" (70 : Nat) "PhraseRoads$Stacks" "cut" "I" ∈ lw_tbl := List.mem_of_getElem? (i := 560) (by decide +kernel)
theorem wd_561 : Jvm.Cond.fieldLinkNest "PhraseRoads" (305 : Nat) "PhraseRoads$Stacks" "cut" "I" "PhraseRoads" ∈ lw_tbl := List.mem_of_getElem? (i := 561) (by decide +kernel)
theorem wd_562 : Jvm.Cond.fieldLink "PhraseRoads$Stacks" (145 : Nat) "PhraseRoads$Stacks" "foundCost" "I" ∈ lw_tbl := List.mem_of_getElem? (i := 562) (by decide +kernel)
theorem wd_563 : Jvm.Cond.fieldLinkNest "PhraseRoads" (293 : Nat) "PhraseRoads$Stacks" "foundCost" "I" "PhraseRoads" ∈ lw_tbl := List.mem_of_getElem? (i := 563) (by decide +kernel)
theorem wd_564 : Jvm.Cond.fieldLink "PhraseRoads$Stacks" (37 : Nat) "PhraseRoads$Stacks" "path" "[I" ∈ lw_tbl := List.mem_of_getElem? (i := 564) (by decide +kernel)
theorem wd_565 : Jvm.Cond.fieldLinkNest "PhraseRoads" (308 : Nat) "PhraseRoads$Stacks" "path" "[I" "PhraseRoads" ∈ lw_tbl := List.mem_of_getElem? (i := 565) (by decide +kernel)
theorem wd_566 : Jvm.Cond.fieldLink "PhraseRoads$Stacks" (155 : Nat) "PhraseRoads$Stacks" "pathSize" "I" ∈ lw_tbl := List.mem_of_getElem? (i := 566) (by decide +kernel)
theorem wd_567 : Jvm.Cond.fieldLinkNest "PhraseRoads" (296 : Nat) "PhraseRoads$Stacks" "pathSize" "I" "PhraseRoads" ∈ lw_tbl := List.mem_of_getElem? (i := 567) (by decide +kernel)
theorem wd_605 : Jvm.Cond.classLink "PhraseRoads" (72 : Nat) "PhraseRoads$Counting" ∈ lw_tbl := List.mem_of_getElem? (i := 605) (by decide +kernel)
theorem wd_606 : Jvm.Cond.instantiable "PhraseRoads$Counting" (3 : Nat) ∈ lw_tbl := List.mem_of_getElem? (i := 606) (by decide +kernel)
theorem wd_607 : Jvm.Cond.methodLinkNest "PhraseRoads" (74 : Nat) ({ cls := "PhraseRoads$Counting", name := "<init>", desc := "(LPhraseRoads$Options;)V" } : Jvm.MethodName) "PhraseRoads" ∈ lw_tbl := List.mem_of_getElem? (i := 607) (by decide +kernel)
theorem wd_608 : Jvm.Cond.instanceMethod ({ cls := "PhraseRoads$Counting", name := "<init>", desc := "(LPhraseRoads$Options;)V" } : Jvm.MethodName) ∈ lw_tbl := List.mem_of_getElem? (i := 608) (by decide +kernel)
theorem wd_609 : Jvm.Cond.code ({ cls := "PhraseRoads$Counting", name := "<init>", desc := "(LPhraseRoads$Options;)V" } : Jvm.MethodName) prog_2_method_1_code (2 : Nat) (Option.none : Option Jvm.ClassFile.FieldType) ∈ lw_tbl := List.mem_of_getElem? (i := 609) (by decide +kernel)
theorem wd_610 : Jvm.Cond.methodLink "PhraseRoads$Counting" (3 : Nat) ({ cls := "java/lang/Object", name := "<init>", desc := "()V" } : Jvm.MethodName) ∈ lw_tbl := List.mem_of_getElem? (i := 610) (by decide +kernel)
theorem wd_611 : Jvm.Cond.fieldLink "PhraseRoads$Counting" (18 : Nat) "PhraseRoads$Counting" "options" "LPhraseRoads$Options;" ∈ lw_tbl := List.mem_of_getElem? (i := 611) (by decide +kernel)
theorem wd_612 : Jvm.Cond.fieldLink "PhraseRoads$Counting" (9 : Nat) "PhraseRoads$Counting" "counts" "[I" ∈ lw_tbl := List.mem_of_getElem? (i := 612) (by decide +kernel)
theorem wd_613 : Jvm.Cond.fieldLink "PhraseRoads$Counting" (15 : Nat) "PhraseRoads$Counting" "costs" "[I" ∈ lw_tbl := List.mem_of_getElem? (i := 613) (by decide +kernel)
theorem wd_621 : Jvm.Cond.classLink "PhraseRoads" (79 : Nat) "PhraseRoads$Likeness" ∈ lw_tbl := List.mem_of_getElem? (i := 621) (by decide +kernel)
theorem wd_622 : Jvm.Cond.instantiable "PhraseRoads$Likeness" (4 : Nat) ∈ lw_tbl := List.mem_of_getElem? (i := 622) (by decide +kernel)
theorem wd_623 : Jvm.Cond.methodLinkNest "PhraseRoads" (81 : Nat) ({ cls := "PhraseRoads$Likeness", name := "<init>", desc := "()V" } : Jvm.MethodName) "PhraseRoads" ∈ lw_tbl := List.mem_of_getElem? (i := 623) (by decide +kernel)
theorem wd_624 : Jvm.Cond.instanceMethod ({ cls := "PhraseRoads$Likeness", name := "<init>", desc := "()V" } : Jvm.MethodName) ∈ lw_tbl := List.mem_of_getElem? (i := 624) (by decide +kernel)
theorem wd_625 : Jvm.Cond.code ({ cls := "PhraseRoads$Likeness", name := "<init>", desc := "()V" } : Jvm.MethodName) prog_6_method_1_code (1 : Nat) (Option.none : Option Jvm.ClassFile.FieldType) ∈ lw_tbl := List.mem_of_getElem? (i := 625) (by decide +kernel)
theorem wd_626 : Jvm.Cond.methodLink "PhraseRoads$Likeness" (3 : Nat) ({ cls := "java/lang/Object", name := "<init>", desc := "()V" } : Jvm.MethodName) ∈ lw_tbl := List.mem_of_getElem? (i := 626) (by decide +kernel)
theorem wd_627 : Jvm.Cond.classLink "PhraseRoads$Likeness" (15 : Nat) "[[I" ∈ lw_tbl := List.mem_of_getElem? (i := 627) (by decide +kernel)
theorem wd_629 : Jvm.Cond.fieldLink "PhraseRoads$Likeness" (9 : Nat) "PhraseRoads$Likeness" "fewest" "[I" ∈ lw_tbl := List.mem_of_getElem? (i := 629) (by decide +kernel)
theorem wd_630 : Jvm.Cond.fieldLink "PhraseRoads$Likeness" (17 : Nat) "PhraseRoads$Likeness" "texts" "[[I" ∈ lw_tbl := List.mem_of_getElem? (i := 630) (by decide +kernel)
theorem wd_631 : Jvm.Cond.fieldLink "PhraseRoads$Likeness" (20 : Nat) "PhraseRoads$Likeness" "textSizes" "[I" ∈ lw_tbl := List.mem_of_getElem? (i := 631) (by decide +kernel)
theorem wd_632 : Jvm.Cond.fieldLink "PhraseRoads$Likeness" (39 : Nat) "PhraseRoads$Likeness" "many" "I" ∈ lw_tbl := List.mem_of_getElem? (i := 632) (by decide +kernel)
theorem wd_642 : Jvm.Cond.fieldLink "PhraseRoads" (12 : Nat) "PhraseRoads" "kept" "LPhraseRoads$Knowledge;" ∈ lw_tbl := List.mem_of_getElem? (i := 642) (by decide +kernel)
theorem wd_643 : Jvm.Cond.fieldLink "PhraseRoads" (16 : Nat) "PhraseRoads" "now" "LPhraseRoads$Knowledge;" ∈ lw_tbl := List.mem_of_getElem? (i := 643) (by decide +kernel)
theorem wd_644 : Jvm.Cond.fieldLink "PhraseRoads" (19 : Nat) "PhraseRoads" "draft" "LPhraseRoads$Knowledge;" ∈ lw_tbl := List.mem_of_getElem? (i := 644) (by decide +kernel)
theorem wd_645 : Jvm.Cond.fieldLink "PhraseRoads" (27 : Nat) "PhraseRoads" "reader" "LPhraseRoads$Reader;" ∈ lw_tbl := List.mem_of_getElem? (i := 645) (by decide +kernel)
theorem wd_646 : Jvm.Cond.fieldLink "PhraseRoads" (34 : Nat) "PhraseRoads" "options" "LPhraseRoads$Options;" ∈ lw_tbl := List.mem_of_getElem? (i := 646) (by decide +kernel)
theorem wd_647 : Jvm.Cond.fieldLink "PhraseRoads" (43 : Nat) "PhraseRoads" "knots" "LPhraseRoads$Knots;" ∈ lw_tbl := List.mem_of_getElem? (i := 647) (by decide +kernel)
theorem wd_648 : Jvm.Cond.fieldLink "PhraseRoads" (52 : Nat) "PhraseRoads" "ways" "LPhraseRoads$Ways;" ∈ lw_tbl := List.mem_of_getElem? (i := 648) (by decide +kernel)
theorem wd_649 : Jvm.Cond.fieldLink "PhraseRoads" (59 : Nat) "PhraseRoads" "stretches" "LPhraseRoads$Stretches;" ∈ lw_tbl := List.mem_of_getElem? (i := 649) (by decide +kernel)
theorem wd_650 : Jvm.Cond.fieldLink "PhraseRoads" (68 : Nat) "PhraseRoads" "stacks" "LPhraseRoads$Stacks;" ∈ lw_tbl := List.mem_of_getElem? (i := 650) (by decide +kernel)
theorem wd_651 : Jvm.Cond.fieldLink "PhraseRoads" (75 : Nat) "PhraseRoads" "counting" "LPhraseRoads$Counting;" ∈ lw_tbl := List.mem_of_getElem? (i := 651) (by decide +kernel)
theorem wd_652 : Jvm.Cond.fieldLink "PhraseRoads" (82 : Nat) "PhraseRoads" "likeness" "LPhraseRoads$Likeness;" ∈ lw_tbl := List.mem_of_getElem? (i := 652) (by decide +kernel)
theorem wd_653 : Jvm.Cond.fieldLink "PhraseRoads" (387 : Nat) "PhraseRoads" "hasImage" "Z" ∈ lw_tbl := List.mem_of_getElem? (i := 653) (by decide +kernel)
theorem wd_654 : Jvm.Cond.fieldLink "PhraseRoads" (406 : Nat) "PhraseRoads" "optionsReady" "Z" ∈ lw_tbl := List.mem_of_getElem? (i := 654) (by decide +kernel)
theorem wd_655 : Jvm.Cond.fieldLink "PhraseRoads" (409 : Nat) "PhraseRoads" "waysReady" "Z" ∈ lw_tbl := List.mem_of_getElem? (i := 655) (by decide +kernel)
theorem wd_656 : Jvm.Cond.fieldLink "PhraseRoads" (369 : Nat) "PhraseRoads" "stacksReady" "Z" ∈ lw_tbl := List.mem_of_getElem? (i := 656) (by decide +kernel)
theorem wd_688 : Jvm.Cond.methodLink "PhraseRoadsLaw" (105 : Nat) ({ cls := "PhraseRoads", name := "feed", desc := "(IIIII)I" } : Jvm.MethodName) ∈ lw_tbl := List.mem_of_getElem? (i := 688) (by decide +kernel)
theorem wd_689 : Jvm.Cond.instanceMethod ({ cls := "PhraseRoads", name := "feed", desc := "(IIIII)I" } : Jvm.MethodName) ∈ lw_tbl := List.mem_of_getElem? (i := 689) (by decide +kernel)
theorem wd_690 : Jvm.Cond.selects "PhraseRoads" ({ cls := "PhraseRoads", name := "feed", desc := "(IIIII)I" } : Jvm.MethodName) ({ cls := "PhraseRoads", name := "feed", desc := "(IIIII)I" } : Jvm.MethodName) ∈ lw_tbl := List.mem_of_getElem? (i := 690) (by decide +kernel)
theorem wd_691 : Jvm.Cond.code ({ cls := "PhraseRoads", name := "feed", desc := "(IIIII)I" } : Jvm.MethodName) prog_1_method_2_code (6 : Nat) (Option.some Jvm.ClassFile.FieldType.int) ∈ lw_tbl := List.mem_of_getElem? (i := 691) (by decide +kernel)
theorem wd_692 : Jvm.Cond.methodLinkNest "PhraseRoads" (90 : Nat) ({ cls := "PhraseRoads$Reader", name := "append", desc := "(I)V" } : Jvm.MethodName) "PhraseRoads" ∈ lw_tbl := List.mem_of_getElem? (i := 692) (by decide +kernel)
theorem wd_694 : Jvm.Cond.instanceMethod ({ cls := "PhraseRoads$Reader", name := "append", desc := "(I)V" } : Jvm.MethodName) ∈ lw_tbl := List.mem_of_getElem? (i := 694) (by decide +kernel)
theorem wd_695 : Jvm.Cond.code ({ cls := "PhraseRoads$Reader", name := "append", desc := "(I)V" } : Jvm.MethodName) prog_8_method_2_code (3 : Nat) (Option.none : Option Jvm.ClassFile.FieldType) ∈ lw_tbl := List.mem_of_getElem? (i := 695) (by decide +kernel)
theorem wd_696 : Jvm.Cond.methodLink "PhraseRoadsLaw" (110 : Nat) ({ cls := "PhraseRoads", name := "end", desc := "(I)Z" } : Jvm.MethodName) ∈ lw_tbl := List.mem_of_getElem? (i := 696) (by decide +kernel)
theorem wd_697 : Jvm.Cond.instanceMethod ({ cls := "PhraseRoads", name := "end", desc := "(I)Z" } : Jvm.MethodName) ∈ lw_tbl := List.mem_of_getElem? (i := 697) (by decide +kernel)
theorem wd_698 : Jvm.Cond.selects "PhraseRoads" ({ cls := "PhraseRoads", name := "end", desc := "(I)Z" } : Jvm.MethodName) ({ cls := "PhraseRoads", name := "end", desc := "(I)Z" } : Jvm.MethodName) ∈ lw_tbl := List.mem_of_getElem? (i := 698) (by decide +kernel)
theorem wd_699 : Jvm.Cond.code ({ cls := "PhraseRoads", name := "end", desc := "(I)Z" } : Jvm.MethodName) prog_1_method_3_code (2 : Nat) (Option.some Jvm.ClassFile.FieldType.boolean) ∈ lw_tbl := List.mem_of_getElem? (i := 699) (by decide +kernel)
theorem wd_700 : Jvm.Cond.methodLink "PhraseRoadsLaw" (133 : Nat) ({ cls := "PhraseRoads", name := "fault", desc := "()I" } : Jvm.MethodName) ∈ lw_tbl := List.mem_of_getElem? (i := 700) (by decide +kernel)
theorem wd_701 : Jvm.Cond.instanceMethod ({ cls := "PhraseRoads", name := "fault", desc := "()I" } : Jvm.MethodName) ∈ lw_tbl := List.mem_of_getElem? (i := 701) (by decide +kernel)
theorem wd_702 : Jvm.Cond.selects "PhraseRoads" ({ cls := "PhraseRoads", name := "fault", desc := "()I" } : Jvm.MethodName) ({ cls := "PhraseRoads", name := "fault", desc := "()I" } : Jvm.MethodName) ∈ lw_tbl := List.mem_of_getElem? (i := 702) (by decide +kernel)
theorem wd_703 : Jvm.Cond.code ({ cls := "PhraseRoads", name := "fault", desc := "()I" } : Jvm.MethodName) prog_1_method_8_code (1 : Nat) (Option.some Jvm.ClassFile.FieldType.int) ∈ lw_tbl := List.mem_of_getElem? (i := 703) (by decide +kernel)
theorem wd_704 : Jvm.Cond.methodLink "PhraseRoadsLaw" (174 : Nat) ({ cls := "PhraseRoads", name := "exact", desc := "()I" } : Jvm.MethodName) ∈ lw_tbl := List.mem_of_getElem? (i := 704) (by decide +kernel)
theorem wd_705 : Jvm.Cond.instanceMethod ({ cls := "PhraseRoads", name := "exact", desc := "()I" } : Jvm.MethodName) ∈ lw_tbl := List.mem_of_getElem? (i := 705) (by decide +kernel)
theorem wd_706 : Jvm.Cond.selects "PhraseRoads" ({ cls := "PhraseRoads", name := "exact", desc := "()I" } : Jvm.MethodName) ({ cls := "PhraseRoads", name := "exact", desc := "()I" } : Jvm.MethodName) ∈ lw_tbl := List.mem_of_getElem? (i := 706) (by decide +kernel)
theorem wd_707 : Jvm.Cond.code ({ cls := "PhraseRoads", name := "exact", desc := "()I" } : Jvm.MethodName) prog_1_method_20_code (1 : Nat) (Option.some Jvm.ClassFile.FieldType.int) ∈ lw_tbl := List.mem_of_getElem? (i := 707) (by decide +kernel)
theorem wd_708 : Jvm.Cond.methodLink "PhraseRoads" (179 : Nat) ({ cls := "PhraseRoads", name := "prepareOptions", desc := "()V" } : Jvm.MethodName) ∈ lw_tbl := List.mem_of_getElem? (i := 708) (by decide +kernel)
theorem wd_710 : Jvm.Cond.instanceMethod ({ cls := "PhraseRoads", name := "prepareOptions", desc := "()V" } : Jvm.MethodName) ∈ lw_tbl := List.mem_of_getElem? (i := 710) (by decide +kernel)
theorem wd_711 : Jvm.Cond.code ({ cls := "PhraseRoads", name := "prepareOptions", desc := "()V" } : Jvm.MethodName) prog_1_method_49_code (1 : Nat) (Option.none : Option Jvm.ClassFile.FieldType) ∈ lw_tbl := List.mem_of_getElem? (i := 711) (by decide +kernel)
theorem wd_712 : Jvm.Cond.methodLinkNest "PhraseRoads" (412 : Nat) ({ cls := "PhraseRoads$Options", name := "gather", desc := "(LPhraseRoads$Knowledge;)V" } : Jvm.MethodName) "PhraseRoads" ∈ lw_tbl := List.mem_of_getElem? (i := 712) (by decide +kernel)
theorem wd_714 : Jvm.Cond.instanceMethod ({ cls := "PhraseRoads$Options", name := "gather", desc := "(LPhraseRoads$Knowledge;)V" } : Jvm.MethodName) ∈ lw_tbl := List.mem_of_getElem? (i := 714) (by decide +kernel)
theorem wd_715 : Jvm.Cond.code ({ cls := "PhraseRoads$Options", name := "gather", desc := "(LPhraseRoads$Knowledge;)V" } : Jvm.MethodName) prog_7_method_2_code (4 : Nat) (Option.none : Option Jvm.ClassFile.FieldType) ∈ lw_tbl := List.mem_of_getElem? (i := 715) (by decide +kernel)
theorem wd_716 : Jvm.Cond.methodLinkNest "PhraseRoads$Options" (58 : Nat) ({ cls := "PhraseRoads$Knowledge", name := "isOption", desc := "(II)Z" } : Jvm.MethodName) "PhraseRoads" ∈ lw_tbl := List.mem_of_getElem? (i := 716) (by decide +kernel)
theorem wd_718 : Jvm.Cond.instanceMethod ({ cls := "PhraseRoads$Knowledge", name := "isOption", desc := "(II)Z" } : Jvm.MethodName) ∈ lw_tbl := List.mem_of_getElem? (i := 718) (by decide +kernel)
theorem wd_719 : Jvm.Cond.code ({ cls := "PhraseRoads$Knowledge", name := "isOption", desc := "(II)Z" } : Jvm.MethodName) prog_4_method_10_code (3 : Nat) (Option.some Jvm.ClassFile.FieldType.boolean) ∈ lw_tbl := List.mem_of_getElem? (i := 719) (by decide +kernel)
theorem wd_720 : Jvm.Cond.methodLink "PhraseRoads$Knowledge" (65 : Nat) ({ cls := "PhraseRoads$Knowledge", name := "sameRow", desc := "([II[III)Z" } : Jvm.MethodName) ∈ lw_tbl := List.mem_of_getElem? (i := 720) (by decide +kernel)
theorem wd_721 : Jvm.Cond.static ({ cls := "PhraseRoads$Knowledge", name := "sameRow", desc := "([II[III)Z" } : Jvm.MethodName) ∈ lw_tbl := List.mem_of_getElem? (i := 721) (by decide +kernel)
theorem wd_722 : Jvm.Cond.code ({ cls := "PhraseRoads$Knowledge", name := "sameRow", desc := "([II[III)Z" } : Jvm.MethodName) prog_4_method_14_code (6 : Nat) (Option.some Jvm.ClassFile.FieldType.boolean) ∈ lw_tbl := List.mem_of_getElem? (i := 722) (by decide +kernel)
theorem wd_723 : Jvm.Cond.methodLink "PhraseRoads$Options" (68 : Nat) ({ cls := "PhraseRoads$Options", name := "add", desc := "(IIII)V" } : Jvm.MethodName) ∈ lw_tbl := List.mem_of_getElem? (i := 723) (by decide +kernel)
theorem wd_725 : Jvm.Cond.instanceMethod ({ cls := "PhraseRoads$Options", name := "add", desc := "(IIII)V" } : Jvm.MethodName) ∈ lw_tbl := List.mem_of_getElem? (i := 725) (by decide +kernel)
theorem wd_726 : Jvm.Cond.code ({ cls := "PhraseRoads$Options", name := "add", desc := "(IIII)V" } : Jvm.MethodName) prog_7_method_3_code (5 : Nat) (Option.none : Option Jvm.ClassFile.FieldType) ∈ lw_tbl := List.mem_of_getElem? (i := 726) (by decide +kernel)
theorem wd_727 : Jvm.Cond.methodLink "PhraseRoads$Options" (74 : Nat) ({ cls := "PhraseRoads$Options", name := "bring", desc := "([III)V" } : Jvm.MethodName) ∈ lw_tbl := List.mem_of_getElem? (i := 727) (by decide +kernel)
theorem wd_729 : Jvm.Cond.instanceMethod ({ cls := "PhraseRoads$Options", name := "bring", desc := "([III)V" } : Jvm.MethodName) ∈ lw_tbl := List.mem_of_getElem? (i := 729) (by decide +kernel)
theorem wd_730 : Jvm.Cond.code ({ cls := "PhraseRoads$Options", name := "bring", desc := "([III)V" } : Jvm.MethodName) prog_7_method_4_code (5 : Nat) (Option.none : Option Jvm.ClassFile.FieldType) ∈ lw_tbl := List.mem_of_getElem? (i := 730) (by decide +kernel)
theorem wd_731 : Jvm.Cond.methodLink "PhraseRoads$Options" (83 : Nat) ({ cls := "java/lang/System", name := "arraycopy", desc := "(Ljava/lang/Object;ILjava/lang/Object;II)V" } : Jvm.MethodName) ∈ lw_tbl := List.mem_of_getElem? (i := 731) (by decide +kernel)
theorem wd_732 : Jvm.Cond.static ({ cls := "java/lang/System", name := "arraycopy", desc := "(Ljava/lang/Object;ILjava/lang/Object;II)V" } : Jvm.MethodName) ∈ lw_tbl := List.mem_of_getElem? (i := 732) (by decide +kernel)
theorem wd_733 : Jvm.Cond.native ({ cls := "java/lang/System", name := "arraycopy", desc := "(Ljava/lang/Object;ILjava/lang/Object;II)V" } : Jvm.MethodName) ∈ lw_tbl := List.mem_of_getElem? (i := 733) (by decide +kernel)
theorem wd_734 : Jvm.Cond.methodLinkNest "PhraseRoads$Options" (89 : Nat) ({ cls := "PhraseRoads$Knowledge", name := "flow", desc := "(II)I" } : Jvm.MethodName) "PhraseRoads" ∈ lw_tbl := List.mem_of_getElem? (i := 734) (by decide +kernel)
theorem wd_736 : Jvm.Cond.instanceMethod ({ cls := "PhraseRoads$Knowledge", name := "flow", desc := "(II)I" } : Jvm.MethodName) ∈ lw_tbl := List.mem_of_getElem? (i := 736) (by decide +kernel)
theorem wd_737 : Jvm.Cond.code ({ cls := "PhraseRoads$Knowledge", name := "flow", desc := "(II)I" } : Jvm.MethodName) prog_4_method_9_code (4 : Nat) (Option.some Jvm.ClassFile.FieldType.int) ∈ lw_tbl := List.mem_of_getElem? (i := 737) (by decide +kernel)
theorem wd_738 : Jvm.Cond.methodLinkNest "PhraseRoads" (415 : Nat) ({ cls := "PhraseRoads$Knots", name := "explore", desc := "()V" } : Jvm.MethodName) "PhraseRoads" ∈ lw_tbl := List.mem_of_getElem? (i := 738) (by decide +kernel)
theorem wd_740 : Jvm.Cond.instanceMethod ({ cls := "PhraseRoads$Knots", name := "explore", desc := "()V" } : Jvm.MethodName) ∈ lw_tbl := List.mem_of_getElem? (i := 740) (by decide +kernel)
theorem wd_741 : Jvm.Cond.code ({ cls := "PhraseRoads$Knots", name := "explore", desc := "()V" } : Jvm.MethodName) prog_3_method_8_code (3 : Nat) (Option.none : Option Jvm.ClassFile.FieldType) ∈ lw_tbl := List.mem_of_getElem? (i := 741) (by decide +kernel)
theorem wd_742 : Jvm.Cond.methodLinkNest "PhraseRoads$Knots" (50 : Nat) ({ cls := "PhraseRoads$Options", name := "full", desc := "()I" } : Jvm.MethodName) "PhraseRoads" ∈ lw_tbl := List.mem_of_getElem? (i := 742) (by decide +kernel)
theorem wd_744 : Jvm.Cond.instanceMethod ({ cls := "PhraseRoads$Options", name := "full", desc := "()I" } : Jvm.MethodName) ∈ lw_tbl := List.mem_of_getElem? (i := 744) (by decide +kernel)
theorem wd_745 : Jvm.Cond.code ({ cls := "PhraseRoads$Options", name := "full", desc := "()I" } : Jvm.MethodName) prog_7_method_7_code (1 : Nat) (Option.some Jvm.ClassFile.FieldType.int) ∈ lw_tbl := List.mem_of_getElem? (i := 745) (by decide +kernel)
theorem wd_746 : Jvm.Cond.methodLink "PhraseRoads$Knots" (54 : Nat) ({ cls := "java/lang/Integer", name := "bitCount", desc := "(I)I" } : Jvm.MethodName) ∈ lw_tbl := List.mem_of_getElem? (i := 746) (by decide +kernel)
theorem wd_747 : Jvm.Cond.static ({ cls := "java/lang/Integer", name := "bitCount", desc := "(I)I" } : Jvm.MethodName) ∈ lw_tbl := List.mem_of_getElem? (i := 747) (by decide +kernel)
theorem wd_748 : Jvm.Cond.code ({ cls := "java/lang/Integer", name := "bitCount", desc := "(I)I" } : Jvm.MethodName) prog_18_method_49_code (1 : Nat) (Option.some Jvm.ClassFile.FieldType.int) ∈ lw_tbl := List.mem_of_getElem? (i := 748) (by decide +kernel)
theorem wd_749 : Jvm.Cond.constant "java/lang/Integer" (265 : Nat) (1431655765 : Int32) ∈ lw_tbl := List.mem_of_getElem? (i := 749) (by decide +kernel)
theorem wd_750 : Jvm.Cond.constant "java/lang/Integer" (266 : Nat) (858993459 : Int32) ∈ lw_tbl := List.mem_of_getElem? (i := 750) (by decide +kernel)
theorem wd_751 : Jvm.Cond.constant "java/lang/Integer" (267 : Nat) (252645135 : Int32) ∈ lw_tbl := List.mem_of_getElem? (i := 751) (by decide +kernel)
theorem wd_752 : Jvm.Cond.methodLink "PhraseRoads$Knots" (60 : Nat) ({ cls := "PhraseRoads$Knots", name := "exploreMask", desc := "(I)V" } : Jvm.MethodName) ∈ lw_tbl := List.mem_of_getElem? (i := 752) (by decide +kernel)
theorem wd_754 : Jvm.Cond.instanceMethod ({ cls := "PhraseRoads$Knots", name := "exploreMask", desc := "(I)V" } : Jvm.MethodName) ∈ lw_tbl := List.mem_of_getElem? (i := 754) (by decide +kernel)
theorem wd_755 : Jvm.Cond.code ({ cls := "PhraseRoads$Knots", name := "exploreMask", desc := "(I)V" } : Jvm.MethodName) prog_3_method_9_code (6 : Nat) (Option.none : Option Jvm.ClassFile.FieldType) ∈ lw_tbl := List.mem_of_getElem? (i := 755) (by decide +kernel)
theorem wd_756 : Jvm.Cond.methodLink "PhraseRoads$Knots" (64 : Nat) ({ cls := "PhraseRoads$Knots", name := "mayEnd", desc := "(II)Z" } : Jvm.MethodName) ∈ lw_tbl := List.mem_of_getElem? (i := 756) (by decide +kernel)
theorem wd_757 : Jvm.Cond.static ({ cls := "PhraseRoads$Knots", name := "mayEnd", desc := "(II)Z" } : Jvm.MethodName) ∈ lw_tbl := List.mem_of_getElem? (i := 757) (by decide +kernel)
theorem wd_758 : Jvm.Cond.code ({ cls := "PhraseRoads$Knots", name := "mayEnd", desc := "(II)Z" } : Jvm.MethodName) prog_3_method_10_code (2 : Nat) (Option.some Jvm.ClassFile.FieldType.boolean) ∈ lw_tbl := List.mem_of_getElem? (i := 758) (by decide +kernel)
theorem wd_759 : Jvm.Cond.methodLink "PhraseRoads$Knots" (68 : Nat) ({ cls := "PhraseRoads$Knots", name := "meetFrom", desc := "(II)V" } : Jvm.MethodName) ∈ lw_tbl := List.mem_of_getElem? (i := 759) (by decide +kernel)
theorem wd_761 : Jvm.Cond.instanceMethod ({ cls := "PhraseRoads$Knots", name := "meetFrom", desc := "(II)V" } : Jvm.MethodName) ∈ lw_tbl := List.mem_of_getElem? (i := 761) (by decide +kernel)
theorem wd_762 : Jvm.Cond.code ({ cls := "PhraseRoads$Knots", name := "meetFrom", desc := "(II)V" } : Jvm.MethodName) prog_3_method_11_code (4 : Nat) (Option.none : Option Jvm.ClassFile.FieldType) ∈ lw_tbl := List.mem_of_getElem? (i := 762) (by decide +kernel)
theorem wd_763 : Jvm.Cond.methodLink "PhraseRoads$Knots" (39 : Nat) ({ cls := "PhraseRoads$Knots", name := "codeBehind", desc := "(III)I" } : Jvm.MethodName) ∈ lw_tbl := List.mem_of_getElem? (i := 763) (by decide +kernel)
theorem wd_765 : Jvm.Cond.instanceMethod ({ cls := "PhraseRoads$Knots", name := "codeBehind", desc := "(III)I" } : Jvm.MethodName) ∈ lw_tbl := List.mem_of_getElem? (i := 765) (by decide +kernel)
theorem wd_766 : Jvm.Cond.code ({ cls := "PhraseRoads$Knots", name := "codeBehind", desc := "(III)I" } : Jvm.MethodName) prog_3_method_6_code (5 : Nat) (Option.some Jvm.ClassFile.FieldType.int) ∈ lw_tbl := List.mem_of_getElem? (i := 766) (by decide +kernel)
theorem wd_767 : Jvm.Cond.methodLinkNest "PhraseRoads" (418 : Nat) ({ cls := "PhraseRoads$Stretches", name := "reckon", desc := "()V" } : Jvm.MethodName) "PhraseRoads" ∈ lw_tbl := List.mem_of_getElem? (i := 767) (by decide +kernel)
theorem wd_769 : Jvm.Cond.instanceMethod ({ cls := "PhraseRoads$Stretches", name := "reckon", desc := "()V" } : Jvm.MethodName) ∈ lw_tbl := List.mem_of_getElem? (i := 769) (by decide +kernel)
theorem wd_770 : Jvm.Cond.code ({ cls := "PhraseRoads$Stretches", name := "reckon", desc := "()V" } : Jvm.MethodName) prog_10_method_2_code (3 : Nat) (Option.none : Option Jvm.ClassFile.FieldType) ∈ lw_tbl := List.mem_of_getElem? (i := 770) (by decide +kernel)
theorem wd_771 : Jvm.Cond.constant "PhraseRoads$Stretches" (22 : Nat) (1000000 : Int32) ∈ lw_tbl := List.mem_of_getElem? (i := 771) (by decide +kernel)
theorem wd_772 : Jvm.Cond.methodLink "PhraseRoads$Stretches" (23 : Nat) ({ cls := "java/util/Arrays", name := "fill", desc := "([II)V" } : Jvm.MethodName) ∈ lw_tbl := List.mem_of_getElem? (i := 772) (by decide +kernel)
theorem wd_773 : Jvm.Cond.static ({ cls := "java/util/Arrays", name := "fill", desc := "([II)V" } : Jvm.MethodName) ∈ lw_tbl := List.mem_of_getElem? (i := 773) (by decide +kernel)
theorem wd_774 : Jvm.Cond.code ({ cls := "java/util/Arrays", name := "fill", desc := "([II)V" } : Jvm.MethodName) prog_25_method_103_code (4 : Nat) (Option.none : Option Jvm.ClassFile.FieldType) ∈ lw_tbl := List.mem_of_getElem? (i := 774) (by decide +kernel)
theorem wd_775 : Jvm.Cond.methodLink "PhraseRoads$Stretches" (44 : Nat) ({ cls := "java/lang/Math", name := "min", desc := "(II)I" } : Jvm.MethodName) ∈ lw_tbl := List.mem_of_getElem? (i := 775) (by decide +kernel)
theorem wd_776 : Jvm.Cond.static ({ cls := "java/lang/Math", name := "min", desc := "(II)I" } : Jvm.MethodName) ∈ lw_tbl := List.mem_of_getElem? (i := 776) (by decide +kernel)
theorem wd_777 : Jvm.Cond.code ({ cls := "java/lang/Math", name := "min", desc := "(II)I" } : Jvm.MethodName) prog_19_method_69_code (2 : Nat) (Option.some Jvm.ClassFile.FieldType.int) ∈ lw_tbl := List.mem_of_getElem? (i := 777) (by decide +kernel)
theorem wd_778 : Jvm.Cond.methodLink "PhraseRoads$Stretches" (53 : Nat) ({ cls := "PhraseRoads$Stretches", name := "join", desc := "(II)V" } : Jvm.MethodName) ∈ lw_tbl := List.mem_of_getElem? (i := 778) (by decide +kernel)
theorem wd_780 : Jvm.Cond.instanceMethod ({ cls := "PhraseRoads$Stretches", name := "join", desc := "(II)V" } : Jvm.MethodName) ∈ lw_tbl := List.mem_of_getElem? (i := 780) (by decide +kernel)
theorem wd_781 : Jvm.Cond.code ({ cls := "PhraseRoads$Stretches", name := "join", desc := "(II)V" } : Jvm.MethodName) prog_10_method_3_code (6 : Nat) (Option.none : Option Jvm.ClassFile.FieldType) ∈ lw_tbl := List.mem_of_getElem? (i := 781) (by decide +kernel)
theorem wd_782 : Jvm.Cond.methodLinkNest "PhraseRoads$Stretches" (57 : Nat) ({ cls := "PhraseRoads$Options", name := "full", desc := "()I" } : Jvm.MethodName) "PhraseRoads" ∈ lw_tbl := List.mem_of_getElem? (i := 782) (by decide +kernel)
theorem wd_783 : Jvm.Cond.methodLink "PhraseRoads$Stretches" (61 : Nat) ({ cls := "PhraseRoads$Stretches", name := "reckonAhead", desc := "(I)I" } : Jvm.MethodName) ∈ lw_tbl := List.mem_of_getElem? (i := 783) (by decide +kernel)
theorem wd_785 : Jvm.Cond.instanceMethod ({ cls := "PhraseRoads$Stretches", name := "reckonAhead", desc := "(I)I" } : Jvm.MethodName) ∈ lw_tbl := List.mem_of_getElem? (i := 785) (by decide +kernel)
theorem wd_786 : Jvm.Cond.code ({ cls := "PhraseRoads$Stretches", name := "reckonAhead", desc := "(I)I" } : Jvm.MethodName) prog_10_method_4_code (7 : Nat) (Option.some Jvm.ClassFile.FieldType.int) ∈ lw_tbl := List.mem_of_getElem? (i := 786) (by decide +kernel)
theorem wd_787 : Jvm.Cond.methodLink "PhraseRoads" (249 : Nat) ({ cls := "PhraseRoads", name := "prepareWays", desc := "()V" } : Jvm.MethodName) ∈ lw_tbl := List.mem_of_getElem? (i := 787) (by decide +kernel)
theorem wd_789 : Jvm.Cond.instanceMethod ({ cls := "PhraseRoads", name := "prepareWays", desc := "()V" } : Jvm.MethodName) ∈ lw_tbl := List.mem_of_getElem? (i := 789) (by decide +kernel)
theorem wd_790 : Jvm.Cond.code ({ cls := "PhraseRoads", name := "prepareWays", desc := "()V" } : Jvm.MethodName) prog_1_method_50_code (1 : Nat) (Option.none : Option Jvm.ClassFile.FieldType) ∈ lw_tbl := List.mem_of_getElem? (i := 790) (by decide +kernel)
theorem wd_791 : Jvm.Cond.methodLinkNest "PhraseRoads" (421 : Nat) ({ cls := "PhraseRoads$Knots", name := "reckon", desc := "(III)V" } : Jvm.MethodName) "PhraseRoads" ∈ lw_tbl := List.mem_of_getElem? (i := 791) (by decide +kernel)
theorem wd_793 : Jvm.Cond.instanceMethod ({ cls := "PhraseRoads$Knots", name := "reckon", desc := "(III)V" } : Jvm.MethodName) ∈ lw_tbl := List.mem_of_getElem? (i := 793) (by decide +kernel)
theorem wd_794 : Jvm.Cond.code ({ cls := "PhraseRoads$Knots", name := "reckon", desc := "(III)V" } : Jvm.MethodName) prog_3_method_12_code (6 : Nat) (Option.none : Option Jvm.ClassFile.FieldType) ∈ lw_tbl := List.mem_of_getElem? (i := 794) (by decide +kernel)
theorem wd_795 : Jvm.Cond.methodLink "PhraseRoads$Knots" (82 : Nat) ({ cls := "PhraseRoads$Knots", name := "last", desc := "(I)I" } : Jvm.MethodName) ∈ lw_tbl := List.mem_of_getElem? (i := 795) (by decide +kernel)
theorem wd_797 : Jvm.Cond.instanceMethod ({ cls := "PhraseRoads$Knots", name := "last", desc := "(I)I" } : Jvm.MethodName) ∈ lw_tbl := List.mem_of_getElem? (i := 797) (by decide +kernel)
theorem wd_798 : Jvm.Cond.code ({ cls := "PhraseRoads$Knots", name := "last", desc := "(I)I" } : Jvm.MethodName) prog_3_method_4_code (2 : Nat) (Option.some Jvm.ClassFile.FieldType.int) ∈ lw_tbl := List.mem_of_getElem? (i := 798) (by decide +kernel)
theorem wd_799 : Jvm.Cond.methodLinkNest "PhraseRoads$Knots" (85 : Nat) ({ cls := "PhraseRoads$Options", name := "ending", desc := "(I)I" } : Jvm.MethodName) "PhraseRoads" ∈ lw_tbl := List.mem_of_getElem? (i := 799) (by decide +kernel)
theorem wd_801 : Jvm.Cond.instanceMethod ({ cls := "PhraseRoads$Options", name := "ending", desc := "(I)I" } : Jvm.MethodName) ∈ lw_tbl := List.mem_of_getElem? (i := 801) (by decide +kernel)
theorem wd_802 : Jvm.Cond.code ({ cls := "PhraseRoads$Options", name := "ending", desc := "(I)I" } : Jvm.MethodName) prog_7_method_10_code (2 : Nat) (Option.some Jvm.ClassFile.FieldType.int) ∈ lw_tbl := List.mem_of_getElem? (i := 802) (by decide +kernel)
theorem wd_803 : Jvm.Cond.methodLink "PhraseRoads$Knots" (88 : Nat) ({ cls := "PhraseRoads$Knots", name := "leastRest", desc := "(I)I" } : Jvm.MethodName) ∈ lw_tbl := List.mem_of_getElem? (i := 803) (by decide +kernel)
theorem wd_805 : Jvm.Cond.instanceMethod ({ cls := "PhraseRoads$Knots", name := "leastRest", desc := "(I)I" } : Jvm.MethodName) ∈ lw_tbl := List.mem_of_getElem? (i := 805) (by decide +kernel)
theorem wd_806 : Jvm.Cond.code ({ cls := "PhraseRoads$Knots", name := "leastRest", desc := "(I)I" } : Jvm.MethodName) prog_3_method_13_code (9 : Nat) (Option.some Jvm.ClassFile.FieldType.int) ∈ lw_tbl := List.mem_of_getElem? (i := 806) (by decide +kernel)
theorem wd_807 : Jvm.Cond.methodLink "PhraseRoads$Knots" (91 : Nat) ({ cls := "PhraseRoads$Knots", name := "mask", desc := "(I)I" } : Jvm.MethodName) ∈ lw_tbl := List.mem_of_getElem? (i := 807) (by decide +kernel)
theorem wd_809 : Jvm.Cond.instanceMethod ({ cls := "PhraseRoads$Knots", name := "mask", desc := "(I)I" } : Jvm.MethodName) ∈ lw_tbl := List.mem_of_getElem? (i := 809) (by decide +kernel)
theorem wd_810 : Jvm.Cond.code ({ cls := "PhraseRoads$Knots", name := "mask", desc := "(I)I" } : Jvm.MethodName) prog_3_method_2_code (2 : Nat) (Option.some Jvm.ClassFile.FieldType.int) ∈ lw_tbl := List.mem_of_getElem? (i := 810) (by decide +kernel)
theorem wd_811 : Jvm.Cond.methodLink "PhraseRoads$Knots" (94 : Nat) ({ cls := "PhraseRoads$Knots", name := "behind", desc := "(I)I" } : Jvm.MethodName) ∈ lw_tbl := List.mem_of_getElem? (i := 811) (by decide +kernel)
theorem wd_813 : Jvm.Cond.instanceMethod ({ cls := "PhraseRoads$Knots", name := "behind", desc := "(I)I" } : Jvm.MethodName) ∈ lw_tbl := List.mem_of_getElem? (i := 813) (by decide +kernel)
theorem wd_814 : Jvm.Cond.code ({ cls := "PhraseRoads$Knots", name := "behind", desc := "(I)I" } : Jvm.MethodName) prog_3_method_3_code (2 : Nat) (Option.some Jvm.ClassFile.FieldType.int) ∈ lw_tbl := List.mem_of_getElem? (i := 814) (by decide +kernel)
theorem wd_815 : Jvm.Cond.constant "PhraseRoads$Knots" (97 : Nat) (1000000 : Int32) ∈ lw_tbl := List.mem_of_getElem? (i := 815) (by decide +kernel)
theorem wd_816 : Jvm.Cond.methodLinkNest "PhraseRoads$Knots" (101 : Nat) ({ cls := "PhraseRoads$Options", name := "gap", desc := "(II)I" } : Jvm.MethodName) "PhraseRoads" ∈ lw_tbl := List.mem_of_getElem? (i := 816) (by decide +kernel)
theorem wd_818 : Jvm.Cond.instanceMethod ({ cls := "PhraseRoads$Options", name := "gap", desc := "(II)I" } : Jvm.MethodName) ∈ lw_tbl := List.mem_of_getElem? (i := 818) (by decide +kernel)
theorem wd_819 : Jvm.Cond.code ({ cls := "PhraseRoads$Options", name := "gap", desc := "(II)I" } : Jvm.MethodName) prog_7_method_8_code (3 : Nat) (Option.some Jvm.ClassFile.FieldType.int) ∈ lw_tbl := List.mem_of_getElem? (i := 819) (by decide +kernel)
theorem wd_820 : Jvm.Cond.methodLink "PhraseRoads$Options" (93 : Nat) ({ cls := "java/lang/Math", name := "abs", desc := "(I)I" } : Jvm.MethodName) ∈ lw_tbl := List.mem_of_getElem? (i := 820) (by decide +kernel)
theorem wd_821 : Jvm.Cond.static ({ cls := "java/lang/Math", name := "abs", desc := "(I)I" } : Jvm.MethodName) ∈ lw_tbl := List.mem_of_getElem? (i := 821) (by decide +kernel)
theorem wd_822 : Jvm.Cond.code ({ cls := "java/lang/Math", name := "abs", desc := "(I)I" } : Jvm.MethodName) prog_19_method_59_code (1 : Nat) (Option.some Jvm.ClassFile.FieldType.int) ∈ lw_tbl := List.mem_of_getElem? (i := 822) (by decide +kernel)
theorem wd_823 : Jvm.Cond.methodLink "PhraseRoads$Knots" (105 : Nat) ({ cls := "PhraseRoads$Knots", name := "follow", desc := "(III)I" } : Jvm.MethodName) ∈ lw_tbl := List.mem_of_getElem? (i := 823) (by decide +kernel)
theorem wd_825 : Jvm.Cond.instanceMethod ({ cls := "PhraseRoads$Knots", name := "follow", desc := "(III)I" } : Jvm.MethodName) ∈ lw_tbl := List.mem_of_getElem? (i := 825) (by decide +kernel)
theorem wd_826 : Jvm.Cond.code ({ cls := "PhraseRoads$Knots", name := "follow", desc := "(III)I" } : Jvm.MethodName) prog_3_method_7_code (4 : Nat) (Option.some Jvm.ClassFile.FieldType.int) ∈ lw_tbl := List.mem_of_getElem? (i := 826) (by decide +kernel)
theorem wd_827 : Jvm.Cond.methodLinkNest "PhraseRoads$Knots" (108 : Nat) ({ cls := "PhraseRoads$Options", name := "standing", desc := "(II)I" } : Jvm.MethodName) "PhraseRoads" ∈ lw_tbl := List.mem_of_getElem? (i := 827) (by decide +kernel)
theorem wd_829 : Jvm.Cond.instanceMethod ({ cls := "PhraseRoads$Options", name := "standing", desc := "(II)I" } : Jvm.MethodName) ∈ lw_tbl := List.mem_of_getElem? (i := 829) (by decide +kernel)
theorem wd_830 : Jvm.Cond.code ({ cls := "PhraseRoads$Options", name := "standing", desc := "(II)I" } : Jvm.MethodName) prog_7_method_9_code (3 : Nat) (Option.some Jvm.ClassFile.FieldType.int) ∈ lw_tbl := List.mem_of_getElem? (i := 830) (by decide +kernel)
theorem wd_831 : Jvm.Cond.methodLink "PhraseRoads$Knots" (111 : Nat) ({ cls := "java/lang/Math", name := "min", desc := "(II)I" } : Jvm.MethodName) ∈ lw_tbl := List.mem_of_getElem? (i := 831) (by decide +kernel)
theorem wd_832 : Jvm.Cond.methodLinkNest "PhraseRoads" (378 : Nat) ({ cls := "PhraseRoads$Ways", name := "begin", desc := "()V" } : Jvm.MethodName) "PhraseRoads" ∈ lw_tbl := List.mem_of_getElem? (i := 832) (by decide +kernel)
theorem wd_834 : Jvm.Cond.instanceMethod ({ cls := "PhraseRoads$Ways", name := "begin", desc := "()V" } : Jvm.MethodName) ∈ lw_tbl := List.mem_of_getElem? (i := 834) (by decide +kernel)
theorem wd_835 : Jvm.Cond.code ({ cls := "PhraseRoads$Ways", name := "begin", desc := "()V" } : Jvm.MethodName) prog_11_method_2_code (1 : Nat) (Option.none : Option Jvm.ClassFile.FieldType) ∈ lw_tbl := List.mem_of_getElem? (i := 835) (by decide +kernel)
theorem wd_836 : Jvm.Cond.methodLinkNest "PhraseRoads$Ways" (52 : Nat) ({ cls := "PhraseRoads$Knots", name := "cheapest", desc := "()I" } : Jvm.MethodName) "PhraseRoads" ∈ lw_tbl := List.mem_of_getElem? (i := 836) (by decide +kernel)
theorem wd_838 : Jvm.Cond.instanceMethod ({ cls := "PhraseRoads$Knots", name := "cheapest", desc := "()I" } : Jvm.MethodName) ∈ lw_tbl := List.mem_of_getElem? (i := 838) (by decide +kernel)
theorem wd_839 : Jvm.Cond.code ({ cls := "PhraseRoads$Knots", name := "cheapest", desc := "()I" } : Jvm.MethodName) prog_3_method_5_code (1 : Nat) (Option.some Jvm.ClassFile.FieldType.int) ∈ lw_tbl := List.mem_of_getElem? (i := 839) (by decide +kernel)
theorem wd_840 : Jvm.Cond.methodLink "PhraseRoads$Ways" (58 : Nat) ({ cls := "PhraseRoads$Ways", name := "enqueue", desc := "(JIII)V" } : Jvm.MethodName) ∈ lw_tbl := List.mem_of_getElem? (i := 840) (by decide +kernel)
theorem wd_842 : Jvm.Cond.instanceMethod ({ cls := "PhraseRoads$Ways", name := "enqueue", desc := "(JIII)V" } : Jvm.MethodName) ∈ lw_tbl := List.mem_of_getElem? (i := 842) (by decide +kernel)
theorem wd_843 : Jvm.Cond.code ({ cls := "PhraseRoads$Ways", name := "enqueue", desc := "(JIII)V" } : Jvm.MethodName) prog_11_method_9_code (8 : Nat) (Option.none : Option Jvm.ClassFile.FieldType) ∈ lw_tbl := List.mem_of_getElem? (i := 843) (by decide +kernel)
theorem wd_844 : Jvm.Cond.methodLinkNest "PhraseRoads" (252 : Nat) ({ cls := "PhraseRoads$Knots", name := "cheapest", desc := "()I" } : Jvm.MethodName) "PhraseRoads" ∈ lw_tbl := List.mem_of_getElem? (i := 844) (by decide +kernel)
theorem wd_845 : Jvm.Cond.methodLink "PhraseRoadsLaw" (178 : Nat) ({ cls := "PhraseRoads", name := "many", desc := "()I" } : Jvm.MethodName) ∈ lw_tbl := List.mem_of_getElem? (i := 845) (by decide +kernel)
theorem wd_846 : Jvm.Cond.instanceMethod ({ cls := "PhraseRoads", name := "many", desc := "()I" } : Jvm.MethodName) ∈ lw_tbl := List.mem_of_getElem? (i := 846) (by decide +kernel)
theorem wd_847 : Jvm.Cond.selects "PhraseRoads" ({ cls := "PhraseRoads", name := "many", desc := "()I" } : Jvm.MethodName) ({ cls := "PhraseRoads", name := "many", desc := "()I" } : Jvm.MethodName) ∈ lw_tbl := List.mem_of_getElem? (i := 847) (by decide +kernel)
theorem wd_848 : Jvm.Cond.code ({ cls := "PhraseRoads", name := "many", desc := "()I" } : Jvm.MethodName) prog_1_method_21_code (1 : Nat) (Option.some Jvm.ClassFile.FieldType.int) ∈ lw_tbl := List.mem_of_getElem? (i := 848) (by decide +kernel)
theorem wd_849 : Jvm.Cond.methodLinkNest "PhraseRoads" (256 : Nat) ({ cls := "PhraseRoads$Counting", name := "countWays", desc := "(I)I" } : Jvm.MethodName) "PhraseRoads" ∈ lw_tbl := List.mem_of_getElem? (i := 849) (by decide +kernel)
theorem wd_851 : Jvm.Cond.instanceMethod ({ cls := "PhraseRoads$Counting", name := "countWays", desc := "(I)I" } : Jvm.MethodName) ∈ lw_tbl := List.mem_of_getElem? (i := 851) (by decide +kernel)
theorem wd_852 : Jvm.Cond.code ({ cls := "PhraseRoads$Counting", name := "countWays", desc := "(I)I" } : Jvm.MethodName) prog_2_method_2_code (5 : Nat) (Option.some Jvm.ClassFile.FieldType.int) ∈ lw_tbl := List.mem_of_getElem? (i := 852) (by decide +kernel)
theorem wd_853 : Jvm.Cond.methodLinkNest "PhraseRoads$Counting" (22 : Nat) ({ cls := "PhraseRoads$Options", name := "full", desc := "()I" } : Jvm.MethodName) "PhraseRoads" ∈ lw_tbl := List.mem_of_getElem? (i := 853) (by decide +kernel)
theorem wd_854 : Jvm.Cond.methodLink "PhraseRoads$Counting" (28 : Nat) ({ cls := "java/util/Arrays", name := "fill", desc := "([II)V" } : Jvm.MethodName) ∈ lw_tbl := List.mem_of_getElem? (i := 854) (by decide +kernel)
theorem wd_855 : Jvm.Cond.methodLink "PhraseRoads$Counting" (34 : Nat) ({ cls := "PhraseRoads$Counting", name := "countFrom", desc := "(II)V" } : Jvm.MethodName) ∈ lw_tbl := List.mem_of_getElem? (i := 855) (by decide +kernel)
theorem wd_857 : Jvm.Cond.instanceMethod ({ cls := "PhraseRoads$Counting", name := "countFrom", desc := "(II)V" } : Jvm.MethodName) ∈ lw_tbl := List.mem_of_getElem? (i := 857) (by decide +kernel)
theorem wd_858 : Jvm.Cond.code ({ cls := "PhraseRoads$Counting", name := "countFrom", desc := "(II)V" } : Jvm.MethodName) prog_2_method_3_code (6 : Nat) (Option.none : Option Jvm.ClassFile.FieldType) ∈ lw_tbl := List.mem_of_getElem? (i := 858) (by decide +kernel)
theorem wd_859 : Jvm.Cond.methodLinkNest "PhraseRoads$Counting" (52 : Nat) ({ cls := "PhraseRoads$Options", name := "gap", desc := "(II)I" } : Jvm.MethodName) "PhraseRoads" ∈ lw_tbl := List.mem_of_getElem? (i := 859) (by decide +kernel)
theorem wd_860 : Jvm.Cond.constant "PhraseRoads$Counting" (38 : Nat) (1000000000 : Int32) ∈ lw_tbl := List.mem_of_getElem? (i := 860) (by decide +kernel)
theorem wd_861 : Jvm.Cond.methodLink "PhraseRoads$Counting" (39 : Nat) ({ cls := "java/lang/Math", name := "min", desc := "(II)I" } : Jvm.MethodName) ∈ lw_tbl := List.mem_of_getElem? (i := 861) (by decide +kernel)
theorem wd_862 : Jvm.Cond.methodLink "PhraseRoadsLaw" (213 : Nat) ({ cls := "PhraseRoads", name := "needed", desc := "()I" } : Jvm.MethodName) ∈ lw_tbl := List.mem_of_getElem? (i := 862) (by decide +kernel)
theorem wd_863 : Jvm.Cond.instanceMethod ({ cls := "PhraseRoads", name := "needed", desc := "()I" } : Jvm.MethodName) ∈ lw_tbl := List.mem_of_getElem? (i := 863) (by decide +kernel)
theorem wd_864 : Jvm.Cond.selects "PhraseRoads" ({ cls := "PhraseRoads", name := "needed", desc := "()I" } : Jvm.MethodName) ({ cls := "PhraseRoads", name := "needed", desc := "()I" } : Jvm.MethodName) ∈ lw_tbl := List.mem_of_getElem? (i := 864) (by decide +kernel)
theorem wd_865 : Jvm.Cond.code ({ cls := "PhraseRoads", name := "needed", desc := "()I" } : Jvm.MethodName) prog_1_method_32_code (5 : Nat) (Option.some Jvm.ClassFile.FieldType.int) ∈ lw_tbl := List.mem_of_getElem? (i := 865) (by decide +kernel)
theorem wd_866 : Jvm.Cond.methodLink "PhraseRoads" (186 : Nat) ({ cls := "PhraseRoads", name := "unfoldWay", desc := "(I)Z" } : Jvm.MethodName) ∈ lw_tbl := List.mem_of_getElem? (i := 866) (by decide +kernel)
theorem wd_868 : Jvm.Cond.instanceMethod ({ cls := "PhraseRoads", name := "unfoldWay", desc := "(I)Z" } : Jvm.MethodName) ∈ lw_tbl := List.mem_of_getElem? (i := 868) (by decide +kernel)
theorem wd_869 : Jvm.Cond.code ({ cls := "PhraseRoads", name := "unfoldWay", desc := "(I)Z" } : Jvm.MethodName) prog_1_method_52_code (2 : Nat) (Option.some Jvm.ClassFile.FieldType.boolean) ∈ lw_tbl := List.mem_of_getElem? (i := 869) (by decide +kernel)
theorem wd_870 : Jvm.Cond.methodLinkNest "PhraseRoads" (381 : Nat) ({ cls := "PhraseRoads$Ways", name := "bring", desc := "(I)V" } : Jvm.MethodName) "PhraseRoads" ∈ lw_tbl := List.mem_of_getElem? (i := 870) (by decide +kernel)
theorem wd_872 : Jvm.Cond.instanceMethod ({ cls := "PhraseRoads$Ways", name := "bring", desc := "(I)V" } : Jvm.MethodName) ∈ lw_tbl := List.mem_of_getElem? (i := 872) (by decide +kernel)
theorem wd_873 : Jvm.Cond.code ({ cls := "PhraseRoads$Ways", name := "bring", desc := "(I)V" } : Jvm.MethodName) prog_11_method_4_code (3 : Nat) (Option.none : Option Jvm.ClassFile.FieldType) ∈ lw_tbl := List.mem_of_getElem? (i := 873) (by decide +kernel)
theorem wd_874 : Jvm.Cond.methodLink "PhraseRoads$Ways" (62 : Nat) ({ cls := "PhraseRoads$Ways", name := "takeFirst", desc := "()V" } : Jvm.MethodName) ∈ lw_tbl := List.mem_of_getElem? (i := 874) (by decide +kernel)
theorem wd_876 : Jvm.Cond.instanceMethod ({ cls := "PhraseRoads$Ways", name := "takeFirst", desc := "()V" } : Jvm.MethodName) ∈ lw_tbl := List.mem_of_getElem? (i := 876) (by decide +kernel)
theorem wd_877 : Jvm.Cond.code ({ cls := "PhraseRoads$Ways", name := "takeFirst", desc := "()V" } : Jvm.MethodName) prog_11_method_7_code (6 : Nat) (Option.none : Option Jvm.ClassFile.FieldType) ∈ lw_tbl := List.mem_of_getElem? (i := 877) (by decide +kernel)
theorem wd_878 : Jvm.Cond.methodLink "PhraseRoads$Ways" (93 : Nat) ({ cls := "java/lang/System", name := "arraycopy", desc := "(Ljava/lang/Object;ILjava/lang/Object;II)V" } : Jvm.MethodName) ∈ lw_tbl := List.mem_of_getElem? (i := 878) (by decide +kernel)
theorem wd_879 : Jvm.Cond.methodLinkNest "PhraseRoads$Ways" (105 : Nat) ({ cls := "PhraseRoads$Knots", name := "mask", desc := "(I)I" } : Jvm.MethodName) "PhraseRoads" ∈ lw_tbl := List.mem_of_getElem? (i := 879) (by decide +kernel)
theorem wd_880 : Jvm.Cond.methodLinkNest "PhraseRoads$Ways" (109 : Nat) ({ cls := "PhraseRoads$Options", name := "full", desc := "()I" } : Jvm.MethodName) "PhraseRoads" ∈ lw_tbl := List.mem_of_getElem? (i := 880) (by decide +kernel)
theorem wd_881 : Jvm.Cond.constantLong "PhraseRoads$Ways" (112 : Nat) (281474976710655 : Int64) ∈ lw_tbl := List.mem_of_getElem? (i := 881) (by decide +kernel)
theorem wd_882 : Jvm.Cond.methodLink "PhraseRoads$Ways" (114 : Nat) ({ cls := "PhraseRoads$Ways", name := "goOn", desc := "(JIII)V" } : Jvm.MethodName) ∈ lw_tbl := List.mem_of_getElem? (i := 882) (by decide +kernel)
theorem wd_884 : Jvm.Cond.instanceMethod ({ cls := "PhraseRoads$Ways", name := "goOn", desc := "(JIII)V" } : Jvm.MethodName) ∈ lw_tbl := List.mem_of_getElem? (i := 884) (by decide +kernel)
theorem wd_885 : Jvm.Cond.code ({ cls := "PhraseRoads$Ways", name := "goOn", desc := "(JIII)V" } : Jvm.MethodName) prog_11_method_8_code (17 : Nat) (Option.none : Option Jvm.ClassFile.FieldType) ∈ lw_tbl := List.mem_of_getElem? (i := 885) (by decide +kernel)
theorem wd_886 : Jvm.Cond.methodLinkNest "PhraseRoads$Ways" (117 : Nat) ({ cls := "PhraseRoads$Knots", name := "behind", desc := "(I)I" } : Jvm.MethodName) "PhraseRoads" ∈ lw_tbl := List.mem_of_getElem? (i := 886) (by decide +kernel)
theorem wd_887 : Jvm.Cond.methodLinkNest "PhraseRoads$Ways" (120 : Nat) ({ cls := "PhraseRoads$Knots", name := "last", desc := "(I)I" } : Jvm.MethodName) "PhraseRoads" ∈ lw_tbl := List.mem_of_getElem? (i := 887) (by decide +kernel)
theorem wd_888 : Jvm.Cond.methodLinkNest "PhraseRoads$Ways" (84 : Nat) ({ cls := "PhraseRoads$Options", name := "gap", desc := "(II)I" } : Jvm.MethodName) "PhraseRoads" ∈ lw_tbl := List.mem_of_getElem? (i := 888) (by decide +kernel)
theorem wd_889 : Jvm.Cond.methodLinkNest "PhraseRoads$Ways" (130 : Nat) ({ cls := "PhraseRoads$Knots", name := "follow", desc := "(III)I" } : Jvm.MethodName) "PhraseRoads" ∈ lw_tbl := List.mem_of_getElem? (i := 889) (by decide +kernel)
theorem wd_890 : Jvm.Cond.constant "PhraseRoads$Ways" (137 : Nat) (1000000 : Int32) ∈ lw_tbl := List.mem_of_getElem? (i := 890) (by decide +kernel)
theorem wd_891 : Jvm.Cond.methodLinkNest "PhraseRoads$Ways" (75 : Nat) ({ cls := "PhraseRoads$Options", name := "standing", desc := "(II)I" } : Jvm.MethodName) "PhraseRoads" ∈ lw_tbl := List.mem_of_getElem? (i := 891) (by decide +kernel)
theorem wd_892 : Jvm.Cond.methodLinkNest "PhraseRoads" (384 : Nat) ({ cls := "PhraseRoads$Ways", name := "unfold", desc := "(I)Z" } : Jvm.MethodName) "PhraseRoads" ∈ lw_tbl := List.mem_of_getElem? (i := 892) (by decide +kernel)
theorem wd_894 : Jvm.Cond.instanceMethod ({ cls := "PhraseRoads$Ways", name := "unfold", desc := "(I)Z" } : Jvm.MethodName) ∈ lw_tbl := List.mem_of_getElem? (i := 894) (by decide +kernel)
theorem wd_895 : Jvm.Cond.code ({ cls := "PhraseRoads$Ways", name := "unfold", desc := "(I)Z" } : Jvm.MethodName) prog_11_method_5_code (7 : Nat) (Option.some Jvm.ClassFile.FieldType.boolean) ∈ lw_tbl := List.mem_of_getElem? (i := 895) (by decide +kernel)
theorem wd_896 : Jvm.Cond.methodLink "PhraseRoads$Ways" (71 : Nat) ({ cls := "PhraseRoads$Ways", name := "stepOf", desc := "(JI)I" } : Jvm.MethodName) ∈ lw_tbl := List.mem_of_getElem? (i := 896) (by decide +kernel)
theorem wd_897 : Jvm.Cond.static ({ cls := "PhraseRoads$Ways", name := "stepOf", desc := "(JI)I" } : Jvm.MethodName) ∈ lw_tbl := List.mem_of_getElem? (i := 897) (by decide +kernel)
theorem wd_898 : Jvm.Cond.code ({ cls := "PhraseRoads$Ways", name := "stepOf", desc := "(JI)I" } : Jvm.MethodName) prog_11_method_6_code (3 : Nat) (Option.some Jvm.ClassFile.FieldType.int) ∈ lw_tbl := List.mem_of_getElem? (i := 898) (by decide +kernel)
theorem wd_899 : Jvm.Cond.constantLong "PhraseRoads$Ways" (103 : Nat) (255 : Int64) ∈ lw_tbl := List.mem_of_getElem? (i := 899) (by decide +kernel)
theorem wd_900 : Jvm.Cond.methodLink "PhraseRoads" (359 : Nat) ({ cls := "PhraseRoads", name := "phrasesUnfolded", desc := "()I" } : Jvm.MethodName) ∈ lw_tbl := List.mem_of_getElem? (i := 900) (by decide +kernel)
theorem wd_902 : Jvm.Cond.instanceMethod ({ cls := "PhraseRoads", name := "phrasesUnfolded", desc := "()I" } : Jvm.MethodName) ∈ lw_tbl := List.mem_of_getElem? (i := 902) (by decide +kernel)
theorem wd_903 : Jvm.Cond.code ({ cls := "PhraseRoads", name := "phrasesUnfolded", desc := "()I" } : Jvm.MethodName) prog_1_method_54_code (4 : Nat) (Option.some Jvm.ClassFile.FieldType.int) ∈ lw_tbl := List.mem_of_getElem? (i := 903) (by decide +kernel)
theorem wd_904 : Jvm.Cond.methodLink "PhraseRoads" (365 : Nat) ({ cls := "PhraseRoads", name := "reckonOtherwise", desc := "(III)I" } : Jvm.MethodName) ∈ lw_tbl := List.mem_of_getElem? (i := 904) (by decide +kernel)
theorem wd_906 : Jvm.Cond.instanceMethod ({ cls := "PhraseRoads", name := "reckonOtherwise", desc := "(III)I" } : Jvm.MethodName) ∈ lw_tbl := List.mem_of_getElem? (i := 906) (by decide +kernel)
theorem wd_907 : Jvm.Cond.code ({ cls := "PhraseRoads", name := "reckonOtherwise", desc := "(III)I" } : Jvm.MethodName) prog_1_method_53_code (4 : Nat) (Option.some Jvm.ClassFile.FieldType.int) ∈ lw_tbl := List.mem_of_getElem? (i := 907) (by decide +kernel)
theorem wd_908 : Jvm.Cond.methodLink "PhraseRoadsLaw" (217 : Nat) ({ cls := "PhraseRoads", name := "idle", desc := "()I" } : Jvm.MethodName) ∈ lw_tbl := List.mem_of_getElem? (i := 908) (by decide +kernel)
theorem wd_909 : Jvm.Cond.instanceMethod ({ cls := "PhraseRoads", name := "idle", desc := "()I" } : Jvm.MethodName) ∈ lw_tbl := List.mem_of_getElem? (i := 909) (by decide +kernel)
theorem wd_910 : Jvm.Cond.selects "PhraseRoads" ({ cls := "PhraseRoads", name := "idle", desc := "()I" } : Jvm.MethodName) ({ cls := "PhraseRoads", name := "idle", desc := "()I" } : Jvm.MethodName) ∈ lw_tbl := List.mem_of_getElem? (i := 910) (by decide +kernel)
theorem wd_911 : Jvm.Cond.code ({ cls := "PhraseRoads", name := "idle", desc := "()I" } : Jvm.MethodName) prog_1_method_33_code (3 : Nat) (Option.some Jvm.ClassFile.FieldType.int) ∈ lw_tbl := List.mem_of_getElem? (i := 911) (by decide +kernel)
theorem wd_912 : Jvm.Cond.methodLinkNest "PhraseRoads" (182 : Nat) ({ cls := "PhraseRoads$Options", name := "howOften", desc := "(I)I" } : Jvm.MethodName) "PhraseRoads" ∈ lw_tbl := List.mem_of_getElem? (i := 912) (by decide +kernel)
theorem wd_914 : Jvm.Cond.instanceMethod ({ cls := "PhraseRoads$Options", name := "howOften", desc := "(I)I" } : Jvm.MethodName) ∈ lw_tbl := List.mem_of_getElem? (i := 914) (by decide +kernel)
theorem wd_915 : Jvm.Cond.code ({ cls := "PhraseRoads$Options", name := "howOften", desc := "(I)I" } : Jvm.MethodName) prog_7_method_5_code (4 : Nat) (Option.some Jvm.ClassFile.FieldType.int) ∈ lw_tbl := List.mem_of_getElem? (i := 915) (by decide +kernel)
theorem wd_916 : Jvm.Cond.methodLink "PhraseRoadsLaw" (221 : Nat) ({ cls := "PhraseRoads", name := "reach", desc := "()I" } : Jvm.MethodName) ∈ lw_tbl := List.mem_of_getElem? (i := 916) (by decide +kernel)
theorem wd_917 : Jvm.Cond.instanceMethod ({ cls := "PhraseRoads", name := "reach", desc := "()I" } : Jvm.MethodName) ∈ lw_tbl := List.mem_of_getElem? (i := 917) (by decide +kernel)
theorem wd_918 : Jvm.Cond.selects "PhraseRoads" ({ cls := "PhraseRoads", name := "reach", desc := "()I" } : Jvm.MethodName) ({ cls := "PhraseRoads", name := "reach", desc := "()I" } : Jvm.MethodName) ∈ lw_tbl := List.mem_of_getElem? (i := 918) (by decide +kernel)
theorem wd_919 : Jvm.Cond.code ({ cls := "PhraseRoads", name := "reach", desc := "()I" } : Jvm.MethodName) prog_1_method_34_code (4 : Nat) (Option.some Jvm.ClassFile.FieldType.int) ∈ lw_tbl := List.mem_of_getElem? (i := 919) (by decide +kernel)
theorem wd_920 : Jvm.Cond.methodLink "PhraseRoadsLaw" (225 : Nat) ({ cls := "PhraseRoads", name := "width", desc := "()I" } : Jvm.MethodName) ∈ lw_tbl := List.mem_of_getElem? (i := 920) (by decide +kernel)
theorem wd_921 : Jvm.Cond.instanceMethod ({ cls := "PhraseRoads", name := "width", desc := "()I" } : Jvm.MethodName) ∈ lw_tbl := List.mem_of_getElem? (i := 921) (by decide +kernel)
theorem wd_922 : Jvm.Cond.selects "PhraseRoads" ({ cls := "PhraseRoads", name := "width", desc := "()I" } : Jvm.MethodName) ({ cls := "PhraseRoads", name := "width", desc := "()I" } : Jvm.MethodName) ∈ lw_tbl := List.mem_of_getElem? (i := 922) (by decide +kernel)
theorem wd_923 : Jvm.Cond.code ({ cls := "PhraseRoads", name := "width", desc := "()I" } : Jvm.MethodName) prog_1_method_35_code (3 : Nat) (Option.some Jvm.ClassFile.FieldType.int) ∈ lw_tbl := List.mem_of_getElem? (i := 923) (by decide +kernel)
theorem wd_924 : Jvm.Cond.methodLinkNest "PhraseRoads" (373 : Nat) ({ cls := "PhraseRoads$Stacks", name := "fill", desc := "(III)V" } : Jvm.MethodName) "PhraseRoads" ∈ lw_tbl := List.mem_of_getElem? (i := 924) (by decide +kernel)
theorem wd_926 : Jvm.Cond.instanceMethod ({ cls := "PhraseRoads$Stacks", name := "fill", desc := "(III)V" } : Jvm.MethodName) ∈ lw_tbl := List.mem_of_getElem? (i := 926) (by decide +kernel)
theorem wd_927 : Jvm.Cond.code ({ cls := "PhraseRoads$Stacks", name := "fill", desc := "(III)V" } : Jvm.MethodName) prog_9_method_2_code (6 : Nat) (Option.none : Option Jvm.ClassFile.FieldType) ∈ lw_tbl := List.mem_of_getElem? (i := 927) (by decide +kernel)
theorem wd_928 : Jvm.Cond.methodLink "PhraseRoads$Stacks" (58 : Nat) ({ cls := "java/util/Arrays", name := "fill", desc := "([II)V" } : Jvm.MethodName) ∈ lw_tbl := List.mem_of_getElem? (i := 928) (by decide +kernel)
theorem wd_929 : Jvm.Cond.methodLink "PhraseRoads$Stacks" (73 : Nat) ({ cls := "PhraseRoads$Stacks", name := "lay", desc := "(IIII)V" } : Jvm.MethodName) ∈ lw_tbl := List.mem_of_getElem? (i := 929) (by decide +kernel)
theorem wd_931 : Jvm.Cond.instanceMethod ({ cls := "PhraseRoads$Stacks", name := "lay", desc := "(IIII)V" } : Jvm.MethodName) ∈ lw_tbl := List.mem_of_getElem? (i := 931) (by decide +kernel)
theorem wd_932 : Jvm.Cond.code ({ cls := "PhraseRoads$Stacks", name := "lay", desc := "(IIII)V" } : Jvm.MethodName) prog_9_method_3_code (7 : Nat) (Option.none : Option Jvm.ClassFile.FieldType) ∈ lw_tbl := List.mem_of_getElem? (i := 932) (by decide +kernel)
theorem wd_933 : Jvm.Cond.methodLinkNest "PhraseRoads$Stacks" (96 : Nat) ({ cls := "PhraseRoads$Knots", name := "mask", desc := "(I)I" } : Jvm.MethodName) "PhraseRoads" ∈ lw_tbl := List.mem_of_getElem? (i := 933) (by decide +kernel)
theorem wd_934 : Jvm.Cond.methodLink "PhraseRoads$Stacks" (100 : Nat) ({ cls := "java/lang/Integer", name := "bitCount", desc := "(I)I" } : Jvm.MethodName) ∈ lw_tbl := List.mem_of_getElem? (i := 934) (by decide +kernel)
theorem wd_935 : Jvm.Cond.methodLink "PhraseRoads$Stacks" (105 : Nat) ({ cls := "PhraseRoads$Stacks", name := "score", desc := "(I)I" } : Jvm.MethodName) ∈ lw_tbl := List.mem_of_getElem? (i := 935) (by decide +kernel)
theorem wd_937 : Jvm.Cond.instanceMethod ({ cls := "PhraseRoads$Stacks", name := "score", desc := "(I)I" } : Jvm.MethodName) ∈ lw_tbl := List.mem_of_getElem? (i := 937) (by decide +kernel)
theorem wd_938 : Jvm.Cond.code ({ cls := "PhraseRoads$Stacks", name := "score", desc := "(I)I" } : Jvm.MethodName) prog_9_method_4_code (2 : Nat) (Option.some Jvm.ClassFile.FieldType.int) ∈ lw_tbl := List.mem_of_getElem? (i := 938) (by decide +kernel)
theorem wd_939 : Jvm.Cond.methodLink "PhraseRoads$Stacks" (108 : Nat) ({ cls := "java/lang/Math", name := "min", desc := "(II)I" } : Jvm.MethodName) ∈ lw_tbl := List.mem_of_getElem? (i := 939) (by decide +kernel)
theorem wd_940 : Jvm.Cond.methodLink "PhraseRoads$Stacks" (82 : Nat) ({ cls := "PhraseRoads$Stacks", name := "choose", desc := "(II)V" } : Jvm.MethodName) ∈ lw_tbl := List.mem_of_getElem? (i := 940) (by decide +kernel)
theorem wd_942 : Jvm.Cond.instanceMethod ({ cls := "PhraseRoads$Stacks", name := "choose", desc := "(II)V" } : Jvm.MethodName) ∈ lw_tbl := List.mem_of_getElem? (i := 942) (by decide +kernel)
theorem wd_943 : Jvm.Cond.code ({ cls := "PhraseRoads$Stacks", name := "choose", desc := "(II)V" } : Jvm.MethodName) prog_9_method_5_code (4 : Nat) (Option.none : Option Jvm.ClassFile.FieldType) ∈ lw_tbl := List.mem_of_getElem? (i := 943) (by decide +kernel)
theorem wd_944 : Jvm.Cond.methodLink "PhraseRoads$Stacks" (122 : Nat) ({ cls := "PhraseRoads$Stacks", name := "offer", desc := "(II)V" } : Jvm.MethodName) ∈ lw_tbl := List.mem_of_getElem? (i := 944) (by decide +kernel)
theorem wd_946 : Jvm.Cond.instanceMethod ({ cls := "PhraseRoads$Stacks", name := "offer", desc := "(II)V" } : Jvm.MethodName) ∈ lw_tbl := List.mem_of_getElem? (i := 946) (by decide +kernel)
theorem wd_947 : Jvm.Cond.code ({ cls := "PhraseRoads$Stacks", name := "offer", desc := "(II)V" } : Jvm.MethodName) prog_9_method_6_code (6 : Nat) (Option.none : Option Jvm.ClassFile.FieldType) ∈ lw_tbl := List.mem_of_getElem? (i := 947) (by decide +kernel)
theorem wd_948 : Jvm.Cond.methodLink "PhraseRoads$Stacks" (89 : Nat) ({ cls := "PhraseRoads$Stacks", name := "goOn", desc := "(III)V" } : Jvm.MethodName) ∈ lw_tbl := List.mem_of_getElem? (i := 948) (by decide +kernel)
theorem wd_950 : Jvm.Cond.instanceMethod ({ cls := "PhraseRoads$Stacks", name := "goOn", desc := "(III)V" } : Jvm.MethodName) ∈ lw_tbl := List.mem_of_getElem? (i := 950) (by decide +kernel)
theorem wd_951 : Jvm.Cond.code ({ cls := "PhraseRoads$Stacks", name := "goOn", desc := "(III)V" } : Jvm.MethodName) prog_9_method_7_code (10 : Nat) (Option.none : Option Jvm.ClassFile.FieldType) ∈ lw_tbl := List.mem_of_getElem? (i := 951) (by decide +kernel)
theorem wd_952 : Jvm.Cond.methodLinkNest "PhraseRoads$Stacks" (125 : Nat) ({ cls := "PhraseRoads$Knots", name := "behind", desc := "(I)I" } : Jvm.MethodName) "PhraseRoads" ∈ lw_tbl := List.mem_of_getElem? (i := 952) (by decide +kernel)
theorem wd_953 : Jvm.Cond.methodLinkNest "PhraseRoads$Stacks" (128 : Nat) ({ cls := "PhraseRoads$Knots", name := "last", desc := "(I)I" } : Jvm.MethodName) "PhraseRoads" ∈ lw_tbl := List.mem_of_getElem? (i := 953) (by decide +kernel)
theorem wd_954 : Jvm.Cond.methodLinkNest "PhraseRoads$Stacks" (132 : Nat) ({ cls := "PhraseRoads$Options", name := "gap", desc := "(II)I" } : Jvm.MethodName) "PhraseRoads" ∈ lw_tbl := List.mem_of_getElem? (i := 954) (by decide +kernel)
theorem wd_955 : Jvm.Cond.methodLinkNest "PhraseRoads$Stacks" (138 : Nat) ({ cls := "PhraseRoads$Knots", name := "follow", desc := "(III)I" } : Jvm.MethodName) "PhraseRoads" ∈ lw_tbl := List.mem_of_getElem? (i := 955) (by decide +kernel)
theorem wd_956 : Jvm.Cond.methodLinkNest "PhraseRoads$Stacks" (142 : Nat) ({ cls := "PhraseRoads$Options", name := "standing", desc := "(II)I" } : Jvm.MethodName) "PhraseRoads" ∈ lw_tbl := List.mem_of_getElem? (i := 956) (by decide +kernel)
theorem wd_957 : Jvm.Cond.methodLink "PhraseRoads$Stacks" (93 : Nat) ({ cls := "PhraseRoads$Stacks", name := "find", desc := "()V" } : Jvm.MethodName) ∈ lw_tbl := List.mem_of_getElem? (i := 957) (by decide +kernel)
theorem wd_959 : Jvm.Cond.instanceMethod ({ cls := "PhraseRoads$Stacks", name := "find", desc := "()V" } : Jvm.MethodName) ∈ lw_tbl := List.mem_of_getElem? (i := 959) (by decide +kernel)
theorem wd_960 : Jvm.Cond.code ({ cls := "PhraseRoads$Stacks", name := "find", desc := "()V" } : Jvm.MethodName) prog_9_method_8_code (4 : Nat) (Option.none : Option Jvm.ClassFile.FieldType) ∈ lw_tbl := List.mem_of_getElem? (i := 960) (by decide +kernel)
theorem wd_961 : Jvm.Cond.methodLinkNest "PhraseRoads$Stacks" (148 : Nat) ({ cls := "PhraseRoads$Options", name := "ending", desc := "(I)I" } : Jvm.MethodName) "PhraseRoads" ∈ lw_tbl := List.mem_of_getElem? (i := 961) (by decide +kernel)
theorem wd_962 : Jvm.Cond.methodLink "PhraseRoads$Stacks" (151 : Nat) ({ cls := "PhraseRoads$Stacks", name := "tracePath", desc := "(I)V" } : Jvm.MethodName) ∈ lw_tbl := List.mem_of_getElem? (i := 962) (by decide +kernel)
theorem wd_964 : Jvm.Cond.instanceMethod ({ cls := "PhraseRoads$Stacks", name := "tracePath", desc := "(I)V" } : Jvm.MethodName) ∈ lw_tbl := List.mem_of_getElem? (i := 964) (by decide +kernel)
theorem wd_965 : Jvm.Cond.code ({ cls := "PhraseRoads$Stacks", name := "tracePath", desc := "(I)V" } : Jvm.MethodName) prog_9_method_9_code (4 : Nat) (Option.none : Option Jvm.ClassFile.FieldType) ∈ lw_tbl := List.mem_of_getElem? (i := 965) (by decide +kernel)
theorem wd_966 : Jvm.Cond.methodLink "PhraseRoadsLaw" (232 : Nat) ({ cls := "PhraseRoads", name := "image", desc := "()V" } : Jvm.MethodName) ∈ lw_tbl := List.mem_of_getElem? (i := 966) (by decide +kernel)
theorem wd_967 : Jvm.Cond.instanceMethod ({ cls := "PhraseRoads", name := "image", desc := "()V" } : Jvm.MethodName) ∈ lw_tbl := List.mem_of_getElem? (i := 967) (by decide +kernel)
theorem wd_968 : Jvm.Cond.selects "PhraseRoads" ({ cls := "PhraseRoads", name := "image", desc := "()V" } : Jvm.MethodName) ({ cls := "PhraseRoads", name := "image", desc := "()V" } : Jvm.MethodName) ∈ lw_tbl := List.mem_of_getElem? (i := 968) (by decide +kernel)
theorem wd_969 : Jvm.Cond.code ({ cls := "PhraseRoads", name := "image", desc := "()V" } : Jvm.MethodName) prog_1_method_37_code (1 : Nat) (Option.none : Option Jvm.ClassFile.FieldType) ∈ lw_tbl := List.mem_of_getElem? (i := 969) (by decide +kernel)
theorem wd_970 : Jvm.Cond.methodLinkNest "PhraseRoads" (94 : Nat) ({ cls := "PhraseRoads$Knowledge", name := "copy", desc := "(LPhraseRoads$Knowledge;)V" } : Jvm.MethodName) "PhraseRoads" ∈ lw_tbl := List.mem_of_getElem? (i := 970) (by decide +kernel)
theorem wd_972 : Jvm.Cond.instanceMethod ({ cls := "PhraseRoads$Knowledge", name := "copy", desc := "(LPhraseRoads$Knowledge;)V" } : Jvm.MethodName) ∈ lw_tbl := List.mem_of_getElem? (i := 972) (by decide +kernel)
theorem wd_973 : Jvm.Cond.code ({ cls := "PhraseRoads$Knowledge", name := "copy", desc := "(LPhraseRoads$Knowledge;)V" } : Jvm.MethodName) prog_4_method_2_code (3 : Nat) (Option.none : Option Jvm.ClassFile.FieldType) ∈ lw_tbl := List.mem_of_getElem? (i := 973) (by decide +kernel)
theorem wd_974 : Jvm.Cond.methodLink "PhraseRoads$Knowledge" (46 : Nat) ({ cls := "java/lang/System", name := "arraycopy", desc := "(Ljava/lang/Object;ILjava/lang/Object;II)V" } : Jvm.MethodName) ∈ lw_tbl := List.mem_of_getElem? (i := 974) (by decide +kernel)
theorem wd_975 : Jvm.Cond.methodLink "PhraseRoadsLaw" (236 : Nat) ({ cls := "PhraseRoads", name := "back", desc := "()Z" } : Jvm.MethodName) ∈ lw_tbl := List.mem_of_getElem? (i := 975) (by decide +kernel)
theorem wd_976 : Jvm.Cond.instanceMethod ({ cls := "PhraseRoads", name := "back", desc := "()Z" } : Jvm.MethodName) ∈ lw_tbl := List.mem_of_getElem? (i := 976) (by decide +kernel)
theorem wd_977 : Jvm.Cond.selects "PhraseRoads" ({ cls := "PhraseRoads", name := "back", desc := "()Z" } : Jvm.MethodName) ({ cls := "PhraseRoads", name := "back", desc := "()Z" } : Jvm.MethodName) ∈ lw_tbl := List.mem_of_getElem? (i := 977) (by decide +kernel)
theorem wd_978 : Jvm.Cond.code ({ cls := "PhraseRoads", name := "back", desc := "()Z" } : Jvm.MethodName) prog_1_method_38_code (1 : Nat) (Option.some Jvm.ClassFile.FieldType.boolean) ∈ lw_tbl := List.mem_of_getElem? (i := 978) (by decide +kernel)
theorem wd_979 : Jvm.Cond.methodLink "PhraseRoads" (214 : Nat) ({ cls := "PhraseRoads", name := "forgetOptions", desc := "()V" } : Jvm.MethodName) ∈ lw_tbl := List.mem_of_getElem? (i := 979) (by decide +kernel)
theorem wd_981 : Jvm.Cond.instanceMethod ({ cls := "PhraseRoads", name := "forgetOptions", desc := "()V" } : Jvm.MethodName) ∈ lw_tbl := List.mem_of_getElem? (i := 981) (by decide +kernel)
theorem wd_982 : Jvm.Cond.code ({ cls := "PhraseRoads", name := "forgetOptions", desc := "()V" } : Jvm.MethodName) prog_1_method_47_code (1 : Nat) (Option.none : Option Jvm.ClassFile.FieldType) ∈ lw_tbl := List.mem_of_getElem? (i := 982) (by decide +kernel)
theorem wd_983 : Jvm.Cond.methodLink "PhraseRoads" (240 : Nat) ({ cls := "PhraseRoads", name := "forgetWays", desc := "()V" } : Jvm.MethodName) ∈ lw_tbl := List.mem_of_getElem? (i := 983) (by decide +kernel)
theorem wd_985 : Jvm.Cond.instanceMethod ({ cls := "PhraseRoads", name := "forgetWays", desc := "()V" } : Jvm.MethodName) ∈ lw_tbl := List.mem_of_getElem? (i := 985) (by decide +kernel)
theorem wd_986 : Jvm.Cond.code ({ cls := "PhraseRoads", name := "forgetWays", desc := "()V" } : Jvm.MethodName) prog_1_method_48_code (1 : Nat) (Option.none : Option Jvm.ClassFile.FieldType) ∈ lw_tbl := List.mem_of_getElem? (i := 986) (by decide +kernel)
theorem wd_987 : Jvm.Cond.methodLink "PhraseRoadsLaw" (241 : Nat) ({ cls := "PhraseRoads", name := "count", desc := "(I)I" } : Jvm.MethodName) ∈ lw_tbl := List.mem_of_getElem? (i := 987) (by decide +kernel)
theorem wd_988 : Jvm.Cond.instanceMethod ({ cls := "PhraseRoads", name := "count", desc := "(I)I" } : Jvm.MethodName) ∈ lw_tbl := List.mem_of_getElem? (i := 988) (by decide +kernel)
theorem wd_989 : Jvm.Cond.selects "PhraseRoads" ({ cls := "PhraseRoads", name := "count", desc := "(I)I" } : Jvm.MethodName) ({ cls := "PhraseRoads", name := "count", desc := "(I)I" } : Jvm.MethodName) ∈ lw_tbl := List.mem_of_getElem? (i := 989) (by decide +kernel)
theorem wd_990 : Jvm.Cond.code ({ cls := "PhraseRoads", name := "count", desc := "(I)I" } : Jvm.MethodName) prog_1_method_39_code (2 : Nat) (Option.some Jvm.ClassFile.FieldType.int) ∈ lw_tbl := List.mem_of_getElem? (i := 990) (by decide +kernel)
theorem wd_991 : Jvm.Cond.methodLinkNest "PhraseRoads" (393 : Nat) ({ cls := "PhraseRoads$Knowledge", name := "livingPhrases", desc := "()I" } : Jvm.MethodName) "PhraseRoads" ∈ lw_tbl := List.mem_of_getElem? (i := 991) (by decide +kernel)
theorem wd_993 : Jvm.Cond.instanceMethod ({ cls := "PhraseRoads$Knowledge", name := "livingPhrases", desc := "()I" } : Jvm.MethodName) ∈ lw_tbl := List.mem_of_getElem? (i := 993) (by decide +kernel)
theorem wd_994 : Jvm.Cond.code ({ cls := "PhraseRoads$Knowledge", name := "livingPhrases", desc := "()I" } : Jvm.MethodName) prog_4_method_8_code (3 : Nat) (Option.some Jvm.ClassFile.FieldType.int) ∈ lw_tbl := List.mem_of_getElem? (i := 994) (by decide +kernel)
theorem wd_995 : Jvm.Cond.methodLink "PhraseRoadsLaw" (115 : Nat) ({ cls := "PhraseRoadsLaw", name := "book", desc := "(LPhraseRoads;[J)I" } : Jvm.MethodName) ∈ lw_tbl := List.mem_of_getElem? (i := 995) (by decide +kernel)
theorem wd_996 : Jvm.Cond.static ({ cls := "PhraseRoadsLaw", name := "book", desc := "(LPhraseRoads;[J)I" } : Jvm.MethodName) ∈ lw_tbl := List.mem_of_getElem? (i := 996) (by decide +kernel)
theorem wd_997 : Jvm.Cond.codeWith ({ cls := "PhraseRoadsLaw", name := "book", desc := "(LPhraseRoads;[J)I" } : Jvm.MethodName) method_3_code (3 : Nat) (Option.some Jvm.ClassFile.FieldType.int) [((0 : Nat), (8 : Nat), (11 : Nat), (13 : Nat))] ∈ lw_tbl := List.mem_of_getElem? (i := 997) (by decide +kernel)
theorem wd_998 : Jvm.Cond.classLink "PhraseRoadsLaw" (13 : Nat) "java/lang/IllegalArgumentException" ∈ lw_tbl := List.mem_of_getElem? (i := 998) (by decide +kernel)
theorem wd_999 : Jvm.Cond.methodLink "PhraseRoadsLaw" (7 : Nat) ({ cls := "PhraseRoads", name := "book", desc := "()I" } : Jvm.MethodName) ∈ lw_tbl := List.mem_of_getElem? (i := 999) (by decide +kernel)
theorem wd_1000 : Jvm.Cond.instanceMethod ({ cls := "PhraseRoads", name := "book", desc := "()I" } : Jvm.MethodName) ∈ lw_tbl := List.mem_of_getElem? (i := 1000) (by decide +kernel)
theorem wd_1001 : Jvm.Cond.selects "PhraseRoads" ({ cls := "PhraseRoads", name := "book", desc := "()I" } : Jvm.MethodName) ({ cls := "PhraseRoads", name := "book", desc := "()I" } : Jvm.MethodName) ∈ lw_tbl := List.mem_of_getElem? (i := 1001) (by decide +kernel)
theorem wd_1002 : Jvm.Cond.code ({ cls := "PhraseRoads", name := "book", desc := "()I" } : Jvm.MethodName) prog_1_method_4_code (2 : Nat) (Option.some Jvm.ClassFile.FieldType.int) ∈ lw_tbl := List.mem_of_getElem? (i := 1002) (by decide +kernel)
theorem wd_1003 : Jvm.Cond.methodLinkNest "PhraseRoads" (97 : Nat) ({ cls := "PhraseRoads$Reader", name := "readBook", desc := "(LPhraseRoads$Knowledge;)V" } : Jvm.MethodName) "PhraseRoads" ∈ lw_tbl := List.mem_of_getElem? (i := 1003) (by decide +kernel)
theorem wd_1005 : Jvm.Cond.instanceMethod ({ cls := "PhraseRoads$Reader", name := "readBook", desc := "(LPhraseRoads$Knowledge;)V" } : Jvm.MethodName) ∈ lw_tbl := List.mem_of_getElem? (i := 1005) (by decide +kernel)
theorem wd_1006 : Jvm.Cond.code ({ cls := "PhraseRoads$Reader", name := "readBook", desc := "(LPhraseRoads$Knowledge;)V" } : Jvm.MethodName) prog_8_method_5_code (4 : Nat) (Option.none : Option Jvm.ClassFile.FieldType) ∈ lw_tbl := List.mem_of_getElem? (i := 1006) (by decide +kernel)
theorem wd_1007 : Jvm.Cond.methodLink "PhraseRoads$Reader" (53 : Nat) ({ cls := "PhraseRoads$Reader", name := "start", desc := "(LPhraseRoads$Knowledge;Z)V" } : Jvm.MethodName) ∈ lw_tbl := List.mem_of_getElem? (i := 1007) (by decide +kernel)
theorem wd_1009 : Jvm.Cond.instanceMethod ({ cls := "PhraseRoads$Reader", name := "start", desc := "(LPhraseRoads$Knowledge;Z)V" } : Jvm.MethodName) ∈ lw_tbl := List.mem_of_getElem? (i := 1009) (by decide +kernel)
theorem wd_1010 : Jvm.Cond.code ({ cls := "PhraseRoads$Reader", name := "start", desc := "(LPhraseRoads$Knowledge;Z)V" } : Jvm.MethodName) prog_8_method_9_code (3 : Nat) (Option.none : Option Jvm.ClassFile.FieldType) ∈ lw_tbl := List.mem_of_getElem? (i := 1010) (by decide +kernel)
theorem wd_1011 : Jvm.Cond.methodLink "PhraseRoads$Reader" (110 : Nat) ({ cls := "PhraseRoads$Reader", name := "skipBlanks", desc := "()V" } : Jvm.MethodName) ∈ lw_tbl := List.mem_of_getElem? (i := 1011) (by decide +kernel)
theorem wd_1013 : Jvm.Cond.instanceMethod ({ cls := "PhraseRoads$Reader", name := "skipBlanks", desc := "()V" } : Jvm.MethodName) ∈ lw_tbl := List.mem_of_getElem? (i := 1013) (by decide +kernel)
theorem wd_1014 : Jvm.Cond.code ({ cls := "PhraseRoads$Reader", name := "skipBlanks", desc := "()V" } : Jvm.MethodName) prog_8_method_21_code (1 : Nat) (Option.none : Option Jvm.ClassFile.FieldType) ∈ lw_tbl := List.mem_of_getElem? (i := 1014) (by decide +kernel)
theorem wd_1015 : Jvm.Cond.methodLink "PhraseRoads$Reader" (60 : Nat) ({ cls := "PhraseRoads$Reader", name := "readEntry", desc := "(I)V" } : Jvm.MethodName) ∈ lw_tbl := List.mem_of_getElem? (i := 1015) (by decide +kernel)
theorem wd_1017 : Jvm.Cond.instanceMethod ({ cls := "PhraseRoads$Reader", name := "readEntry", desc := "(I)V" } : Jvm.MethodName) ∈ lw_tbl := List.mem_of_getElem? (i := 1017) (by decide +kernel)
theorem wd_1018 : Jvm.Cond.code ({ cls := "PhraseRoads$Reader", name := "readEntry", desc := "(I)V" } : Jvm.MethodName) prog_8_method_11_code (2 : Nat) (Option.none : Option Jvm.ClassFile.FieldType) ∈ lw_tbl := List.mem_of_getElem? (i := 1018) (by decide +kernel)
theorem wd_1019 : Jvm.Cond.methodLink "PhraseRoads$Reader" (71 : Nat) ({ cls := "PhraseRoads$Reader", name := "readWords", desc := "([III)I" } : Jvm.MethodName) ∈ lw_tbl := List.mem_of_getElem? (i := 1019) (by decide +kernel)
theorem wd_1021 : Jvm.Cond.instanceMethod ({ cls := "PhraseRoads$Reader", name := "readWords", desc := "([III)I" } : Jvm.MethodName) ∈ lw_tbl := List.mem_of_getElem? (i := 1021) (by decide +kernel)
theorem wd_1022 : Jvm.Cond.code ({ cls := "PhraseRoads$Reader", name := "readWords", desc := "([III)I" } : Jvm.MethodName) prog_8_method_14_code (5 : Nat) (Option.some Jvm.ClassFile.FieldType.int) ∈ lw_tbl := List.mem_of_getElem? (i := 1022) (by decide +kernel)
theorem wd_1023 : Jvm.Cond.methodLink "PhraseRoads$Reader" (96 : Nat) ({ cls := "PhraseRoads$Reader", name := "isRight", desc := "()Z" } : Jvm.MethodName) ∈ lw_tbl := List.mem_of_getElem? (i := 1023) (by decide +kernel)
theorem wd_1025 : Jvm.Cond.instanceMethod ({ cls := "PhraseRoads$Reader", name := "isRight", desc := "()Z" } : Jvm.MethodName) ∈ lw_tbl := List.mem_of_getElem? (i := 1025) (by decide +kernel)
theorem wd_1026 : Jvm.Cond.code ({ cls := "PhraseRoads$Reader", name := "isRight", desc := "()Z" } : Jvm.MethodName) prog_8_method_3_code (1 : Nat) (Option.some Jvm.ClassFile.FieldType.boolean) ∈ lw_tbl := List.mem_of_getElem? (i := 1026) (by decide +kernel)
theorem wd_1027 : Jvm.Cond.methodLink "PhraseRoads$Reader" (124 : Nat) ({ cls := "PhraseRoads$Reader", name := "atLetter", desc := "()Z" } : Jvm.MethodName) ∈ lw_tbl := List.mem_of_getElem? (i := 1027) (by decide +kernel)
theorem wd_1029 : Jvm.Cond.instanceMethod ({ cls := "PhraseRoads$Reader", name := "atLetter", desc := "()Z" } : Jvm.MethodName) ∈ lw_tbl := List.mem_of_getElem? (i := 1029) (by decide +kernel)
theorem wd_1030 : Jvm.Cond.code ({ cls := "PhraseRoads$Reader", name := "atLetter", desc := "()Z" } : Jvm.MethodName) prog_8_method_20_code (1 : Nat) (Option.some Jvm.ClassFile.FieldType.boolean) ∈ lw_tbl := List.mem_of_getElem? (i := 1030) (by decide +kernel)
theorem wd_1031 : Jvm.Cond.methodLink "PhraseRoads$Reader" (120 : Nat) ({ cls := "PhraseRoads$Reader", name := "readWord", desc := "()I" } : Jvm.MethodName) ∈ lw_tbl := List.mem_of_getElem? (i := 1031) (by decide +kernel)
theorem wd_1033 : Jvm.Cond.instanceMethod ({ cls := "PhraseRoads$Reader", name := "readWord", desc := "()I" } : Jvm.MethodName) ∈ lw_tbl := List.mem_of_getElem? (i := 1033) (by decide +kernel)
theorem wd_1034 : Jvm.Cond.code ({ cls := "PhraseRoads$Reader", name := "readWord", desc := "()I" } : Jvm.MethodName) prog_8_method_15_code (4 : Nat) (Option.some Jvm.ClassFile.FieldType.int) ∈ lw_tbl := List.mem_of_getElem? (i := 1034) (by decide +kernel)
theorem wd_1035 : Jvm.Cond.methodLink "PhraseRoads$Reader" (78 : Nat) ({ cls := "PhraseRoads$Reader", name := "fail", desc := "(I)V" } : Jvm.MethodName) ∈ lw_tbl := List.mem_of_getElem? (i := 1035) (by decide +kernel)
theorem wd_1037 : Jvm.Cond.instanceMethod ({ cls := "PhraseRoads$Reader", name := "fail", desc := "(I)V" } : Jvm.MethodName) ∈ lw_tbl := List.mem_of_getElem? (i := 1037) (by decide +kernel)
theorem wd_1038 : Jvm.Cond.code ({ cls := "PhraseRoads$Reader", name := "fail", desc := "(I)V" } : Jvm.MethodName) prog_8_method_4_code (2 : Nat) (Option.none : Option Jvm.ClassFile.FieldType) ∈ lw_tbl := List.mem_of_getElem? (i := 1038) (by decide +kernel)
theorem wd_1039 : Jvm.Cond.methodLinkNest "PhraseRoads$Reader" (127 : Nat) ({ cls := "PhraseRoads$Knowledge", name := "findWord", desc := "([III)I" } : Jvm.MethodName) "PhraseRoads" ∈ lw_tbl := List.mem_of_getElem? (i := 1039) (by decide +kernel)
theorem wd_1041 : Jvm.Cond.instanceMethod ({ cls := "PhraseRoads$Knowledge", name := "findWord", desc := "([III)I" } : Jvm.MethodName) ∈ lw_tbl := List.mem_of_getElem? (i := 1041) (by decide +kernel)
theorem wd_1042 : Jvm.Cond.code ({ cls := "PhraseRoads$Knowledge", name := "findWord", desc := "([III)I" } : Jvm.MethodName) prog_4_method_3_code (5 : Nat) (Option.some Jvm.ClassFile.FieldType.int) ∈ lw_tbl := List.mem_of_getElem? (i := 1042) (by decide +kernel)
theorem wd_1043 : Jvm.Cond.methodLinkNest "PhraseRoads$Reader" (135 : Nat) ({ cls := "PhraseRoads$Knowledge", name := "addWord", desc := "([III)I" } : Jvm.MethodName) "PhraseRoads" ∈ lw_tbl := List.mem_of_getElem? (i := 1043) (by decide +kernel)
theorem wd_1045 : Jvm.Cond.instanceMethod ({ cls := "PhraseRoads$Knowledge", name := "addWord", desc := "([III)I" } : Jvm.MethodName) ∈ lw_tbl := List.mem_of_getElem? (i := 1045) (by decide +kernel)
theorem wd_1046 : Jvm.Cond.code ({ cls := "PhraseRoads$Knowledge", name := "addWord", desc := "([III)I" } : Jvm.MethodName) prog_4_method_4_code (5 : Nat) (Option.some Jvm.ClassFile.FieldType.int) ∈ lw_tbl := List.mem_of_getElem? (i := 1046) (by decide +kernel)
theorem wd_1047 : Jvm.Cond.methodLink "PhraseRoads$Reader" (81 : Nat) ({ cls := "PhraseRoads$Reader", name := "needSome", desc := "(I)V" } : Jvm.MethodName) ∈ lw_tbl := List.mem_of_getElem? (i := 1047) (by decide +kernel)
theorem wd_1049 : Jvm.Cond.instanceMethod ({ cls := "PhraseRoads$Reader", name := "needSome", desc := "(I)V" } : Jvm.MethodName) ∈ lw_tbl := List.mem_of_getElem? (i := 1049) (by decide +kernel)
theorem wd_1050 : Jvm.Cond.code ({ cls := "PhraseRoads$Reader", name := "needSome", desc := "(I)V" } : Jvm.MethodName) prog_8_method_17_code (2 : Nat) (Option.none : Option Jvm.ClassFile.FieldType) ∈ lw_tbl := List.mem_of_getElem? (i := 1050) (by decide +kernel)
theorem wd_1051 : Jvm.Cond.methodLink "PhraseRoads$Reader" (84 : Nat) ({ cls := "PhraseRoads$Reader", name := "expect", desc := "(I)V" } : Jvm.MethodName) ∈ lw_tbl := List.mem_of_getElem? (i := 1051) (by decide +kernel)
theorem wd_1053 : Jvm.Cond.instanceMethod ({ cls := "PhraseRoads$Reader", name := "expect", desc := "(I)V" } : Jvm.MethodName) ∈ lw_tbl := List.mem_of_getElem? (i := 1053) (by decide +kernel)
theorem wd_1054 : Jvm.Cond.code ({ cls := "PhraseRoads$Reader", name := "expect", desc := "(I)V" } : Jvm.MethodName) prog_8_method_18_code (2 : Nat) (Option.none : Option Jvm.ClassFile.FieldType) ∈ lw_tbl := List.mem_of_getElem? (i := 1054) (by decide +kernel)
theorem wd_1055 : Jvm.Cond.methodLink "PhraseRoads$Reader" (117 : Nat) ({ cls := "PhraseRoads$Reader", name := "take", desc := "(I)Z" } : Jvm.MethodName) ∈ lw_tbl := List.mem_of_getElem? (i := 1055) (by decide +kernel)
theorem wd_1057 : Jvm.Cond.instanceMethod ({ cls := "PhraseRoads$Reader", name := "take", desc := "(I)Z" } : Jvm.MethodName) ∈ lw_tbl := List.mem_of_getElem? (i := 1057) (by decide +kernel)
theorem wd_1058 : Jvm.Cond.code ({ cls := "PhraseRoads$Reader", name := "take", desc := "(I)Z" } : Jvm.MethodName) prog_8_method_19_code (2 : Nat) (Option.some Jvm.ClassFile.FieldType.boolean) ∈ lw_tbl := List.mem_of_getElem? (i := 1058) (by decide +kernel)
theorem wd_1059 : Jvm.Cond.methodLink "PhraseRoads$Reader" (113 : Nat) ({ cls := "PhraseRoads$Reader", name := "readNumber", desc := "(I)I" } : Jvm.MethodName) ∈ lw_tbl := List.mem_of_getElem? (i := 1059) (by decide +kernel)
theorem wd_1061 : Jvm.Cond.instanceMethod ({ cls := "PhraseRoads$Reader", name := "readNumber", desc := "(I)I" } : Jvm.MethodName) ∈ lw_tbl := List.mem_of_getElem? (i := 1061) (by decide +kernel)
theorem wd_1062 : Jvm.Cond.code ({ cls := "PhraseRoads$Reader", name := "readNumber", desc := "(I)I" } : Jvm.MethodName) prog_8_method_16_code (5 : Nat) (Option.some Jvm.ClassFile.FieldType.int) ∈ lw_tbl := List.mem_of_getElem? (i := 1062) (by decide +kernel)
theorem wd_1063 : Jvm.Cond.methodLink "PhraseRoads$Reader" (64 : Nat) ({ cls := "PhraseRoads$Reader", name := "goesOn", desc := "(I)Z" } : Jvm.MethodName) ∈ lw_tbl := List.mem_of_getElem? (i := 1063) (by decide +kernel)
theorem wd_1065 : Jvm.Cond.instanceMethod ({ cls := "PhraseRoads$Reader", name := "goesOn", desc := "(I)Z" } : Jvm.MethodName) ∈ lw_tbl := List.mem_of_getElem? (i := 1065) (by decide +kernel)
theorem wd_1066 : Jvm.Cond.code ({ cls := "PhraseRoads$Reader", name := "goesOn", desc := "(I)Z" } : Jvm.MethodName) prog_8_method_10_code (2 : Nat) (Option.some Jvm.ClassFile.FieldType.boolean) ∈ lw_tbl := List.mem_of_getElem? (i := 1066) (by decide +kernel)
theorem wd_1067 : Jvm.Cond.methodLinkNest "PhraseRoads" (100 : Nat) ({ cls := "PhraseRoads$Knowledge", name := "enterBook", desc := "(LPhraseRoads$Reader;)I" } : Jvm.MethodName) "PhraseRoads" ∈ lw_tbl := List.mem_of_getElem? (i := 1067) (by decide +kernel)
theorem wd_1069 : Jvm.Cond.instanceMethod ({ cls := "PhraseRoads$Knowledge", name := "enterBook", desc := "(LPhraseRoads$Reader;)I" } : Jvm.MethodName) ∈ lw_tbl := List.mem_of_getElem? (i := 1069) (by decide +kernel)
theorem wd_1070 : Jvm.Cond.code ({ cls := "PhraseRoads$Knowledge", name := "enterBook", desc := "(LPhraseRoads$Reader;)I" } : Jvm.MethodName) prog_4_method_11_code (6 : Nat) (Option.some Jvm.ClassFile.FieldType.int) ∈ lw_tbl := List.mem_of_getElem? (i := 1070) (by decide +kernel)
theorem wd_1071 : Jvm.Cond.methodLinkNest "PhraseRoads$Knowledge" (78 : Nat) ({ cls := "PhraseRoads$Reader", name := "isRight", desc := "()Z" } : Jvm.MethodName) "PhraseRoads" ∈ lw_tbl := List.mem_of_getElem? (i := 1071) (by decide +kernel)
theorem wd_1072 : Jvm.Cond.methodLink "PhraseRoads$Knowledge" (69 : Nat) ({ cls := "PhraseRoads$Knowledge", name := "findPhrase", desc := "([III[III)I" } : Jvm.MethodName) ∈ lw_tbl := List.mem_of_getElem? (i := 1072) (by decide +kernel)
theorem wd_1074 : Jvm.Cond.instanceMethod ({ cls := "PhraseRoads$Knowledge", name := "findPhrase", desc := "([III[III)I" } : Jvm.MethodName) ∈ lw_tbl := List.mem_of_getElem? (i := 1074) (by decide +kernel)
theorem wd_1075 : Jvm.Cond.code ({ cls := "PhraseRoads$Knowledge", name := "findPhrase", desc := "([III[III)I" } : Jvm.MethodName) prog_4_method_5_code (9 : Nat) (Option.some Jvm.ClassFile.FieldType.int) ∈ lw_tbl := List.mem_of_getElem? (i := 1075) (by decide +kernel)
theorem wd_1076 : Jvm.Cond.methodLinkNest "PhraseRoads$Knowledge" (92 : Nat) ({ cls := "PhraseRoads$Reader", name := "fail", desc := "(I)V" } : Jvm.MethodName) "PhraseRoads" ∈ lw_tbl := List.mem_of_getElem? (i := 1076) (by decide +kernel)
theorem wd_1077 : Jvm.Cond.methodLink "PhraseRoads$Knowledge" (96 : Nat) ({ cls := "PhraseRoads$Knowledge", name := "addPhrase", desc := "([III[IIII)V" } : Jvm.MethodName) ∈ lw_tbl := List.mem_of_getElem? (i := 1077) (by decide +kernel)
theorem wd_1079 : Jvm.Cond.instanceMethod ({ cls := "PhraseRoads$Knowledge", name := "addPhrase", desc := "([III[IIII)V" } : Jvm.MethodName) ∈ lw_tbl := List.mem_of_getElem? (i := 1079) (by decide +kernel)
theorem wd_1080 : Jvm.Cond.code ({ cls := "PhraseRoads$Knowledge", name := "addPhrase", desc := "([III[IIII)V" } : Jvm.MethodName) prog_4_method_6_code (9 : Nat) (Option.none : Option Jvm.ClassFile.FieldType) ∈ lw_tbl := List.mem_of_getElem? (i := 1080) (by decide +kernel)
theorem wd_1081 : Jvm.Cond.methodLink "PhraseRoads" (104 : Nat) ({ cls := "PhraseRoads", name := "checkText", desc := "()V" } : Jvm.MethodName) ∈ lw_tbl := List.mem_of_getElem? (i := 1081) (by decide +kernel)
theorem wd_1083 : Jvm.Cond.instanceMethod ({ cls := "PhraseRoads", name := "checkText", desc := "()V" } : Jvm.MethodName) ∈ lw_tbl := List.mem_of_getElem? (i := 1083) (by decide +kernel)
theorem wd_1084 : Jvm.Cond.code ({ cls := "PhraseRoads", name := "checkText", desc := "()V" } : Jvm.MethodName) prog_1_method_44_code (1 : Nat) (Option.none : Option Jvm.ClassFile.FieldType) ∈ lw_tbl := List.mem_of_getElem? (i := 1084) (by decide +kernel)
theorem wd_1085 : Jvm.Cond.methodLinkNest "PhraseRoads" (133 : Nat) ({ cls := "PhraseRoads$Reader", name := "isRight", desc := "()Z" } : Jvm.MethodName) "PhraseRoads" ∈ lw_tbl := List.mem_of_getElem? (i := 1085) (by decide +kernel)
theorem wd_1086 : Jvm.Cond.classLink "PhraseRoads" (217 : Nat) "java/lang/IllegalArgumentException" ∈ lw_tbl := List.mem_of_getElem? (i := 1086) (by decide +kernel)
theorem wd_1087 : Jvm.Cond.instantiable "java/lang/IllegalArgumentException" (6 : Nat) ∈ lw_tbl := List.mem_of_getElem? (i := 1087) (by decide +kernel)
theorem wd_1095 : Jvm.Cond.selects "java/lang/IllegalArgumentException" ({ cls := "java/lang/Throwable", name := "fillInStackTrace", desc := "(I)Ljava/lang/Throwable;" } : Jvm.MethodName) ({ cls := "java/lang/Throwable", name := "fillInStackTrace", desc := "(I)Ljava/lang/Throwable;" } : Jvm.MethodName) ∈ lw_tbl := List.mem_of_getElem? (i := 1095) (by decide +kernel)
theorem wd_1096 : Jvm.Cond.selects "java/lang/IllegalArgumentException" ({ cls := "java/lang/Throwable", name := "fillInStackTrace", desc := "()Ljava/lang/Throwable;" } : Jvm.MethodName) ({ cls := "java/lang/Throwable", name := "fillInStackTrace", desc := "()Ljava/lang/Throwable;" } : Jvm.MethodName) ∈ lw_tbl := List.mem_of_getElem? (i := 1096) (by decide +kernel)
theorem wd_1107 : Jvm.Cond.fieldLink "java/lang/Throwable" (198 : Nat) "java/lang/Throwable" "backtrace" "Ljava/lang/Object;" ∈ lw_tbl := List.mem_of_getElem? (i := 1107) (by decide +kernel)
theorem wd_1109 : Jvm.Cond.instanceMethod ({ cls := "java/lang/Throwable", name := "<init>", desc := "()V" } : Jvm.MethodName) ∈ lw_tbl := List.mem_of_getElem? (i := 1109) (by decide +kernel)
theorem wd_1110 : Jvm.Cond.code ({ cls := "java/lang/Throwable", name := "<init>", desc := "()V" } : Jvm.MethodName) prog_23_method_1_code (1 : Nat) (Option.none : Option Jvm.ClassFile.FieldType) ∈ lw_tbl := List.mem_of_getElem? (i := 1110) (by decide +kernel)
theorem wd_1111 : Jvm.Cond.methodLink "java/lang/Throwable" (1 : Nat) ({ cls := "java/lang/Object", name := "<init>", desc := "()V" } : Jvm.MethodName) ∈ lw_tbl := List.mem_of_getElem? (i := 1111) (by decide +kernel)
theorem wd_1112 : Jvm.Cond.fieldLink "java/lang/Throwable" (13 : Nat) "java/lang/Throwable" "UNASSIGNED_STACK" "[Ljava/lang/StackTraceElement;" ∈ lw_tbl := List.mem_of_getElem? (i := 1112) (by decide +kernel)
theorem wd_1114 : Jvm.Cond.fieldLink "java/lang/Throwable" (20 : Nat) "java/lang/Throwable" "SUPPRESSED_SENTINEL" "Ljava/util/List;" ∈ lw_tbl := List.mem_of_getElem? (i := 1114) (by decide +kernel)
theorem wd_1116 : Jvm.Cond.methodLink "java/lang/Throwable" (27 : Nat) ({ cls := "java/lang/Throwable", name := "fillInStackTrace", desc := "()Ljava/lang/Throwable;" } : Jvm.MethodName) ∈ lw_tbl := List.mem_of_getElem? (i := 1116) (by decide +kernel)
theorem wd_1117 : Jvm.Cond.instanceMethod ({ cls := "java/lang/Throwable", name := "fillInStackTrace", desc := "()Ljava/lang/Throwable;" } : Jvm.MethodName) ∈ lw_tbl := List.mem_of_getElem? (i := 1117) (by decide +kernel)
theorem wd_1119 : Jvm.Cond.selects "java/lang/IndexOutOfBoundsException" ({ cls := "java/lang/Throwable", name := "fillInStackTrace", desc := "()Ljava/lang/Throwable;" } : Jvm.MethodName) ({ cls := "java/lang/Throwable", name := "fillInStackTrace", desc := "()Ljava/lang/Throwable;" } : Jvm.MethodName) ∈ lw_tbl := List.mem_of_getElem? (i := 1119) (by decide +kernel)
theorem wd_1120 : Jvm.Cond.selects "java/lang/UnsupportedOperationException" ({ cls := "java/lang/Throwable", name := "fillInStackTrace", desc := "()Ljava/lang/Throwable;" } : Jvm.MethodName) ({ cls := "java/lang/Throwable", name := "fillInStackTrace", desc := "()Ljava/lang/Throwable;" } : Jvm.MethodName) ∈ lw_tbl := List.mem_of_getElem? (i := 1120) (by decide +kernel)
theorem wd_1121 : Jvm.Cond.selects "java/util/NoSuchElementException" ({ cls := "java/lang/Throwable", name := "fillInStackTrace", desc := "()Ljava/lang/Throwable;" } : Jvm.MethodName) ({ cls := "java/lang/Throwable", name := "fillInStackTrace", desc := "()Ljava/lang/Throwable;" } : Jvm.MethodName) ∈ lw_tbl := List.mem_of_getElem? (i := 1121) (by decide +kernel)
theorem wd_1123 : Jvm.Cond.methodLink "java/lang/Throwable" (202 : Nat) ({ cls := "java/lang/Throwable", name := "fillInStackTrace", desc := "(I)Ljava/lang/Throwable;" } : Jvm.MethodName) ∈ lw_tbl := List.mem_of_getElem? (i := 1123) (by decide +kernel)
theorem wd_1125 : Jvm.Cond.instanceMethod ({ cls := "java/lang/Throwable", name := "fillInStackTrace", desc := "(I)Ljava/lang/Throwable;" } : Jvm.MethodName) ∈ lw_tbl := List.mem_of_getElem? (i := 1125) (by decide +kernel)
theorem wd_1126 : Jvm.Cond.instantiable "java/lang/Throwable" (6 : Nat) ∈ lw_tbl := List.mem_of_getElem? (i := 1126) (by decide +kernel)
theorem wd_1127 : Jvm.Cond.native ({ cls := "java/lang/Throwable", name := "fillInStackTrace", desc := "(I)Ljava/lang/Throwable;" } : Jvm.MethodName) ∈ lw_tbl := List.mem_of_getElem? (i := 1127) (by decide +kernel)
theorem wd_1129 : Jvm.Cond.methodLink "PhraseRoads" (221 : Nat) ({ cls := "java/lang/IllegalArgumentException", name := "<init>", desc := "(Ljava/lang/String;)V" } : Jvm.MethodName) ∈ lw_tbl := List.mem_of_getElem? (i := 1129) (by decide +kernel)
theorem wd_1130 : Jvm.Cond.instanceMethod ({ cls := "java/lang/IllegalArgumentException", name := "<init>", desc := "(Ljava/lang/String;)V" } : Jvm.MethodName) ∈ lw_tbl := List.mem_of_getElem? (i := 1130) (by decide +kernel)
theorem wd_1131 : Jvm.Cond.code ({ cls := "java/lang/IllegalArgumentException", name := "<init>", desc := "(Ljava/lang/String;)V" } : Jvm.MethodName) prog_16_method_2_code (2 : Nat) (Option.none : Option Jvm.ClassFile.FieldType) ∈ lw_tbl := List.mem_of_getElem? (i := 1131) (by decide +kernel)
theorem wd_1132 : Jvm.Cond.methodLink "java/lang/IllegalArgumentException" (7 : Nat) ({ cls := "java/lang/RuntimeException", name := "<init>", desc := "(Ljava/lang/String;)V" } : Jvm.MethodName) ∈ lw_tbl := List.mem_of_getElem? (i := 1132) (by decide +kernel)
theorem wd_1133 : Jvm.Cond.instanceMethod ({ cls := "java/lang/RuntimeException", name := "<init>", desc := "(Ljava/lang/String;)V" } : Jvm.MethodName) ∈ lw_tbl := List.mem_of_getElem? (i := 1133) (by decide +kernel)
theorem wd_1134 : Jvm.Cond.code ({ cls := "java/lang/RuntimeException", name := "<init>", desc := "(Ljava/lang/String;)V" } : Jvm.MethodName) prog_20_method_2_code (2 : Nat) (Option.none : Option Jvm.ClassFile.FieldType) ∈ lw_tbl := List.mem_of_getElem? (i := 1134) (by decide +kernel)
theorem wd_1135 : Jvm.Cond.methodLink "java/lang/RuntimeException" (7 : Nat) ({ cls := "java/lang/Exception", name := "<init>", desc := "(Ljava/lang/String;)V" } : Jvm.MethodName) ∈ lw_tbl := List.mem_of_getElem? (i := 1135) (by decide +kernel)
theorem wd_1136 : Jvm.Cond.instanceMethod ({ cls := "java/lang/Exception", name := "<init>", desc := "(Ljava/lang/String;)V" } : Jvm.MethodName) ∈ lw_tbl := List.mem_of_getElem? (i := 1136) (by decide +kernel)
theorem wd_1137 : Jvm.Cond.code ({ cls := "java/lang/Exception", name := "<init>", desc := "(Ljava/lang/String;)V" } : Jvm.MethodName) prog_15_method_2_code (2 : Nat) (Option.none : Option Jvm.ClassFile.FieldType) ∈ lw_tbl := List.mem_of_getElem? (i := 1137) (by decide +kernel)
theorem wd_1138 : Jvm.Cond.methodLink "java/lang/Exception" (7 : Nat) ({ cls := "java/lang/Throwable", name := "<init>", desc := "(Ljava/lang/String;)V" } : Jvm.MethodName) ∈ lw_tbl := List.mem_of_getElem? (i := 1138) (by decide +kernel)
theorem wd_1139 : Jvm.Cond.instanceMethod ({ cls := "java/lang/Throwable", name := "<init>", desc := "(Ljava/lang/String;)V" } : Jvm.MethodName) ∈ lw_tbl := List.mem_of_getElem? (i := 1139) (by decide +kernel)
theorem wd_1140 : Jvm.Cond.code ({ cls := "java/lang/Throwable", name := "<init>", desc := "(Ljava/lang/String;)V" } : Jvm.MethodName) prog_23_method_2_code (2 : Nat) (Option.none : Option Jvm.ClassFile.FieldType) ∈ lw_tbl := List.mem_of_getElem? (i := 1140) (by decide +kernel)
theorem wd_1141 : Jvm.Cond.fieldLink "java/lang/Throwable" (198 : Nat) "java/lang/Throwable" "backtrace" "Ljava/lang/Object;" ∈ lw_tbl := List.mem_of_getElem? (i := 1141) (by decide +kernel)
theorem wd_1142 : Jvm.Cond.fieldLink "java/lang/Throwable" (31 : Nat) "java/lang/Throwable" "detailMessage" "Ljava/lang/String;" ∈ lw_tbl := List.mem_of_getElem? (i := 1142) (by decide +kernel)
theorem wd_1143 : Jvm.Cond.fieldLink "java/lang/Throwable" (7 : Nat) "java/lang/Throwable" "cause" "Ljava/lang/Throwable;" ∈ lw_tbl := List.mem_of_getElem? (i := 1143) (by decide +kernel)
theorem wd_1144 : Jvm.Cond.fieldLink "java/lang/Throwable" (17 : Nat) "java/lang/Throwable" "stackTrace" "[Ljava/lang/StackTraceElement;" ∈ lw_tbl := List.mem_of_getElem? (i := 1144) (by decide +kernel)
theorem wd_1145 : Jvm.Cond.fieldLink "java/lang/Throwable" (24 : Nat) "java/lang/Throwable" "suppressedExceptions" "Ljava/util/List;" ∈ lw_tbl := List.mem_of_getElem? (i := 1145) (by decide +kernel)
theorem wd_1155 : Jvm.Cond.methodLink "PhraseRoads" (107 : Nat) ({ cls := "PhraseRoads", name := "keepDraft", desc := "()V" } : Jvm.MethodName) ∈ lw_tbl := List.mem_of_getElem? (i := 1155) (by decide +kernel)
theorem wd_1157 : Jvm.Cond.instanceMethod ({ cls := "PhraseRoads", name := "keepDraft", desc := "()V" } : Jvm.MethodName) ∈ lw_tbl := List.mem_of_getElem? (i := 1157) (by decide +kernel)
theorem wd_1158 : Jvm.Cond.code ({ cls := "PhraseRoads", name := "keepDraft", desc := "()V" } : Jvm.MethodName) prog_1_method_46_code (2 : Nat) (Option.none : Option Jvm.ClassFile.FieldType) ∈ lw_tbl := List.mem_of_getElem? (i := 1158) (by decide +kernel)
theorem wd_1159 : Jvm.Cond.methodLink "PhraseRoadsLaw" (124 : Nat) ({ cls := "PhraseRoadsLaw", name := "fluency", desc := "(LPhraseRoads;[J)I" } : Jvm.MethodName) ∈ lw_tbl := List.mem_of_getElem? (i := 1159) (by decide +kernel)
theorem wd_1160 : Jvm.Cond.static ({ cls := "PhraseRoadsLaw", name := "fluency", desc := "(LPhraseRoads;[J)I" } : Jvm.MethodName) ∈ lw_tbl := List.mem_of_getElem? (i := 1160) (by decide +kernel)
theorem wd_1161 : Jvm.Cond.codeWith ({ cls := "PhraseRoadsLaw", name := "fluency", desc := "(LPhraseRoads;[J)I" } : Jvm.MethodName) method_4_code (3 : Nat) (Option.some Jvm.ClassFile.FieldType.int) [((0 : Nat), (8 : Nat), (11 : Nat), (13 : Nat))] ∈ lw_tbl := List.mem_of_getElem? (i := 1161) (by decide +kernel)
theorem wd_1162 : Jvm.Cond.methodLink "PhraseRoadsLaw" (15 : Nat) ({ cls := "PhraseRoads", name := "fluency", desc := "()I" } : Jvm.MethodName) ∈ lw_tbl := List.mem_of_getElem? (i := 1162) (by decide +kernel)
theorem wd_1163 : Jvm.Cond.instanceMethod ({ cls := "PhraseRoads", name := "fluency", desc := "()I" } : Jvm.MethodName) ∈ lw_tbl := List.mem_of_getElem? (i := 1163) (by decide +kernel)
theorem wd_1164 : Jvm.Cond.selects "PhraseRoads" ({ cls := "PhraseRoads", name := "fluency", desc := "()I" } : Jvm.MethodName) ({ cls := "PhraseRoads", name := "fluency", desc := "()I" } : Jvm.MethodName) ∈ lw_tbl := List.mem_of_getElem? (i := 1164) (by decide +kernel)
theorem wd_1165 : Jvm.Cond.code ({ cls := "PhraseRoads", name := "fluency", desc := "()I" } : Jvm.MethodName) prog_1_method_5_code (1 : Nat) (Option.some Jvm.ClassFile.FieldType.int) ∈ lw_tbl := List.mem_of_getElem? (i := 1165) (by decide +kernel)
theorem wd_1166 : Jvm.Cond.methodLinkNest "PhraseRoads" (110 : Nat) ({ cls := "PhraseRoads$Reader", name := "readFluency", desc := "(LPhraseRoads$Knowledge;)V" } : Jvm.MethodName) "PhraseRoads" ∈ lw_tbl := List.mem_of_getElem? (i := 1166) (by decide +kernel)
theorem wd_1168 : Jvm.Cond.instanceMethod ({ cls := "PhraseRoads$Reader", name := "readFluency", desc := "(LPhraseRoads$Knowledge;)V" } : Jvm.MethodName) ∈ lw_tbl := List.mem_of_getElem? (i := 1168) (by decide +kernel)
theorem wd_1169 : Jvm.Cond.code ({ cls := "PhraseRoads$Reader", name := "readFluency", desc := "(LPhraseRoads$Knowledge;)V" } : Jvm.MethodName) prog_8_method_6_code (4 : Nat) (Option.none : Option Jvm.ClassFile.FieldType) ∈ lw_tbl := List.mem_of_getElem? (i := 1169) (by decide +kernel)
theorem wd_1170 : Jvm.Cond.methodLink "PhraseRoads$Reader" (68 : Nat) ({ cls := "PhraseRoads$Reader", name := "readPair", desc := "(I)V" } : Jvm.MethodName) ∈ lw_tbl := List.mem_of_getElem? (i := 1170) (by decide +kernel)
theorem wd_1172 : Jvm.Cond.instanceMethod ({ cls := "PhraseRoads$Reader", name := "readPair", desc := "(I)V" } : Jvm.MethodName) ∈ lw_tbl := List.mem_of_getElem? (i := 1172) (by decide +kernel)
theorem wd_1173 : Jvm.Cond.code ({ cls := "PhraseRoads$Reader", name := "readPair", desc := "(I)V" } : Jvm.MethodName) prog_8_method_12_code (2 : Nat) (Option.none : Option Jvm.ClassFile.FieldType) ∈ lw_tbl := List.mem_of_getElem? (i := 1173) (by decide +kernel)
theorem wd_1174 : Jvm.Cond.methodLinkNest "PhraseRoads" (113 : Nat) ({ cls := "PhraseRoads$Knowledge", name := "enterFluency", desc := "(LPhraseRoads$Reader;)V" } : Jvm.MethodName) "PhraseRoads" ∈ lw_tbl := List.mem_of_getElem? (i := 1174) (by decide +kernel)
theorem wd_1176 : Jvm.Cond.instanceMethod ({ cls := "PhraseRoads$Knowledge", name := "enterFluency", desc := "(LPhraseRoads$Reader;)V" } : Jvm.MethodName) ∈ lw_tbl := List.mem_of_getElem? (i := 1176) (by decide +kernel)
theorem wd_1177 : Jvm.Cond.code ({ cls := "PhraseRoads$Knowledge", name := "enterFluency", desc := "(LPhraseRoads$Reader;)V" } : Jvm.MethodName) prog_4_method_12_code (4 : Nat) (Option.none : Option Jvm.ClassFile.FieldType) ∈ lw_tbl := List.mem_of_getElem? (i := 1177) (by decide +kernel)
theorem wd_1178 : Jvm.Cond.methodLink "PhraseRoadsLaw" (127 : Nat) ({ cls := "PhraseRoadsLaw", name := "sentence", desc := "(LPhraseRoads;[J)I" } : Jvm.MethodName) ∈ lw_tbl := List.mem_of_getElem? (i := 1178) (by decide +kernel)
theorem wd_1179 : Jvm.Cond.static ({ cls := "PhraseRoadsLaw", name := "sentence", desc := "(LPhraseRoads;[J)I" } : Jvm.MethodName) ∈ lw_tbl := List.mem_of_getElem? (i := 1179) (by decide +kernel)
theorem wd_1180 : Jvm.Cond.codeWith ({ cls := "PhraseRoadsLaw", name := "sentence", desc := "(LPhraseRoads;[J)I" } : Jvm.MethodName) method_5_code (3 : Nat) (Option.some Jvm.ClassFile.FieldType.int) [((0 : Nat), (8 : Nat), (11 : Nat), (13 : Nat))] ∈ lw_tbl := List.mem_of_getElem? (i := 1180) (by decide +kernel)
theorem wd_1181 : Jvm.Cond.methodLink "PhraseRoadsLaw" (18 : Nat) ({ cls := "PhraseRoads", name := "sentence", desc := "()I" } : Jvm.MethodName) ∈ lw_tbl := List.mem_of_getElem? (i := 1181) (by decide +kernel)
theorem wd_1182 : Jvm.Cond.instanceMethod ({ cls := "PhraseRoads", name := "sentence", desc := "()I" } : Jvm.MethodName) ∈ lw_tbl := List.mem_of_getElem? (i := 1182) (by decide +kernel)
theorem wd_1183 : Jvm.Cond.selects "PhraseRoads" ({ cls := "PhraseRoads", name := "sentence", desc := "()I" } : Jvm.MethodName) ({ cls := "PhraseRoads", name := "sentence", desc := "()I" } : Jvm.MethodName) ∈ lw_tbl := List.mem_of_getElem? (i := 1183) (by decide +kernel)
theorem wd_1184 : Jvm.Cond.code ({ cls := "PhraseRoads", name := "sentence", desc := "()I" } : Jvm.MethodName) prog_1_method_6_code (1 : Nat) (Option.some Jvm.ClassFile.FieldType.int) ∈ lw_tbl := List.mem_of_getElem? (i := 1184) (by decide +kernel)
theorem wd_1185 : Jvm.Cond.methodLinkNest "PhraseRoads" (120 : Nat) ({ cls := "PhraseRoads$Reader", name := "readRow", desc := "(LPhraseRoads$Knowledge;ZI)V" } : Jvm.MethodName) "PhraseRoads" ∈ lw_tbl := List.mem_of_getElem? (i := 1185) (by decide +kernel)
theorem wd_1187 : Jvm.Cond.instanceMethod ({ cls := "PhraseRoads$Reader", name := "readRow", desc := "(LPhraseRoads$Knowledge;ZI)V" } : Jvm.MethodName) ∈ lw_tbl := List.mem_of_getElem? (i := 1187) (by decide +kernel)
theorem wd_1188 : Jvm.Cond.code ({ cls := "PhraseRoads$Reader", name := "readRow", desc := "(LPhraseRoads$Knowledge;ZI)V" } : Jvm.MethodName) prog_8_method_7_code (4 : Nat) (Option.none : Option Jvm.ClassFile.FieldType) ∈ lw_tbl := List.mem_of_getElem? (i := 1188) (by decide +kernel)
theorem wd_1189 : Jvm.Cond.methodLinkNest "PhraseRoads" (124 : Nat) ({ cls := "PhraseRoads$Knowledge", name := "enterSentence", desc := "(LPhraseRoads$Reader;)V" } : Jvm.MethodName) "PhraseRoads" ∈ lw_tbl := List.mem_of_getElem? (i := 1189) (by decide +kernel)
theorem wd_1191 : Jvm.Cond.instanceMethod ({ cls := "PhraseRoads$Knowledge", name := "enterSentence", desc := "(LPhraseRoads$Reader;)V" } : Jvm.MethodName) ∈ lw_tbl := List.mem_of_getElem? (i := 1191) (by decide +kernel)
theorem wd_1192 : Jvm.Cond.code ({ cls := "PhraseRoads$Knowledge", name := "enterSentence", desc := "(LPhraseRoads$Reader;)V" } : Jvm.MethodName) prog_4_method_13_code (2 : Nat) (Option.none : Option Jvm.ClassFile.FieldType) ∈ lw_tbl := List.mem_of_getElem? (i := 1192) (by decide +kernel)
theorem wd_1193 : Jvm.Cond.methodLink "PhraseRoadsLaw" (130 : Nat) ({ cls := "PhraseRoadsLaw", name := "learn", desc := "(LPhraseRoads;[J)I" } : Jvm.MethodName) ∈ lw_tbl := List.mem_of_getElem? (i := 1193) (by decide +kernel)
theorem wd_1194 : Jvm.Cond.static ({ cls := "PhraseRoadsLaw", name := "learn", desc := "(LPhraseRoads;[J)I" } : Jvm.MethodName) ∈ lw_tbl := List.mem_of_getElem? (i := 1194) (by decide +kernel)
theorem wd_1195 : Jvm.Cond.codeWith ({ cls := "PhraseRoadsLaw", name := "learn", desc := "(LPhraseRoads;[J)I" } : Jvm.MethodName) method_6_code (3 : Nat) (Option.some Jvm.ClassFile.FieldType.int) [((0 : Nat), (8 : Nat), (11 : Nat), (13 : Nat)), ((0 : Nat), (8 : Nat), (14 : Nat), (24 : Nat))] ∈ lw_tbl := List.mem_of_getElem? (i := 1195) (by decide +kernel)
theorem wd_1196 : Jvm.Cond.classLink "PhraseRoadsLaw" (24 : Nat) "java/lang/UnsupportedOperationException" ∈ lw_tbl := List.mem_of_getElem? (i := 1196) (by decide +kernel)
theorem wd_1197 : Jvm.Cond.methodLink "PhraseRoadsLaw" (21 : Nat) ({ cls := "PhraseRoads", name := "learn", desc := "()I" } : Jvm.MethodName) ∈ lw_tbl := List.mem_of_getElem? (i := 1197) (by decide +kernel)
theorem wd_1198 : Jvm.Cond.instanceMethod ({ cls := "PhraseRoads", name := "learn", desc := "()I" } : Jvm.MethodName) ∈ lw_tbl := List.mem_of_getElem? (i := 1198) (by decide +kernel)
theorem wd_1199 : Jvm.Cond.selects "PhraseRoads" ({ cls := "PhraseRoads", name := "learn", desc := "()I" } : Jvm.MethodName) ({ cls := "PhraseRoads", name := "learn", desc := "()I" } : Jvm.MethodName) ∈ lw_tbl := List.mem_of_getElem? (i := 1199) (by decide +kernel)
theorem wd_1200 : Jvm.Cond.code ({ cls := "PhraseRoads", name := "learn", desc := "()I" } : Jvm.MethodName) prog_1_method_7_code (2 : Nat) (Option.some Jvm.ClassFile.FieldType.int) ∈ lw_tbl := List.mem_of_getElem? (i := 1200) (by decide +kernel)
theorem wd_1201 : Jvm.Cond.methodLinkNest "PhraseRoads" (130 : Nat) ({ cls := "PhraseRoads$Reader", name := "readLesson", desc := "(LPhraseRoads$Knowledge;)V" } : Jvm.MethodName) "PhraseRoads" ∈ lw_tbl := List.mem_of_getElem? (i := 1201) (by decide +kernel)
theorem wd_1203 : Jvm.Cond.instanceMethod ({ cls := "PhraseRoads$Reader", name := "readLesson", desc := "(LPhraseRoads$Knowledge;)V" } : Jvm.MethodName) ∈ lw_tbl := List.mem_of_getElem? (i := 1203) (by decide +kernel)
theorem wd_1204 : Jvm.Cond.code ({ cls := "PhraseRoads$Reader", name := "readLesson", desc := "(LPhraseRoads$Knowledge;)V" } : Jvm.MethodName) prog_8_method_8_code (4 : Nat) (Option.none : Option Jvm.ClassFile.FieldType) ∈ lw_tbl := List.mem_of_getElem? (i := 1204) (by decide +kernel)
theorem wd_1205 : Jvm.Cond.methodLink "PhraseRoads$Reader" (90 : Nat) ({ cls := "java/util/Arrays", name := "fill", desc := "([II)V" } : Jvm.MethodName) ∈ lw_tbl := List.mem_of_getElem? (i := 1205) (by decide +kernel)
theorem wd_1206 : Jvm.Cond.methodLink "PhraseRoads$Reader" (100 : Nat) ({ cls := "PhraseRoads$Reader", name := "readLink", desc := "()V" } : Jvm.MethodName) ∈ lw_tbl := List.mem_of_getElem? (i := 1206) (by decide +kernel)
theorem wd_1208 : Jvm.Cond.instanceMethod ({ cls := "PhraseRoads$Reader", name := "readLink", desc := "()V" } : Jvm.MethodName) ∈ lw_tbl := List.mem_of_getElem? (i := 1208) (by decide +kernel)
theorem wd_1209 : Jvm.Cond.code ({ cls := "PhraseRoads$Reader", name := "readLink", desc := "()V" } : Jvm.MethodName) prog_8_method_13_code (4 : Nat) (Option.none : Option Jvm.ClassFile.FieldType) ∈ lw_tbl := List.mem_of_getElem? (i := 1209) (by decide +kernel)
theorem wd_1210 : Jvm.Cond.methodLinkNest "PhraseRoads" (137 : Nat) ({ cls := "PhraseRoads$Lesson", name := "enter", desc := "(LPhraseRoads$Knowledge;LPhraseRoads$Reader;)I" } : Jvm.MethodName) "PhraseRoads" ∈ lw_tbl := List.mem_of_getElem? (i := 1210) (by decide +kernel)
theorem wd_1211 : Jvm.Cond.static ({ cls := "PhraseRoads$Lesson", name := "enter", desc := "(LPhraseRoads$Knowledge;LPhraseRoads$Reader;)I" } : Jvm.MethodName) ∈ lw_tbl := List.mem_of_getElem? (i := 1211) (by decide +kernel)
theorem wd_1212 : Jvm.Cond.code ({ cls := "PhraseRoads$Lesson", name := "enter", desc := "(LPhraseRoads$Knowledge;LPhraseRoads$Reader;)I" } : Jvm.MethodName) prog_5_method_2_code (6 : Nat) (Option.some Jvm.ClassFile.FieldType.int) ∈ lw_tbl := List.mem_of_getElem? (i := 1212) (by decide +kernel)
theorem wd_1213 : Jvm.Cond.methodLink "PhraseRoads$Lesson" (15 : Nat) ({ cls := "PhraseRoads$Lesson", name := "enterAhead", desc := "(LPhraseRoads$Knowledge;LPhraseRoads$Reader;II)I" } : Jvm.MethodName) ∈ lw_tbl := List.mem_of_getElem? (i := 1213) (by decide +kernel)
theorem wd_1214 : Jvm.Cond.static ({ cls := "PhraseRoads$Lesson", name := "enterAhead", desc := "(LPhraseRoads$Knowledge;LPhraseRoads$Reader;II)I" } : Jvm.MethodName) ∈ lw_tbl := List.mem_of_getElem? (i := 1214) (by decide +kernel)
theorem wd_1215 : Jvm.Cond.code ({ cls := "PhraseRoads$Lesson", name := "enterAhead", desc := "(LPhraseRoads$Knowledge;LPhraseRoads$Reader;II)I" } : Jvm.MethodName) prog_5_method_3_code (11 : Nat) (Option.some Jvm.ClassFile.FieldType.int) ∈ lw_tbl := List.mem_of_getElem? (i := 1215) (by decide +kernel)
theorem wd_1216 : Jvm.Cond.methodLink "PhraseRoads$Lesson" (24 : Nat) ({ cls := "PhraseRoads$Lesson", name := "belong", desc := "(LPhraseRoads$Reader;IIII)Z" } : Jvm.MethodName) ∈ lw_tbl := List.mem_of_getElem? (i := 1216) (by decide +kernel)
theorem wd_1217 : Jvm.Cond.static ({ cls := "PhraseRoads$Lesson", name := "belong", desc := "(LPhraseRoads$Reader;IIII)Z" } : Jvm.MethodName) ∈ lw_tbl := List.mem_of_getElem? (i := 1217) (by decide +kernel)
theorem wd_1218 : Jvm.Cond.code ({ cls := "PhraseRoads$Lesson", name := "belong", desc := "(LPhraseRoads$Reader;IIII)Z" } : Jvm.MethodName) prog_5_method_4_code (10 : Nat) (Option.some Jvm.ClassFile.FieldType.boolean) ∈ lw_tbl := List.mem_of_getElem? (i := 1218) (by decide +kernel)
theorem wd_1219 : Jvm.Cond.methodLink "PhraseRoads$Lesson" (61 : Nat) ({ cls := "PhraseRoads$Lesson", name := "bitsOf", desc := "(II)I" } : Jvm.MethodName) ∈ lw_tbl := List.mem_of_getElem? (i := 1219) (by decide +kernel)
theorem wd_1220 : Jvm.Cond.static ({ cls := "PhraseRoads$Lesson", name := "bitsOf", desc := "(II)I" } : Jvm.MethodName) ∈ lw_tbl := List.mem_of_getElem? (i := 1220) (by decide +kernel)
theorem wd_1221 : Jvm.Cond.code ({ cls := "PhraseRoads$Lesson", name := "bitsOf", desc := "(II)I" } : Jvm.MethodName) prog_5_method_6_code (2 : Nat) (Option.some Jvm.ClassFile.FieldType.int) ∈ lw_tbl := List.mem_of_getElem? (i := 1221) (by decide +kernel)
theorem wd_1222 : Jvm.Cond.methodLinkNest "PhraseRoads$Lesson" (35 : Nat) ({ cls := "PhraseRoads$Knowledge", name := "findPhrase", desc := "([III[III)I" } : Jvm.MethodName) "PhraseRoads" ∈ lw_tbl := List.mem_of_getElem? (i := 1222) (by decide +kernel)
theorem wd_1223 : Jvm.Cond.methodLink "PhraseRoads$Lesson" (44 : Nat) ({ cls := "java/lang/Math", name := "max", desc := "(II)I" } : Jvm.MethodName) ∈ lw_tbl := List.mem_of_getElem? (i := 1223) (by decide +kernel)
theorem wd_1224 : Jvm.Cond.static ({ cls := "java/lang/Math", name := "max", desc := "(II)I" } : Jvm.MethodName) ∈ lw_tbl := List.mem_of_getElem? (i := 1224) (by decide +kernel)
theorem wd_1225 : Jvm.Cond.code ({ cls := "java/lang/Math", name := "max", desc := "(II)I" } : Jvm.MethodName) prog_19_method_65_code (2 : Nat) (Option.some Jvm.ClassFile.FieldType.int) ∈ lw_tbl := List.mem_of_getElem? (i := 1225) (by decide +kernel)
theorem wd_1226 : Jvm.Cond.methodLink "PhraseRoads$Lesson" (53 : Nat) ({ cls := "PhraseRoads$Lesson", name := "unlinked", desc := "(LPhraseRoads$Reader;IIII)I" } : Jvm.MethodName) ∈ lw_tbl := List.mem_of_getElem? (i := 1226) (by decide +kernel)
theorem wd_1227 : Jvm.Cond.static ({ cls := "PhraseRoads$Lesson", name := "unlinked", desc := "(LPhraseRoads$Reader;IIII)I" } : Jvm.MethodName) ∈ lw_tbl := List.mem_of_getElem? (i := 1227) (by decide +kernel)
theorem wd_1228 : Jvm.Cond.code ({ cls := "PhraseRoads$Lesson", name := "unlinked", desc := "(LPhraseRoads$Reader;IIII)I" } : Jvm.MethodName) prog_5_method_5_code (8 : Nat) (Option.some Jvm.ClassFile.FieldType.int) ∈ lw_tbl := List.mem_of_getElem? (i := 1228) (by decide +kernel)
theorem wd_1229 : Jvm.Cond.methodLink "PhraseRoads$Lesson" (67 : Nat) ({ cls := "java/lang/Integer", name := "bitCount", desc := "(I)I" } : Jvm.MethodName) ∈ lw_tbl := List.mem_of_getElem? (i := 1229) (by decide +kernel)
theorem wd_1230 : Jvm.Cond.methodLinkNest "PhraseRoads$Lesson" (57 : Nat) ({ cls := "PhraseRoads$Knowledge", name := "addPhrase", desc := "([III[IIII)V" } : Jvm.MethodName) "PhraseRoads" ∈ lw_tbl := List.mem_of_getElem? (i := 1230) (by decide +kernel)
theorem wd_1231 : Jvm.Cond.classLink "PhraseRoads" (143 : Nat) "java/lang/UnsupportedOperationException" ∈ lw_tbl := List.mem_of_getElem? (i := 1231) (by decide +kernel)
theorem wd_1232 : Jvm.Cond.instantiable "java/lang/UnsupportedOperationException" (6 : Nat) ∈ lw_tbl := List.mem_of_getElem? (i := 1232) (by decide +kernel)
theorem wd_1234 : Jvm.Cond.selects "java/lang/UnsupportedOperationException" ({ cls := "java/lang/Throwable", name := "fillInStackTrace", desc := "(I)Ljava/lang/Throwable;" } : Jvm.MethodName) ({ cls := "java/lang/Throwable", name := "fillInStackTrace", desc := "(I)Ljava/lang/Throwable;" } : Jvm.MethodName) ∈ lw_tbl := List.mem_of_getElem? (i := 1234) (by decide +kernel)
theorem wd_1241 : Jvm.Cond.methodLink "PhraseRoads" (147 : Nat) ({ cls := "java/lang/UnsupportedOperationException", name := "<init>", desc := "(Ljava/lang/String;)V" } : Jvm.MethodName) ∈ lw_tbl := List.mem_of_getElem? (i := 1241) (by decide +kernel)
theorem wd_1242 : Jvm.Cond.instanceMethod ({ cls := "java/lang/UnsupportedOperationException", name := "<init>", desc := "(Ljava/lang/String;)V" } : Jvm.MethodName) ∈ lw_tbl := List.mem_of_getElem? (i := 1242) (by decide +kernel)
theorem wd_1243 : Jvm.Cond.code ({ cls := "java/lang/UnsupportedOperationException", name := "<init>", desc := "(Ljava/lang/String;)V" } : Jvm.MethodName) prog_24_method_2_code (2 : Nat) (Option.none : Option Jvm.ClassFile.FieldType) ∈ lw_tbl := List.mem_of_getElem? (i := 1243) (by decide +kernel)
theorem wd_1244 : Jvm.Cond.methodLink "java/lang/UnsupportedOperationException" (7 : Nat) ({ cls := "java/lang/RuntimeException", name := "<init>", desc := "(Ljava/lang/String;)V" } : Jvm.MethodName) ∈ lw_tbl := List.mem_of_getElem? (i := 1244) (by decide +kernel)
theorem wd_1247 : Jvm.Cond.methodLink "PhraseRoadsLaw" (137 : Nat) ({ cls := "PhraseRoadsLaw", name := "letter", desc := "(LPhraseRoads;II[J)I" } : Jvm.MethodName) ∈ lw_tbl := List.mem_of_getElem? (i := 1247) (by decide +kernel)
theorem wd_1248 : Jvm.Cond.static ({ cls := "PhraseRoadsLaw", name := "letter", desc := "(LPhraseRoads;II[J)I" } : Jvm.MethodName) ∈ lw_tbl := List.mem_of_getElem? (i := 1248) (by decide +kernel)
theorem wd_1249 : Jvm.Cond.codeWith ({ cls := "PhraseRoadsLaw", name := "letter", desc := "(LPhraseRoads;II[J)I" } : Jvm.MethodName) method_7_code (5 : Nat) (Option.some Jvm.ClassFile.FieldType.int) [((0 : Nat), (10 : Nat), (13 : Nat), (30 : Nat))] ∈ lw_tbl := List.mem_of_getElem? (i := 1249) (by decide +kernel)
theorem wd_1250 : Jvm.Cond.classLink "PhraseRoadsLaw" (30 : Nat) "java/lang/IndexOutOfBoundsException" ∈ lw_tbl := List.mem_of_getElem? (i := 1250) (by decide +kernel)
theorem wd_1251 : Jvm.Cond.methodLink "PhraseRoadsLaw" (26 : Nat) ({ cls := "PhraseRoads", name := "letter", desc := "(II)I" } : Jvm.MethodName) ∈ lw_tbl := List.mem_of_getElem? (i := 1251) (by decide +kernel)
theorem wd_1252 : Jvm.Cond.instanceMethod ({ cls := "PhraseRoads", name := "letter", desc := "(II)I" } : Jvm.MethodName) ∈ lw_tbl := List.mem_of_getElem? (i := 1252) (by decide +kernel)
theorem wd_1253 : Jvm.Cond.selects "PhraseRoads" ({ cls := "PhraseRoads", name := "letter", desc := "(II)I" } : Jvm.MethodName) ({ cls := "PhraseRoads", name := "letter", desc := "(II)I" } : Jvm.MethodName) ∈ lw_tbl := List.mem_of_getElem? (i := 1253) (by decide +kernel)
theorem wd_1254 : Jvm.Cond.code ({ cls := "PhraseRoads", name := "letter", desc := "(II)I" } : Jvm.MethodName) prog_1_method_9_code (3 : Nat) (Option.some Jvm.ClassFile.FieldType.int) ∈ lw_tbl := List.mem_of_getElem? (i := 1254) (by decide +kernel)
theorem wd_1255 : Jvm.Cond.methodLink "PhraseRoads" (153 : Nat) ({ cls := "PhraseRoads", name := "checkWord", desc := "(I)V" } : Jvm.MethodName) ∈ lw_tbl := List.mem_of_getElem? (i := 1255) (by decide +kernel)
theorem wd_1257 : Jvm.Cond.instanceMethod ({ cls := "PhraseRoads", name := "checkWord", desc := "(I)V" } : Jvm.MethodName) ∈ lw_tbl := List.mem_of_getElem? (i := 1257) (by decide +kernel)
theorem wd_1258 : Jvm.Cond.code ({ cls := "PhraseRoads", name := "checkWord", desc := "(I)V" } : Jvm.MethodName) prog_1_method_40_code (2 : Nat) (Option.none : Option Jvm.ClassFile.FieldType) ∈ lw_tbl := List.mem_of_getElem? (i := 1258) (by decide +kernel)
theorem wd_1259 : Jvm.Cond.classLink "PhraseRoads" (311 : Nat) "java/lang/IndexOutOfBoundsException" ∈ lw_tbl := List.mem_of_getElem? (i := 1259) (by decide +kernel)
theorem wd_1260 : Jvm.Cond.instantiable "java/lang/IndexOutOfBoundsException" (6 : Nat) ∈ lw_tbl := List.mem_of_getElem? (i := 1260) (by decide +kernel)
theorem wd_1262 : Jvm.Cond.selects "java/lang/IndexOutOfBoundsException" ({ cls := "java/lang/Throwable", name := "fillInStackTrace", desc := "(I)Ljava/lang/Throwable;" } : Jvm.MethodName) ({ cls := "java/lang/Throwable", name := "fillInStackTrace", desc := "(I)Ljava/lang/Throwable;" } : Jvm.MethodName) ∈ lw_tbl := List.mem_of_getElem? (i := 1262) (by decide +kernel)
theorem wd_1269 : Jvm.Cond.methodLink "PhraseRoads" (315 : Nat) ({ cls := "java/lang/IndexOutOfBoundsException", name := "<init>", desc := "(Ljava/lang/String;)V" } : Jvm.MethodName) ∈ lw_tbl := List.mem_of_getElem? (i := 1269) (by decide +kernel)
theorem wd_1270 : Jvm.Cond.instanceMethod ({ cls := "java/lang/IndexOutOfBoundsException", name := "<init>", desc := "(Ljava/lang/String;)V" } : Jvm.MethodName) ∈ lw_tbl := List.mem_of_getElem? (i := 1270) (by decide +kernel)
theorem wd_1271 : Jvm.Cond.code ({ cls := "java/lang/IndexOutOfBoundsException", name := "<init>", desc := "(Ljava/lang/String;)V" } : Jvm.MethodName) prog_17_method_2_code (2 : Nat) (Option.none : Option Jvm.ClassFile.FieldType) ∈ lw_tbl := List.mem_of_getElem? (i := 1271) (by decide +kernel)
theorem wd_1272 : Jvm.Cond.methodLink "java/lang/IndexOutOfBoundsException" (7 : Nat) ({ cls := "java/lang/RuntimeException", name := "<init>", desc := "(Ljava/lang/String;)V" } : Jvm.MethodName) ∈ lw_tbl := List.mem_of_getElem? (i := 1272) (by decide +kernel)
theorem wd_1275 : Jvm.Cond.methodLink "PhraseRoadsLaw" (141 : Nat) ({ cls := "PhraseRoadsLaw", name := "phrase", desc := "(LPhraseRoads;II[J)I" } : Jvm.MethodName) ∈ lw_tbl := List.mem_of_getElem? (i := 1275) (by decide +kernel)
theorem wd_1276 : Jvm.Cond.static ({ cls := "PhraseRoadsLaw", name := "phrase", desc := "(LPhraseRoads;II[J)I" } : Jvm.MethodName) ∈ lw_tbl := List.mem_of_getElem? (i := 1276) (by decide +kernel)
theorem wd_1277 : Jvm.Cond.codeWith ({ cls := "PhraseRoadsLaw", name := "phrase", desc := "(LPhraseRoads;II[J)I" } : Jvm.MethodName) method_8_code (5 : Nat) (Option.some Jvm.ClassFile.FieldType.int) [((0 : Nat), (10 : Nat), (13 : Nat), (30 : Nat)), ((0 : Nat), (10 : Nat), (17 : Nat), (35 : Nat))] ∈ lw_tbl := List.mem_of_getElem? (i := 1277) (by decide +kernel)
theorem wd_1278 : Jvm.Cond.classLink "PhraseRoadsLaw" (35 : Nat) "java/util/NoSuchElementException" ∈ lw_tbl := List.mem_of_getElem? (i := 1278) (by decide +kernel)
theorem wd_1279 : Jvm.Cond.methodLink "PhraseRoadsLaw" (32 : Nat) ({ cls := "PhraseRoads", name := "phrase", desc := "(II)I" } : Jvm.MethodName) ∈ lw_tbl := List.mem_of_getElem? (i := 1279) (by decide +kernel)
theorem wd_1280 : Jvm.Cond.instanceMethod ({ cls := "PhraseRoads", name := "phrase", desc := "(II)I" } : Jvm.MethodName) ∈ lw_tbl := List.mem_of_getElem? (i := 1280) (by decide +kernel)
theorem wd_1281 : Jvm.Cond.selects "PhraseRoads" ({ cls := "PhraseRoads", name := "phrase", desc := "(II)I" } : Jvm.MethodName) ({ cls := "PhraseRoads", name := "phrase", desc := "(II)I" } : Jvm.MethodName) ∈ lw_tbl := List.mem_of_getElem? (i := 1281) (by decide +kernel)
theorem wd_1282 : Jvm.Cond.code ({ cls := "PhraseRoads", name := "phrase", desc := "(II)I" } : Jvm.MethodName) prog_1_method_10_code (3 : Nat) (Option.some Jvm.ClassFile.FieldType.int) ∈ lw_tbl := List.mem_of_getElem? (i := 1282) (by decide +kernel)
theorem wd_1283 : Jvm.Cond.methodLink "PhraseRoads" (163 : Nat) ({ cls := "PhraseRoads", name := "checkPhrase", desc := "(I)V" } : Jvm.MethodName) ∈ lw_tbl := List.mem_of_getElem? (i := 1283) (by decide +kernel)
theorem wd_1285 : Jvm.Cond.instanceMethod ({ cls := "PhraseRoads", name := "checkPhrase", desc := "(I)V" } : Jvm.MethodName) ∈ lw_tbl := List.mem_of_getElem? (i := 1285) (by decide +kernel)
theorem wd_1286 : Jvm.Cond.code ({ cls := "PhraseRoads", name := "checkPhrase", desc := "(I)V" } : Jvm.MethodName) prog_1_method_41_code (2 : Nat) (Option.none : Option Jvm.ClassFile.FieldType) ∈ lw_tbl := List.mem_of_getElem? (i := 1286) (by decide +kernel)
theorem wd_1288 : Jvm.Cond.methodLink "PhraseRoads" (190 : Nat) ({ cls := "PhraseRoads", name := "worthOf", desc := "(I)I" } : Jvm.MethodName) ∈ lw_tbl := List.mem_of_getElem? (i := 1288) (by decide +kernel)
theorem wd_1290 : Jvm.Cond.instanceMethod ({ cls := "PhraseRoads", name := "worthOf", desc := "(I)I" } : Jvm.MethodName) ∈ lw_tbl := List.mem_of_getElem? (i := 1290) (by decide +kernel)
theorem wd_1291 : Jvm.Cond.code ({ cls := "PhraseRoads", name := "worthOf", desc := "(I)I" } : Jvm.MethodName) prog_1_method_55_code (3 : Nat) (Option.some Jvm.ClassFile.FieldType.int) ∈ lw_tbl := List.mem_of_getElem? (i := 1291) (by decide +kernel)
theorem wd_1292 : Jvm.Cond.classLink "PhraseRoads" (193 : Nat) "java/util/NoSuchElementException" ∈ lw_tbl := List.mem_of_getElem? (i := 1292) (by decide +kernel)
theorem wd_1293 : Jvm.Cond.instantiable "java/util/NoSuchElementException" (6 : Nat) ∈ lw_tbl := List.mem_of_getElem? (i := 1293) (by decide +kernel)
theorem wd_1295 : Jvm.Cond.selects "java/util/NoSuchElementException" ({ cls := "java/lang/Throwable", name := "fillInStackTrace", desc := "(I)Ljava/lang/Throwable;" } : Jvm.MethodName) ({ cls := "java/lang/Throwable", name := "fillInStackTrace", desc := "(I)Ljava/lang/Throwable;" } : Jvm.MethodName) ∈ lw_tbl := List.mem_of_getElem? (i := 1295) (by decide +kernel)
theorem wd_1302 : Jvm.Cond.methodLink "PhraseRoads" (197 : Nat) ({ cls := "java/util/NoSuchElementException", name := "<init>", desc := "(Ljava/lang/String;)V" } : Jvm.MethodName) ∈ lw_tbl := List.mem_of_getElem? (i := 1302) (by decide +kernel)
theorem wd_1303 : Jvm.Cond.instanceMethod ({ cls := "java/util/NoSuchElementException", name := "<init>", desc := "(Ljava/lang/String;)V" } : Jvm.MethodName) ∈ lw_tbl := List.mem_of_getElem? (i := 1303) (by decide +kernel)
theorem wd_1304 : Jvm.Cond.code ({ cls := "java/util/NoSuchElementException", name := "<init>", desc := "(Ljava/lang/String;)V" } : Jvm.MethodName) prog_26_method_4_code (2 : Nat) (Option.none : Option Jvm.ClassFile.FieldType) ∈ lw_tbl := List.mem_of_getElem? (i := 1304) (by decide +kernel)
theorem wd_1305 : Jvm.Cond.methodLink "java/util/NoSuchElementException" (13 : Nat) ({ cls := "java/lang/RuntimeException", name := "<init>", desc := "(Ljava/lang/String;)V" } : Jvm.MethodName) ∈ lw_tbl := List.mem_of_getElem? (i := 1305) (by decide +kernel)
theorem wd_1308 : Jvm.Cond.methodLink "PhraseRoadsLaw" (144 : Nat) ({ cls := "PhraseRoadsLaw", name := "part", desc := "(LPhraseRoads;IZI[J)I" } : Jvm.MethodName) ∈ lw_tbl := List.mem_of_getElem? (i := 1308) (by decide +kernel)
theorem wd_1309 : Jvm.Cond.static ({ cls := "PhraseRoadsLaw", name := "part", desc := "(LPhraseRoads;IZI[J)I" } : Jvm.MethodName) ∈ lw_tbl := List.mem_of_getElem? (i := 1309) (by decide +kernel)
theorem wd_1310 : Jvm.Cond.codeWith ({ cls := "PhraseRoadsLaw", name := "part", desc := "(LPhraseRoads;IZI[J)I" } : Jvm.MethodName) method_9_code (6 : Nat) (Option.some Jvm.ClassFile.FieldType.int) [((0 : Nat), (12 : Nat), (15 : Nat), (30 : Nat))] ∈ lw_tbl := List.mem_of_getElem? (i := 1310) (by decide +kernel)
theorem wd_1311 : Jvm.Cond.methodLink "PhraseRoadsLaw" (37 : Nat) ({ cls := "PhraseRoads", name := "part", desc := "(IZI)I" } : Jvm.MethodName) ∈ lw_tbl := List.mem_of_getElem? (i := 1311) (by decide +kernel)
theorem wd_1312 : Jvm.Cond.instanceMethod ({ cls := "PhraseRoads", name := "part", desc := "(IZI)I" } : Jvm.MethodName) ∈ lw_tbl := List.mem_of_getElem? (i := 1312) (by decide +kernel)
theorem wd_1313 : Jvm.Cond.selects "PhraseRoads" ({ cls := "PhraseRoads", name := "part", desc := "(IZI)I" } : Jvm.MethodName) ({ cls := "PhraseRoads", name := "part", desc := "(IZI)I" } : Jvm.MethodName) ∈ lw_tbl := List.mem_of_getElem? (i := 1313) (by decide +kernel)
theorem wd_1314 : Jvm.Cond.code ({ cls := "PhraseRoads", name := "part", desc := "(IZI)I" } : Jvm.MethodName) prog_1_method_11_code (6 : Nat) (Option.some Jvm.ClassFile.FieldType.int) ∈ lw_tbl := List.mem_of_getElem? (i := 1314) (by decide +kernel)
theorem wd_1315 : Jvm.Cond.methodLink "PhraseRoadsLaw" (148 : Nat) ({ cls := "PhraseRoadsLaw", name := "after", desc := "(LPhraseRoads;II[J)I" } : Jvm.MethodName) ∈ lw_tbl := List.mem_of_getElem? (i := 1315) (by decide +kernel)
theorem wd_1316 : Jvm.Cond.static ({ cls := "PhraseRoadsLaw", name := "after", desc := "(LPhraseRoads;II[J)I" } : Jvm.MethodName) ∈ lw_tbl := List.mem_of_getElem? (i := 1316) (by decide +kernel)
theorem wd_1317 : Jvm.Cond.codeWith ({ cls := "PhraseRoadsLaw", name := "after", desc := "(LPhraseRoads;II[J)I" } : Jvm.MethodName) method_10_code (5 : Nat) (Option.some Jvm.ClassFile.FieldType.int) [((0 : Nat), (10 : Nat), (13 : Nat), (30 : Nat))] ∈ lw_tbl := List.mem_of_getElem? (i := 1317) (by decide +kernel)
theorem wd_1318 : Jvm.Cond.methodLink "PhraseRoadsLaw" (41 : Nat) ({ cls := "PhraseRoads", name := "after", desc := "(II)I" } : Jvm.MethodName) ∈ lw_tbl := List.mem_of_getElem? (i := 1318) (by decide +kernel)
theorem wd_1319 : Jvm.Cond.instanceMethod ({ cls := "PhraseRoads", name := "after", desc := "(II)I" } : Jvm.MethodName) ∈ lw_tbl := List.mem_of_getElem? (i := 1319) (by decide +kernel)
theorem wd_1320 : Jvm.Cond.selects "PhraseRoads" ({ cls := "PhraseRoads", name := "after", desc := "(II)I" } : Jvm.MethodName) ({ cls := "PhraseRoads", name := "after", desc := "(II)I" } : Jvm.MethodName) ∈ lw_tbl := List.mem_of_getElem? (i := 1320) (by decide +kernel)
theorem wd_1321 : Jvm.Cond.code ({ cls := "PhraseRoads", name := "after", desc := "(II)I" } : Jvm.MethodName) prog_1_method_12_code (3 : Nat) (Option.some Jvm.ClassFile.FieldType.int) ∈ lw_tbl := List.mem_of_getElem? (i := 1321) (by decide +kernel)
theorem wd_1322 : Jvm.Cond.methodLinkNest "PhraseRoads" (204 : Nat) ({ cls := "PhraseRoads$Knowledge", name := "flow", desc := "(II)I" } : Jvm.MethodName) "PhraseRoads" ∈ lw_tbl := List.mem_of_getElem? (i := 1322) (by decide +kernel)
theorem wd_1323 : Jvm.Cond.methodLink "PhraseRoadsLaw" (151 : Nat) ({ cls := "PhraseRoadsLaw", name := "place", desc := "(LPhraseRoads;I[J)I" } : Jvm.MethodName) ∈ lw_tbl := List.mem_of_getElem? (i := 1323) (by decide +kernel)
theorem wd_1324 : Jvm.Cond.static ({ cls := "PhraseRoadsLaw", name := "place", desc := "(LPhraseRoads;I[J)I" } : Jvm.MethodName) ∈ lw_tbl := List.mem_of_getElem? (i := 1324) (by decide +kernel)
theorem wd_1325 : Jvm.Cond.codeWith ({ cls := "PhraseRoadsLaw", name := "place", desc := "(LPhraseRoads;I[J)I" } : Jvm.MethodName) method_11_code (4 : Nat) (Option.some Jvm.ClassFile.FieldType.int) [((0 : Nat), (9 : Nat), (12 : Nat), (30 : Nat))] ∈ lw_tbl := List.mem_of_getElem? (i := 1325) (by decide +kernel)
theorem wd_1326 : Jvm.Cond.methodLink "PhraseRoadsLaw" (44 : Nat) ({ cls := "PhraseRoads", name := "place", desc := "(I)I" } : Jvm.MethodName) ∈ lw_tbl := List.mem_of_getElem? (i := 1326) (by decide +kernel)
theorem wd_1327 : Jvm.Cond.instanceMethod ({ cls := "PhraseRoads", name := "place", desc := "(I)I" } : Jvm.MethodName) ∈ lw_tbl := List.mem_of_getElem? (i := 1327) (by decide +kernel)
theorem wd_1328 : Jvm.Cond.selects "PhraseRoads" ({ cls := "PhraseRoads", name := "place", desc := "(I)I" } : Jvm.MethodName) ({ cls := "PhraseRoads", name := "place", desc := "(I)I" } : Jvm.MethodName) ∈ lw_tbl := List.mem_of_getElem? (i := 1328) (by decide +kernel)
theorem wd_1329 : Jvm.Cond.code ({ cls := "PhraseRoads", name := "place", desc := "(I)I" } : Jvm.MethodName) prog_1_method_13_code (2 : Nat) (Option.some Jvm.ClassFile.FieldType.int) ∈ lw_tbl := List.mem_of_getElem? (i := 1329) (by decide +kernel)
theorem wd_1330 : Jvm.Cond.methodLink "PhraseRoads" (208 : Nat) ({ cls := "PhraseRoads", name := "checkPlace", desc := "(I)V" } : Jvm.MethodName) ∈ lw_tbl := List.mem_of_getElem? (i := 1330) (by decide +kernel)
theorem wd_1332 : Jvm.Cond.instanceMethod ({ cls := "PhraseRoads", name := "checkPlace", desc := "(I)V" } : Jvm.MethodName) ∈ lw_tbl := List.mem_of_getElem? (i := 1332) (by decide +kernel)
theorem wd_1333 : Jvm.Cond.code ({ cls := "PhraseRoads", name := "checkPlace", desc := "(I)V" } : Jvm.MethodName) prog_1_method_42_code (2 : Nat) (Option.none : Option Jvm.ClassFile.FieldType) ∈ lw_tbl := List.mem_of_getElem? (i := 1333) (by decide +kernel)
theorem wd_1335 : Jvm.Cond.methodLink "PhraseRoadsLaw" (155 : Nat) ({ cls := "PhraseRoadsLaw", name := "put", desc := "(LPhraseRoads;II[J)I" } : Jvm.MethodName) ∈ lw_tbl := List.mem_of_getElem? (i := 1335) (by decide +kernel)
theorem wd_1336 : Jvm.Cond.static ({ cls := "PhraseRoadsLaw", name := "put", desc := "(LPhraseRoads;II[J)I" } : Jvm.MethodName) ∈ lw_tbl := List.mem_of_getElem? (i := 1336) (by decide +kernel)
theorem wd_1337 : Jvm.Cond.codeWith ({ cls := "PhraseRoadsLaw", name := "put", desc := "(LPhraseRoads;II[J)I" } : Jvm.MethodName) method_12_code (5 : Nat) (Option.some Jvm.ClassFile.FieldType.int) [((0 : Nat), (10 : Nat), (13 : Nat), (30 : Nat))] ∈ lw_tbl := List.mem_of_getElem? (i := 1337) (by decide +kernel)
theorem wd_1338 : Jvm.Cond.methodLink "PhraseRoadsLaw" (48 : Nat) ({ cls := "PhraseRoads", name := "put", desc := "(II)I" } : Jvm.MethodName) ∈ lw_tbl := List.mem_of_getElem? (i := 1338) (by decide +kernel)
theorem wd_1339 : Jvm.Cond.instanceMethod ({ cls := "PhraseRoads", name := "put", desc := "(II)I" } : Jvm.MethodName) ∈ lw_tbl := List.mem_of_getElem? (i := 1339) (by decide +kernel)
theorem wd_1340 : Jvm.Cond.selects "PhraseRoads" ({ cls := "PhraseRoads", name := "put", desc := "(II)I" } : Jvm.MethodName) ({ cls := "PhraseRoads", name := "put", desc := "(II)I" } : Jvm.MethodName) ∈ lw_tbl := List.mem_of_getElem? (i := 1340) (by decide +kernel)
theorem wd_1341 : Jvm.Cond.code ({ cls := "PhraseRoads", name := "put", desc := "(II)I" } : Jvm.MethodName) prog_1_method_14_code (4 : Nat) (Option.some Jvm.ClassFile.FieldType.int) ∈ lw_tbl := List.mem_of_getElem? (i := 1341) (by decide +kernel)
theorem wd_1342 : Jvm.Cond.methodLink "PhraseRoadsLaw" (158 : Nat) ({ cls := "PhraseRoadsLaw", name := "price", desc := "(LPhraseRoads;II[J)I" } : Jvm.MethodName) ∈ lw_tbl := List.mem_of_getElem? (i := 1342) (by decide +kernel)
theorem wd_1343 : Jvm.Cond.static ({ cls := "PhraseRoadsLaw", name := "price", desc := "(LPhraseRoads;II[J)I" } : Jvm.MethodName) ∈ lw_tbl := List.mem_of_getElem? (i := 1343) (by decide +kernel)
theorem wd_1344 : Jvm.Cond.codeWith ({ cls := "PhraseRoadsLaw", name := "price", desc := "(LPhraseRoads;II[J)I" } : Jvm.MethodName) method_13_code (5 : Nat) (Option.some Jvm.ClassFile.FieldType.int) [((0 : Nat), (10 : Nat), (13 : Nat), (30 : Nat)), ((0 : Nat), (10 : Nat), (17 : Nat), (13 : Nat))] ∈ lw_tbl := List.mem_of_getElem? (i := 1344) (by decide +kernel)
theorem wd_1345 : Jvm.Cond.methodLink "PhraseRoadsLaw" (51 : Nat) ({ cls := "PhraseRoads", name := "price", desc := "(II)I" } : Jvm.MethodName) ∈ lw_tbl := List.mem_of_getElem? (i := 1345) (by decide +kernel)
theorem wd_1346 : Jvm.Cond.instanceMethod ({ cls := "PhraseRoads", name := "price", desc := "(II)I" } : Jvm.MethodName) ∈ lw_tbl := List.mem_of_getElem? (i := 1346) (by decide +kernel)
theorem wd_1347 : Jvm.Cond.selects "PhraseRoads" ({ cls := "PhraseRoads", name := "price", desc := "(II)I" } : Jvm.MethodName) ({ cls := "PhraseRoads", name := "price", desc := "(II)I" } : Jvm.MethodName) ∈ lw_tbl := List.mem_of_getElem? (i := 1347) (by decide +kernel)
theorem wd_1348 : Jvm.Cond.code ({ cls := "PhraseRoads", name := "price", desc := "(II)I" } : Jvm.MethodName) prog_1_method_15_code (4 : Nat) (Option.some Jvm.ClassFile.FieldType.int) ∈ lw_tbl := List.mem_of_getElem? (i := 1348) (by decide +kernel)
theorem wd_1350 : Jvm.Cond.methodLink "PhraseRoadsLaw" (161 : Nat) ({ cls := "PhraseRoadsLaw", name := "drop", desc := "(LPhraseRoads;IZ[J)I" } : Jvm.MethodName) ∈ lw_tbl := List.mem_of_getElem? (i := 1350) (by decide +kernel)
theorem wd_1351 : Jvm.Cond.static ({ cls := "PhraseRoadsLaw", name := "drop", desc := "(LPhraseRoads;IZ[J)I" } : Jvm.MethodName) ∈ lw_tbl := List.mem_of_getElem? (i := 1351) (by decide +kernel)
theorem wd_1352 : Jvm.Cond.codeWith ({ cls := "PhraseRoadsLaw", name := "drop", desc := "(LPhraseRoads;IZ[J)I" } : Jvm.MethodName) method_14_code (5 : Nat) (Option.some Jvm.ClassFile.FieldType.int) [((0 : Nat), (17 : Nat), (20 : Nat), (30 : Nat)), ((0 : Nat), (17 : Nat), (24 : Nat), (13 : Nat))] ∈ lw_tbl := List.mem_of_getElem? (i := 1352) (by decide +kernel)
theorem wd_1353 : Jvm.Cond.methodLink "PhraseRoadsLaw" (54 : Nat) ({ cls := "PhraseRoads", name := "drop", desc := "(IZ)Z" } : Jvm.MethodName) ∈ lw_tbl := List.mem_of_getElem? (i := 1353) (by decide +kernel)
theorem wd_1354 : Jvm.Cond.instanceMethod ({ cls := "PhraseRoads", name := "drop", desc := "(IZ)Z" } : Jvm.MethodName) ∈ lw_tbl := List.mem_of_getElem? (i := 1354) (by decide +kernel)
theorem wd_1355 : Jvm.Cond.selects "PhraseRoads" ({ cls := "PhraseRoads", name := "drop", desc := "(IZ)Z" } : Jvm.MethodName) ({ cls := "PhraseRoads", name := "drop", desc := "(IZ)Z" } : Jvm.MethodName) ∈ lw_tbl := List.mem_of_getElem? (i := 1355) (by decide +kernel)
theorem wd_1356 : Jvm.Cond.code ({ cls := "PhraseRoads", name := "drop", desc := "(IZ)Z" } : Jvm.MethodName) prog_1_method_16_code (3 : Nat) (Option.some Jvm.ClassFile.FieldType.boolean) ∈ lw_tbl := List.mem_of_getElem? (i := 1356) (by decide +kernel)
theorem wd_1357 : Jvm.Cond.methodLinkNest "PhraseRoads" (222 : Nat) ({ cls := "PhraseRoads$Knowledge", name := "hasTwin", desc := "(I)Z" } : Jvm.MethodName) "PhraseRoads" ∈ lw_tbl := List.mem_of_getElem? (i := 1357) (by decide +kernel)
theorem wd_1359 : Jvm.Cond.instanceMethod ({ cls := "PhraseRoads$Knowledge", name := "hasTwin", desc := "(I)Z" } : Jvm.MethodName) ∈ lw_tbl := List.mem_of_getElem? (i := 1359) (by decide +kernel)
theorem wd_1360 : Jvm.Cond.code ({ cls := "PhraseRoads$Knowledge", name := "hasTwin", desc := "(I)Z" } : Jvm.MethodName) prog_4_method_7_code (3 : Nat) (Option.some Jvm.ClassFile.FieldType.boolean) ∈ lw_tbl := List.mem_of_getElem? (i := 1360) (by decide +kernel)
theorem wd_1362 : Jvm.Cond.methodLink "PhraseRoadsLaw" (165 : Nat) ({ cls := "PhraseRoadsLaw", name := "tune", desc := "(LPhraseRoads;II[J)I" } : Jvm.MethodName) ∈ lw_tbl := List.mem_of_getElem? (i := 1362) (by decide +kernel)
theorem wd_1363 : Jvm.Cond.static ({ cls := "PhraseRoadsLaw", name := "tune", desc := "(LPhraseRoads;II[J)I" } : Jvm.MethodName) ∈ lw_tbl := List.mem_of_getElem? (i := 1363) (by decide +kernel)
theorem wd_1364 : Jvm.Cond.codeWith ({ cls := "PhraseRoadsLaw", name := "tune", desc := "(LPhraseRoads;II[J)I" } : Jvm.MethodName) method_15_code (5 : Nat) (Option.some Jvm.ClassFile.FieldType.int) [((0 : Nat), (10 : Nat), (13 : Nat), (35 : Nat)), ((0 : Nat), (10 : Nat), (17 : Nat), (13 : Nat))] ∈ lw_tbl := List.mem_of_getElem? (i := 1364) (by decide +kernel)
theorem wd_1365 : Jvm.Cond.methodLink "PhraseRoadsLaw" (58 : Nat) ({ cls := "PhraseRoads", name := "tune", desc := "(II)I" } : Jvm.MethodName) ∈ lw_tbl := List.mem_of_getElem? (i := 1365) (by decide +kernel)
theorem wd_1366 : Jvm.Cond.instanceMethod ({ cls := "PhraseRoads", name := "tune", desc := "(II)I" } : Jvm.MethodName) ∈ lw_tbl := List.mem_of_getElem? (i := 1366) (by decide +kernel)
theorem wd_1367 : Jvm.Cond.selects "PhraseRoads" ({ cls := "PhraseRoads", name := "tune", desc := "(II)I" } : Jvm.MethodName) ({ cls := "PhraseRoads", name := "tune", desc := "(II)I" } : Jvm.MethodName) ∈ lw_tbl := List.mem_of_getElem? (i := 1367) (by decide +kernel)
theorem wd_1368 : Jvm.Cond.code ({ cls := "PhraseRoads", name := "tune", desc := "(II)I" } : Jvm.MethodName) prog_1_method_17_code (4 : Nat) (Option.some Jvm.ClassFile.FieldType.int) ∈ lw_tbl := List.mem_of_getElem? (i := 1368) (by decide +kernel)
theorem wd_1370 : Jvm.Cond.fieldLink "PhraseRoads" (229 : Nat) "PhraseRoads" "SETTING_LEAST" "[I" ∈ lw_tbl := List.mem_of_getElem? (i := 1370) (by decide +kernel)
theorem wd_1372 : Jvm.Cond.fieldLink "PhraseRoads" (232 : Nat) "PhraseRoads" "SETTING_MOST" "[I" ∈ lw_tbl := List.mem_of_getElem? (i := 1372) (by decide +kernel)
theorem wd_1375 : Jvm.Cond.methodLink "PhraseRoadsLaw" (168 : Nat) ({ cls := "PhraseRoadsLaw", name := "option", desc := "(LPhraseRoads;II[J)I" } : Jvm.MethodName) ∈ lw_tbl := List.mem_of_getElem? (i := 1375) (by decide +kernel)
theorem wd_1376 : Jvm.Cond.static ({ cls := "PhraseRoadsLaw", name := "option", desc := "(LPhraseRoads;II[J)I" } : Jvm.MethodName) ∈ lw_tbl := List.mem_of_getElem? (i := 1376) (by decide +kernel)
theorem wd_1377 : Jvm.Cond.codeWith ({ cls := "PhraseRoadsLaw", name := "option", desc := "(LPhraseRoads;II[J)I" } : Jvm.MethodName) method_16_code (5 : Nat) (Option.some Jvm.ClassFile.FieldType.int) [((0 : Nat), (10 : Nat), (13 : Nat), (30 : Nat))] ∈ lw_tbl := List.mem_of_getElem? (i := 1377) (by decide +kernel)
theorem wd_1378 : Jvm.Cond.methodLink "PhraseRoadsLaw" (61 : Nat) ({ cls := "PhraseRoads", name := "option", desc := "(II)I" } : Jvm.MethodName) ∈ lw_tbl := List.mem_of_getElem? (i := 1378) (by decide +kernel)
theorem wd_1379 : Jvm.Cond.instanceMethod ({ cls := "PhraseRoads", name := "option", desc := "(II)I" } : Jvm.MethodName) ∈ lw_tbl := List.mem_of_getElem? (i := 1379) (by decide +kernel)
theorem wd_1380 : Jvm.Cond.selects "PhraseRoads" ({ cls := "PhraseRoads", name := "option", desc := "(II)I" } : Jvm.MethodName) ({ cls := "PhraseRoads", name := "option", desc := "(II)I" } : Jvm.MethodName) ∈ lw_tbl := List.mem_of_getElem? (i := 1380) (by decide +kernel)
theorem wd_1381 : Jvm.Cond.code ({ cls := "PhraseRoads", name := "option", desc := "(II)I" } : Jvm.MethodName) prog_1_method_18_code (3 : Nat) (Option.some Jvm.ClassFile.FieldType.int) ∈ lw_tbl := List.mem_of_getElem? (i := 1381) (by decide +kernel)
theorem wd_1382 : Jvm.Cond.methodLinkNest "PhraseRoads" (243 : Nat) ({ cls := "PhraseRoads$Options", name := "numberAt", desc := "(II)I" } : Jvm.MethodName) "PhraseRoads" ∈ lw_tbl := List.mem_of_getElem? (i := 1382) (by decide +kernel)
theorem wd_1384 : Jvm.Cond.instanceMethod ({ cls := "PhraseRoads$Options", name := "numberAt", desc := "(II)I" } : Jvm.MethodName) ∈ lw_tbl := List.mem_of_getElem? (i := 1384) (by decide +kernel)
theorem wd_1385 : Jvm.Cond.code ({ cls := "PhraseRoads$Options", name := "numberAt", desc := "(II)I" } : Jvm.MethodName) prog_7_method_6_code (5 : Nat) (Option.some Jvm.ClassFile.FieldType.int) ∈ lw_tbl := List.mem_of_getElem? (i := 1385) (by decide +kernel)
theorem wd_1386 : Jvm.Cond.methodLink "PhraseRoadsLaw" (171 : Nat) ({ cls := "PhraseRoadsLaw", name := "stretch", desc := "(LPhraseRoads;II[J)I" } : Jvm.MethodName) ∈ lw_tbl := List.mem_of_getElem? (i := 1386) (by decide +kernel)
theorem wd_1387 : Jvm.Cond.static ({ cls := "PhraseRoadsLaw", name := "stretch", desc := "(LPhraseRoads;II[J)I" } : Jvm.MethodName) ∈ lw_tbl := List.mem_of_getElem? (i := 1387) (by decide +kernel)
theorem wd_1388 : Jvm.Cond.codeWith ({ cls := "PhraseRoadsLaw", name := "stretch", desc := "(LPhraseRoads;II[J)I" } : Jvm.MethodName) method_17_code (5 : Nat) (Option.some Jvm.ClassFile.FieldType.int) [((0 : Nat), (10 : Nat), (13 : Nat), (30 : Nat)), ((0 : Nat), (10 : Nat), (17 : Nat), (13 : Nat))] ∈ lw_tbl := List.mem_of_getElem? (i := 1388) (by decide +kernel)
theorem wd_1389 : Jvm.Cond.methodLink "PhraseRoadsLaw" (64 : Nat) ({ cls := "PhraseRoads", name := "stretch", desc := "(II)I" } : Jvm.MethodName) ∈ lw_tbl := List.mem_of_getElem? (i := 1389) (by decide +kernel)
theorem wd_1390 : Jvm.Cond.instanceMethod ({ cls := "PhraseRoads", name := "stretch", desc := "(II)I" } : Jvm.MethodName) ∈ lw_tbl := List.mem_of_getElem? (i := 1390) (by decide +kernel)
theorem wd_1391 : Jvm.Cond.selects "PhraseRoads" ({ cls := "PhraseRoads", name := "stretch", desc := "(II)I" } : Jvm.MethodName) ({ cls := "PhraseRoads", name := "stretch", desc := "(II)I" } : Jvm.MethodName) ∈ lw_tbl := List.mem_of_getElem? (i := 1391) (by decide +kernel)
theorem wd_1392 : Jvm.Cond.code ({ cls := "PhraseRoads", name := "stretch", desc := "(II)I" } : Jvm.MethodName) prog_1_method_19_code (3 : Nat) (Option.some Jvm.ClassFile.FieldType.int) ∈ lw_tbl := List.mem_of_getElem? (i := 1392) (by decide +kernel)
theorem wd_1394 : Jvm.Cond.methodLink "PhraseRoadsLaw" (182 : Nat) ({ cls := "PhraseRoadsLaw", name := "way", desc := "(LPhraseRoads;II[J)I" } : Jvm.MethodName) ∈ lw_tbl := List.mem_of_getElem? (i := 1394) (by decide +kernel)
theorem wd_1395 : Jvm.Cond.static ({ cls := "PhraseRoadsLaw", name := "way", desc := "(LPhraseRoads;II[J)I" } : Jvm.MethodName) ∈ lw_tbl := List.mem_of_getElem? (i := 1395) (by decide +kernel)
theorem wd_1396 : Jvm.Cond.codeWith ({ cls := "PhraseRoadsLaw", name := "way", desc := "(LPhraseRoads;II[J)I" } : Jvm.MethodName) method_18_code (5 : Nat) (Option.some Jvm.ClassFile.FieldType.int) [((0 : Nat), (10 : Nat), (13 : Nat), (35 : Nat)), ((0 : Nat), (10 : Nat), (17 : Nat), (13 : Nat))] ∈ lw_tbl := List.mem_of_getElem? (i := 1396) (by decide +kernel)
theorem wd_1397 : Jvm.Cond.methodLink "PhraseRoadsLaw" (67 : Nat) ({ cls := "PhraseRoads", name := "way", desc := "(II)I" } : Jvm.MethodName) ∈ lw_tbl := List.mem_of_getElem? (i := 1397) (by decide +kernel)
theorem wd_1398 : Jvm.Cond.instanceMethod ({ cls := "PhraseRoads", name := "way", desc := "(II)I" } : Jvm.MethodName) ∈ lw_tbl := List.mem_of_getElem? (i := 1398) (by decide +kernel)
theorem wd_1399 : Jvm.Cond.selects "PhraseRoads" ({ cls := "PhraseRoads", name := "way", desc := "(II)I" } : Jvm.MethodName) ({ cls := "PhraseRoads", name := "way", desc := "(II)I" } : Jvm.MethodName) ∈ lw_tbl := List.mem_of_getElem? (i := 1399) (by decide +kernel)
theorem wd_1400 : Jvm.Cond.code ({ cls := "PhraseRoads", name := "way", desc := "(II)I" } : Jvm.MethodName) prog_1_method_22_code (3 : Nat) (Option.some Jvm.ClassFile.FieldType.int) ∈ lw_tbl := List.mem_of_getElem? (i := 1400) (by decide +kernel)
theorem wd_1402 : Jvm.Cond.methodLink "PhraseRoads" (261 : Nat) ({ cls := "PhraseRoads", name := "checkWay", desc := "(I)V" } : Jvm.MethodName) ∈ lw_tbl := List.mem_of_getElem? (i := 1402) (by decide +kernel)
theorem wd_1404 : Jvm.Cond.instanceMethod ({ cls := "PhraseRoads", name := "checkWay", desc := "(I)V" } : Jvm.MethodName) ∈ lw_tbl := List.mem_of_getElem? (i := 1404) (by decide +kernel)
theorem wd_1405 : Jvm.Cond.code ({ cls := "PhraseRoads", name := "checkWay", desc := "(I)V" } : Jvm.MethodName) prog_1_method_43_code (2 : Nat) (Option.none : Option Jvm.ClassFile.FieldType) ∈ lw_tbl := List.mem_of_getElem? (i := 1405) (by decide +kernel)
theorem wd_1407 : Jvm.Cond.methodLinkNest "PhraseRoads" (264 : Nat) ({ cls := "PhraseRoads$Ways", name := "costOf", desc := "(I)I" } : Jvm.MethodName) "PhraseRoads" ∈ lw_tbl := List.mem_of_getElem? (i := 1407) (by decide +kernel)
theorem wd_1409 : Jvm.Cond.instanceMethod ({ cls := "PhraseRoads$Ways", name := "costOf", desc := "(I)I" } : Jvm.MethodName) ∈ lw_tbl := List.mem_of_getElem? (i := 1409) (by decide +kernel)
theorem wd_1410 : Jvm.Cond.code ({ cls := "PhraseRoads$Ways", name := "costOf", desc := "(I)I" } : Jvm.MethodName) prog_11_method_3_code (2 : Nat) (Option.some Jvm.ClassFile.FieldType.int) ∈ lw_tbl := List.mem_of_getElem? (i := 1410) (by decide +kernel)
theorem wd_1411 : Jvm.Cond.methodLink "PhraseRoadsLaw" (185 : Nat) ({ cls := "PhraseRoadsLaw", name := "step", desc := "(LPhraseRoads;III[J)I" } : Jvm.MethodName) ∈ lw_tbl := List.mem_of_getElem? (i := 1411) (by decide +kernel)
theorem wd_1412 : Jvm.Cond.static ({ cls := "PhraseRoadsLaw", name := "step", desc := "(LPhraseRoads;III[J)I" } : Jvm.MethodName) ∈ lw_tbl := List.mem_of_getElem? (i := 1412) (by decide +kernel)
theorem wd_1413 : Jvm.Cond.codeWith ({ cls := "PhraseRoadsLaw", name := "step", desc := "(LPhraseRoads;III[J)I" } : Jvm.MethodName) method_19_code (6 : Nat) (Option.some Jvm.ClassFile.FieldType.int) [((0 : Nat), (12 : Nat), (15 : Nat), (35 : Nat)), ((0 : Nat), (12 : Nat), (19 : Nat), (13 : Nat))] ∈ lw_tbl := List.mem_of_getElem? (i := 1413) (by decide +kernel)
theorem wd_1414 : Jvm.Cond.methodLink "PhraseRoadsLaw" (70 : Nat) ({ cls := "PhraseRoads", name := "step", desc := "(III)I" } : Jvm.MethodName) ∈ lw_tbl := List.mem_of_getElem? (i := 1414) (by decide +kernel)
theorem wd_1415 : Jvm.Cond.instanceMethod ({ cls := "PhraseRoads", name := "step", desc := "(III)I" } : Jvm.MethodName) ∈ lw_tbl := List.mem_of_getElem? (i := 1415) (by decide +kernel)
theorem wd_1416 : Jvm.Cond.selects "PhraseRoads" ({ cls := "PhraseRoads", name := "step", desc := "(III)I" } : Jvm.MethodName) ({ cls := "PhraseRoads", name := "step", desc := "(III)I" } : Jvm.MethodName) ∈ lw_tbl := List.mem_of_getElem? (i := 1416) (by decide +kernel)
theorem wd_1417 : Jvm.Cond.code ({ cls := "PhraseRoads", name := "step", desc := "(III)I" } : Jvm.MethodName) prog_1_method_23_code (5 : Nat) (Option.some Jvm.ClassFile.FieldType.int) ∈ lw_tbl := List.mem_of_getElem? (i := 1417) (by decide +kernel)
theorem wd_1419 : Jvm.Cond.methodLink "PhraseRoadsLaw" (189 : Nat) ({ cls := "PhraseRoadsLaw", name := "word", desc := "(LPhraseRoads;II[J)I" } : Jvm.MethodName) ∈ lw_tbl := List.mem_of_getElem? (i := 1419) (by decide +kernel)
theorem wd_1420 : Jvm.Cond.static ({ cls := "PhraseRoadsLaw", name := "word", desc := "(LPhraseRoads;II[J)I" } : Jvm.MethodName) ∈ lw_tbl := List.mem_of_getElem? (i := 1420) (by decide +kernel)
theorem wd_1421 : Jvm.Cond.codeWith ({ cls := "PhraseRoadsLaw", name := "word", desc := "(LPhraseRoads;II[J)I" } : Jvm.MethodName) method_20_code (5 : Nat) (Option.some Jvm.ClassFile.FieldType.int) [((0 : Nat), (10 : Nat), (13 : Nat), (13 : Nat))] ∈ lw_tbl := List.mem_of_getElem? (i := 1421) (by decide +kernel)
theorem wd_1422 : Jvm.Cond.methodLink "PhraseRoadsLaw" (74 : Nat) ({ cls := "PhraseRoads", name := "word", desc := "(II)I" } : Jvm.MethodName) ∈ lw_tbl := List.mem_of_getElem? (i := 1422) (by decide +kernel)
theorem wd_1423 : Jvm.Cond.instanceMethod ({ cls := "PhraseRoads", name := "word", desc := "(II)I" } : Jvm.MethodName) ∈ lw_tbl := List.mem_of_getElem? (i := 1423) (by decide +kernel)
theorem wd_1424 : Jvm.Cond.selects "PhraseRoads" ({ cls := "PhraseRoads", name := "word", desc := "(II)I" } : Jvm.MethodName) ({ cls := "PhraseRoads", name := "word", desc := "(II)I" } : Jvm.MethodName) ∈ lw_tbl := List.mem_of_getElem? (i := 1424) (by decide +kernel)
theorem wd_1425 : Jvm.Cond.code ({ cls := "PhraseRoads", name := "word", desc := "(II)I" } : Jvm.MethodName) prog_1_method_24_code (3 : Nat) (Option.some Jvm.ClassFile.FieldType.int) ∈ lw_tbl := List.mem_of_getElem? (i := 1425) (by decide +kernel)
theorem wd_1426 : Jvm.Cond.methodLink "PhraseRoadsLaw" (192 : Nat) ({ cls := "PhraseRoadsLaw", name := "found", desc := "(LPhraseRoads;I[J)I" } : Jvm.MethodName) ∈ lw_tbl := List.mem_of_getElem? (i := 1426) (by decide +kernel)
theorem wd_1427 : Jvm.Cond.static ({ cls := "PhraseRoadsLaw", name := "found", desc := "(LPhraseRoads;I[J)I" } : Jvm.MethodName) ∈ lw_tbl := List.mem_of_getElem? (i := 1427) (by decide +kernel)
theorem wd_1428 : Jvm.Cond.codeWith ({ cls := "PhraseRoadsLaw", name := "found", desc := "(LPhraseRoads;I[J)I" } : Jvm.MethodName) method_21_code (4 : Nat) (Option.some Jvm.ClassFile.FieldType.int) [((0 : Nat), (9 : Nat), (12 : Nat), (35 : Nat))] ∈ lw_tbl := List.mem_of_getElem? (i := 1428) (by decide +kernel)
theorem wd_1429 : Jvm.Cond.methodLink "PhraseRoadsLaw" (77 : Nat) ({ cls := "PhraseRoads", name := "found", desc := "(I)I" } : Jvm.MethodName) ∈ lw_tbl := List.mem_of_getElem? (i := 1429) (by decide +kernel)
theorem wd_1430 : Jvm.Cond.instanceMethod ({ cls := "PhraseRoads", name := "found", desc := "(I)I" } : Jvm.MethodName) ∈ lw_tbl := List.mem_of_getElem? (i := 1430) (by decide +kernel)
theorem wd_1431 : Jvm.Cond.selects "PhraseRoads" ({ cls := "PhraseRoads", name := "found", desc := "(I)I" } : Jvm.MethodName) ({ cls := "PhraseRoads", name := "found", desc := "(I)I" } : Jvm.MethodName) ∈ lw_tbl := List.mem_of_getElem? (i := 1431) (by decide +kernel)
theorem wd_1432 : Jvm.Cond.code ({ cls := "PhraseRoads", name := "found", desc := "(I)I" } : Jvm.MethodName) prog_1_method_25_code (2 : Nat) (Option.some Jvm.ClassFile.FieldType.int) ∈ lw_tbl := List.mem_of_getElem? (i := 1432) (by decide +kernel)
theorem wd_1434 : Jvm.Cond.methodLink "PhraseRoads" (290 : Nat) ({ cls := "PhraseRoads", name := "prepareStacks", desc := "()V" } : Jvm.MethodName) ∈ lw_tbl := List.mem_of_getElem? (i := 1434) (by decide +kernel)
theorem wd_1436 : Jvm.Cond.instanceMethod ({ cls := "PhraseRoads", name := "prepareStacks", desc := "()V" } : Jvm.MethodName) ∈ lw_tbl := List.mem_of_getElem? (i := 1436) (by decide +kernel)
theorem wd_1437 : Jvm.Cond.code ({ cls := "PhraseRoads", name := "prepareStacks", desc := "()V" } : Jvm.MethodName) prog_1_method_51_code (1 : Nat) (Option.none : Option Jvm.ClassFile.FieldType) ∈ lw_tbl := List.mem_of_getElem? (i := 1437) (by decide +kernel)
theorem wd_1438 : Jvm.Cond.methodLink "PhraseRoadsLaw" (195 : Nat) ({ cls := "PhraseRoadsLaw", name := "halves", desc := "(LPhraseRoads;II[J)I" } : Jvm.MethodName) ∈ lw_tbl := List.mem_of_getElem? (i := 1438) (by decide +kernel)
theorem wd_1439 : Jvm.Cond.static ({ cls := "PhraseRoadsLaw", name := "halves", desc := "(LPhraseRoads;II[J)I" } : Jvm.MethodName) ∈ lw_tbl := List.mem_of_getElem? (i := 1439) (by decide +kernel)
theorem wd_1440 : Jvm.Cond.codeWith ({ cls := "PhraseRoadsLaw", name := "halves", desc := "(LPhraseRoads;II[J)I" } : Jvm.MethodName) method_22_code (5 : Nat) (Option.some Jvm.ClassFile.FieldType.int) [((0 : Nat), (10 : Nat), (13 : Nat), (35 : Nat))] ∈ lw_tbl := List.mem_of_getElem? (i := 1440) (by decide +kernel)
theorem wd_1441 : Jvm.Cond.methodLink "PhraseRoadsLaw" (80 : Nat) ({ cls := "PhraseRoads", name := "halves", desc := "(II)I" } : Jvm.MethodName) ∈ lw_tbl := List.mem_of_getElem? (i := 1441) (by decide +kernel)
theorem wd_1442 : Jvm.Cond.instanceMethod ({ cls := "PhraseRoads", name := "halves", desc := "(II)I" } : Jvm.MethodName) ∈ lw_tbl := List.mem_of_getElem? (i := 1442) (by decide +kernel)
theorem wd_1443 : Jvm.Cond.selects "PhraseRoads" ({ cls := "PhraseRoads", name := "halves", desc := "(II)I" } : Jvm.MethodName) ({ cls := "PhraseRoads", name := "halves", desc := "(II)I" } : Jvm.MethodName) ∈ lw_tbl := List.mem_of_getElem? (i := 1443) (by decide +kernel)
theorem wd_1444 : Jvm.Cond.code ({ cls := "PhraseRoads", name := "halves", desc := "(II)I" } : Jvm.MethodName) prog_1_method_26_code (4 : Nat) (Option.some Jvm.ClassFile.FieldType.int) ∈ lw_tbl := List.mem_of_getElem? (i := 1444) (by decide +kernel)
theorem wd_1445 : Jvm.Cond.methodLink "PhraseRoadsLaw" (198 : Nat) ({ cls := "PhraseRoadsLaw", name := "stack", desc := "(LPhraseRoads;II[J)I" } : Jvm.MethodName) ∈ lw_tbl := List.mem_of_getElem? (i := 1445) (by decide +kernel)
theorem wd_1446 : Jvm.Cond.static ({ cls := "PhraseRoadsLaw", name := "stack", desc := "(LPhraseRoads;II[J)I" } : Jvm.MethodName) ∈ lw_tbl := List.mem_of_getElem? (i := 1446) (by decide +kernel)
theorem wd_1447 : Jvm.Cond.codeWith ({ cls := "PhraseRoadsLaw", name := "stack", desc := "(LPhraseRoads;II[J)I" } : Jvm.MethodName) method_23_code (5 : Nat) (Option.some Jvm.ClassFile.FieldType.int) [((0 : Nat), (10 : Nat), (13 : Nat), (30 : Nat)), ((0 : Nat), (10 : Nat), (17 : Nat), (35 : Nat))] ∈ lw_tbl := List.mem_of_getElem? (i := 1447) (by decide +kernel)
theorem wd_1448 : Jvm.Cond.methodLink "PhraseRoadsLaw" (83 : Nat) ({ cls := "PhraseRoads", name := "stack", desc := "(II)I" } : Jvm.MethodName) ∈ lw_tbl := List.mem_of_getElem? (i := 1448) (by decide +kernel)
theorem wd_1449 : Jvm.Cond.instanceMethod ({ cls := "PhraseRoads", name := "stack", desc := "(II)I" } : Jvm.MethodName) ∈ lw_tbl := List.mem_of_getElem? (i := 1449) (by decide +kernel)
theorem wd_1450 : Jvm.Cond.selects "PhraseRoads" ({ cls := "PhraseRoads", name := "stack", desc := "(II)I" } : Jvm.MethodName) ({ cls := "PhraseRoads", name := "stack", desc := "(II)I" } : Jvm.MethodName) ∈ lw_tbl := List.mem_of_getElem? (i := 1450) (by decide +kernel)
theorem wd_1451 : Jvm.Cond.code ({ cls := "PhraseRoads", name := "stack", desc := "(II)I" } : Jvm.MethodName) prog_1_method_27_code (3 : Nat) (Option.some Jvm.ClassFile.FieldType.int) ∈ lw_tbl := List.mem_of_getElem? (i := 1451) (by decide +kernel)
theorem wd_1454 : Jvm.Cond.methodLink "PhraseRoadsLaw" (201 : Nat) ({ cls := "PhraseRoadsLaw", name := "forced", desc := "(LPhraseRoads;[J)I" } : Jvm.MethodName) ∈ lw_tbl := List.mem_of_getElem? (i := 1454) (by decide +kernel)
theorem wd_1455 : Jvm.Cond.static ({ cls := "PhraseRoadsLaw", name := "forced", desc := "(LPhraseRoads;[J)I" } : Jvm.MethodName) ∈ lw_tbl := List.mem_of_getElem? (i := 1455) (by decide +kernel)
theorem wd_1456 : Jvm.Cond.codeWith ({ cls := "PhraseRoadsLaw", name := "forced", desc := "(LPhraseRoads;[J)I" } : Jvm.MethodName) method_24_code (3 : Nat) (Option.some Jvm.ClassFile.FieldType.int) [((0 : Nat), (8 : Nat), (11 : Nat), (13 : Nat))] ∈ lw_tbl := List.mem_of_getElem? (i := 1456) (by decide +kernel)
theorem wd_1457 : Jvm.Cond.methodLink "PhraseRoadsLaw" (86 : Nat) ({ cls := "PhraseRoads", name := "forced", desc := "()I" } : Jvm.MethodName) ∈ lw_tbl := List.mem_of_getElem? (i := 1457) (by decide +kernel)
theorem wd_1458 : Jvm.Cond.instanceMethod ({ cls := "PhraseRoads", name := "forced", desc := "()I" } : Jvm.MethodName) ∈ lw_tbl := List.mem_of_getElem? (i := 1458) (by decide +kernel)
theorem wd_1459 : Jvm.Cond.selects "PhraseRoads" ({ cls := "PhraseRoads", name := "forced", desc := "()I" } : Jvm.MethodName) ({ cls := "PhraseRoads", name := "forced", desc := "()I" } : Jvm.MethodName) ∈ lw_tbl := List.mem_of_getElem? (i := 1459) (by decide +kernel)
theorem wd_1460 : Jvm.Cond.code ({ cls := "PhraseRoads", name := "forced", desc := "()I" } : Jvm.MethodName) prog_1_method_28_code (1 : Nat) (Option.some Jvm.ClassFile.FieldType.int) ∈ lw_tbl := List.mem_of_getElem? (i := 1460) (by decide +kernel)
theorem wd_1461 : Jvm.Cond.methodLink "PhraseRoads" (324 : Nat) ({ cls := "PhraseRoads", name := "readTold", desc := "()V" } : Jvm.MethodName) ∈ lw_tbl := List.mem_of_getElem? (i := 1461) (by decide +kernel)
theorem wd_1463 : Jvm.Cond.instanceMethod ({ cls := "PhraseRoads", name := "readTold", desc := "()V" } : Jvm.MethodName) ∈ lw_tbl := List.mem_of_getElem? (i := 1463) (by decide +kernel)
theorem wd_1464 : Jvm.Cond.code ({ cls := "PhraseRoads", name := "readTold", desc := "()V" } : Jvm.MethodName) prog_1_method_45_code (1 : Nat) (Option.none : Option Jvm.ClassFile.FieldType) ∈ lw_tbl := List.mem_of_getElem? (i := 1464) (by decide +kernel)
theorem wd_1465 : Jvm.Cond.methodLinkNest "PhraseRoads" (333 : Nat) ({ cls := "PhraseRoads$Counting", name := "cheapestTelling", desc := "([IIII)I" } : Jvm.MethodName) "PhraseRoads" ∈ lw_tbl := List.mem_of_getElem? (i := 1465) (by decide +kernel)
theorem wd_1467 : Jvm.Cond.instanceMethod ({ cls := "PhraseRoads$Counting", name := "cheapestTelling", desc := "([IIII)I" } : Jvm.MethodName) ∈ lw_tbl := List.mem_of_getElem? (i := 1467) (by decide +kernel)
theorem wd_1468 : Jvm.Cond.code ({ cls := "PhraseRoads$Counting", name := "cheapestTelling", desc := "([IIII)I" } : Jvm.MethodName) prog_2_method_4_code (8 : Nat) (Option.some Jvm.ClassFile.FieldType.int) ∈ lw_tbl := List.mem_of_getElem? (i := 1468) (by decide +kernel)
theorem wd_1469 : Jvm.Cond.constant "PhraseRoads$Counting" (58 : Nat) (1000000 : Int32) ∈ lw_tbl := List.mem_of_getElem? (i := 1469) (by decide +kernel)
theorem wd_1470 : Jvm.Cond.methodLink "PhraseRoads$Counting" (59 : Nat) ({ cls := "PhraseRoads$Counting", name := "tellFrom", desc := "(I[IIII)V" } : Jvm.MethodName) ∈ lw_tbl := List.mem_of_getElem? (i := 1470) (by decide +kernel)
theorem wd_1472 : Jvm.Cond.instanceMethod ({ cls := "PhraseRoads$Counting", name := "tellFrom", desc := "(I[IIII)V" } : Jvm.MethodName) ∈ lw_tbl := List.mem_of_getElem? (i := 1472) (by decide +kernel)
theorem wd_1473 : Jvm.Cond.code ({ cls := "PhraseRoads$Counting", name := "tellFrom", desc := "(I[IIII)V" } : Jvm.MethodName) prog_2_method_5_code (14 : Nat) (Option.none : Option Jvm.ClassFile.FieldType) ∈ lw_tbl := List.mem_of_getElem? (i := 1473) (by decide +kernel)
theorem wd_1474 : Jvm.Cond.methodLink "PhraseRoads$Counting" (63 : Nat) ({ cls := "PhraseRoads$Counting", name := "wordAhead", desc := "([II)I" } : Jvm.MethodName) ∈ lw_tbl := List.mem_of_getElem? (i := 1474) (by decide +kernel)
theorem wd_1475 : Jvm.Cond.static ({ cls := "PhraseRoads$Counting", name := "wordAhead", desc := "([II)I" } : Jvm.MethodName) ∈ lw_tbl := List.mem_of_getElem? (i := 1475) (by decide +kernel)
theorem wd_1476 : Jvm.Cond.code ({ cls := "PhraseRoads$Counting", name := "wordAhead", desc := "([II)I" } : Jvm.MethodName) prog_2_method_7_code (2 : Nat) (Option.some Jvm.ClassFile.FieldType.int) ∈ lw_tbl := List.mem_of_getElem? (i := 1476) (by decide +kernel)
theorem wd_1477 : Jvm.Cond.methodLink "PhraseRoads$Counting" (71 : Nat) ({ cls := "PhraseRoads$Counting", name := "tells", desc := "(I[III)Z" } : Jvm.MethodName) ∈ lw_tbl := List.mem_of_getElem? (i := 1477) (by decide +kernel)
theorem wd_1479 : Jvm.Cond.instanceMethod ({ cls := "PhraseRoads$Counting", name := "tells", desc := "(I[III)Z" } : Jvm.MethodName) ∈ lw_tbl := List.mem_of_getElem? (i := 1479) (by decide +kernel)
theorem wd_1480 : Jvm.Cond.code ({ cls := "PhraseRoads$Counting", name := "tells", desc := "(I[III)Z" } : Jvm.MethodName) prog_2_method_6_code (6 : Nat) (Option.some Jvm.ClassFile.FieldType.boolean) ∈ lw_tbl := List.mem_of_getElem? (i := 1480) (by decide +kernel)
theorem wd_1481 : Jvm.Cond.methodLinkNest "PhraseRoads$Counting" (84 : Nat) ({ cls := "PhraseRoads$Knowledge", name := "sameRow", desc := "([II[III)Z" } : Jvm.MethodName) "PhraseRoads" ∈ lw_tbl := List.mem_of_getElem? (i := 1481) (by decide +kernel)
theorem wd_1482 : Jvm.Cond.methodLinkNest "PhraseRoads$Counting" (78 : Nat) ({ cls := "PhraseRoads$Options", name := "standing", desc := "(II)I" } : Jvm.MethodName) "PhraseRoads" ∈ lw_tbl := List.mem_of_getElem? (i := 1482) (by decide +kernel)
theorem wd_1483 : Jvm.Cond.methodLinkNest "PhraseRoads$Counting" (67 : Nat) ({ cls := "PhraseRoads$Options", name := "ending", desc := "(I)I" } : Jvm.MethodName) "PhraseRoads" ∈ lw_tbl := List.mem_of_getElem? (i := 1483) (by decide +kernel)
theorem wd_1484 : Jvm.Cond.methodLink "PhraseRoadsLaw" (204 : Nat) ({ cls := "PhraseRoadsLaw", name := "near", desc := "(LPhraseRoads;[J)I" } : Jvm.MethodName) ∈ lw_tbl := List.mem_of_getElem? (i := 1484) (by decide +kernel)
theorem wd_1485 : Jvm.Cond.static ({ cls := "PhraseRoadsLaw", name := "near", desc := "(LPhraseRoads;[J)I" } : Jvm.MethodName) ∈ lw_tbl := List.mem_of_getElem? (i := 1485) (by decide +kernel)
theorem wd_1486 : Jvm.Cond.codeWith ({ cls := "PhraseRoadsLaw", name := "near", desc := "(LPhraseRoads;[J)I" } : Jvm.MethodName) method_25_code (3 : Nat) (Option.some Jvm.ClassFile.FieldType.int) [((0 : Nat), (8 : Nat), (11 : Nat), (13 : Nat))] ∈ lw_tbl := List.mem_of_getElem? (i := 1486) (by decide +kernel)
theorem wd_1487 : Jvm.Cond.methodLink "PhraseRoadsLaw" (89 : Nat) ({ cls := "PhraseRoads", name := "near", desc := "()I" } : Jvm.MethodName) ∈ lw_tbl := List.mem_of_getElem? (i := 1487) (by decide +kernel)
theorem wd_1488 : Jvm.Cond.instanceMethod ({ cls := "PhraseRoads", name := "near", desc := "()I" } : Jvm.MethodName) ∈ lw_tbl := List.mem_of_getElem? (i := 1488) (by decide +kernel)
theorem wd_1489 : Jvm.Cond.selects "PhraseRoads" ({ cls := "PhraseRoads", name := "near", desc := "()I" } : Jvm.MethodName) ({ cls := "PhraseRoads", name := "near", desc := "()I" } : Jvm.MethodName) ∈ lw_tbl := List.mem_of_getElem? (i := 1489) (by decide +kernel)
theorem wd_1490 : Jvm.Cond.code ({ cls := "PhraseRoads", name := "near", desc := "()I" } : Jvm.MethodName) prog_1_method_29_code (1 : Nat) (Option.some Jvm.ClassFile.FieldType.int) ∈ lw_tbl := List.mem_of_getElem? (i := 1490) (by decide +kernel)
theorem wd_1491 : Jvm.Cond.methodLinkNest "PhraseRoads" (337 : Nat) ({ cls := "PhraseRoads$Likeness", name := "apart", desc := "([II[II)I" } : Jvm.MethodName) "PhraseRoads" ∈ lw_tbl := List.mem_of_getElem? (i := 1491) (by decide +kernel)
theorem wd_1493 : Jvm.Cond.instanceMethod ({ cls := "PhraseRoads$Likeness", name := "apart", desc := "([II[II)I" } : Jvm.MethodName) ∈ lw_tbl := List.mem_of_getElem? (i := 1493) (by decide +kernel)
theorem wd_1494 : Jvm.Cond.code ({ cls := "PhraseRoads$Likeness", name := "apart", desc := "([II[II)I" } : Jvm.MethodName) prog_6_method_2_code (9 : Nat) (Option.some Jvm.ClassFile.FieldType.int) ∈ lw_tbl := List.mem_of_getElem? (i := 1494) (by decide +kernel)
theorem wd_1495 : Jvm.Cond.methodLink "PhraseRoads$Likeness" (23 : Nat) ({ cls := "java/lang/Math", name := "min", desc := "(II)I" } : Jvm.MethodName) ∈ lw_tbl := List.mem_of_getElem? (i := 1495) (by decide +kernel)
theorem wd_1496 : Jvm.Cond.methodLink "PhraseRoadsLaw" (207 : Nat) ({ cls := "PhraseRoadsLaw", name := "match", desc := "(LPhraseRoads;I[J)I" } : Jvm.MethodName) ∈ lw_tbl := List.mem_of_getElem? (i := 1496) (by decide +kernel)
theorem wd_1497 : Jvm.Cond.static ({ cls := "PhraseRoadsLaw", name := "match", desc := "(LPhraseRoads;I[J)I" } : Jvm.MethodName) ∈ lw_tbl := List.mem_of_getElem? (i := 1497) (by decide +kernel)
theorem wd_1498 : Jvm.Cond.codeWith ({ cls := "PhraseRoadsLaw", name := "match", desc := "(LPhraseRoads;I[J)I" } : Jvm.MethodName) method_26_code (4 : Nat) (Option.some Jvm.ClassFile.FieldType.int) [((0 : Nat), (9 : Nat), (12 : Nat), (13 : Nat))] ∈ lw_tbl := List.mem_of_getElem? (i := 1498) (by decide +kernel)
theorem wd_1499 : Jvm.Cond.methodLink "PhraseRoadsLaw" (92 : Nat) ({ cls := "PhraseRoads", name := "match", desc := "(I)I" } : Jvm.MethodName) ∈ lw_tbl := List.mem_of_getElem? (i := 1499) (by decide +kernel)
theorem wd_1500 : Jvm.Cond.instanceMethod ({ cls := "PhraseRoads", name := "match", desc := "(I)I" } : Jvm.MethodName) ∈ lw_tbl := List.mem_of_getElem? (i := 1500) (by decide +kernel)
theorem wd_1501 : Jvm.Cond.selects "PhraseRoads" ({ cls := "PhraseRoads", name := "match", desc := "(I)I" } : Jvm.MethodName) ({ cls := "PhraseRoads", name := "match", desc := "(I)I" } : Jvm.MethodName) ∈ lw_tbl := List.mem_of_getElem? (i := 1501) (by decide +kernel)
theorem wd_1502 : Jvm.Cond.code ({ cls := "PhraseRoads", name := "match", desc := "(I)I" } : Jvm.MethodName) prog_1_method_30_code (2 : Nat) (Option.some Jvm.ClassFile.FieldType.int) ∈ lw_tbl := List.mem_of_getElem? (i := 1502) (by decide +kernel)
theorem wd_1504 : Jvm.Cond.methodLinkNest "PhraseRoads" (343 : Nat) ({ cls := "PhraseRoads$Likeness", name := "common", desc := "([II[III)I" } : Jvm.MethodName) "PhraseRoads" ∈ lw_tbl := List.mem_of_getElem? (i := 1504) (by decide +kernel)
theorem wd_1506 : Jvm.Cond.instanceMethod ({ cls := "PhraseRoads$Likeness", name := "common", desc := "([II[III)I" } : Jvm.MethodName) ∈ lw_tbl := List.mem_of_getElem? (i := 1506) (by decide +kernel)
theorem wd_1507 : Jvm.Cond.code ({ cls := "PhraseRoads$Likeness", name := "common", desc := "([II[III)I" } : Jvm.MethodName) prog_6_method_3_code (9 : Nat) (Option.some Jvm.ClassFile.FieldType.int) ∈ lw_tbl := List.mem_of_getElem? (i := 1507) (by decide +kernel)
theorem wd_1508 : Jvm.Cond.methodLink "PhraseRoads$Likeness" (29 : Nat) ({ cls := "PhraseRoads$Likeness", name := "howOften", desc := "([II[III)I" } : Jvm.MethodName) ∈ lw_tbl := List.mem_of_getElem? (i := 1508) (by decide +kernel)
theorem wd_1510 : Jvm.Cond.instanceMethod ({ cls := "PhraseRoads$Likeness", name := "howOften", desc := "([II[III)I" } : Jvm.MethodName) ∈ lw_tbl := List.mem_of_getElem? (i := 1510) (by decide +kernel)
theorem wd_1511 : Jvm.Cond.code ({ cls := "PhraseRoads$Likeness", name := "howOften", desc := "([II[III)I" } : Jvm.MethodName) prog_6_method_4_code (8 : Nat) (Option.some Jvm.ClassFile.FieldType.int) ∈ lw_tbl := List.mem_of_getElem? (i := 1511) (by decide +kernel)
theorem wd_1512 : Jvm.Cond.methodLinkNest "PhraseRoads$Likeness" (33 : Nat) ({ cls := "PhraseRoads$Knowledge", name := "sameRow", desc := "([II[III)Z" } : Jvm.MethodName) "PhraseRoads" ∈ lw_tbl := List.mem_of_getElem? (i := 1512) (by decide +kernel)
theorem wd_1513 : Jvm.Cond.methodLink "PhraseRoadsLaw" (210 : Nat) ({ cls := "PhraseRoadsLaw", name := "agreed", desc := "(LPhraseRoads;I[J)I" } : Jvm.MethodName) ∈ lw_tbl := List.mem_of_getElem? (i := 1513) (by decide +kernel)
theorem wd_1514 : Jvm.Cond.static ({ cls := "PhraseRoadsLaw", name := "agreed", desc := "(LPhraseRoads;I[J)I" } : Jvm.MethodName) ∈ lw_tbl := List.mem_of_getElem? (i := 1514) (by decide +kernel)
theorem wd_1515 : Jvm.Cond.codeWith ({ cls := "PhraseRoadsLaw", name := "agreed", desc := "(LPhraseRoads;I[J)I" } : Jvm.MethodName) method_27_code (4 : Nat) (Option.some Jvm.ClassFile.FieldType.int) [((0 : Nat), (9 : Nat), (12 : Nat), (13 : Nat))] ∈ lw_tbl := List.mem_of_getElem? (i := 1515) (by decide +kernel)
theorem wd_1516 : Jvm.Cond.methodLink "PhraseRoadsLaw" (95 : Nat) ({ cls := "PhraseRoads", name := "agreed", desc := "(I)I" } : Jvm.MethodName) ∈ lw_tbl := List.mem_of_getElem? (i := 1516) (by decide +kernel)
theorem wd_1517 : Jvm.Cond.instanceMethod ({ cls := "PhraseRoads", name := "agreed", desc := "(I)I" } : Jvm.MethodName) ∈ lw_tbl := List.mem_of_getElem? (i := 1517) (by decide +kernel)
theorem wd_1518 : Jvm.Cond.selects "PhraseRoads" ({ cls := "PhraseRoads", name := "agreed", desc := "(I)I" } : Jvm.MethodName) ({ cls := "PhraseRoads", name := "agreed", desc := "(I)I" } : Jvm.MethodName) ∈ lw_tbl := List.mem_of_getElem? (i := 1518) (by decide +kernel)
theorem wd_1519 : Jvm.Cond.code ({ cls := "PhraseRoads", name := "agreed", desc := "(I)I" } : Jvm.MethodName) prog_1_method_31_code (3 : Nat) (Option.some Jvm.ClassFile.FieldType.int) ∈ lw_tbl := List.mem_of_getElem? (i := 1519) (by decide +kernel)
theorem wd_1521 : Jvm.Cond.methodLinkNest "PhraseRoads" (349 : Nat) ({ cls := "PhraseRoads$Likeness", name := "clear", desc := "()V" } : Jvm.MethodName) "PhraseRoads" ∈ lw_tbl := List.mem_of_getElem? (i := 1521) (by decide +kernel)
theorem wd_1523 : Jvm.Cond.instanceMethod ({ cls := "PhraseRoads$Likeness", name := "clear", desc := "()V" } : Jvm.MethodName) ∈ lw_tbl := List.mem_of_getElem? (i := 1523) (by decide +kernel)
theorem wd_1524 : Jvm.Cond.code ({ cls := "PhraseRoads$Likeness", name := "clear", desc := "()V" } : Jvm.MethodName) prog_6_method_5_code (1 : Nat) (Option.none : Option Jvm.ClassFile.FieldType) ∈ lw_tbl := List.mem_of_getElem? (i := 1524) (by decide +kernel)
theorem wd_1525 : Jvm.Cond.methodLinkNest "PhraseRoads" (352 : Nat) ({ cls := "PhraseRoads$Likeness", name := "add", desc := "([II)V" } : Jvm.MethodName) "PhraseRoads" ∈ lw_tbl := List.mem_of_getElem? (i := 1525) (by decide +kernel)
theorem wd_1527 : Jvm.Cond.instanceMethod ({ cls := "PhraseRoads$Likeness", name := "add", desc := "([II)V" } : Jvm.MethodName) ∈ lw_tbl := List.mem_of_getElem? (i := 1527) (by decide +kernel)
theorem wd_1528 : Jvm.Cond.code ({ cls := "PhraseRoads$Likeness", name := "add", desc := "([II)V" } : Jvm.MethodName) prog_6_method_6_code (3 : Nat) (Option.none : Option Jvm.ClassFile.FieldType) ∈ lw_tbl := List.mem_of_getElem? (i := 1528) (by decide +kernel)
theorem wd_1529 : Jvm.Cond.methodLink "PhraseRoads$Likeness" (43 : Nat) ({ cls := "java/lang/System", name := "arraycopy", desc := "(Ljava/lang/Object;ILjava/lang/Object;II)V" } : Jvm.MethodName) ∈ lw_tbl := List.mem_of_getElem? (i := 1529) (by decide +kernel)
theorem wd_1530 : Jvm.Cond.methodLinkNest "PhraseRoads" (356 : Nat) ({ cls := "PhraseRoads$Likeness", name := "middle", desc := "()I" } : Jvm.MethodName) "PhraseRoads" ∈ lw_tbl := List.mem_of_getElem? (i := 1530) (by decide +kernel)
theorem wd_1532 : Jvm.Cond.instanceMethod ({ cls := "PhraseRoads$Likeness", name := "middle", desc := "()I" } : Jvm.MethodName) ∈ lw_tbl := List.mem_of_getElem? (i := 1532) (by decide +kernel)
theorem wd_1533 : Jvm.Cond.code ({ cls := "PhraseRoads$Likeness", name := "middle", desc := "()I" } : Jvm.MethodName) prog_6_method_7_code (6 : Nat) (Option.some Jvm.ClassFile.FieldType.int) ∈ lw_tbl := List.mem_of_getElem? (i := 1533) (by decide +kernel)
theorem wd_1534 : Jvm.Cond.constant "PhraseRoads$Likeness" (49 : Nat) (1000000 : Int32) ∈ lw_tbl := List.mem_of_getElem? (i := 1534) (by decide +kernel)
theorem wd_1535 : Jvm.Cond.methodLink "PhraseRoads$Likeness" (50 : Nat) ({ cls := "PhraseRoads$Likeness", name := "apart", desc := "([II[II)I" } : Jvm.MethodName) ∈ lw_tbl := List.mem_of_getElem? (i := 1535) (by decide +kernel)
theorem wd_1536 : Jvm.Cond.methodLink "PhraseRoadsLaw" (229 : Nat) ({ cls := "PhraseRoadsLaw", name := "tuned", desc := "(LPhraseRoads;[J)I" } : Jvm.MethodName) ∈ lw_tbl := List.mem_of_getElem? (i := 1536) (by decide +kernel)
theorem wd_1537 : Jvm.Cond.static ({ cls := "PhraseRoadsLaw", name := "tuned", desc := "(LPhraseRoads;[J)I" } : Jvm.MethodName) ∈ lw_tbl := List.mem_of_getElem? (i := 1537) (by decide +kernel)
theorem wd_1538 : Jvm.Cond.codeWith ({ cls := "PhraseRoadsLaw", name := "tuned", desc := "(LPhraseRoads;[J)I" } : Jvm.MethodName) method_28_code (3 : Nat) (Option.some Jvm.ClassFile.FieldType.int) [((0 : Nat), (8 : Nat), (11 : Nat), (13 : Nat))] ∈ lw_tbl := List.mem_of_getElem? (i := 1538) (by decide +kernel)
theorem wd_1539 : Jvm.Cond.methodLink "PhraseRoadsLaw" (98 : Nat) ({ cls := "PhraseRoads", name := "tuned", desc := "()I" } : Jvm.MethodName) ∈ lw_tbl := List.mem_of_getElem? (i := 1539) (by decide +kernel)
theorem wd_1540 : Jvm.Cond.instanceMethod ({ cls := "PhraseRoads", name := "tuned", desc := "()I" } : Jvm.MethodName) ∈ lw_tbl := List.mem_of_getElem? (i := 1540) (by decide +kernel)
theorem wd_1541 : Jvm.Cond.selects "PhraseRoads" ({ cls := "PhraseRoads", name := "tuned", desc := "()I" } : Jvm.MethodName) ({ cls := "PhraseRoads", name := "tuned", desc := "()I" } : Jvm.MethodName) ∈ lw_tbl := List.mem_of_getElem? (i := 1541) (by decide +kernel)
theorem wd_1542 : Jvm.Cond.code ({ cls := "PhraseRoads", name := "tuned", desc := "()I" } : Jvm.MethodName) prog_1_method_36_code (5 : Nat) (Option.some Jvm.ClassFile.FieldType.int) ∈ lw_tbl := List.mem_of_getElem? (i := 1542) (by decide +kernel)
theorem wd_1543 : Jvm.Cond.constant "PhraseRoads" (377 : Nat) (1000000 : Int32) ∈ lw_tbl := List.mem_of_getElem? (i := 1543) (by decide +kernel)
theorem wd_1544 : Jvm.Cond.classLink "PhraseRoadsLaw" (102 : Nat) "PhraseRoadsModel" ∈ lw_tbl := List.mem_of_getElem? (i := 1544) (by decide +kernel)
theorem wd_1545 : Jvm.Cond.instantiable "PhraseRoadsModel" (52 : Nat) ∈ lw_tbl := List.mem_of_getElem? (i := 1545) (by decide +kernel)
theorem wd_1546 : Jvm.Cond.methodLink "PhraseRoadsLaw" (104 : Nat) ({ cls := "PhraseRoadsModel", name := "<init>", desc := "()V" } : Jvm.MethodName) ∈ lw_tbl := List.mem_of_getElem? (i := 1546) (by decide +kernel)
theorem wd_1547 : Jvm.Cond.instanceMethod ({ cls := "PhraseRoadsModel", name := "<init>", desc := "()V" } : Jvm.MethodName) ∈ lw_tbl := List.mem_of_getElem? (i := 1547) (by decide +kernel)
theorem wd_1548 : Jvm.Cond.code ({ cls := "PhraseRoadsModel", name := "<init>", desc := "()V" } : Jvm.MethodName) prog_13_method_1_code (1 : Nat) (Option.none : Option Jvm.ClassFile.FieldType) ∈ lw_tbl := List.mem_of_getElem? (i := 1548) (by decide +kernel)
theorem wd_1549 : Jvm.Cond.methodLink "PhraseRoadsModel" (1 : Nat) ({ cls := "java/lang/Object", name := "<init>", desc := "()V" } : Jvm.MethodName) ∈ lw_tbl := List.mem_of_getElem? (i := 1549) (by decide +kernel)
theorem wd_1550 : Jvm.Cond.fieldLink "PhraseRoadsModel" (100 : Nat) "PhraseRoadsModel" "thrown" "I" ∈ lw_tbl := List.mem_of_getElem? (i := 1550) (by decide +kernel)
theorem wd_1551 : Jvm.Cond.fieldLink "PhraseRoadsModel" (7 : Nat) "PhraseRoadsModel" "m" "[I" ∈ lw_tbl := List.mem_of_getElem? (i := 1551) (by decide +kernel)
theorem wd_1552 : Jvm.Cond.fieldLink "PhraseRoadsModel" (13 : Nat) "PhraseRoadsModel" "aside" "[I" ∈ lw_tbl := List.mem_of_getElem? (i := 1552) (by decide +kernel)
theorem wd_1553 : Jvm.Cond.fieldLink "PhraseRoadsModel" (16 : Nat) "PhraseRoadsModel" "kept" "[I" ∈ lw_tbl := List.mem_of_getElem? (i := 1553) (by decide +kernel)
theorem wd_1554 : Jvm.Cond.fieldLink "PhraseRoadsModel" (419 : Nat) "PhraseRoadsModel" "hasImage" "Z" ∈ lw_tbl := List.mem_of_getElem? (i := 1554) (by decide +kernel)
theorem wd_1555 : Jvm.Cond.fieldLink "PhraseRoadsModel" (19 : Nat) "PhraseRoadsModel" "tape" "[I" ∈ lw_tbl := List.mem_of_getElem? (i := 1555) (by decide +kernel)
theorem wd_1556 : Jvm.Cond.fieldLink "PhraseRoadsModel" (107 : Nat) "PhraseRoadsModel" "taped" "I" ∈ lw_tbl := List.mem_of_getElem? (i := 1556) (by decide +kernel)
theorem wd_1557 : Jvm.Cond.fieldLink "PhraseRoadsModel" (110 : Nat) "PhraseRoadsModel" "end" "I" ∈ lw_tbl := List.mem_of_getElem? (i := 1557) (by decide +kernel)
theorem wd_1558 : Jvm.Cond.fieldLink "PhraseRoadsModel" (113 : Nat) "PhraseRoadsModel" "at" "I" ∈ lw_tbl := List.mem_of_getElem? (i := 1558) (by decide +kernel)
theorem wd_1559 : Jvm.Cond.fieldLink "PhraseRoadsModel" (22 : Nat) "PhraseRoadsModel" "fault" "I" ∈ lw_tbl := List.mem_of_getElem? (i := 1559) (by decide +kernel)
theorem wd_1560 : Jvm.Cond.fieldLink "PhraseRoadsModel" (26 : Nat) "PhraseRoadsModel" "rows" "[I" ∈ lw_tbl := List.mem_of_getElem? (i := 1560) (by decide +kernel)
theorem wd_1561 : Jvm.Cond.fieldLink "PhraseRoadsModel" (29 : Nat) "PhraseRoadsModel" "begun" "[I" ∈ lw_tbl := List.mem_of_getElem? (i := 1561) (by decide +kernel)
theorem wd_1562 : Jvm.Cond.fieldLink "PhraseRoadsModel" (116 : Nat) "PhraseRoadsModel" "rowMany" "I" ∈ lw_tbl := List.mem_of_getElem? (i := 1562) (by decide +kernel)
theorem wd_1563 : Jvm.Cond.fieldLink "PhraseRoadsModel" (32 : Nat) "PhraseRoadsModel" "told" "[I" ∈ lw_tbl := List.mem_of_getElem? (i := 1563) (by decide +kernel)
theorem wd_1564 : Jvm.Cond.fieldLink "PhraseRoadsModel" (119 : Nat) "PhraseRoadsModel" "toldMany" "I" ∈ lw_tbl := List.mem_of_getElem? (i := 1564) (by decide +kernel)
theorem wd_1565 : Jvm.Cond.fieldLink "PhraseRoadsModel" (194 : Nat) "PhraseRoadsModel" "left" "I" ∈ lw_tbl := List.mem_of_getElem? (i := 1565) (by decide +kernel)
theorem wd_1566 : Jvm.Cond.fieldLink "PhraseRoadsModel" (35 : Nat) "PhraseRoadsModel" "linkA" "[I" ∈ lw_tbl := List.mem_of_getElem? (i := 1566) (by decide +kernel)
theorem wd_1567 : Jvm.Cond.fieldLink "PhraseRoadsModel" (38 : Nat) "PhraseRoadsModel" "linkB" "[I" ∈ lw_tbl := List.mem_of_getElem? (i := 1567) (by decide +kernel)
theorem wd_1568 : Jvm.Cond.fieldLink "PhraseRoadsModel" (122 : Nat) "PhraseRoadsModel" "linkMany" "I" ∈ lw_tbl := List.mem_of_getElem? (i := 1568) (by decide +kernel)
theorem wd_1569 : Jvm.Cond.fieldLink "PhraseRoadsModel" (41 : Nat) "PhraseRoadsModel" "least" "[I" ∈ lw_tbl := List.mem_of_getElem? (i := 1569) (by decide +kernel)
theorem wd_1570 : Jvm.Cond.fieldLink "PhraseRoadsModel" (125 : Nat) "PhraseRoadsModel" "isLaid" "Z" ∈ lw_tbl := List.mem_of_getElem? (i := 1570) (by decide +kernel)
theorem wd_1571 : Jvm.Cond.fieldLink "PhraseRoadsModel" (44 : Nat) "PhraseRoadsModel" "ways" "[J" ∈ lw_tbl := List.mem_of_getElem? (i := 1571) (by decide +kernel)
theorem wd_1572 : Jvm.Cond.fieldLink "PhraseRoadsModel" (248 : Nat) "PhraseRoadsModel" "stepCost" "I" ∈ lw_tbl := List.mem_of_getElem? (i := 1572) (by decide +kernel)
theorem wd_1573 : Jvm.Cond.fieldLink "PhraseRoadsModel" (251 : Nat) "PhraseRoadsModel" "stepLast" "I" ∈ lw_tbl := List.mem_of_getElem? (i := 1573) (by decide +kernel)
theorem wd_1574 : Jvm.Cond.fieldLink "PhraseRoadsModel" (48 : Nat) "PhraseRoadsModel" "starts" "[I" ∈ lw_tbl := List.mem_of_getElem? (i := 1574) (by decide +kernel)
theorem wd_1575 : Jvm.Cond.fieldLink "PhraseRoadsModel" (51 : Nat) "PhraseRoadsModel" "options" "[I" ∈ lw_tbl := List.mem_of_getElem? (i := 1575) (by decide +kernel)
theorem wd_1576 : Jvm.Cond.fieldLink "PhraseRoadsModel" (304 : Nat) "PhraseRoadsModel" "steps" "I" ∈ lw_tbl := List.mem_of_getElem? (i := 1576) (by decide +kernel)
theorem wd_1577 : Jvm.Cond.fieldLink "PhraseRoadsModel" (307 : Nat) "PhraseRoadsModel" "wayCost" "I" ∈ lw_tbl := List.mem_of_getElem? (i := 1577) (by decide +kernel)
theorem wd_1578 : Jvm.Cond.fieldLink "PhraseRoadsModel" (295 : Nat) "PhraseRoadsModel" "bound" "I" ∈ lw_tbl := List.mem_of_getElem? (i := 1578) (by decide +kernel)
theorem wd_1579 : Jvm.Cond.fieldLink "PhraseRoadsModel" (298 : Nat) "PhraseRoadsModel" "beyond" "I" ∈ lw_tbl := List.mem_of_getElem? (i := 1579) (by decide +kernel)
theorem wd_1580 : Jvm.Cond.fieldLink "PhraseRoadsModel" (301 : Nat) "PhraseRoadsModel" "need" "I" ∈ lw_tbl := List.mem_of_getElem? (i := 1580) (by decide +kernel)
theorem wd_1581 : Jvm.Cond.fieldLink "PhraseRoadsModel" (54 : Nat) "PhraseRoadsModel" "text" "[I" ∈ lw_tbl := List.mem_of_getElem? (i := 1581) (by decide +kernel)
theorem wd_1582 : Jvm.Cond.fieldLink "PhraseRoadsModel" (317 : Nat) "PhraseRoadsModel" "textMany" "I" ∈ lw_tbl := List.mem_of_getElem? (i := 1582) (by decide +kernel)
theorem wd_1583 : Jvm.Cond.fieldLink "PhraseRoadsModel" (57 : Nat) "PhraseRoadsModel" "stretches" "[I" ∈ lw_tbl := List.mem_of_getElem? (i := 1583) (by decide +kernel)
theorem wd_1584 : Jvm.Cond.fieldLink "PhraseRoadsModel" (60 : Nat) "PhraseRoadsModel" "lies" "[Z" ∈ lw_tbl := List.mem_of_getElem? (i := 1584) (by decide +kernel)
theorem wd_1585 : Jvm.Cond.fieldLink "PhraseRoadsModel" (64 : Nat) "PhraseRoadsModel" "isTaken" "[Z" ∈ lw_tbl := List.mem_of_getElem? (i := 1585) (by decide +kernel)
theorem wd_1586 : Jvm.Cond.fieldLink "PhraseRoadsModel" (67 : Nat) "PhraseRoadsModel" "costs" "[I" ∈ lw_tbl := List.mem_of_getElem? (i := 1586) (by decide +kernel)
theorem wd_1587 : Jvm.Cond.fieldLink "PhraseRoadsModel" (70 : Nat) "PhraseRoadsModel" "made" "[I" ∈ lw_tbl := List.mem_of_getElem? (i := 1587) (by decide +kernel)
theorem wd_1588 : Jvm.Cond.fieldLink "PhraseRoadsModel" (73 : Nat) "PhraseRoadsModel" "from" "[I" ∈ lw_tbl := List.mem_of_getElem? (i := 1588) (by decide +kernel)
theorem wd_1589 : Jvm.Cond.fieldLink "PhraseRoadsModel" (76 : Nat) "PhraseRoadsModel" "byStart" "[I" ∈ lw_tbl := List.mem_of_getElem? (i := 1589) (by decide +kernel)
theorem wd_1590 : Jvm.Cond.fieldLink "PhraseRoadsModel" (79 : Nat) "PhraseRoadsModel" "byOption" "[I" ∈ lw_tbl := List.mem_of_getElem? (i := 1590) (by decide +kernel)
theorem wd_1591 : Jvm.Cond.fieldLink "PhraseRoadsModel" (82 : Nat) "PhraseRoadsModel" "lay" "[I" ∈ lw_tbl := List.mem_of_getElem? (i := 1591) (by decide +kernel)
theorem wd_1592 : Jvm.Cond.fieldLink "PhraseRoadsModel" (85 : Nat) "PhraseRoadsModel" "low" "[I" ∈ lw_tbl := List.mem_of_getElem? (i := 1592) (by decide +kernel)
theorem wd_1593 : Jvm.Cond.fieldLink "PhraseRoadsModel" (344 : Nat) "PhraseRoadsModel" "madeMany" "I" ∈ lw_tbl := List.mem_of_getElem? (i := 1593) (by decide +kernel)
theorem wd_1594 : Jvm.Cond.fieldLink "PhraseRoadsModel" (347 : Nat) "PhraseRoadsModel" "mergedMany" "I" ∈ lw_tbl := List.mem_of_getElem? (i := 1594) (by decide +kernel)
theorem wd_1595 : Jvm.Cond.fieldLink "PhraseRoadsModel" (365 : Nat) "PhraseRoadsModel" "cutMany" "I" ∈ lw_tbl := List.mem_of_getElem? (i := 1595) (by decide +kernel)
theorem wd_1596 : Jvm.Cond.fieldLink "PhraseRoadsModel" (380 : Nat) "PhraseRoadsModel" "foundKey" "I" ∈ lw_tbl := List.mem_of_getElem? (i := 1596) (by decide +kernel)
theorem wd_1597 : Jvm.Cond.fieldLink "PhraseRoadsModel" (383 : Nat) "PhraseRoadsModel" "foundCost" "I" ∈ lw_tbl := List.mem_of_getElem? (i := 1597) (by decide +kernel)
theorem wd_1598 : Jvm.Cond.fieldLink "PhraseRoadsModel" (88 : Nat) "PhraseRoadsModel" "forcedBy" "[I" ∈ lw_tbl := List.mem_of_getElem? (i := 1598) (by decide +kernel)
theorem wd_1599 : Jvm.Cond.fieldLink "PhraseRoadsModel" (91 : Nat) "PhraseRoadsModel" "edits" "[I" ∈ lw_tbl := List.mem_of_getElem? (i := 1599) (by decide +kernel)
theorem wd_1600 : Jvm.Cond.fieldLink "PhraseRoadsModel" (94 : Nat) "PhraseRoadsModel" "texts" "[I" ∈ lw_tbl := List.mem_of_getElem? (i := 1600) (by decide +kernel)
theorem wd_1601 : Jvm.Cond.fieldLink "PhraseRoadsModel" (97 : Nat) "PhraseRoadsModel" "textLong" "[I" ∈ lw_tbl := List.mem_of_getElem? (i := 1601) (by decide +kernel)
theorem wd_1707 : Jvm.Cond.methodLink "PhraseRoadsLaw" (121 : Nat) ({ cls := "PhraseRoadsModel", name := "thrown", desc := "()I" } : Jvm.MethodName) ∈ lw_tbl := List.mem_of_getElem? (i := 1707) (by decide +kernel)
theorem wd_1708 : Jvm.Cond.instanceMethod ({ cls := "PhraseRoadsModel", name := "thrown", desc := "()I" } : Jvm.MethodName) ∈ lw_tbl := List.mem_of_getElem? (i := 1708) (by decide +kernel)
theorem wd_1709 : Jvm.Cond.selects "PhraseRoadsModel" ({ cls := "PhraseRoadsModel", name := "thrown", desc := "()I" } : Jvm.MethodName) ({ cls := "PhraseRoadsModel", name := "thrown", desc := "()I" } : Jvm.MethodName) ∈ lw_tbl := List.mem_of_getElem? (i := 1709) (by decide +kernel)
theorem wd_1710 : Jvm.Cond.code ({ cls := "PhraseRoadsModel", name := "thrown", desc := "()I" } : Jvm.MethodName) prog_13_method_2_code (1 : Nat) (Option.some Jvm.ClassFile.FieldType.int) ∈ lw_tbl := List.mem_of_getElem? (i := 1710) (by decide +kernel)
theorem wd_1711 : Jvm.Cond.methodLink "PhraseRoadsLaw" (109 : Nat) ({ cls := "PhraseRoadsModel", name := "feed", desc := "(IIIII)I" } : Jvm.MethodName) ∈ lw_tbl := List.mem_of_getElem? (i := 1711) (by decide +kernel)
theorem wd_1712 : Jvm.Cond.instanceMethod ({ cls := "PhraseRoadsModel", name := "feed", desc := "(IIIII)I" } : Jvm.MethodName) ∈ lw_tbl := List.mem_of_getElem? (i := 1712) (by decide +kernel)
theorem wd_1713 : Jvm.Cond.selects "PhraseRoadsModel" ({ cls := "PhraseRoadsModel", name := "feed", desc := "(IIIII)I" } : Jvm.MethodName) ({ cls := "PhraseRoadsModel", name := "feed", desc := "(IIIII)I" } : Jvm.MethodName) ∈ lw_tbl := List.mem_of_getElem? (i := 1713) (by decide +kernel)
theorem wd_1714 : Jvm.Cond.code ({ cls := "PhraseRoadsModel", name := "feed", desc := "(IIIII)I" } : Jvm.MethodName) prog_13_method_12_code (8 : Nat) (Option.some Jvm.ClassFile.FieldType.int) ∈ lw_tbl := List.mem_of_getElem? (i := 1714) (by decide +kernel)
theorem wd_1715 : Jvm.Cond.methodLink "PhraseRoadsLaw" (114 : Nat) ({ cls := "PhraseRoadsModel", name := "end", desc := "(I)Z" } : Jvm.MethodName) ∈ lw_tbl := List.mem_of_getElem? (i := 1715) (by decide +kernel)
theorem wd_1716 : Jvm.Cond.instanceMethod ({ cls := "PhraseRoadsModel", name := "end", desc := "(I)Z" } : Jvm.MethodName) ∈ lw_tbl := List.mem_of_getElem? (i := 1716) (by decide +kernel)
theorem wd_1717 : Jvm.Cond.selects "PhraseRoadsModel" ({ cls := "PhraseRoadsModel", name := "end", desc := "(I)Z" } : Jvm.MethodName) ({ cls := "PhraseRoadsModel", name := "end", desc := "(I)Z" } : Jvm.MethodName) ∈ lw_tbl := List.mem_of_getElem? (i := 1717) (by decide +kernel)
theorem wd_1718 : Jvm.Cond.code ({ cls := "PhraseRoadsModel", name := "end", desc := "(I)Z" } : Jvm.MethodName) prog_13_method_13_code (2 : Nat) (Option.some Jvm.ClassFile.FieldType.boolean) ∈ lw_tbl := List.mem_of_getElem? (i := 1718) (by decide +kernel)
theorem wd_1719 : Jvm.Cond.methodLink "PhraseRoadsModel" (103 : Nat) ({ cls := "PhraseRoadsModel", name := "isIn", desc := "(III)Z" } : Jvm.MethodName) ∈ lw_tbl := List.mem_of_getElem? (i := 1719) (by decide +kernel)
theorem wd_1720 : Jvm.Cond.static ({ cls := "PhraseRoadsModel", name := "isIn", desc := "(III)Z" } : Jvm.MethodName) ∈ lw_tbl := List.mem_of_getElem? (i := 1720) (by decide +kernel)
theorem wd_1721 : Jvm.Cond.code ({ cls := "PhraseRoadsModel", name := "isIn", desc := "(III)Z" } : Jvm.MethodName) prog_13_method_3_code (3 : Nat) (Option.some Jvm.ClassFile.FieldType.boolean) ∈ lw_tbl := List.mem_of_getElem? (i := 1721) (by decide +kernel)
theorem wd_1722 : Jvm.Cond.methodLink "PhraseRoadsLaw" (120 : Nat) ({ cls := "PhraseRoadsModel", name := "book", desc := "()I" } : Jvm.MethodName) ∈ lw_tbl := List.mem_of_getElem? (i := 1722) (by decide +kernel)
theorem wd_1723 : Jvm.Cond.instanceMethod ({ cls := "PhraseRoadsModel", name := "book", desc := "()I" } : Jvm.MethodName) ∈ lw_tbl := List.mem_of_getElem? (i := 1723) (by decide +kernel)
theorem wd_1724 : Jvm.Cond.selects "PhraseRoadsModel" ({ cls := "PhraseRoadsModel", name := "book", desc := "()I" } : Jvm.MethodName) ({ cls := "PhraseRoadsModel", name := "book", desc := "()I" } : Jvm.MethodName) ∈ lw_tbl := List.mem_of_getElem? (i := 1724) (by decide +kernel)
theorem wd_1725 : Jvm.Cond.code ({ cls := "PhraseRoadsModel", name := "book", desc := "()I" } : Jvm.MethodName) prog_13_method_31_code (4 : Nat) (Option.some Jvm.ClassFile.FieldType.int) ∈ lw_tbl := List.mem_of_getElem? (i := 1725) (by decide +kernel)
theorem wd_1726 : Jvm.Cond.methodLink "PhraseRoadsModel" (173 : Nat) ({ cls := "PhraseRoadsModel", name := "begins", desc := "()V" } : Jvm.MethodName) ∈ lw_tbl := List.mem_of_getElem? (i := 1726) (by decide +kernel)
theorem wd_1728 : Jvm.Cond.instanceMethod ({ cls := "PhraseRoadsModel", name := "begins", desc := "()V" } : Jvm.MethodName) ∈ lw_tbl := List.mem_of_getElem? (i := 1728) (by decide +kernel)
theorem wd_1729 : Jvm.Cond.code ({ cls := "PhraseRoadsModel", name := "begins", desc := "()V" } : Jvm.MethodName) prog_13_method_14_code (2 : Nat) (Option.none : Option Jvm.ClassFile.FieldType) ∈ lw_tbl := List.mem_of_getElem? (i := 1729) (by decide +kernel)
theorem wd_1730 : Jvm.Cond.methodLink "PhraseRoadsModel" (176 : Nat) ({ cls := "PhraseRoadsModel", name := "reads", desc := "(Z)V" } : Jvm.MethodName) ∈ lw_tbl := List.mem_of_getElem? (i := 1730) (by decide +kernel)
theorem wd_1732 : Jvm.Cond.instanceMethod ({ cls := "PhraseRoadsModel", name := "reads", desc := "(Z)V" } : Jvm.MethodName) ∈ lw_tbl := List.mem_of_getElem? (i := 1732) (by decide +kernel)
theorem wd_1733 : Jvm.Cond.code ({ cls := "PhraseRoadsModel", name := "reads", desc := "(Z)V" } : Jvm.MethodName) prog_13_method_28_code (3 : Nat) (Option.none : Option Jvm.ClassFile.FieldType) ∈ lw_tbl := List.mem_of_getElem? (i := 1733) (by decide +kernel)
theorem wd_1734 : Jvm.Cond.methodLink "PhraseRoadsModel" (129 : Nat) ({ cls := "PhraseRoadsModel", name := "here", desc := "()I" } : Jvm.MethodName) ∈ lw_tbl := List.mem_of_getElem? (i := 1734) (by decide +kernel)
theorem wd_1736 : Jvm.Cond.instanceMethod ({ cls := "PhraseRoadsModel", name := "here", desc := "()I" } : Jvm.MethodName) ∈ lw_tbl := List.mem_of_getElem? (i := 1736) (by decide +kernel)
theorem wd_1737 : Jvm.Cond.code ({ cls := "PhraseRoadsModel", name := "here", desc := "()I" } : Jvm.MethodName) prog_13_method_16_code (1 : Nat) (Option.some Jvm.ClassFile.FieldType.int) ∈ lw_tbl := List.mem_of_getElem? (i := 1737) (by decide +kernel)
theorem wd_1738 : Jvm.Cond.methodLink "PhraseRoadsModel" (137 : Nat) ({ cls := "PhraseRoadsModel", name := "wrong", desc := "(I)V" } : Jvm.MethodName) ∈ lw_tbl := List.mem_of_getElem? (i := 1738) (by decide +kernel)
theorem wd_1740 : Jvm.Cond.instanceMethod ({ cls := "PhraseRoadsModel", name := "wrong", desc := "(I)V" } : Jvm.MethodName) ∈ lw_tbl := List.mem_of_getElem? (i := 1740) (by decide +kernel)
theorem wd_1741 : Jvm.Cond.code ({ cls := "PhraseRoadsModel", name := "wrong", desc := "(I)V" } : Jvm.MethodName) prog_13_method_17_code (2 : Nat) (Option.none : Option Jvm.ClassFile.FieldType) ∈ lw_tbl := List.mem_of_getElem? (i := 1741) (by decide +kernel)
theorem wd_1742 : Jvm.Cond.methodLink "PhraseRoadsModel" (163 : Nat) ({ cls := "PhraseRoadsModel", name := "entry", desc := "()V" } : Jvm.MethodName) ∈ lw_tbl := List.mem_of_getElem? (i := 1742) (by decide +kernel)
theorem wd_1744 : Jvm.Cond.instanceMethod ({ cls := "PhraseRoadsModel", name := "entry", desc := "()V" } : Jvm.MethodName) ∈ lw_tbl := List.mem_of_getElem? (i := 1744) (by decide +kernel)
theorem wd_1745 : Jvm.Cond.code ({ cls := "PhraseRoadsModel", name := "entry", desc := "()V" } : Jvm.MethodName) prog_13_method_26_code (2 : Nat) (Option.none : Option Jvm.ClassFile.FieldType) ∈ lw_tbl := List.mem_of_getElem? (i := 1745) (by decide +kernel)
theorem wd_1746 : Jvm.Cond.methodLink "PhraseRoadsModel" (152 : Nat) ({ cls := "PhraseRoadsModel", name := "wordsInto", desc := "([IIIZ)I" } : Jvm.MethodName) ∈ lw_tbl := List.mem_of_getElem? (i := 1746) (by decide +kernel)
theorem wd_1748 : Jvm.Cond.instanceMethod ({ cls := "PhraseRoadsModel", name := "wordsInto", desc := "([IIIZ)I" } : Jvm.MethodName) ∈ lw_tbl := List.mem_of_getElem? (i := 1748) (by decide +kernel)
theorem wd_1749 : Jvm.Cond.code ({ cls := "PhraseRoadsModel", name := "wordsInto", desc := "([IIIZ)I" } : Jvm.MethodName) prog_13_method_25_code (7 : Nat) (Option.some Jvm.ClassFile.FieldType.int) ∈ lw_tbl := List.mem_of_getElem? (i := 1749) (by decide +kernel)
theorem wd_1750 : Jvm.Cond.methodLink "PhraseRoadsModel" (144 : Nat) ({ cls := "PhraseRoadsModel", name := "isLetter", desc := "()Z" } : Jvm.MethodName) ∈ lw_tbl := List.mem_of_getElem? (i := 1750) (by decide +kernel)
theorem wd_1752 : Jvm.Cond.instanceMethod ({ cls := "PhraseRoadsModel", name := "isLetter", desc := "()Z" } : Jvm.MethodName) ∈ lw_tbl := List.mem_of_getElem? (i := 1752) (by decide +kernel)
theorem wd_1753 : Jvm.Cond.code ({ cls := "PhraseRoadsModel", name := "isLetter", desc := "()Z" } : Jvm.MethodName) prog_13_method_19_code (1 : Nat) (Option.some Jvm.ClassFile.FieldType.boolean) ∈ lw_tbl := List.mem_of_getElem? (i := 1753) (by decide +kernel)
theorem wd_1754 : Jvm.Cond.methodLink "PhraseRoadsModel" (148 : Nat) ({ cls := "PhraseRoadsModel", name := "word", desc := "(Z)I" } : Jvm.MethodName) ∈ lw_tbl := List.mem_of_getElem? (i := 1754) (by decide +kernel)
theorem wd_1756 : Jvm.Cond.instanceMethod ({ cls := "PhraseRoadsModel", name := "word", desc := "(Z)I" } : Jvm.MethodName) ∈ lw_tbl := List.mem_of_getElem? (i := 1756) (by decide +kernel)
theorem wd_1757 : Jvm.Cond.code ({ cls := "PhraseRoadsModel", name := "word", desc := "(Z)I" } : Jvm.MethodName) prog_13_method_23_code (6 : Nat) (Option.some Jvm.ClassFile.FieldType.int) ∈ lw_tbl := List.mem_of_getElem? (i := 1757) (by decide +kernel)
theorem wd_1758 : Jvm.Cond.methodLink "PhraseRoadsModel" (141 : Nat) ({ cls := "PhraseRoadsModel", name := "isSpelt", desc := "(III)Z" } : Jvm.MethodName) ∈ lw_tbl := List.mem_of_getElem? (i := 1758) (by decide +kernel)
theorem wd_1760 : Jvm.Cond.instanceMethod ({ cls := "PhraseRoadsModel", name := "isSpelt", desc := "(III)Z" } : Jvm.MethodName) ∈ lw_tbl := List.mem_of_getElem? (i := 1760) (by decide +kernel)
theorem wd_1761 : Jvm.Cond.code ({ cls := "PhraseRoadsModel", name := "isSpelt", desc := "(III)Z" } : Jvm.MethodName) prog_13_method_22_code (5 : Nat) (Option.some Jvm.ClassFile.FieldType.boolean) ∈ lw_tbl := List.mem_of_getElem? (i := 1761) (by decide +kernel)
theorem wd_1762 : Jvm.Cond.methodLink "PhraseRoadsModel" (156 : Nat) ({ cls := "PhraseRoadsModel", name := "mustSign", desc := "(I)V" } : Jvm.MethodName) ∈ lw_tbl := List.mem_of_getElem? (i := 1762) (by decide +kernel)
theorem wd_1764 : Jvm.Cond.instanceMethod ({ cls := "PhraseRoadsModel", name := "mustSign", desc := "(I)V" } : Jvm.MethodName) ∈ lw_tbl := List.mem_of_getElem? (i := 1764) (by decide +kernel)
theorem wd_1765 : Jvm.Cond.code ({ cls := "PhraseRoadsModel", name := "mustSign", desc := "(I)V" } : Jvm.MethodName) prog_13_method_21_code (2 : Nat) (Option.none : Option Jvm.ClassFile.FieldType) ∈ lw_tbl := List.mem_of_getElem? (i := 1765) (by decide +kernel)
theorem wd_1766 : Jvm.Cond.methodLink "PhraseRoadsModel" (133 : Nat) ({ cls := "PhraseRoadsModel", name := "isSign", desc := "(I)Z" } : Jvm.MethodName) ∈ lw_tbl := List.mem_of_getElem? (i := 1766) (by decide +kernel)
theorem wd_1768 : Jvm.Cond.instanceMethod ({ cls := "PhraseRoadsModel", name := "isSign", desc := "(I)Z" } : Jvm.MethodName) ∈ lw_tbl := List.mem_of_getElem? (i := 1768) (by decide +kernel)
theorem wd_1769 : Jvm.Cond.code ({ cls := "PhraseRoadsModel", name := "isSign", desc := "(I)Z" } : Jvm.MethodName) prog_13_method_18_code (2 : Nat) (Option.some Jvm.ClassFile.FieldType.boolean) ∈ lw_tbl := List.mem_of_getElem? (i := 1769) (by decide +kernel)
theorem wd_1770 : Jvm.Cond.methodLink "PhraseRoadsModel" (159 : Nat) ({ cls := "PhraseRoadsModel", name := "number", desc := "(I)I" } : Jvm.MethodName) ∈ lw_tbl := List.mem_of_getElem? (i := 1770) (by decide +kernel)
theorem wd_1772 : Jvm.Cond.instanceMethod ({ cls := "PhraseRoadsModel", name := "number", desc := "(I)I" } : Jvm.MethodName) ∈ lw_tbl := List.mem_of_getElem? (i := 1772) (by decide +kernel)
theorem wd_1773 : Jvm.Cond.code ({ cls := "PhraseRoadsModel", name := "number", desc := "(I)I" } : Jvm.MethodName) prog_13_method_24_code (4 : Nat) (Option.some Jvm.ClassFile.FieldType.int) ∈ lw_tbl := List.mem_of_getElem? (i := 1773) (by decide +kernel)
theorem wd_1774 : Jvm.Cond.methodLink "PhraseRoadsModel" (166 : Nat) ({ cls := "PhraseRoadsModel", name := "pair", desc := "()V" } : Jvm.MethodName) ∈ lw_tbl := List.mem_of_getElem? (i := 1774) (by decide +kernel)
theorem wd_1776 : Jvm.Cond.instanceMethod ({ cls := "PhraseRoadsModel", name := "pair", desc := "()V" } : Jvm.MethodName) ∈ lw_tbl := List.mem_of_getElem? (i := 1776) (by decide +kernel)
theorem wd_1777 : Jvm.Cond.code ({ cls := "PhraseRoadsModel", name := "pair", desc := "()V" } : Jvm.MethodName) prog_13_method_27_code (4 : Nat) (Option.none : Option Jvm.ClassFile.FieldType) ∈ lw_tbl := List.mem_of_getElem? (i := 1777) (by decide +kernel)
theorem wd_1778 : Jvm.Cond.methodLink "PhraseRoadsModel" (180 : Nat) ({ cls := "PhraseRoadsModel", name := "alike", desc := "([III)I" } : Jvm.MethodName) ∈ lw_tbl := List.mem_of_getElem? (i := 1778) (by decide +kernel)
theorem wd_1780 : Jvm.Cond.instanceMethod ({ cls := "PhraseRoadsModel", name := "alike", desc := "([III)I" } : Jvm.MethodName) ∈ lw_tbl := List.mem_of_getElem? (i := 1780) (by decide +kernel)
theorem wd_1781 : Jvm.Cond.code ({ cls := "PhraseRoadsModel", name := "alike", desc := "([III)I" } : Jvm.MethodName) prog_13_method_29_code (7 : Nat) (Option.some Jvm.ClassFile.FieldType.int) ∈ lw_tbl := List.mem_of_getElem? (i := 1781) (by decide +kernel)
theorem wd_1782 : Jvm.Cond.methodLink "PhraseRoadsModel" (169 : Nat) ({ cls := "PhraseRoadsModel", name := "of", desc := "(II)I" } : Jvm.MethodName) ∈ lw_tbl := List.mem_of_getElem? (i := 1782) (by decide +kernel)
theorem wd_1784 : Jvm.Cond.instanceMethod ({ cls := "PhraseRoadsModel", name := "of", desc := "(II)I" } : Jvm.MethodName) ∈ lw_tbl := List.mem_of_getElem? (i := 1784) (by decide +kernel)
theorem wd_1785 : Jvm.Cond.code ({ cls := "PhraseRoadsModel", name := "of", desc := "(II)I" } : Jvm.MethodName) prog_13_method_8_code (3 : Nat) (Option.some Jvm.ClassFile.FieldType.int) ∈ lw_tbl := List.mem_of_getElem? (i := 1785) (by decide +kernel)
theorem wd_1786 : Jvm.Cond.methodLink "PhraseRoadsModel" (184 : Nat) ({ cls := "PhraseRoadsModel", name := "comes", desc := "(II)V" } : Jvm.MethodName) ∈ lw_tbl := List.mem_of_getElem? (i := 1786) (by decide +kernel)
theorem wd_1788 : Jvm.Cond.instanceMethod ({ cls := "PhraseRoadsModel", name := "comes", desc := "(II)V" } : Jvm.MethodName) ∈ lw_tbl := List.mem_of_getElem? (i := 1788) (by decide +kernel)
theorem wd_1789 : Jvm.Cond.code ({ cls := "PhraseRoadsModel", name := "comes", desc := "(II)V" } : Jvm.MethodName) prog_13_method_30_code (5 : Nat) (Option.none : Option Jvm.ClassFile.FieldType) ∈ lw_tbl := List.mem_of_getElem? (i := 1789) (by decide +kernel)
theorem wd_1790 : Jvm.Cond.methodLink "PhraseRoadsModel" (188 : Nat) ({ cls := "PhraseRoadsModel", name := "isRight", desc := "()Z" } : Jvm.MethodName) ∈ lw_tbl := List.mem_of_getElem? (i := 1790) (by decide +kernel)
theorem wd_1792 : Jvm.Cond.instanceMethod ({ cls := "PhraseRoadsModel", name := "isRight", desc := "()Z" } : Jvm.MethodName) ∈ lw_tbl := List.mem_of_getElem? (i := 1792) (by decide +kernel)
theorem wd_1793 : Jvm.Cond.code ({ cls := "PhraseRoadsModel", name := "isRight", desc := "()Z" } : Jvm.MethodName) prog_13_method_15_code (2 : Nat) (Option.some Jvm.ClassFile.FieldType.boolean) ∈ lw_tbl := List.mem_of_getElem? (i := 1793) (by decide +kernel)
theorem wd_1794 : Jvm.Cond.methodLink "PhraseRoadsLaw" (126 : Nat) ({ cls := "PhraseRoadsModel", name := "fluency", desc := "()I" } : Jvm.MethodName) ∈ lw_tbl := List.mem_of_getElem? (i := 1794) (by decide +kernel)
theorem wd_1795 : Jvm.Cond.instanceMethod ({ cls := "PhraseRoadsModel", name := "fluency", desc := "()I" } : Jvm.MethodName) ∈ lw_tbl := List.mem_of_getElem? (i := 1795) (by decide +kernel)
theorem wd_1796 : Jvm.Cond.selects "PhraseRoadsModel" ({ cls := "PhraseRoadsModel", name := "fluency", desc := "()I" } : Jvm.MethodName) ({ cls := "PhraseRoadsModel", name := "fluency", desc := "()I" } : Jvm.MethodName) ∈ lw_tbl := List.mem_of_getElem? (i := 1796) (by decide +kernel)
theorem wd_1797 : Jvm.Cond.code ({ cls := "PhraseRoadsModel", name := "fluency", desc := "()I" } : Jvm.MethodName) prog_13_method_33_code (5 : Nat) (Option.some Jvm.ClassFile.FieldType.int) ∈ lw_tbl := List.mem_of_getElem? (i := 1797) (by decide +kernel)
theorem wd_1798 : Jvm.Cond.methodLink "PhraseRoadsModel" (191 : Nat) ({ cls := "PhraseRoadsModel", name := "pairOf", desc := "(II)I" } : Jvm.MethodName) ∈ lw_tbl := List.mem_of_getElem? (i := 1798) (by decide +kernel)
theorem wd_1800 : Jvm.Cond.instanceMethod ({ cls := "PhraseRoadsModel", name := "pairOf", desc := "(II)I" } : Jvm.MethodName) ∈ lw_tbl := List.mem_of_getElem? (i := 1800) (by decide +kernel)
theorem wd_1801 : Jvm.Cond.code ({ cls := "PhraseRoadsModel", name := "pairOf", desc := "(II)I" } : Jvm.MethodName) prog_13_method_32_code (4 : Nat) (Option.some Jvm.ClassFile.FieldType.int) ∈ lw_tbl := List.mem_of_getElem? (i := 1801) (by decide +kernel)
theorem wd_1802 : Jvm.Cond.methodLink "PhraseRoadsLaw" (129 : Nat) ({ cls := "PhraseRoadsModel", name := "sentence", desc := "()I" } : Jvm.MethodName) ∈ lw_tbl := List.mem_of_getElem? (i := 1802) (by decide +kernel)
theorem wd_1803 : Jvm.Cond.instanceMethod ({ cls := "PhraseRoadsModel", name := "sentence", desc := "()I" } : Jvm.MethodName) ∈ lw_tbl := List.mem_of_getElem? (i := 1803) (by decide +kernel)
theorem wd_1804 : Jvm.Cond.selects "PhraseRoadsModel" ({ cls := "PhraseRoadsModel", name := "sentence", desc := "()I" } : Jvm.MethodName) ({ cls := "PhraseRoadsModel", name := "sentence", desc := "()I" } : Jvm.MethodName) ∈ lw_tbl := List.mem_of_getElem? (i := 1804) (by decide +kernel)
theorem wd_1805 : Jvm.Cond.code ({ cls := "PhraseRoadsModel", name := "sentence", desc := "()I" } : Jvm.MethodName) prog_13_method_34_code (3 : Nat) (Option.some Jvm.ClassFile.FieldType.int) ∈ lw_tbl := List.mem_of_getElem? (i := 1805) (by decide +kernel)
theorem wd_1806 : Jvm.Cond.methodLink "PhraseRoadsLaw" (132 : Nat) ({ cls := "PhraseRoadsModel", name := "learn", desc := "()I" } : Jvm.MethodName) ∈ lw_tbl := List.mem_of_getElem? (i := 1806) (by decide +kernel)
theorem wd_1807 : Jvm.Cond.instanceMethod ({ cls := "PhraseRoadsModel", name := "learn", desc := "()I" } : Jvm.MethodName) ∈ lw_tbl := List.mem_of_getElem? (i := 1807) (by decide +kernel)
theorem wd_1808 : Jvm.Cond.selects "PhraseRoadsModel" ({ cls := "PhraseRoadsModel", name := "learn", desc := "()I" } : Jvm.MethodName) ({ cls := "PhraseRoadsModel", name := "learn", desc := "()I" } : Jvm.MethodName) ∈ lw_tbl := List.mem_of_getElem? (i := 1808) (by decide +kernel)
theorem wd_1809 : Jvm.Cond.code ({ cls := "PhraseRoadsModel", name := "learn", desc := "()I" } : Jvm.MethodName) prog_13_method_40_code (8 : Nat) (Option.some Jvm.ClassFile.FieldType.int) ∈ lw_tbl := List.mem_of_getElem? (i := 1809) (by decide +kernel)
theorem wd_1810 : Jvm.Cond.methodLink "PhraseRoadsModel" (204 : Nat) ({ cls := "PhraseRoadsModel", name := "lesson", desc := "()V" } : Jvm.MethodName) ∈ lw_tbl := List.mem_of_getElem? (i := 1810) (by decide +kernel)
theorem wd_1812 : Jvm.Cond.instanceMethod ({ cls := "PhraseRoadsModel", name := "lesson", desc := "()V" } : Jvm.MethodName) ∈ lw_tbl := List.mem_of_getElem? (i := 1812) (by decide +kernel)
theorem wd_1813 : Jvm.Cond.code ({ cls := "PhraseRoadsModel", name := "lesson", desc := "()V" } : Jvm.MethodName) prog_13_method_36_code (3 : Nat) (Option.none : Option Jvm.ClassFile.FieldType) ∈ lw_tbl := List.mem_of_getElem? (i := 1813) (by decide +kernel)
theorem wd_1814 : Jvm.Cond.methodLink "PhraseRoadsModel" (197 : Nat) ({ cls := "PhraseRoadsModel", name := "link", desc := "()V" } : Jvm.MethodName) ∈ lw_tbl := List.mem_of_getElem? (i := 1814) (by decide +kernel)
theorem wd_1816 : Jvm.Cond.instanceMethod ({ cls := "PhraseRoadsModel", name := "link", desc := "()V" } : Jvm.MethodName) ∈ lw_tbl := List.mem_of_getElem? (i := 1816) (by decide +kernel)
theorem wd_1817 : Jvm.Cond.code ({ cls := "PhraseRoadsModel", name := "link", desc := "()V" } : Jvm.MethodName) prog_13_method_35_code (5 : Nat) (Option.none : Option Jvm.ClassFile.FieldType) ∈ lw_tbl := List.mem_of_getElem? (i := 1817) (by decide +kernel)
theorem wd_1818 : Jvm.Cond.methodLink "PhraseRoadsModel" (207 : Nat) ({ cls := "PhraseRoadsModel", name := "goTogether", desc := "(IIII)Z" } : Jvm.MethodName) ∈ lw_tbl := List.mem_of_getElem? (i := 1818) (by decide +kernel)
theorem wd_1820 : Jvm.Cond.instanceMethod ({ cls := "PhraseRoadsModel", name := "goTogether", desc := "(IIII)Z" } : Jvm.MethodName) ∈ lw_tbl := List.mem_of_getElem? (i := 1820) (by decide +kernel)
theorem wd_1821 : Jvm.Cond.code ({ cls := "PhraseRoadsModel", name := "goTogether", desc := "(IIII)Z" } : Jvm.MethodName) prog_13_method_37_code (9 : Nat) (Option.some Jvm.ClassFile.FieldType.boolean) ∈ lw_tbl := List.mem_of_getElem? (i := 1821) (by decide +kernel)
theorem wd_1822 : Jvm.Cond.methodLink "PhraseRoadsModel" (211 : Nat) ({ cls := "PhraseRoadsModel", name := "learns", desc := "(IIII)I" } : Jvm.MethodName) ∈ lw_tbl := List.mem_of_getElem? (i := 1822) (by decide +kernel)
theorem wd_1824 : Jvm.Cond.instanceMethod ({ cls := "PhraseRoadsModel", name := "learns", desc := "(IIII)I" } : Jvm.MethodName) ∈ lw_tbl := List.mem_of_getElem? (i := 1824) (by decide +kernel)
theorem wd_1825 : Jvm.Cond.code ({ cls := "PhraseRoadsModel", name := "learns", desc := "(IIII)I" } : Jvm.MethodName) prog_13_method_39_code (7 : Nat) (Option.some Jvm.ClassFile.FieldType.int) ∈ lw_tbl := List.mem_of_getElem? (i := 1825) (by decide +kernel)
theorem wd_1826 : Jvm.Cond.methodLink "PhraseRoadsModel" (200 : Nat) ({ cls := "PhraseRoadsModel", name := "unlinked", desc := "(IIII)I" } : Jvm.MethodName) ∈ lw_tbl := List.mem_of_getElem? (i := 1826) (by decide +kernel)
theorem wd_1828 : Jvm.Cond.instanceMethod ({ cls := "PhraseRoadsModel", name := "unlinked", desc := "(IIII)I" } : Jvm.MethodName) ∈ lw_tbl := List.mem_of_getElem? (i := 1828) (by decide +kernel)
theorem wd_1829 : Jvm.Cond.code ({ cls := "PhraseRoadsModel", name := "unlinked", desc := "(IIII)I" } : Jvm.MethodName) prog_13_method_38_code (9 : Nat) (Option.some Jvm.ClassFile.FieldType.int) ∈ lw_tbl := List.mem_of_getElem? (i := 1829) (by decide +kernel)
theorem wd_1830 : Jvm.Cond.methodLink "PhraseRoadsLaw" (136 : Nat) ({ cls := "PhraseRoadsModel", name := "fault", desc := "()I" } : Jvm.MethodName) ∈ lw_tbl := List.mem_of_getElem? (i := 1830) (by decide +kernel)
theorem wd_1831 : Jvm.Cond.instanceMethod ({ cls := "PhraseRoadsModel", name := "fault", desc := "()I" } : Jvm.MethodName) ∈ lw_tbl := List.mem_of_getElem? (i := 1831) (by decide +kernel)
theorem wd_1832 : Jvm.Cond.selects "PhraseRoadsModel" ({ cls := "PhraseRoadsModel", name := "fault", desc := "()I" } : Jvm.MethodName) ({ cls := "PhraseRoadsModel", name := "fault", desc := "()I" } : Jvm.MethodName) ∈ lw_tbl := List.mem_of_getElem? (i := 1832) (by decide +kernel)
theorem wd_1833 : Jvm.Cond.code ({ cls := "PhraseRoadsModel", name := "fault", desc := "()I" } : Jvm.MethodName) prog_13_method_41_code (1 : Nat) (Option.some Jvm.ClassFile.FieldType.int) ∈ lw_tbl := List.mem_of_getElem? (i := 1833) (by decide +kernel)
theorem wd_1834 : Jvm.Cond.methodLink "PhraseRoadsLaw" (140 : Nat) ({ cls := "PhraseRoadsModel", name := "letter", desc := "(II)I" } : Jvm.MethodName) ∈ lw_tbl := List.mem_of_getElem? (i := 1834) (by decide +kernel)
theorem wd_1835 : Jvm.Cond.instanceMethod ({ cls := "PhraseRoadsModel", name := "letter", desc := "(II)I" } : Jvm.MethodName) ∈ lw_tbl := List.mem_of_getElem? (i := 1835) (by decide +kernel)
theorem wd_1836 : Jvm.Cond.selects "PhraseRoadsModel" ({ cls := "PhraseRoadsModel", name := "letter", desc := "(II)I" } : Jvm.MethodName) ({ cls := "PhraseRoadsModel", name := "letter", desc := "(II)I" } : Jvm.MethodName) ∈ lw_tbl := List.mem_of_getElem? (i := 1836) (by decide +kernel)
theorem wd_1837 : Jvm.Cond.code ({ cls := "PhraseRoadsModel", name := "letter", desc := "(II)I" } : Jvm.MethodName) prog_13_method_42_code (3 : Nat) (Option.some Jvm.ClassFile.FieldType.int) ∈ lw_tbl := List.mem_of_getElem? (i := 1837) (by decide +kernel)
theorem wd_1838 : Jvm.Cond.methodLink "PhraseRoadsModel" (214 : Nat) ({ cls := "PhraseRoadsModel", name := "isWord", desc := "(I)Z" } : Jvm.MethodName) ∈ lw_tbl := List.mem_of_getElem? (i := 1838) (by decide +kernel)
theorem wd_1840 : Jvm.Cond.instanceMethod ({ cls := "PhraseRoadsModel", name := "isWord", desc := "(I)Z" } : Jvm.MethodName) ∈ lw_tbl := List.mem_of_getElem? (i := 1840) (by decide +kernel)
theorem wd_1841 : Jvm.Cond.code ({ cls := "PhraseRoadsModel", name := "isWord", desc := "(I)Z" } : Jvm.MethodName) prog_13_method_9_code (2 : Nat) (Option.some Jvm.ClassFile.FieldType.boolean) ∈ lw_tbl := List.mem_of_getElem? (i := 1841) (by decide +kernel)
theorem wd_1842 : Jvm.Cond.methodLink "PhraseRoadsLaw" (143 : Nat) ({ cls := "PhraseRoadsModel", name := "phrase", desc := "(II)I" } : Jvm.MethodName) ∈ lw_tbl := List.mem_of_getElem? (i := 1842) (by decide +kernel)
theorem wd_1843 : Jvm.Cond.instanceMethod ({ cls := "PhraseRoadsModel", name := "phrase", desc := "(II)I" } : Jvm.MethodName) ∈ lw_tbl := List.mem_of_getElem? (i := 1843) (by decide +kernel)
theorem wd_1844 : Jvm.Cond.selects "PhraseRoadsModel" ({ cls := "PhraseRoadsModel", name := "phrase", desc := "(II)I" } : Jvm.MethodName) ({ cls := "PhraseRoadsModel", name := "phrase", desc := "(II)I" } : Jvm.MethodName) ∈ lw_tbl := List.mem_of_getElem? (i := 1844) (by decide +kernel)
theorem wd_1845 : Jvm.Cond.code ({ cls := "PhraseRoadsModel", name := "phrase", desc := "(II)I" } : Jvm.MethodName) prog_13_method_44_code (3 : Nat) (Option.some Jvm.ClassFile.FieldType.int) ∈ lw_tbl := List.mem_of_getElem? (i := 1845) (by decide +kernel)
theorem wd_1846 : Jvm.Cond.methodLink "PhraseRoadsModel" (221 : Nat) ({ cls := "PhraseRoadsModel", name := "isPhrase", desc := "(I)Z" } : Jvm.MethodName) ∈ lw_tbl := List.mem_of_getElem? (i := 1846) (by decide +kernel)
theorem wd_1848 : Jvm.Cond.instanceMethod ({ cls := "PhraseRoadsModel", name := "isPhrase", desc := "(I)Z" } : Jvm.MethodName) ∈ lw_tbl := List.mem_of_getElem? (i := 1848) (by decide +kernel)
theorem wd_1849 : Jvm.Cond.code ({ cls := "PhraseRoadsModel", name := "isPhrase", desc := "(I)Z" } : Jvm.MethodName) prog_13_method_10_code (2 : Nat) (Option.some Jvm.ClassFile.FieldType.boolean) ∈ lw_tbl := List.mem_of_getElem? (i := 1849) (by decide +kernel)
theorem wd_1850 : Jvm.Cond.methodLink "PhraseRoadsModel" (224 : Nat) ({ cls := "PhraseRoadsModel", name := "placesOf", desc := "(I)I" } : Jvm.MethodName) ∈ lw_tbl := List.mem_of_getElem? (i := 1850) (by decide +kernel)
theorem wd_1852 : Jvm.Cond.instanceMethod ({ cls := "PhraseRoadsModel", name := "placesOf", desc := "(I)I" } : Jvm.MethodName) ∈ lw_tbl := List.mem_of_getElem? (i := 1852) (by decide +kernel)
theorem wd_1853 : Jvm.Cond.code ({ cls := "PhraseRoadsModel", name := "placesOf", desc := "(I)I" } : Jvm.MethodName) prog_13_method_43_code (4 : Nat) (Option.some Jvm.ClassFile.FieldType.int) ∈ lw_tbl := List.mem_of_getElem? (i := 1853) (by decide +kernel)
theorem wd_1854 : Jvm.Cond.methodLink "PhraseRoadsModel" (217 : Nat) ({ cls := "PhraseRoadsModel", name := "isOption", desc := "(II)Z" } : Jvm.MethodName) ∈ lw_tbl := List.mem_of_getElem? (i := 1854) (by decide +kernel)
theorem wd_1856 : Jvm.Cond.instanceMethod ({ cls := "PhraseRoadsModel", name := "isOption", desc := "(II)Z" } : Jvm.MethodName) ∈ lw_tbl := List.mem_of_getElem? (i := 1856) (by decide +kernel)
theorem wd_1857 : Jvm.Cond.code ({ cls := "PhraseRoadsModel", name := "isOption", desc := "(II)Z" } : Jvm.MethodName) prog_13_method_54_code (4 : Nat) (Option.some Jvm.ClassFile.FieldType.boolean) ∈ lw_tbl := List.mem_of_getElem? (i := 1857) (by decide +kernel)
theorem wd_1858 : Jvm.Cond.methodLink "PhraseRoadsModel" (233 : Nat) ({ cls := "PhraseRoadsModel", name := "isPlace", desc := "(I)Z" } : Jvm.MethodName) ∈ lw_tbl := List.mem_of_getElem? (i := 1858) (by decide +kernel)
theorem wd_1860 : Jvm.Cond.instanceMethod ({ cls := "PhraseRoadsModel", name := "isPlace", desc := "(I)Z" } : Jvm.MethodName) ∈ lw_tbl := List.mem_of_getElem? (i := 1860) (by decide +kernel)
theorem wd_1861 : Jvm.Cond.code ({ cls := "PhraseRoadsModel", name := "isPlace", desc := "(I)Z" } : Jvm.MethodName) prog_13_method_11_code (2 : Nat) (Option.some Jvm.ClassFile.FieldType.boolean) ∈ lw_tbl := List.mem_of_getElem? (i := 1861) (by decide +kernel)
theorem wd_1862 : Jvm.Cond.methodLink "PhraseRoadsModel" (236 : Nat) ({ cls := "PhraseRoadsModel", name := "covers", desc := "(I)I" } : Jvm.MethodName) ∈ lw_tbl := List.mem_of_getElem? (i := 1862) (by decide +kernel)
theorem wd_1864 : Jvm.Cond.instanceMethod ({ cls := "PhraseRoadsModel", name := "covers", desc := "(I)I" } : Jvm.MethodName) ∈ lw_tbl := List.mem_of_getElem? (i := 1864) (by decide +kernel)
theorem wd_1865 : Jvm.Cond.code ({ cls := "PhraseRoadsModel", name := "covers", desc := "(I)I" } : Jvm.MethodName) prog_13_method_53_code (2 : Nat) (Option.some Jvm.ClassFile.FieldType.int) ∈ lw_tbl := List.mem_of_getElem? (i := 1865) (by decide +kernel)
theorem wd_1866 : Jvm.Cond.methodLink "PhraseRoadsModel" (227 : Nat) ({ cls := "PhraseRoadsModel", name := "worth", desc := "(I)I" } : Jvm.MethodName) ∈ lw_tbl := List.mem_of_getElem? (i := 1866) (by decide +kernel)
theorem wd_1868 : Jvm.Cond.instanceMethod ({ cls := "PhraseRoadsModel", name := "worth", desc := "(I)I" } : Jvm.MethodName) ∈ lw_tbl := List.mem_of_getElem? (i := 1868) (by decide +kernel)
theorem wd_1869 : Jvm.Cond.code ({ cls := "PhraseRoadsModel", name := "worth", desc := "(I)I" } : Jvm.MethodName) prog_13_method_107_code (4 : Nat) (Option.some Jvm.ClassFile.FieldType.int) ∈ lw_tbl := List.mem_of_getElem? (i := 1869) (by decide +kernel)
theorem wd_1870 : Jvm.Cond.methodLink "PhraseRoadsModel" (284 : Nat) ({ cls := "PhraseRoadsModel", name := "exact0", desc := "()I" } : Jvm.MethodName) ∈ lw_tbl := List.mem_of_getElem? (i := 1870) (by decide +kernel)
theorem wd_1872 : Jvm.Cond.instanceMethod ({ cls := "PhraseRoadsModel", name := "exact0", desc := "()I" } : Jvm.MethodName) ∈ lw_tbl := List.mem_of_getElem? (i := 1872) (by decide +kernel)
theorem wd_1873 : Jvm.Cond.code ({ cls := "PhraseRoadsModel", name := "exact0", desc := "()I" } : Jvm.MethodName) prog_13_method_66_code (1 : Nat) (Option.some Jvm.ClassFile.FieldType.int) ∈ lw_tbl := List.mem_of_getElem? (i := 1873) (by decide +kernel)
theorem wd_1874 : Jvm.Cond.methodLink "PhraseRoadsModel" (281 : Nat) ({ cls := "PhraseRoadsModel", name := "lays", desc := "()V" } : Jvm.MethodName) ∈ lw_tbl := List.mem_of_getElem? (i := 1874) (by decide +kernel)
theorem wd_1876 : Jvm.Cond.instanceMethod ({ cls := "PhraseRoadsModel", name := "lays", desc := "()V" } : Jvm.MethodName) ∈ lw_tbl := List.mem_of_getElem? (i := 1876) (by decide +kernel)
theorem wd_1877 : Jvm.Cond.code ({ cls := "PhraseRoadsModel", name := "lays", desc := "()V" } : Jvm.MethodName) prog_13_method_64_code (2 : Nat) (Option.none : Option Jvm.ClassFile.FieldType) ∈ lw_tbl := List.mem_of_getElem? (i := 1877) (by decide +kernel)
theorem wd_1878 : Jvm.Cond.methodLink "PhraseRoadsModel" (275 : Nat) ({ cls := "PhraseRoadsModel", name := "rest", desc := "(III)I" } : Jvm.MethodName) ∈ lw_tbl := List.mem_of_getElem? (i := 1878) (by decide +kernel)
theorem wd_1880 : Jvm.Cond.instanceMethod ({ cls := "PhraseRoadsModel", name := "rest", desc := "(III)I" } : Jvm.MethodName) ∈ lw_tbl := List.mem_of_getElem? (i := 1880) (by decide +kernel)
theorem wd_1881 : Jvm.Cond.code ({ cls := "PhraseRoadsModel", name := "rest", desc := "(III)I" } : Jvm.MethodName) prog_13_method_65_code (10 : Nat) (Option.some Jvm.ClassFile.FieldType.int) ∈ lw_tbl := List.mem_of_getElem? (i := 1881) (by decide +kernel)
theorem wd_1882 : Jvm.Cond.methodLink "PhraseRoadsModel" (261 : Nat) ({ cls := "PhraseRoadsModel", name := "full", desc := "()I" } : Jvm.MethodName) ∈ lw_tbl := List.mem_of_getElem? (i := 1882) (by decide +kernel)
theorem wd_1884 : Jvm.Cond.instanceMethod ({ cls := "PhraseRoadsModel", name := "full", desc := "()I" } : Jvm.MethodName) ∈ lw_tbl := List.mem_of_getElem? (i := 1884) (by decide +kernel)
theorem wd_1885 : Jvm.Cond.code ({ cls := "PhraseRoadsModel", name := "full", desc := "()I" } : Jvm.MethodName) prog_13_method_63_code (1 : Nat) (Option.some Jvm.ClassFile.FieldType.int) ∈ lw_tbl := List.mem_of_getElem? (i := 1885) (by decide +kernel)
theorem wd_1886 : Jvm.Cond.methodLink "PhraseRoadsModel" (230 : Nat) ({ cls := "PhraseRoadsModel", name := "after0", desc := "(II)I" } : Jvm.MethodName) ∈ lw_tbl := List.mem_of_getElem? (i := 1886) (by decide +kernel)
theorem wd_1888 : Jvm.Cond.instanceMethod ({ cls := "PhraseRoadsModel", name := "after0", desc := "(II)I" } : Jvm.MethodName) ∈ lw_tbl := List.mem_of_getElem? (i := 1888) (by decide +kernel)
theorem wd_1889 : Jvm.Cond.code ({ cls := "PhraseRoadsModel", name := "after0", desc := "(II)I" } : Jvm.MethodName) prog_13_method_46_code (4 : Nat) (Option.some Jvm.ClassFile.FieldType.int) ∈ lw_tbl := List.mem_of_getElem? (i := 1889) (by decide +kernel)
theorem wd_1890 : Jvm.Cond.methodLink "PhraseRoadsModel" (264 : Nat) ({ cls := "PhraseRoadsModel", name := "key", desc := "(III)I" } : Jvm.MethodName) ∈ lw_tbl := List.mem_of_getElem? (i := 1890) (by decide +kernel)
theorem wd_1891 : Jvm.Cond.static ({ cls := "PhraseRoadsModel", name := "key", desc := "(III)I" } : Jvm.MethodName) ∈ lw_tbl := List.mem_of_getElem? (i := 1891) (by decide +kernel)
theorem wd_1892 : Jvm.Cond.code ({ cls := "PhraseRoadsModel", name := "key", desc := "(III)I" } : Jvm.MethodName) prog_13_method_62_code (3 : Nat) (Option.some Jvm.ClassFile.FieldType.int) ∈ lw_tbl := List.mem_of_getElem? (i := 1892) (by decide +kernel)
theorem wd_1893 : Jvm.Cond.constant "PhraseRoadsModel" (267 : Nat) (1000000000 : Int32) ∈ lw_tbl := List.mem_of_getElem? (i := 1893) (by decide +kernel)
theorem wd_1894 : Jvm.Cond.methodLink "PhraseRoadsModel" (239 : Nat) ({ cls := "PhraseRoadsModel", name := "next", desc := "(I)I" } : Jvm.MethodName) ∈ lw_tbl := List.mem_of_getElem? (i := 1894) (by decide +kernel)
theorem wd_1896 : Jvm.Cond.instanceMethod ({ cls := "PhraseRoadsModel", name := "next", desc := "(I)I" } : Jvm.MethodName) ∈ lw_tbl := List.mem_of_getElem? (i := 1896) (by decide +kernel)
theorem wd_1897 : Jvm.Cond.code ({ cls := "PhraseRoadsModel", name := "next", desc := "(I)I" } : Jvm.MethodName) prog_13_method_55_code (3 : Nat) (Option.some Jvm.ClassFile.FieldType.int) ∈ lw_tbl := List.mem_of_getElem? (i := 1897) (by decide +kernel)
theorem wd_1898 : Jvm.Cond.methodLink "PhraseRoadsModel" (268 : Nat) ({ cls := "PhraseRoadsModel", name := "may", desc := "(IIII)Z" } : Jvm.MethodName) ∈ lw_tbl := List.mem_of_getElem? (i := 1898) (by decide +kernel)
theorem wd_1900 : Jvm.Cond.instanceMethod ({ cls := "PhraseRoadsModel", name := "may", desc := "(IIII)Z" } : Jvm.MethodName) ∈ lw_tbl := List.mem_of_getElem? (i := 1900) (by decide +kernel)
theorem wd_1901 : Jvm.Cond.code ({ cls := "PhraseRoadsModel", name := "may", desc := "(IIII)Z" } : Jvm.MethodName) prog_13_method_60_code (5 : Nat) (Option.some Jvm.ClassFile.FieldType.boolean) ∈ lw_tbl := List.mem_of_getElem? (i := 1901) (by decide +kernel)
theorem wd_1902 : Jvm.Cond.methodLink "PhraseRoadsModel" (242 : Nat) ({ cls := "PhraseRoadsModel", name := "apartBy", desc := "(II)I" } : Jvm.MethodName) ∈ lw_tbl := List.mem_of_getElem? (i := 1902) (by decide +kernel)
theorem wd_1903 : Jvm.Cond.static ({ cls := "PhraseRoadsModel", name := "apartBy", desc := "(II)I" } : Jvm.MethodName) ∈ lw_tbl := List.mem_of_getElem? (i := 1903) (by decide +kernel)
theorem wd_1904 : Jvm.Cond.code ({ cls := "PhraseRoadsModel", name := "apartBy", desc := "(II)I" } : Jvm.MethodName) prog_13_method_5_code (2 : Nat) (Option.some Jvm.ClassFile.FieldType.int) ∈ lw_tbl := List.mem_of_getElem? (i := 1904) (by decide +kernel)
theorem wd_1905 : Jvm.Cond.methodLink "PhraseRoadsModel" (245 : Nat) ({ cls := "PhraseRoadsModel", name := "maskOf", desc := "(II)I" } : Jvm.MethodName) ∈ lw_tbl := List.mem_of_getElem? (i := 1905) (by decide +kernel)
theorem wd_1907 : Jvm.Cond.instanceMethod ({ cls := "PhraseRoadsModel", name := "maskOf", desc := "(II)I" } : Jvm.MethodName) ∈ lw_tbl := List.mem_of_getElem? (i := 1907) (by decide +kernel)
theorem wd_1908 : Jvm.Cond.code ({ cls := "PhraseRoadsModel", name := "maskOf", desc := "(II)I" } : Jvm.MethodName) prog_13_method_59_code (3 : Nat) (Option.some Jvm.ClassFile.FieldType.int) ∈ lw_tbl := List.mem_of_getElem? (i := 1908) (by decide +kernel)
theorem wd_1909 : Jvm.Cond.methodLink "PhraseRoadsModel" (271 : Nat) ({ cls := "PhraseRoadsModel", name := "weighs", desc := "(IIII)V" } : Jvm.MethodName) ∈ lw_tbl := List.mem_of_getElem? (i := 1909) (by decide +kernel)
theorem wd_1911 : Jvm.Cond.instanceMethod ({ cls := "PhraseRoadsModel", name := "weighs", desc := "(IIII)V" } : Jvm.MethodName) ∈ lw_tbl := List.mem_of_getElem? (i := 1911) (by decide +kernel)
theorem wd_1912 : Jvm.Cond.code ({ cls := "PhraseRoadsModel", name := "weighs", desc := "(IIII)V" } : Jvm.MethodName) prog_13_method_61_code (7 : Nat) (Option.none : Option Jvm.ClassFile.FieldType) ∈ lw_tbl := List.mem_of_getElem? (i := 1912) (by decide +kernel)
theorem wd_1913 : Jvm.Cond.methodLink "PhraseRoadsModel" (254 : Nat) ({ cls := "PhraseRoadsModel", name := "targetMany", desc := "(I)I" } : Jvm.MethodName) ∈ lw_tbl := List.mem_of_getElem? (i := 1913) (by decide +kernel)
theorem wd_1915 : Jvm.Cond.instanceMethod ({ cls := "PhraseRoadsModel", name := "targetMany", desc := "(I)I" } : Jvm.MethodName) ∈ lw_tbl := List.mem_of_getElem? (i := 1915) (by decide +kernel)
theorem wd_1916 : Jvm.Cond.code ({ cls := "PhraseRoadsModel", name := "targetMany", desc := "(I)I" } : Jvm.MethodName) prog_13_method_57_code (2 : Nat) (Option.some Jvm.ClassFile.FieldType.int) ∈ lw_tbl := List.mem_of_getElem? (i := 1916) (by decide +kernel)
theorem wd_1917 : Jvm.Cond.methodLink "PhraseRoadsModel" (257 : Nat) ({ cls := "PhraseRoadsModel", name := "targetOf", desc := "(III)I" } : Jvm.MethodName) ∈ lw_tbl := List.mem_of_getElem? (i := 1917) (by decide +kernel)
theorem wd_1919 : Jvm.Cond.instanceMethod ({ cls := "PhraseRoadsModel", name := "targetOf", desc := "(III)I" } : Jvm.MethodName) ∈ lw_tbl := List.mem_of_getElem? (i := 1919) (by decide +kernel)
theorem wd_1920 : Jvm.Cond.code ({ cls := "PhraseRoadsModel", name := "targetOf", desc := "(III)I" } : Jvm.MethodName) prog_13_method_58_code (4 : Nat) (Option.some Jvm.ClassFile.FieldType.int) ∈ lw_tbl := List.mem_of_getElem? (i := 1920) (by decide +kernel)
theorem wd_1921 : Jvm.Cond.methodLink "PhraseRoadsModel" (278 : Nat) ({ cls := "PhraseRoadsModel", name := "lesser", desc := "(II)I" } : Jvm.MethodName) ∈ lw_tbl := List.mem_of_getElem? (i := 1921) (by decide +kernel)
theorem wd_1922 : Jvm.Cond.static ({ cls := "PhraseRoadsModel", name := "lesser", desc := "(II)I" } : Jvm.MethodName) ∈ lw_tbl := List.mem_of_getElem? (i := 1922) (by decide +kernel)
theorem wd_1923 : Jvm.Cond.code ({ cls := "PhraseRoadsModel", name := "lesser", desc := "(II)I" } : Jvm.MethodName) prog_13_method_4_code (2 : Nat) (Option.some Jvm.ClassFile.FieldType.int) ∈ lw_tbl := List.mem_of_getElem? (i := 1923) (by decide +kernel)
theorem wd_1924 : Jvm.Cond.methodLink "PhraseRoadsLaw" (147 : Nat) ({ cls := "PhraseRoadsModel", name := "part", desc := "(IZI)I" } : Jvm.MethodName) ∈ lw_tbl := List.mem_of_getElem? (i := 1924) (by decide +kernel)
theorem wd_1925 : Jvm.Cond.instanceMethod ({ cls := "PhraseRoadsModel", name := "part", desc := "(IZI)I" } : Jvm.MethodName) ∈ lw_tbl := List.mem_of_getElem? (i := 1925) (by decide +kernel)
theorem wd_1926 : Jvm.Cond.selects "PhraseRoadsModel" ({ cls := "PhraseRoadsModel", name := "part", desc := "(IZI)I" } : Jvm.MethodName) ({ cls := "PhraseRoadsModel", name := "part", desc := "(IZI)I" } : Jvm.MethodName) ∈ lw_tbl := List.mem_of_getElem? (i := 1926) (by decide +kernel)
theorem wd_1927 : Jvm.Cond.code ({ cls := "PhraseRoadsModel", name := "part", desc := "(IZI)I" } : Jvm.MethodName) prog_13_method_45_code (5 : Nat) (Option.some Jvm.ClassFile.FieldType.int) ∈ lw_tbl := List.mem_of_getElem? (i := 1927) (by decide +kernel)
theorem wd_1928 : Jvm.Cond.methodLink "PhraseRoadsLaw" (150 : Nat) ({ cls := "PhraseRoadsModel", name := "after", desc := "(II)I" } : Jvm.MethodName) ∈ lw_tbl := List.mem_of_getElem? (i := 1928) (by decide +kernel)
theorem wd_1929 : Jvm.Cond.instanceMethod ({ cls := "PhraseRoadsModel", name := "after", desc := "(II)I" } : Jvm.MethodName) ∈ lw_tbl := List.mem_of_getElem? (i := 1929) (by decide +kernel)
theorem wd_1930 : Jvm.Cond.selects "PhraseRoadsModel" ({ cls := "PhraseRoadsModel", name := "after", desc := "(II)I" } : Jvm.MethodName) ({ cls := "PhraseRoadsModel", name := "after", desc := "(II)I" } : Jvm.MethodName) ∈ lw_tbl := List.mem_of_getElem? (i := 1930) (by decide +kernel)
theorem wd_1931 : Jvm.Cond.code ({ cls := "PhraseRoadsModel", name := "after", desc := "(II)I" } : Jvm.MethodName) prog_13_method_47_code (3 : Nat) (Option.some Jvm.ClassFile.FieldType.int) ∈ lw_tbl := List.mem_of_getElem? (i := 1931) (by decide +kernel)
theorem wd_1932 : Jvm.Cond.methodLink "PhraseRoadsLaw" (154 : Nat) ({ cls := "PhraseRoadsModel", name := "place", desc := "(I)I" } : Jvm.MethodName) ∈ lw_tbl := List.mem_of_getElem? (i := 1932) (by decide +kernel)
theorem wd_1933 : Jvm.Cond.instanceMethod ({ cls := "PhraseRoadsModel", name := "place", desc := "(I)I" } : Jvm.MethodName) ∈ lw_tbl := List.mem_of_getElem? (i := 1933) (by decide +kernel)
theorem wd_1934 : Jvm.Cond.selects "PhraseRoadsModel" ({ cls := "PhraseRoadsModel", name := "place", desc := "(I)I" } : Jvm.MethodName) ({ cls := "PhraseRoadsModel", name := "place", desc := "(I)I" } : Jvm.MethodName) ∈ lw_tbl := List.mem_of_getElem? (i := 1934) (by decide +kernel)
theorem wd_1935 : Jvm.Cond.code ({ cls := "PhraseRoadsModel", name := "place", desc := "(I)I" } : Jvm.MethodName) prog_13_method_48_code (2 : Nat) (Option.some Jvm.ClassFile.FieldType.int) ∈ lw_tbl := List.mem_of_getElem? (i := 1935) (by decide +kernel)
theorem wd_1936 : Jvm.Cond.methodLink "PhraseRoadsLaw" (157 : Nat) ({ cls := "PhraseRoadsModel", name := "put", desc := "(II)I" } : Jvm.MethodName) ∈ lw_tbl := List.mem_of_getElem? (i := 1936) (by decide +kernel)
theorem wd_1937 : Jvm.Cond.instanceMethod ({ cls := "PhraseRoadsModel", name := "put", desc := "(II)I" } : Jvm.MethodName) ∈ lw_tbl := List.mem_of_getElem? (i := 1937) (by decide +kernel)
theorem wd_1938 : Jvm.Cond.selects "PhraseRoadsModel" ({ cls := "PhraseRoadsModel", name := "put", desc := "(II)I" } : Jvm.MethodName) ({ cls := "PhraseRoadsModel", name := "put", desc := "(II)I" } : Jvm.MethodName) ∈ lw_tbl := List.mem_of_getElem? (i := 1938) (by decide +kernel)
theorem wd_1939 : Jvm.Cond.code ({ cls := "PhraseRoadsModel", name := "put", desc := "(II)I" } : Jvm.MethodName) prog_13_method_49_code (4 : Nat) (Option.some Jvm.ClassFile.FieldType.int) ∈ lw_tbl := List.mem_of_getElem? (i := 1939) (by decide +kernel)
theorem wd_1940 : Jvm.Cond.methodLink "PhraseRoadsLaw" (160 : Nat) ({ cls := "PhraseRoadsModel", name := "price", desc := "(II)I" } : Jvm.MethodName) ∈ lw_tbl := List.mem_of_getElem? (i := 1940) (by decide +kernel)
theorem wd_1941 : Jvm.Cond.instanceMethod ({ cls := "PhraseRoadsModel", name := "price", desc := "(II)I" } : Jvm.MethodName) ∈ lw_tbl := List.mem_of_getElem? (i := 1941) (by decide +kernel)
theorem wd_1942 : Jvm.Cond.selects "PhraseRoadsModel" ({ cls := "PhraseRoadsModel", name := "price", desc := "(II)I" } : Jvm.MethodName) ({ cls := "PhraseRoadsModel", name := "price", desc := "(II)I" } : Jvm.MethodName) ∈ lw_tbl := List.mem_of_getElem? (i := 1942) (by decide +kernel)
theorem wd_1943 : Jvm.Cond.code ({ cls := "PhraseRoadsModel", name := "price", desc := "(II)I" } : Jvm.MethodName) prog_13_method_50_code (4 : Nat) (Option.some Jvm.ClassFile.FieldType.int) ∈ lw_tbl := List.mem_of_getElem? (i := 1943) (by decide +kernel)
theorem wd_1944 : Jvm.Cond.methodLink "PhraseRoadsLaw" (164 : Nat) ({ cls := "PhraseRoadsModel", name := "drop", desc := "(IZ)Z" } : Jvm.MethodName) ∈ lw_tbl := List.mem_of_getElem? (i := 1944) (by decide +kernel)
theorem wd_1945 : Jvm.Cond.instanceMethod ({ cls := "PhraseRoadsModel", name := "drop", desc := "(IZ)Z" } : Jvm.MethodName) ∈ lw_tbl := List.mem_of_getElem? (i := 1945) (by decide +kernel)
theorem wd_1946 : Jvm.Cond.selects "PhraseRoadsModel" ({ cls := "PhraseRoadsModel", name := "drop", desc := "(IZ)Z" } : Jvm.MethodName) ({ cls := "PhraseRoadsModel", name := "drop", desc := "(IZ)Z" } : Jvm.MethodName) ∈ lw_tbl := List.mem_of_getElem? (i := 1946) (by decide +kernel)
theorem wd_1947 : Jvm.Cond.code ({ cls := "PhraseRoadsModel", name := "drop", desc := "(IZ)Z" } : Jvm.MethodName) prog_13_method_51_code (4 : Nat) (Option.some Jvm.ClassFile.FieldType.boolean) ∈ lw_tbl := List.mem_of_getElem? (i := 1947) (by decide +kernel)
theorem wd_1948 : Jvm.Cond.methodLink "PhraseRoadsLaw" (167 : Nat) ({ cls := "PhraseRoadsModel", name := "tune", desc := "(II)I" } : Jvm.MethodName) ∈ lw_tbl := List.mem_of_getElem? (i := 1948) (by decide +kernel)
theorem wd_1949 : Jvm.Cond.instanceMethod ({ cls := "PhraseRoadsModel", name := "tune", desc := "(II)I" } : Jvm.MethodName) ∈ lw_tbl := List.mem_of_getElem? (i := 1949) (by decide +kernel)
theorem wd_1950 : Jvm.Cond.selects "PhraseRoadsModel" ({ cls := "PhraseRoadsModel", name := "tune", desc := "(II)I" } : Jvm.MethodName) ({ cls := "PhraseRoadsModel", name := "tune", desc := "(II)I" } : Jvm.MethodName) ∈ lw_tbl := List.mem_of_getElem? (i := 1950) (by decide +kernel)
theorem wd_1951 : Jvm.Cond.code ({ cls := "PhraseRoadsModel", name := "tune", desc := "(II)I" } : Jvm.MethodName) prog_13_method_52_code (5 : Nat) (Option.some Jvm.ClassFile.FieldType.int) ∈ lw_tbl := List.mem_of_getElem? (i := 1951) (by decide +kernel)
theorem wd_1952 : Jvm.Cond.methodLink "PhraseRoadsLaw" (170 : Nat) ({ cls := "PhraseRoadsModel", name := "option", desc := "(II)I" } : Jvm.MethodName) ∈ lw_tbl := List.mem_of_getElem? (i := 1952) (by decide +kernel)
theorem wd_1953 : Jvm.Cond.instanceMethod ({ cls := "PhraseRoadsModel", name := "option", desc := "(II)I" } : Jvm.MethodName) ∈ lw_tbl := List.mem_of_getElem? (i := 1953) (by decide +kernel)
theorem wd_1954 : Jvm.Cond.selects "PhraseRoadsModel" ({ cls := "PhraseRoadsModel", name := "option", desc := "(II)I" } : Jvm.MethodName) ({ cls := "PhraseRoadsModel", name := "option", desc := "(II)I" } : Jvm.MethodName) ∈ lw_tbl := List.mem_of_getElem? (i := 1954) (by decide +kernel)
theorem wd_1955 : Jvm.Cond.code ({ cls := "PhraseRoadsModel", name := "option", desc := "(II)I" } : Jvm.MethodName) prog_13_method_56_code (5 : Nat) (Option.some Jvm.ClassFile.FieldType.int) ∈ lw_tbl := List.mem_of_getElem? (i := 1955) (by decide +kernel)
theorem wd_1956 : Jvm.Cond.methodLink "PhraseRoadsLaw" (177 : Nat) ({ cls := "PhraseRoadsModel", name := "exact", desc := "()I" } : Jvm.MethodName) ∈ lw_tbl := List.mem_of_getElem? (i := 1956) (by decide +kernel)
theorem wd_1957 : Jvm.Cond.instanceMethod ({ cls := "PhraseRoadsModel", name := "exact", desc := "()I" } : Jvm.MethodName) ∈ lw_tbl := List.mem_of_getElem? (i := 1957) (by decide +kernel)
theorem wd_1958 : Jvm.Cond.selects "PhraseRoadsModel" ({ cls := "PhraseRoadsModel", name := "exact", desc := "()I" } : Jvm.MethodName) ({ cls := "PhraseRoadsModel", name := "exact", desc := "()I" } : Jvm.MethodName) ∈ lw_tbl := List.mem_of_getElem? (i := 1958) (by decide +kernel)
theorem wd_1959 : Jvm.Cond.code ({ cls := "PhraseRoadsModel", name := "exact", desc := "()I" } : Jvm.MethodName) prog_13_method_67_code (1 : Nat) (Option.some Jvm.ClassFile.FieldType.int) ∈ lw_tbl := List.mem_of_getElem? (i := 1959) (by decide +kernel)
theorem wd_1960 : Jvm.Cond.methodLink "PhraseRoadsLaw" (181 : Nat) ({ cls := "PhraseRoadsModel", name := "many", desc := "()I" } : Jvm.MethodName) ∈ lw_tbl := List.mem_of_getElem? (i := 1960) (by decide +kernel)
theorem wd_1961 : Jvm.Cond.instanceMethod ({ cls := "PhraseRoadsModel", name := "many", desc := "()I" } : Jvm.MethodName) ∈ lw_tbl := List.mem_of_getElem? (i := 1961) (by decide +kernel)
theorem wd_1962 : Jvm.Cond.selects "PhraseRoadsModel" ({ cls := "PhraseRoadsModel", name := "many", desc := "()I" } : Jvm.MethodName) ({ cls := "PhraseRoadsModel", name := "many", desc := "()I" } : Jvm.MethodName) ∈ lw_tbl := List.mem_of_getElem? (i := 1962) (by decide +kernel)
theorem wd_1963 : Jvm.Cond.code ({ cls := "PhraseRoadsModel", name := "many", desc := "()I" } : Jvm.MethodName) prog_13_method_69_code (2 : Nat) (Option.some Jvm.ClassFile.FieldType.int) ∈ lw_tbl := List.mem_of_getElem? (i := 1963) (by decide +kernel)
theorem wd_1964 : Jvm.Cond.constantLong "PhraseRoadsModel" (293 : Nat) (-1 : Int64) ∈ lw_tbl := List.mem_of_getElem? (i := 1964) (by decide +kernel)
theorem wd_1965 : Jvm.Cond.methodLink "PhraseRoadsModel" (287 : Nat) ({ cls := "PhraseRoadsModel", name := "waysFrom", desc := "(II)J" } : Jvm.MethodName) ∈ lw_tbl := List.mem_of_getElem? (i := 1965) (by decide +kernel)
theorem wd_1967 : Jvm.Cond.instanceMethod ({ cls := "PhraseRoadsModel", name := "waysFrom", desc := "(II)J" } : Jvm.MethodName) ∈ lw_tbl := List.mem_of_getElem? (i := 1967) (by decide +kernel)
theorem wd_1968 : Jvm.Cond.code ({ cls := "PhraseRoadsModel", name := "waysFrom", desc := "(II)J" } : Jvm.MethodName) prog_13_method_68_code (8 : Nat) (Option.some Jvm.ClassFile.FieldType.long) ∈ lw_tbl := List.mem_of_getElem? (i := 1968) (by decide +kernel)
theorem wd_1969 : Jvm.Cond.constantLong "PhraseRoadsModel" (291 : Nat) (1000000000 : Int64) ∈ lw_tbl := List.mem_of_getElem? (i := 1969) (by decide +kernel)
theorem wd_1970 : Jvm.Cond.methodLink "PhraseRoadsLaw" (184 : Nat) ({ cls := "PhraseRoadsModel", name := "way", desc := "(II)I" } : Jvm.MethodName) ∈ lw_tbl := List.mem_of_getElem? (i := 1970) (by decide +kernel)
theorem wd_1971 : Jvm.Cond.instanceMethod ({ cls := "PhraseRoadsModel", name := "way", desc := "(II)I" } : Jvm.MethodName) ∈ lw_tbl := List.mem_of_getElem? (i := 1971) (by decide +kernel)
theorem wd_1972 : Jvm.Cond.selects "PhraseRoadsModel" ({ cls := "PhraseRoadsModel", name := "way", desc := "(II)I" } : Jvm.MethodName) ({ cls := "PhraseRoadsModel", name := "way", desc := "(II)I" } : Jvm.MethodName) ∈ lw_tbl := List.mem_of_getElem? (i := 1972) (by decide +kernel)
theorem wd_1973 : Jvm.Cond.code ({ cls := "PhraseRoadsModel", name := "way", desc := "(II)I" } : Jvm.MethodName) prog_13_method_74_code (3 : Nat) (Option.some Jvm.ClassFile.FieldType.int) ∈ lw_tbl := List.mem_of_getElem? (i := 1973) (by decide +kernel)
theorem wd_1974 : Jvm.Cond.methodLink "PhraseRoadsModel" (320 : Nat) ({ cls := "PhraseRoadsModel", name := "isWayNumber", desc := "(I)Z" } : Jvm.MethodName) ∈ lw_tbl := List.mem_of_getElem? (i := 1974) (by decide +kernel)
theorem wd_1975 : Jvm.Cond.static ({ cls := "PhraseRoadsModel", name := "isWayNumber", desc := "(I)Z" } : Jvm.MethodName) ∈ lw_tbl := List.mem_of_getElem? (i := 1975) (by decide +kernel)
theorem wd_1976 : Jvm.Cond.code ({ cls := "PhraseRoadsModel", name := "isWayNumber", desc := "(I)Z" } : Jvm.MethodName) prog_13_method_73_code (1 : Nat) (Option.some Jvm.ClassFile.FieldType.boolean) ∈ lw_tbl := List.mem_of_getElem? (i := 1976) (by decide +kernel)
theorem wd_1977 : Jvm.Cond.methodLink "PhraseRoadsModel" (323 : Nat) ({ cls := "PhraseRoadsModel", name := "isWay", desc := "(I)Z" } : Jvm.MethodName) ∈ lw_tbl := List.mem_of_getElem? (i := 1977) (by decide +kernel)
theorem wd_1979 : Jvm.Cond.instanceMethod ({ cls := "PhraseRoadsModel", name := "isWay", desc := "(I)Z" } : Jvm.MethodName) ∈ lw_tbl := List.mem_of_getElem? (i := 1979) (by decide +kernel)
theorem wd_1980 : Jvm.Cond.code ({ cls := "PhraseRoadsModel", name := "isWay", desc := "(I)Z" } : Jvm.MethodName) prog_13_method_71_code (2 : Nat) (Option.some Jvm.ClassFile.FieldType.boolean) ∈ lw_tbl := List.mem_of_getElem? (i := 1980) (by decide +kernel)
theorem wd_1981 : Jvm.Cond.methodLink "PhraseRoadsModel" (310 : Nat) ({ cls := "PhraseRoadsModel", name := "goes", desc := "(IIIII)Z" } : Jvm.MethodName) ∈ lw_tbl := List.mem_of_getElem? (i := 1981) (by decide +kernel)
theorem wd_1983 : Jvm.Cond.instanceMethod ({ cls := "PhraseRoadsModel", name := "goes", desc := "(IIIII)Z" } : Jvm.MethodName) ∈ lw_tbl := List.mem_of_getElem? (i := 1983) (by decide +kernel)
theorem wd_1984 : Jvm.Cond.code ({ cls := "PhraseRoadsModel", name := "goes", desc := "(IIIII)Z" } : Jvm.MethodName) prog_13_method_70_code (11 : Nat) (Option.some Jvm.ClassFile.FieldType.boolean) ∈ lw_tbl := List.mem_of_getElem? (i := 1984) (by decide +kernel)
theorem wd_1985 : Jvm.Cond.methodLink "PhraseRoadsModel" (314 : Nat) ({ cls := "PhraseRoadsModel", name := "spells", desc := "()V" } : Jvm.MethodName) ∈ lw_tbl := List.mem_of_getElem? (i := 1985) (by decide +kernel)
theorem wd_1987 : Jvm.Cond.instanceMethod ({ cls := "PhraseRoadsModel", name := "spells", desc := "()V" } : Jvm.MethodName) ∈ lw_tbl := List.mem_of_getElem? (i := 1987) (by decide +kernel)
theorem wd_1988 : Jvm.Cond.code ({ cls := "PhraseRoadsModel", name := "spells", desc := "()V" } : Jvm.MethodName) prog_13_method_72_code (3 : Nat) (Option.none : Option Jvm.ClassFile.FieldType) ∈ lw_tbl := List.mem_of_getElem? (i := 1988) (by decide +kernel)
theorem wd_1989 : Jvm.Cond.methodLink "PhraseRoadsLaw" (188 : Nat) ({ cls := "PhraseRoadsModel", name := "step", desc := "(III)I" } : Jvm.MethodName) ∈ lw_tbl := List.mem_of_getElem? (i := 1989) (by decide +kernel)
theorem wd_1990 : Jvm.Cond.instanceMethod ({ cls := "PhraseRoadsModel", name := "step", desc := "(III)I" } : Jvm.MethodName) ∈ lw_tbl := List.mem_of_getElem? (i := 1990) (by decide +kernel)
theorem wd_1991 : Jvm.Cond.selects "PhraseRoadsModel" ({ cls := "PhraseRoadsModel", name := "step", desc := "(III)I" } : Jvm.MethodName) ({ cls := "PhraseRoadsModel", name := "step", desc := "(III)I" } : Jvm.MethodName) ∈ lw_tbl := List.mem_of_getElem? (i := 1991) (by decide +kernel)
theorem wd_1992 : Jvm.Cond.code ({ cls := "PhraseRoadsModel", name := "step", desc := "(III)I" } : Jvm.MethodName) prog_13_method_76_code (4 : Nat) (Option.some Jvm.ClassFile.FieldType.int) ∈ lw_tbl := List.mem_of_getElem? (i := 1992) (by decide +kernel)
theorem wd_1993 : Jvm.Cond.methodLink "PhraseRoadsModel" (326 : Nat) ({ cls := "PhraseRoadsModel", name := "costOf", desc := "(I)I" } : Jvm.MethodName) ∈ lw_tbl := List.mem_of_getElem? (i := 1993) (by decide +kernel)
theorem wd_1995 : Jvm.Cond.instanceMethod ({ cls := "PhraseRoadsModel", name := "costOf", desc := "(I)I" } : Jvm.MethodName) ∈ lw_tbl := List.mem_of_getElem? (i := 1995) (by decide +kernel)
theorem wd_1996 : Jvm.Cond.code ({ cls := "PhraseRoadsModel", name := "costOf", desc := "(I)I" } : Jvm.MethodName) prog_13_method_75_code (5 : Nat) (Option.some Jvm.ClassFile.FieldType.int) ∈ lw_tbl := List.mem_of_getElem? (i := 1996) (by decide +kernel)
theorem wd_1997 : Jvm.Cond.methodLink "PhraseRoadsLaw" (191 : Nat) ({ cls := "PhraseRoadsModel", name := "word", desc := "(II)I" } : Jvm.MethodName) ∈ lw_tbl := List.mem_of_getElem? (i := 1997) (by decide +kernel)
theorem wd_1998 : Jvm.Cond.instanceMethod ({ cls := "PhraseRoadsModel", name := "word", desc := "(II)I" } : Jvm.MethodName) ∈ lw_tbl := List.mem_of_getElem? (i := 1998) (by decide +kernel)
theorem wd_1999 : Jvm.Cond.selects "PhraseRoadsModel" ({ cls := "PhraseRoadsModel", name := "word", desc := "(II)I" } : Jvm.MethodName) ({ cls := "PhraseRoadsModel", name := "word", desc := "(II)I" } : Jvm.MethodName) ∈ lw_tbl := List.mem_of_getElem? (i := 1999) (by decide +kernel)
theorem wd_2000 : Jvm.Cond.code ({ cls := "PhraseRoadsModel", name := "word", desc := "(II)I" } : Jvm.MethodName) prog_13_method_77_code (3 : Nat) (Option.some Jvm.ClassFile.FieldType.int) ∈ lw_tbl := List.mem_of_getElem? (i := 2000) (by decide +kernel)
theorem wd_2001 : Jvm.Cond.methodLink "PhraseRoadsLaw" (173 : Nat) ({ cls := "PhraseRoadsModel", name := "stretch", desc := "(II)I" } : Jvm.MethodName) ∈ lw_tbl := List.mem_of_getElem? (i := 2001) (by decide +kernel)
theorem wd_2002 : Jvm.Cond.instanceMethod ({ cls := "PhraseRoadsModel", name := "stretch", desc := "(II)I" } : Jvm.MethodName) ∈ lw_tbl := List.mem_of_getElem? (i := 2002) (by decide +kernel)
theorem wd_2003 : Jvm.Cond.selects "PhraseRoadsModel" ({ cls := "PhraseRoadsModel", name := "stretch", desc := "(II)I" } : Jvm.MethodName) ({ cls := "PhraseRoadsModel", name := "stretch", desc := "(II)I" } : Jvm.MethodName) ∈ lw_tbl := List.mem_of_getElem? (i := 2003) (by decide +kernel)
theorem wd_2004 : Jvm.Cond.code ({ cls := "PhraseRoadsModel", name := "stretch", desc := "(II)I" } : Jvm.MethodName) prog_13_method_80_code (3 : Nat) (Option.some Jvm.ClassFile.FieldType.int) ∈ lw_tbl := List.mem_of_getElem? (i := 2004) (by decide +kernel)
theorem wd_2005 : Jvm.Cond.methodLink "PhraseRoadsModel" (332 : Nat) ({ cls := "PhraseRoadsModel", name := "laysStretches", desc := "()V" } : Jvm.MethodName) ∈ lw_tbl := List.mem_of_getElem? (i := 2005) (by decide +kernel)
theorem wd_2007 : Jvm.Cond.instanceMethod ({ cls := "PhraseRoadsModel", name := "laysStretches", desc := "()V" } : Jvm.MethodName) ∈ lw_tbl := List.mem_of_getElem? (i := 2007) (by decide +kernel)
theorem wd_2008 : Jvm.Cond.code ({ cls := "PhraseRoadsModel", name := "laysStretches", desc := "()V" } : Jvm.MethodName) prog_13_method_79_code (6 : Nat) (Option.none : Option Jvm.ClassFile.FieldType) ∈ lw_tbl := List.mem_of_getElem? (i := 2008) (by decide +kernel)
theorem wd_2009 : Jvm.Cond.methodLink "PhraseRoadsModel" (329 : Nat) ({ cls := "PhraseRoadsModel", name := "optionFor", desc := "(II)I" } : Jvm.MethodName) ∈ lw_tbl := List.mem_of_getElem? (i := 2009) (by decide +kernel)
theorem wd_2011 : Jvm.Cond.instanceMethod ({ cls := "PhraseRoadsModel", name := "optionFor", desc := "(II)I" } : Jvm.MethodName) ∈ lw_tbl := List.mem_of_getElem? (i := 2011) (by decide +kernel)
theorem wd_2012 : Jvm.Cond.code ({ cls := "PhraseRoadsModel", name := "optionFor", desc := "(II)I" } : Jvm.MethodName) prog_13_method_78_code (7 : Nat) (Option.some Jvm.ClassFile.FieldType.int) ∈ lw_tbl := List.mem_of_getElem? (i := 2012) (by decide +kernel)
theorem wd_2013 : Jvm.Cond.methodLink "PhraseRoadsLaw" (194 : Nat) ({ cls := "PhraseRoadsModel", name := "found", desc := "(I)I" } : Jvm.MethodName) ∈ lw_tbl := List.mem_of_getElem? (i := 2013) (by decide +kernel)
theorem wd_2014 : Jvm.Cond.instanceMethod ({ cls := "PhraseRoadsModel", name := "found", desc := "(I)I" } : Jvm.MethodName) ∈ lw_tbl := List.mem_of_getElem? (i := 2014) (by decide +kernel)
theorem wd_2015 : Jvm.Cond.selects "PhraseRoadsModel" ({ cls := "PhraseRoadsModel", name := "found", desc := "(I)I" } : Jvm.MethodName) ({ cls := "PhraseRoadsModel", name := "found", desc := "(I)I" } : Jvm.MethodName) ∈ lw_tbl := List.mem_of_getElem? (i := 2015) (by decide +kernel)
theorem wd_2016 : Jvm.Cond.code ({ cls := "PhraseRoadsModel", name := "found", desc := "(I)I" } : Jvm.MethodName) prog_13_method_93_code (2 : Nat) (Option.some Jvm.ClassFile.FieldType.int) ∈ lw_tbl := List.mem_of_getElem? (i := 2016) (by decide +kernel)
theorem wd_2017 : Jvm.Cond.methodLink "PhraseRoadsModel" (386 : Nat) ({ cls := "PhraseRoadsModel", name := "stacks", desc := "()V" } : Jvm.MethodName) ∈ lw_tbl := List.mem_of_getElem? (i := 2017) (by decide +kernel)
theorem wd_2019 : Jvm.Cond.instanceMethod ({ cls := "PhraseRoadsModel", name := "stacks", desc := "()V" } : Jvm.MethodName) ∈ lw_tbl := List.mem_of_getElem? (i := 2019) (by decide +kernel)
theorem wd_2020 : Jvm.Cond.code ({ cls := "PhraseRoadsModel", name := "stacks", desc := "()V" } : Jvm.MethodName) prog_13_method_90_code (4 : Nat) (Option.none : Option Jvm.ClassFile.FieldType) ∈ lw_tbl := List.mem_of_getElem? (i := 2020) (by decide +kernel)
theorem wd_2021 : Jvm.Cond.methodLink "PhraseRoadsModel" (356 : Nat) ({ cls := "PhraseRoadsModel", name := "lies", desc := "(IIIII)V" } : Jvm.MethodName) ∈ lw_tbl := List.mem_of_getElem? (i := 2021) (by decide +kernel)
theorem wd_2023 : Jvm.Cond.instanceMethod ({ cls := "PhraseRoadsModel", name := "lies", desc := "(IIIII)V" } : Jvm.MethodName) ∈ lw_tbl := List.mem_of_getElem? (i := 2023) (by decide +kernel)
theorem wd_2024 : Jvm.Cond.code ({ cls := "PhraseRoadsModel", name := "lies", desc := "(IIIII)V" } : Jvm.MethodName) prog_13_method_86_code (6 : Nat) (Option.none : Option Jvm.ClassFile.FieldType) ∈ lw_tbl := List.mem_of_getElem? (i := 2024) (by decide +kernel)
theorem wd_2025 : Jvm.Cond.methodLink "PhraseRoadsModel" (368 : Nat) ({ cls := "PhraseRoadsModel", name := "counts", desc := "(I)V" } : Jvm.MethodName) ∈ lw_tbl := List.mem_of_getElem? (i := 2025) (by decide +kernel)
theorem wd_2027 : Jvm.Cond.instanceMethod ({ cls := "PhraseRoadsModel", name := "counts", desc := "(I)V" } : Jvm.MethodName) ∈ lw_tbl := List.mem_of_getElem? (i := 2027) (by decide +kernel)
theorem wd_2028 : Jvm.Cond.code ({ cls := "PhraseRoadsModel", name := "counts", desc := "(I)V" } : Jvm.MethodName) prog_13_method_89_code (5 : Nat) (Option.none : Option Jvm.ClassFile.FieldType) ∈ lw_tbl := List.mem_of_getElem? (i := 2028) (by decide +kernel)
theorem wd_2029 : Jvm.Cond.methodLink "PhraseRoadsModel" (359 : Nat) ({ cls := "PhraseRoadsModel", name := "bits", desc := "(I)I" } : Jvm.MethodName) ∈ lw_tbl := List.mem_of_getElem? (i := 2029) (by decide +kernel)
theorem wd_2030 : Jvm.Cond.static ({ cls := "PhraseRoadsModel", name := "bits", desc := "(I)I" } : Jvm.MethodName) ∈ lw_tbl := List.mem_of_getElem? (i := 2030) (by decide +kernel)
theorem wd_2031 : Jvm.Cond.code ({ cls := "PhraseRoadsModel", name := "bits", desc := "(I)I" } : Jvm.MethodName) prog_13_method_7_code (3 : Nat) (Option.some Jvm.ClassFile.FieldType.int) ∈ lw_tbl := List.mem_of_getElem? (i := 2031) (by decide +kernel)
theorem wd_2032 : Jvm.Cond.methodLink "PhraseRoadsModel" (362 : Nat) ({ cls := "PhraseRoadsModel", name := "scoreOf", desc := "(I)I" } : Jvm.MethodName) ∈ lw_tbl := List.mem_of_getElem? (i := 2032) (by decide +kernel)
theorem wd_2034 : Jvm.Cond.instanceMethod ({ cls := "PhraseRoadsModel", name := "scoreOf", desc := "(I)I" } : Jvm.MethodName) ∈ lw_tbl := List.mem_of_getElem? (i := 2034) (by decide +kernel)
theorem wd_2035 : Jvm.Cond.code ({ cls := "PhraseRoadsModel", name := "scoreOf", desc := "(I)I" } : Jvm.MethodName) prog_13_method_85_code (2 : Nat) (Option.some Jvm.ClassFile.FieldType.int) ∈ lw_tbl := List.mem_of_getElem? (i := 2035) (by decide +kernel)
theorem wd_2036 : Jvm.Cond.methodLink "PhraseRoadsModel" (338 : Nat) ({ cls := "PhraseRoadsModel", name := "setOf", desc := "(I)I" } : Jvm.MethodName) ∈ lw_tbl := List.mem_of_getElem? (i := 2036) (by decide +kernel)
theorem wd_2038 : Jvm.Cond.instanceMethod ({ cls := "PhraseRoadsModel", name := "setOf", desc := "(I)I" } : Jvm.MethodName) ∈ lw_tbl := List.mem_of_getElem? (i := 2038) (by decide +kernel)
theorem wd_2039 : Jvm.Cond.code ({ cls := "PhraseRoadsModel", name := "setOf", desc := "(I)I" } : Jvm.MethodName) prog_13_method_82_code (2 : Nat) (Option.some Jvm.ClassFile.FieldType.int) ∈ lw_tbl := List.mem_of_getElem? (i := 2039) (by decide +kernel)
theorem wd_2040 : Jvm.Cond.methodLink "PhraseRoadsModel" (341 : Nat) ({ cls := "PhraseRoadsModel", name := "aheadOf", desc := "(I)I" } : Jvm.MethodName) ∈ lw_tbl := List.mem_of_getElem? (i := 2040) (by decide +kernel)
theorem wd_2042 : Jvm.Cond.instanceMethod ({ cls := "PhraseRoadsModel", name := "aheadOf", desc := "(I)I" } : Jvm.MethodName) ∈ lw_tbl := List.mem_of_getElem? (i := 2042) (by decide +kernel)
theorem wd_2043 : Jvm.Cond.code ({ cls := "PhraseRoadsModel", name := "aheadOf", desc := "(I)I" } : Jvm.MethodName) prog_13_method_81_code (5 : Nat) (Option.some Jvm.ClassFile.FieldType.int) ∈ lw_tbl := List.mem_of_getElem? (i := 2043) (by decide +kernel)
theorem wd_2044 : Jvm.Cond.methodLink "PhraseRoadsModel" (335 : Nat) ({ cls := "PhraseRoadsModel", name := "isOf", desc := "(II)Z" } : Jvm.MethodName) ∈ lw_tbl := List.mem_of_getElem? (i := 2044) (by decide +kernel)
theorem wd_2045 : Jvm.Cond.static ({ cls := "PhraseRoadsModel", name := "isOf", desc := "(II)Z" } : Jvm.MethodName) ∈ lw_tbl := List.mem_of_getElem? (i := 2045) (by decide +kernel)
theorem wd_2046 : Jvm.Cond.code ({ cls := "PhraseRoadsModel", name := "isOf", desc := "(II)Z" } : Jvm.MethodName) prog_13_method_6_code (2 : Nat) (Option.some Jvm.ClassFile.FieldType.boolean) ∈ lw_tbl := List.mem_of_getElem? (i := 2046) (by decide +kernel)
theorem wd_2047 : Jvm.Cond.methodLink "PhraseRoadsModel" (371 : Nat) ({ cls := "PhraseRoadsModel", name := "nextOf", desc := "(I)I" } : Jvm.MethodName) ∈ lw_tbl := List.mem_of_getElem? (i := 2047) (by decide +kernel)
theorem wd_2049 : Jvm.Cond.instanceMethod ({ cls := "PhraseRoadsModel", name := "nextOf", desc := "(I)I" } : Jvm.MethodName) ∈ lw_tbl := List.mem_of_getElem? (i := 2049) (by decide +kernel)
theorem wd_2050 : Jvm.Cond.code ({ cls := "PhraseRoadsModel", name := "nextOf", desc := "(I)I" } : Jvm.MethodName) prog_13_method_88_code (7 : Nat) (Option.some Jvm.ClassFile.FieldType.int) ∈ lw_tbl := List.mem_of_getElem? (i := 2050) (by decide +kernel)
theorem wd_2051 : Jvm.Cond.methodLink "PhraseRoadsModel" (374 : Nat) ({ cls := "PhraseRoadsModel", name := "goesOn", desc := "(I)V" } : Jvm.MethodName) ∈ lw_tbl := List.mem_of_getElem? (i := 2051) (by decide +kernel)
theorem wd_2053 : Jvm.Cond.instanceMethod ({ cls := "PhraseRoadsModel", name := "goesOn", desc := "(I)V" } : Jvm.MethodName) ∈ lw_tbl := List.mem_of_getElem? (i := 2053) (by decide +kernel)
theorem wd_2054 : Jvm.Cond.code ({ cls := "PhraseRoadsModel", name := "goesOn", desc := "(I)V" } : Jvm.MethodName) prog_13_method_87_code (5 : Nat) (Option.none : Option Jvm.ClassFile.FieldType) ∈ lw_tbl := List.mem_of_getElem? (i := 2054) (by decide +kernel)
theorem wd_2055 : Jvm.Cond.methodLink "PhraseRoadsModel" (350 : Nat) ({ cls := "PhraseRoadsModel", name := "placeOf", desc := "(I)I" } : Jvm.MethodName) ∈ lw_tbl := List.mem_of_getElem? (i := 2055) (by decide +kernel)
theorem wd_2057 : Jvm.Cond.instanceMethod ({ cls := "PhraseRoadsModel", name := "placeOf", desc := "(I)I" } : Jvm.MethodName) ∈ lw_tbl := List.mem_of_getElem? (i := 2057) (by decide +kernel)
theorem wd_2058 : Jvm.Cond.code ({ cls := "PhraseRoadsModel", name := "placeOf", desc := "(I)I" } : Jvm.MethodName) prog_13_method_83_code (2 : Nat) (Option.some Jvm.ClassFile.FieldType.int) ∈ lw_tbl := List.mem_of_getElem? (i := 2058) (by decide +kernel)
theorem wd_2059 : Jvm.Cond.methodLink "PhraseRoadsModel" (353 : Nat) ({ cls := "PhraseRoadsModel", name := "lastOf", desc := "(I)I" } : Jvm.MethodName) ∈ lw_tbl := List.mem_of_getElem? (i := 2059) (by decide +kernel)
theorem wd_2061 : Jvm.Cond.instanceMethod ({ cls := "PhraseRoadsModel", name := "lastOf", desc := "(I)I" } : Jvm.MethodName) ∈ lw_tbl := List.mem_of_getElem? (i := 2061) (by decide +kernel)
theorem wd_2062 : Jvm.Cond.code ({ cls := "PhraseRoadsModel", name := "lastOf", desc := "(I)I" } : Jvm.MethodName) prog_13_method_84_code (2 : Nat) (Option.some Jvm.ClassFile.FieldType.int) ∈ lw_tbl := List.mem_of_getElem? (i := 2062) (by decide +kernel)
theorem wd_2063 : Jvm.Cond.methodLink "PhraseRoadsModel" (377 : Nat) ({ cls := "PhraseRoadsModel", name := "finds", desc := "()V" } : Jvm.MethodName) ∈ lw_tbl := List.mem_of_getElem? (i := 2063) (by decide +kernel)
theorem wd_2065 : Jvm.Cond.instanceMethod ({ cls := "PhraseRoadsModel", name := "finds", desc := "()V" } : Jvm.MethodName) ∈ lw_tbl := List.mem_of_getElem? (i := 2065) (by decide +kernel)
theorem wd_2066 : Jvm.Cond.code ({ cls := "PhraseRoadsModel", name := "finds", desc := "()V" } : Jvm.MethodName) prog_13_method_91_code (3 : Nat) (Option.none : Option Jvm.ClassFile.FieldType) ∈ lw_tbl := List.mem_of_getElem? (i := 2066) (by decide +kernel)
theorem wd_2067 : Jvm.Cond.methodLink "PhraseRoadsModel" (389 : Nat) ({ cls := "PhraseRoadsModel", name := "stepsOf", desc := "(I)I" } : Jvm.MethodName) ∈ lw_tbl := List.mem_of_getElem? (i := 2067) (by decide +kernel)
theorem wd_2069 : Jvm.Cond.instanceMethod ({ cls := "PhraseRoadsModel", name := "stepsOf", desc := "(I)I" } : Jvm.MethodName) ∈ lw_tbl := List.mem_of_getElem? (i := 2069) (by decide +kernel)
theorem wd_2070 : Jvm.Cond.code ({ cls := "PhraseRoadsModel", name := "stepsOf", desc := "(I)I" } : Jvm.MethodName) prog_13_method_92_code (4 : Nat) (Option.some Jvm.ClassFile.FieldType.int) ∈ lw_tbl := List.mem_of_getElem? (i := 2070) (by decide +kernel)
theorem wd_2071 : Jvm.Cond.methodLink "PhraseRoadsLaw" (197 : Nat) ({ cls := "PhraseRoadsModel", name := "halves", desc := "(II)I" } : Jvm.MethodName) ∈ lw_tbl := List.mem_of_getElem? (i := 2071) (by decide +kernel)
theorem wd_2072 : Jvm.Cond.instanceMethod ({ cls := "PhraseRoadsModel", name := "halves", desc := "(II)I" } : Jvm.MethodName) ∈ lw_tbl := List.mem_of_getElem? (i := 2072) (by decide +kernel)
theorem wd_2073 : Jvm.Cond.selects "PhraseRoadsModel" ({ cls := "PhraseRoadsModel", name := "halves", desc := "(II)I" } : Jvm.MethodName) ({ cls := "PhraseRoadsModel", name := "halves", desc := "(II)I" } : Jvm.MethodName) ∈ lw_tbl := List.mem_of_getElem? (i := 2073) (by decide +kernel)
theorem wd_2074 : Jvm.Cond.code ({ cls := "PhraseRoadsModel", name := "halves", desc := "(II)I" } : Jvm.MethodName) prog_13_method_94_code (5 : Nat) (Option.some Jvm.ClassFile.FieldType.int) ∈ lw_tbl := List.mem_of_getElem? (i := 2074) (by decide +kernel)
theorem wd_2075 : Jvm.Cond.methodLink "PhraseRoadsLaw" (200 : Nat) ({ cls := "PhraseRoadsModel", name := "stack", desc := "(II)I" } : Jvm.MethodName) ∈ lw_tbl := List.mem_of_getElem? (i := 2075) (by decide +kernel)
theorem wd_2076 : Jvm.Cond.instanceMethod ({ cls := "PhraseRoadsModel", name := "stack", desc := "(II)I" } : Jvm.MethodName) ∈ lw_tbl := List.mem_of_getElem? (i := 2076) (by decide +kernel)
theorem wd_2077 : Jvm.Cond.selects "PhraseRoadsModel" ({ cls := "PhraseRoadsModel", name := "stack", desc := "(II)I" } : Jvm.MethodName) ({ cls := "PhraseRoadsModel", name := "stack", desc := "(II)I" } : Jvm.MethodName) ∈ lw_tbl := List.mem_of_getElem? (i := 2077) (by decide +kernel)
theorem wd_2078 : Jvm.Cond.code ({ cls := "PhraseRoadsModel", name := "stack", desc := "(II)I" } : Jvm.MethodName) prog_13_method_95_code (3 : Nat) (Option.some Jvm.ClassFile.FieldType.int) ∈ lw_tbl := List.mem_of_getElem? (i := 2078) (by decide +kernel)
theorem wd_2079 : Jvm.Cond.methodLink "PhraseRoadsLaw" (203 : Nat) ({ cls := "PhraseRoadsModel", name := "forced", desc := "()I" } : Jvm.MethodName) ∈ lw_tbl := List.mem_of_getElem? (i := 2079) (by decide +kernel)
theorem wd_2080 : Jvm.Cond.instanceMethod ({ cls := "PhraseRoadsModel", name := "forced", desc := "()I" } : Jvm.MethodName) ∈ lw_tbl := List.mem_of_getElem? (i := 2080) (by decide +kernel)
theorem wd_2081 : Jvm.Cond.selects "PhraseRoadsModel" ({ cls := "PhraseRoadsModel", name := "forced", desc := "()I" } : Jvm.MethodName) ({ cls := "PhraseRoadsModel", name := "forced", desc := "()I" } : Jvm.MethodName) ∈ lw_tbl := List.mem_of_getElem? (i := 2081) (by decide +kernel)
theorem wd_2082 : Jvm.Cond.code ({ cls := "PhraseRoadsModel", name := "forced", desc := "()I" } : Jvm.MethodName) prog_13_method_99_code (2 : Nat) (Option.some Jvm.ClassFile.FieldType.int) ∈ lw_tbl := List.mem_of_getElem? (i := 2082) (by decide +kernel)
theorem wd_2083 : Jvm.Cond.methodLink "PhraseRoadsModel" (398 : Nat) ({ cls := "PhraseRoadsModel", name := "isTold", desc := "()Z" } : Jvm.MethodName) ∈ lw_tbl := List.mem_of_getElem? (i := 2083) (by decide +kernel)
theorem wd_2085 : Jvm.Cond.instanceMethod ({ cls := "PhraseRoadsModel", name := "isTold", desc := "()Z" } : Jvm.MethodName) ∈ lw_tbl := List.mem_of_getElem? (i := 2085) (by decide +kernel)
theorem wd_2086 : Jvm.Cond.code ({ cls := "PhraseRoadsModel", name := "isTold", desc := "()Z" } : Jvm.MethodName) prog_13_method_96_code (1 : Nat) (Option.some Jvm.ClassFile.FieldType.boolean) ∈ lw_tbl := List.mem_of_getElem? (i := 2086) (by decide +kernel)
theorem wd_2087 : Jvm.Cond.methodLink "PhraseRoadsModel" (395 : Nat) ({ cls := "PhraseRoadsModel", name := "forcedFrom", desc := "(III)I" } : Jvm.MethodName) ∈ lw_tbl := List.mem_of_getElem? (i := 2087) (by decide +kernel)
theorem wd_2089 : Jvm.Cond.instanceMethod ({ cls := "PhraseRoadsModel", name := "forcedFrom", desc := "(III)I" } : Jvm.MethodName) ∈ lw_tbl := List.mem_of_getElem? (i := 2089) (by decide +kernel)
theorem wd_2090 : Jvm.Cond.code ({ cls := "PhraseRoadsModel", name := "forcedFrom", desc := "(III)I" } : Jvm.MethodName) prog_13_method_98_code (10 : Nat) (Option.some Jvm.ClassFile.FieldType.int) ∈ lw_tbl := List.mem_of_getElem? (i := 2090) (by decide +kernel)
theorem wd_2091 : Jvm.Cond.methodLink "PhraseRoadsModel" (392 : Nat) ({ cls := "PhraseRoadsModel", name := "isSpoken", desc := "(III)Z" } : Jvm.MethodName) ∈ lw_tbl := List.mem_of_getElem? (i := 2091) (by decide +kernel)
theorem wd_2093 : Jvm.Cond.instanceMethod ({ cls := "PhraseRoadsModel", name := "isSpoken", desc := "(III)Z" } : Jvm.MethodName) ∈ lw_tbl := List.mem_of_getElem? (i := 2093) (by decide +kernel)
theorem wd_2094 : Jvm.Cond.code ({ cls := "PhraseRoadsModel", name := "isSpoken", desc := "(III)Z" } : Jvm.MethodName) prog_13_method_97_code (5 : Nat) (Option.some Jvm.ClassFile.FieldType.boolean) ∈ lw_tbl := List.mem_of_getElem? (i := 2094) (by decide +kernel)
theorem wd_2095 : Jvm.Cond.methodLink "PhraseRoadsLaw" (206 : Nat) ({ cls := "PhraseRoadsModel", name := "near", desc := "()I" } : Jvm.MethodName) ∈ lw_tbl := List.mem_of_getElem? (i := 2095) (by decide +kernel)
theorem wd_2096 : Jvm.Cond.instanceMethod ({ cls := "PhraseRoadsModel", name := "near", desc := "()I" } : Jvm.MethodName) ∈ lw_tbl := List.mem_of_getElem? (i := 2096) (by decide +kernel)
theorem wd_2097 : Jvm.Cond.selects "PhraseRoadsModel" ({ cls := "PhraseRoadsModel", name := "near", desc := "()I" } : Jvm.MethodName) ({ cls := "PhraseRoadsModel", name := "near", desc := "()I" } : Jvm.MethodName) ∈ lw_tbl := List.mem_of_getElem? (i := 2097) (by decide +kernel)
theorem wd_2098 : Jvm.Cond.code ({ cls := "PhraseRoadsModel", name := "near", desc := "()I" } : Jvm.MethodName) prog_13_method_102_code (1 : Nat) (Option.some Jvm.ClassFile.FieldType.int) ∈ lw_tbl := List.mem_of_getElem? (i := 2098) (by decide +kernel)
theorem wd_2099 : Jvm.Cond.methodLink "PhraseRoadsModel" (405 : Nat) ({ cls := "PhraseRoadsModel", name := "nearTold", desc := "()I" } : Jvm.MethodName) ∈ lw_tbl := List.mem_of_getElem? (i := 2099) (by decide +kernel)
theorem wd_2101 : Jvm.Cond.instanceMethod ({ cls := "PhraseRoadsModel", name := "nearTold", desc := "()I" } : Jvm.MethodName) ∈ lw_tbl := List.mem_of_getElem? (i := 2101) (by decide +kernel)
theorem wd_2102 : Jvm.Cond.code ({ cls := "PhraseRoadsModel", name := "nearTold", desc := "()I" } : Jvm.MethodName) prog_13_method_101_code (2 : Nat) (Option.some Jvm.ClassFile.FieldType.int) ∈ lw_tbl := List.mem_of_getElem? (i := 2102) (by decide +kernel)
theorem wd_2103 : Jvm.Cond.methodLink "PhraseRoadsModel" (401 : Nat) ({ cls := "PhraseRoadsModel", name := "apart", desc := "([III[III)I" } : Jvm.MethodName) ∈ lw_tbl := List.mem_of_getElem? (i := 2103) (by decide +kernel)
theorem wd_2105 : Jvm.Cond.instanceMethod ({ cls := "PhraseRoadsModel", name := "apart", desc := "([III[III)I" } : Jvm.MethodName) ∈ lw_tbl := List.mem_of_getElem? (i := 2105) (by decide +kernel)
theorem wd_2106 : Jvm.Cond.code ({ cls := "PhraseRoadsModel", name := "apart", desc := "([III[III)I" } : Jvm.MethodName) prog_13_method_100_code (10 : Nat) (Option.some Jvm.ClassFile.FieldType.int) ∈ lw_tbl := List.mem_of_getElem? (i := 2106) (by decide +kernel)
theorem wd_2107 : Jvm.Cond.methodLink "PhraseRoadsLaw" (209 : Nat) ({ cls := "PhraseRoadsModel", name := "match", desc := "(I)I" } : Jvm.MethodName) ∈ lw_tbl := List.mem_of_getElem? (i := 2107) (by decide +kernel)
theorem wd_2108 : Jvm.Cond.instanceMethod ({ cls := "PhraseRoadsModel", name := "match", desc := "(I)I" } : Jvm.MethodName) ∈ lw_tbl := List.mem_of_getElem? (i := 2108) (by decide +kernel)
theorem wd_2109 : Jvm.Cond.selects "PhraseRoadsModel" ({ cls := "PhraseRoadsModel", name := "match", desc := "(I)I" } : Jvm.MethodName) ({ cls := "PhraseRoadsModel", name := "match", desc := "(I)I" } : Jvm.MethodName) ∈ lw_tbl := List.mem_of_getElem? (i := 2109) (by decide +kernel)
theorem wd_2110 : Jvm.Cond.code ({ cls := "PhraseRoadsModel", name := "match", desc := "(I)I" } : Jvm.MethodName) prog_13_method_105_code (7 : Nat) (Option.some Jvm.ClassFile.FieldType.int) ∈ lw_tbl := List.mem_of_getElem? (i := 2110) (by decide +kernel)
theorem wd_2111 : Jvm.Cond.methodLink "PhraseRoadsModel" (408 : Nat) ({ cls := "PhraseRoadsModel", name := "areAlike", desc := "([II[III)Z" } : Jvm.MethodName) ∈ lw_tbl := List.mem_of_getElem? (i := 2111) (by decide +kernel)
theorem wd_2112 : Jvm.Cond.static ({ cls := "PhraseRoadsModel", name := "areAlike", desc := "([II[III)Z" } : Jvm.MethodName) ∈ lw_tbl := List.mem_of_getElem? (i := 2112) (by decide +kernel)
theorem wd_2113 : Jvm.Cond.code ({ cls := "PhraseRoadsModel", name := "areAlike", desc := "([II[III)Z" } : Jvm.MethodName) prog_13_method_103_code (6 : Nat) (Option.some Jvm.ClassFile.FieldType.boolean) ∈ lw_tbl := List.mem_of_getElem? (i := 2113) (by decide +kernel)
theorem wd_2114 : Jvm.Cond.methodLink "PhraseRoadsModel" (412 : Nat) ({ cls := "PhraseRoadsModel", name := "times", desc := "([II[III)I" } : Jvm.MethodName) ∈ lw_tbl := List.mem_of_getElem? (i := 2114) (by decide +kernel)
theorem wd_2115 : Jvm.Cond.static ({ cls := "PhraseRoadsModel", name := "times", desc := "([II[III)I" } : Jvm.MethodName) ∈ lw_tbl := List.mem_of_getElem? (i := 2115) (by decide +kernel)
theorem wd_2116 : Jvm.Cond.code ({ cls := "PhraseRoadsModel", name := "times", desc := "([II[III)I" } : Jvm.MethodName) prog_13_method_104_code (7 : Nat) (Option.some Jvm.ClassFile.FieldType.int) ∈ lw_tbl := List.mem_of_getElem? (i := 2116) (by decide +kernel)
theorem wd_2117 : Jvm.Cond.methodLink "PhraseRoadsLaw" (212 : Nat) ({ cls := "PhraseRoadsModel", name := "agreed", desc := "(I)I" } : Jvm.MethodName) ∈ lw_tbl := List.mem_of_getElem? (i := 2117) (by decide +kernel)
theorem wd_2118 : Jvm.Cond.instanceMethod ({ cls := "PhraseRoadsModel", name := "agreed", desc := "(I)I" } : Jvm.MethodName) ∈ lw_tbl := List.mem_of_getElem? (i := 2118) (by decide +kernel)
theorem wd_2119 : Jvm.Cond.selects "PhraseRoadsModel" ({ cls := "PhraseRoadsModel", name := "agreed", desc := "(I)I" } : Jvm.MethodName) ({ cls := "PhraseRoadsModel", name := "agreed", desc := "(I)I" } : Jvm.MethodName) ∈ lw_tbl := List.mem_of_getElem? (i := 2119) (by decide +kernel)
theorem wd_2120 : Jvm.Cond.code ({ cls := "PhraseRoadsModel", name := "agreed", desc := "(I)I" } : Jvm.MethodName) prog_13_method_106_code (8 : Nat) (Option.some Jvm.ClassFile.FieldType.int) ∈ lw_tbl := List.mem_of_getElem? (i := 2120) (by decide +kernel)
theorem wd_2121 : Jvm.Cond.methodLink "PhraseRoadsLaw" (216 : Nat) ({ cls := "PhraseRoadsModel", name := "needed", desc := "()I" } : Jvm.MethodName) ∈ lw_tbl := List.mem_of_getElem? (i := 2121) (by decide +kernel)
theorem wd_2122 : Jvm.Cond.instanceMethod ({ cls := "PhraseRoadsModel", name := "needed", desc := "()I" } : Jvm.MethodName) ∈ lw_tbl := List.mem_of_getElem? (i := 2122) (by decide +kernel)
theorem wd_2123 : Jvm.Cond.selects "PhraseRoadsModel" ({ cls := "PhraseRoadsModel", name := "needed", desc := "()I" } : Jvm.MethodName) ({ cls := "PhraseRoadsModel", name := "needed", desc := "()I" } : Jvm.MethodName) ∈ lw_tbl := List.mem_of_getElem? (i := 2123) (by decide +kernel)
theorem wd_2124 : Jvm.Cond.code ({ cls := "PhraseRoadsModel", name := "needed", desc := "()I" } : Jvm.MethodName) prog_13_method_108_code (3 : Nat) (Option.some Jvm.ClassFile.FieldType.int) ∈ lw_tbl := List.mem_of_getElem? (i := 2124) (by decide +kernel)
theorem wd_2125 : Jvm.Cond.methodLink "PhraseRoadsLaw" (220 : Nat) ({ cls := "PhraseRoadsModel", name := "idle", desc := "()I" } : Jvm.MethodName) ∈ lw_tbl := List.mem_of_getElem? (i := 2125) (by decide +kernel)
theorem wd_2126 : Jvm.Cond.instanceMethod ({ cls := "PhraseRoadsModel", name := "idle", desc := "()I" } : Jvm.MethodName) ∈ lw_tbl := List.mem_of_getElem? (i := 2126) (by decide +kernel)
theorem wd_2127 : Jvm.Cond.selects "PhraseRoadsModel" ({ cls := "PhraseRoadsModel", name := "idle", desc := "()I" } : Jvm.MethodName) ({ cls := "PhraseRoadsModel", name := "idle", desc := "()I" } : Jvm.MethodName) ∈ lw_tbl := List.mem_of_getElem? (i := 2127) (by decide +kernel)
theorem wd_2128 : Jvm.Cond.code ({ cls := "PhraseRoadsModel", name := "idle", desc := "()I" } : Jvm.MethodName) prog_13_method_109_code (3 : Nat) (Option.some Jvm.ClassFile.FieldType.int) ∈ lw_tbl := List.mem_of_getElem? (i := 2128) (by decide +kernel)
theorem wd_2129 : Jvm.Cond.methodLink "PhraseRoadsLaw" (224 : Nat) ({ cls := "PhraseRoadsModel", name := "reach", desc := "()I" } : Jvm.MethodName) ∈ lw_tbl := List.mem_of_getElem? (i := 2129) (by decide +kernel)
theorem wd_2130 : Jvm.Cond.instanceMethod ({ cls := "PhraseRoadsModel", name := "reach", desc := "()I" } : Jvm.MethodName) ∈ lw_tbl := List.mem_of_getElem? (i := 2130) (by decide +kernel)
theorem wd_2131 : Jvm.Cond.selects "PhraseRoadsModel" ({ cls := "PhraseRoadsModel", name := "reach", desc := "()I" } : Jvm.MethodName) ({ cls := "PhraseRoadsModel", name := "reach", desc := "()I" } : Jvm.MethodName) ∈ lw_tbl := List.mem_of_getElem? (i := 2131) (by decide +kernel)
theorem wd_2132 : Jvm.Cond.code ({ cls := "PhraseRoadsModel", name := "reach", desc := "()I" } : Jvm.MethodName) prog_13_method_111_code (3 : Nat) (Option.some Jvm.ClassFile.FieldType.int) ∈ lw_tbl := List.mem_of_getElem? (i := 2132) (by decide +kernel)
theorem wd_2133 : Jvm.Cond.methodLink "PhraseRoadsModel" (416 : Nat) ({ cls := "PhraseRoadsModel", name := "exactBy", desc := "(II)I" } : Jvm.MethodName) ∈ lw_tbl := List.mem_of_getElem? (i := 2133) (by decide +kernel)
theorem wd_2135 : Jvm.Cond.instanceMethod ({ cls := "PhraseRoadsModel", name := "exactBy", desc := "(II)I" } : Jvm.MethodName) ∈ lw_tbl := List.mem_of_getElem? (i := 2135) (by decide +kernel)
theorem wd_2136 : Jvm.Cond.code ({ cls := "PhraseRoadsModel", name := "exactBy", desc := "(II)I" } : Jvm.MethodName) prog_13_method_110_code (5 : Nat) (Option.some Jvm.ClassFile.FieldType.int) ∈ lw_tbl := List.mem_of_getElem? (i := 2136) (by decide +kernel)
theorem wd_2137 : Jvm.Cond.methodLink "PhraseRoadsLaw" (228 : Nat) ({ cls := "PhraseRoadsModel", name := "width", desc := "()I" } : Jvm.MethodName) ∈ lw_tbl := List.mem_of_getElem? (i := 2137) (by decide +kernel)
theorem wd_2138 : Jvm.Cond.instanceMethod ({ cls := "PhraseRoadsModel", name := "width", desc := "()I" } : Jvm.MethodName) ∈ lw_tbl := List.mem_of_getElem? (i := 2138) (by decide +kernel)
theorem wd_2139 : Jvm.Cond.selects "PhraseRoadsModel" ({ cls := "PhraseRoadsModel", name := "width", desc := "()I" } : Jvm.MethodName) ({ cls := "PhraseRoadsModel", name := "width", desc := "()I" } : Jvm.MethodName) ∈ lw_tbl := List.mem_of_getElem? (i := 2139) (by decide +kernel)
theorem wd_2140 : Jvm.Cond.code ({ cls := "PhraseRoadsModel", name := "width", desc := "()I" } : Jvm.MethodName) prog_13_method_112_code (5 : Nat) (Option.some Jvm.ClassFile.FieldType.int) ∈ lw_tbl := List.mem_of_getElem? (i := 2140) (by decide +kernel)
theorem wd_2141 : Jvm.Cond.methodLink "PhraseRoadsLaw" (231 : Nat) ({ cls := "PhraseRoadsModel", name := "tuned", desc := "()I" } : Jvm.MethodName) ∈ lw_tbl := List.mem_of_getElem? (i := 2141) (by decide +kernel)
theorem wd_2142 : Jvm.Cond.instanceMethod ({ cls := "PhraseRoadsModel", name := "tuned", desc := "()I" } : Jvm.MethodName) ∈ lw_tbl := List.mem_of_getElem? (i := 2142) (by decide +kernel)
theorem wd_2143 : Jvm.Cond.selects "PhraseRoadsModel" ({ cls := "PhraseRoadsModel", name := "tuned", desc := "()I" } : Jvm.MethodName) ({ cls := "PhraseRoadsModel", name := "tuned", desc := "()I" } : Jvm.MethodName) ∈ lw_tbl := List.mem_of_getElem? (i := 2143) (by decide +kernel)
theorem wd_2144 : Jvm.Cond.code ({ cls := "PhraseRoadsModel", name := "tuned", desc := "()I" } : Jvm.MethodName) prog_13_method_113_code (6 : Nat) (Option.some Jvm.ClassFile.FieldType.int) ∈ lw_tbl := List.mem_of_getElem? (i := 2144) (by decide +kernel)
theorem wd_2145 : Jvm.Cond.methodLink "PhraseRoadsLaw" (235 : Nat) ({ cls := "PhraseRoadsModel", name := "image", desc := "()V" } : Jvm.MethodName) ∈ lw_tbl := List.mem_of_getElem? (i := 2145) (by decide +kernel)
theorem wd_2146 : Jvm.Cond.instanceMethod ({ cls := "PhraseRoadsModel", name := "image", desc := "()V" } : Jvm.MethodName) ∈ lw_tbl := List.mem_of_getElem? (i := 2146) (by decide +kernel)
theorem wd_2147 : Jvm.Cond.selects "PhraseRoadsModel" ({ cls := "PhraseRoadsModel", name := "image", desc := "()V" } : Jvm.MethodName) ({ cls := "PhraseRoadsModel", name := "image", desc := "()V" } : Jvm.MethodName) ∈ lw_tbl := List.mem_of_getElem? (i := 2147) (by decide +kernel)
theorem wd_2148 : Jvm.Cond.code ({ cls := "PhraseRoadsModel", name := "image", desc := "()V" } : Jvm.MethodName) prog_13_method_114_code (2 : Nat) (Option.none : Option Jvm.ClassFile.FieldType) ∈ lw_tbl := List.mem_of_getElem? (i := 2148) (by decide +kernel)
theorem wd_2149 : Jvm.Cond.methodLink "PhraseRoadsLaw" (240 : Nat) ({ cls := "PhraseRoadsModel", name := "back", desc := "()Z" } : Jvm.MethodName) ∈ lw_tbl := List.mem_of_getElem? (i := 2149) (by decide +kernel)
theorem wd_2150 : Jvm.Cond.instanceMethod ({ cls := "PhraseRoadsModel", name := "back", desc := "()Z" } : Jvm.MethodName) ∈ lw_tbl := List.mem_of_getElem? (i := 2150) (by decide +kernel)
theorem wd_2151 : Jvm.Cond.selects "PhraseRoadsModel" ({ cls := "PhraseRoadsModel", name := "back", desc := "()Z" } : Jvm.MethodName) ({ cls := "PhraseRoadsModel", name := "back", desc := "()Z" } : Jvm.MethodName) ∈ lw_tbl := List.mem_of_getElem? (i := 2151) (by decide +kernel)
theorem wd_2152 : Jvm.Cond.code ({ cls := "PhraseRoadsModel", name := "back", desc := "()Z" } : Jvm.MethodName) prog_13_method_115_code (2 : Nat) (Option.some Jvm.ClassFile.FieldType.boolean) ∈ lw_tbl := List.mem_of_getElem? (i := 2152) (by decide +kernel)
theorem wd_2153 : Jvm.Cond.methodLink "PhraseRoadsLaw" (244 : Nat) ({ cls := "PhraseRoadsModel", name := "count", desc := "(I)I" } : Jvm.MethodName) ∈ lw_tbl := List.mem_of_getElem? (i := 2153) (by decide +kernel)
theorem wd_2154 : Jvm.Cond.instanceMethod ({ cls := "PhraseRoadsModel", name := "count", desc := "(I)I" } : Jvm.MethodName) ∈ lw_tbl := List.mem_of_getElem? (i := 2154) (by decide +kernel)
theorem wd_2155 : Jvm.Cond.selects "PhraseRoadsModel" ({ cls := "PhraseRoadsModel", name := "count", desc := "(I)I" } : Jvm.MethodName) ({ cls := "PhraseRoadsModel", name := "count", desc := "(I)I" } : Jvm.MethodName) ∈ lw_tbl := List.mem_of_getElem? (i := 2155) (by decide +kernel)
theorem wd_2156 : Jvm.Cond.code ({ cls := "PhraseRoadsModel", name := "count", desc := "(I)I" } : Jvm.MethodName) prog_13_method_116_code (4 : Nat) (Option.some Jvm.ClassFile.FieldType.int) ∈ lw_tbl := List.mem_of_getElem? (i := 2156) (by decide +kernel)
abbrev mX0_init : AM := (yX0_init, cX0_init, 2, none, [])
theorem kX0_init : ae_m mX0_init 1 := ⟨rfl, wd_609, rfl, wd_173, ⟨by decide +kernel, by decide +kernel, by decide +kernel⟩, by decide⟩
abbrev mX0_countWays : AM := (yX0_countWays, cX0_countWays, 5, (some .int), [])
theorem kX0_countWays : ae_m mX0_countWays 1 := ⟨rfl, wd_852, rfl, wd_173, ⟨by decide +kernel, by decide +kernel, by decide +kernel⟩, by decide⟩
abbrev mX0_countFrom : AM := (yX0_countFrom, cX0_countFrom, 6, none, [])
theorem kX0_countFrom : ae_m mX0_countFrom 2 := ⟨rfl, wd_858, rfl, wd_173, ⟨by decide +kernel, by decide +kernel, by decide +kernel⟩, by decide⟩
abbrev mX0_cheapestTelling : AM := (yX0_cheapestTelling, cX0_cheapestTelling, 8, (some .int), [])
theorem kX0_cheapestTelling : ae_m mX0_cheapestTelling 4 := ⟨rfl, wd_1468, rfl, wd_173, ⟨by decide +kernel, by decide +kernel, by decide +kernel⟩, by decide⟩
abbrev mX0_tellFrom : AM := (yX0_tellFrom, cX0_tellFrom, 14, none, [])
theorem kX0_tellFrom : ae_m mX0_tellFrom 5 := ⟨rfl, wd_1473, rfl, wd_173, ⟨by decide +kernel, by decide +kernel, by decide +kernel⟩, by decide⟩
abbrev mX0_tells : AM := (yX0_tells, cX0_tells, 6, (some .boolean), [])
theorem kX0_tells : ae_m mX0_tells 4 := ⟨rfl, wd_1480, rfl, wd_173, ⟨by decide +kernel, by decide +kernel, by decide +kernel⟩, by decide⟩
abbrev mX0_wordAhead : AM := (yX0_wordAhead, cX0_wordAhead, 2, (some .int), [])
theorem kX0_wordAhead : ae_m mX0_wordAhead 2 := ⟨rfl, wd_1476, rfl, wd_173, ⟨by decide +kernel, by decide +kernel, by decide +kernel⟩, by decide⟩
abbrev mX1_init : AM := (yX1_init, cX1_init, 2, none, [])
theorem kX1_init : ae_m mX1_init 1 := ⟨rfl, wd_428, rfl, wd_169, ⟨by decide +kernel, by decide +kernel, by decide +kernel⟩, by decide⟩
abbrev mX1_mask : AM := (yX1_mask, cX1_mask, 2, (some .int), [])
theorem kX1_mask : ae_m mX1_mask 1 := ⟨rfl, wd_810, rfl, wd_169, ⟨by decide +kernel, by decide +kernel, by decide +kernel⟩, by decide⟩
abbrev mX1_behind : AM := (yX1_behind, cX1_behind, 2, (some .int), [])
theorem kX1_behind : ae_m mX1_behind 1 := ⟨rfl, wd_814, rfl, wd_169, ⟨by decide +kernel, by decide +kernel, by decide +kernel⟩, by decide⟩
abbrev mX1_last : AM := (yX1_last, cX1_last, 2, (some .int), [])
theorem kX1_last : ae_m mX1_last 1 := ⟨rfl, wd_798, rfl, wd_169, ⟨by decide +kernel, by decide +kernel, by decide +kernel⟩, by decide⟩
abbrev mX1_cheapest : AM := (yX1_cheapest, cX1_cheapest, 1, (some .int), [])
theorem kX1_cheapest : ae_m mX1_cheapest 0 := ⟨rfl, wd_839, rfl, wd_169, ⟨by decide +kernel, by decide +kernel, by decide +kernel⟩, by decide⟩
abbrev mX1_codeBehind : AM := (yX1_codeBehind, cX1_codeBehind, 5, (some .int), [])
theorem kX1_codeBehind : ae_m mX1_codeBehind 3 := ⟨rfl, wd_766, rfl, wd_169, ⟨by decide +kernel, by decide +kernel, by decide +kernel⟩, by decide⟩
abbrev mX1_follow : AM := (yX1_follow, cX1_follow, 4, (some .int), [])
theorem kX1_follow : ae_m mX1_follow 3 := ⟨rfl, wd_826, rfl, wd_169, ⟨by decide +kernel, by decide +kernel, by decide +kernel⟩, by decide⟩
abbrev mX1_explore : AM := (yX1_explore, cX1_explore, 3, none, [])
theorem kX1_explore : ae_m mX1_explore 0 := ⟨rfl, wd_741, rfl, wd_169, ⟨by decide +kernel, by decide +kernel, by decide +kernel⟩, by decide⟩
abbrev mX1_exploreMask : AM := (yX1_exploreMask, cX1_exploreMask, 6, none, [])
theorem kX1_exploreMask : ae_m mX1_exploreMask 1 := ⟨rfl, wd_755, rfl, wd_169, ⟨by decide +kernel, by decide +kernel, by decide +kernel⟩, by decide⟩
abbrev mX1_mayEnd : AM := (yX1_mayEnd, cX1_mayEnd, 2, (some .boolean), [])
theorem kX1_mayEnd : ae_m mX1_mayEnd 2 := ⟨rfl, wd_758, rfl, wd_169, ⟨by decide +kernel, by decide +kernel, by decide +kernel⟩, by decide⟩
abbrev mX1_meetFrom : AM := (yX1_meetFrom, cX1_meetFrom, 4, none, [])
theorem kX1_meetFrom : ae_m mX1_meetFrom 2 := ⟨rfl, wd_762, rfl, wd_169, ⟨by decide +kernel, by decide +kernel, by decide +kernel⟩, by decide⟩
abbrev mX1_reckon : AM := (yX1_reckon, cX1_reckon, 6, none, [])
theorem kX1_reckon : ae_m mX1_reckon 3 := ⟨rfl, wd_794, rfl, wd_169, ⟨by decide +kernel, by decide +kernel, by decide +kernel⟩, by decide⟩
abbrev mX1_leastRest : AM := (yX1_leastRest, cX1_leastRest, 9, (some .int), [])
theorem kX1_leastRest : ae_m mX1_leastRest 1 := ⟨rfl, wd_806, rfl, wd_169, ⟨by decide +kernel, by decide +kernel, by decide +kernel⟩, by decide⟩
abbrev mX2_init : AM := (yX2_init, cX2_init, 1, none, [])
theorem kX2_init : ae_m mX2_init 0 := ⟨rfl, wd_200, rfl, wd_166, ⟨by decide +kernel, by decide +kernel, by decide +kernel⟩, by decide⟩
abbrev mX2_copy : AM := (yX2_copy, cX2_copy, 3, none, [])
theorem kX2_copy : ae_m mX2_copy 1 := ⟨rfl, wd_973, rfl, wd_166, ⟨by decide +kernel, by decide +kernel, by decide +kernel⟩, by decide⟩
abbrev mX2_findWord : AM := (yX2_findWord, cX2_findWord, 5, (some .int), [])
theorem kX2_findWord : ae_m mX2_findWord 3 := ⟨rfl, wd_1042, rfl, wd_166, ⟨by decide +kernel, by decide +kernel, by decide +kernel⟩, by decide⟩
abbrev mX2_addWord : AM := (yX2_addWord, cX2_addWord, 5, (some .int), [])
theorem kX2_addWord : ae_m mX2_addWord 3 := ⟨rfl, wd_1046, rfl, wd_166, ⟨by decide +kernel, by decide +kernel, by decide +kernel⟩, by decide⟩
abbrev mX2_findPhrase : AM := (yX2_findPhrase, cX2_findPhrase, 9, (some .int), [])
theorem kX2_findPhrase : ae_m mX2_findPhrase 6 := ⟨rfl, wd_1075, rfl, wd_166, ⟨by decide +kernel, by decide +kernel, by decide +kernel⟩, by decide⟩
abbrev mX2_addPhrase : AM := (yX2_addPhrase, cX2_addPhrase, 9, none, [])
theorem kX2_addPhrase : ae_m mX2_addPhrase 7 := ⟨rfl, wd_1080, rfl, wd_166, ⟨by decide +kernel, by decide +kernel, by decide +kernel⟩, by decide⟩
abbrev mX2_hasTwin : AM := (yX2_hasTwin, cX2_hasTwin, 3, (some .boolean), [])
theorem kX2_hasTwin : ae_m mX2_hasTwin 1 := ⟨rfl, wd_1360, rfl, wd_166, ⟨by decide +kernel, by decide +kernel, by decide +kernel⟩, by decide⟩
abbrev mX2_livingPhrases : AM := (yX2_livingPhrases, cX2_livingPhrases, 3, (some .int), [])
theorem kX2_livingPhrases : ae_m mX2_livingPhrases 0 := ⟨rfl, wd_994, rfl, wd_166, ⟨by decide +kernel, by decide +kernel, by decide +kernel⟩, by decide⟩
abbrev mX2_flow : AM := (yX2_flow, cX2_flow, 4, (some .int), [])
theorem kX2_flow : ae_m mX2_flow 2 := ⟨rfl, wd_737, rfl, wd_166, ⟨by decide +kernel, by decide +kernel, by decide +kernel⟩, by decide⟩
abbrev mX2_isOption : AM := (yX2_isOption, cX2_isOption, 3, (some .boolean), [])
theorem kX2_isOption : ae_m mX2_isOption 2 := ⟨rfl, wd_719, rfl, wd_166, ⟨by decide +kernel, by decide +kernel, by decide +kernel⟩, by decide⟩
abbrev mX2_enterBook : AM := (yX2_enterBook, cX2_enterBook, 6, (some .int), [])
theorem kX2_enterBook : ae_m mX2_enterBook 1 := ⟨rfl, wd_1070, rfl, wd_166, ⟨by decide +kernel, by decide +kernel, by decide +kernel⟩, by decide⟩
abbrev mX2_enterFluency : AM := (yX2_enterFluency, cX2_enterFluency, 4, none, [])
theorem kX2_enterFluency : ae_m mX2_enterFluency 1 := ⟨rfl, wd_1177, rfl, wd_166, ⟨by decide +kernel, by decide +kernel, by decide +kernel⟩, by decide⟩
abbrev mX2_enterSentence : AM := (yX2_enterSentence, cX2_enterSentence, 2, none, [])
theorem kX2_enterSentence : ae_m mX2_enterSentence 1 := ⟨rfl, wd_1192, rfl, wd_166, ⟨by decide +kernel, by decide +kernel, by decide +kernel⟩, by decide⟩
abbrev mX2_sameRow : AM := (yX2_sameRow, cX2_sameRow, 6, (some .boolean), [])
theorem kX2_sameRow : ae_m mX2_sameRow 5 := ⟨rfl, wd_722, rfl, wd_166, ⟨by decide +kernel, by decide +kernel, by decide +kernel⟩, by decide⟩
abbrev mX3_enter : AM := (yX3_enter, cX3_enter, 6, (some .int), [])
theorem kX3_enter : ae_m mX3_enter 2 := ⟨rfl, wd_1212, rfl, wd_182, ⟨by decide +kernel, by decide +kernel, by decide +kernel⟩, by decide⟩
abbrev mX3_enterAhead : AM := (yX3_enterAhead, cX3_enterAhead, 11, (some .int), [])
theorem kX3_enterAhead : ae_m mX3_enterAhead 4 := ⟨rfl, wd_1215, rfl, wd_182, ⟨by decide +kernel, by decide +kernel, by decide +kernel⟩, by decide⟩
abbrev mX3_belong : AM := (yX3_belong, cX3_belong, 10, (some .boolean), [])
theorem kX3_belong : ae_m mX3_belong 5 := ⟨rfl, wd_1218, rfl, wd_182, ⟨by decide +kernel, by decide +kernel, by decide +kernel⟩, by decide⟩
abbrev mX3_unlinked : AM := (yX3_unlinked, cX3_unlinked, 8, (some .int), [])
theorem kX3_unlinked : ae_m mX3_unlinked 5 := ⟨rfl, wd_1228, rfl, wd_182, ⟨by decide +kernel, by decide +kernel, by decide +kernel⟩, by decide⟩
abbrev mX3_bitsOf : AM := (yX3_bitsOf, cX3_bitsOf, 2, (some .int), [])
theorem kX3_bitsOf : ae_m mX3_bitsOf 2 := ⟨rfl, wd_1221, rfl, wd_182, ⟨by decide +kernel, by decide +kernel, by decide +kernel⟩, by decide⟩
abbrev mX4_init : AM := (yX4_init, cX4_init, 1, none, [])
theorem kX4_init : ae_m mX4_init 0 := ⟨rfl, wd_625, rfl, wd_174, ⟨by decide +kernel, by decide +kernel, by decide +kernel⟩, by decide⟩
abbrev mX4_apart : AM := (yX4_apart, cX4_apart, 9, (some .int), [])
theorem kX4_apart : ae_m mX4_apart 4 := ⟨rfl, wd_1494, rfl, wd_174, ⟨by decide +kernel, by decide +kernel, by decide +kernel⟩, by decide⟩
abbrev mX4_common : AM := (yX4_common, cX4_common, 9, (some .int), [])
theorem kX4_common : ae_m mX4_common 5 := ⟨rfl, wd_1507, rfl, wd_174, ⟨by decide +kernel, by decide +kernel, by decide +kernel⟩, by decide⟩
abbrev mX4_howOften : AM := (yX4_howOften, cX4_howOften, 8, (some .int), [])
theorem kX4_howOften : ae_m mX4_howOften 5 := ⟨rfl, wd_1511, rfl, wd_174, ⟨by decide +kernel, by decide +kernel, by decide +kernel⟩, by decide⟩
abbrev mX4_clear : AM := (yX4_clear, cX4_clear, 1, none, [])
theorem kX4_clear : ae_m mX4_clear 0 := ⟨rfl, wd_1524, rfl, wd_174, ⟨by decide +kernel, by decide +kernel, by decide +kernel⟩, by decide⟩
abbrev mX4_add : AM := (yX4_add, cX4_add, 3, none, [])
theorem kX4_add : ae_m mX4_add 2 := ⟨rfl, wd_1528, rfl, wd_174, ⟨by decide +kernel, by decide +kernel, by decide +kernel⟩, by decide⟩
abbrev mX4_middle : AM := (yX4_middle, cX4_middle, 6, (some .int), [])
theorem kX4_middle : ae_m mX4_middle 0 := ⟨rfl, wd_1533, rfl, wd_174, ⟨by decide +kernel, by decide +kernel, by decide +kernel⟩, by decide⟩
abbrev mX5_init : AM := (yX5_init, cX5_init, 2, none, [])
theorem kX5_init : ae_m mX5_init 1 := ⟨rfl, wd_358, rfl, wd_168, ⟨by decide +kernel, by decide +kernel, by decide +kernel⟩, by decide⟩
abbrev mX5_gather : AM := (yX5_gather, cX5_gather, 4, none, [])
theorem kX5_gather : ae_m mX5_gather 1 := ⟨rfl, wd_715, rfl, wd_168, ⟨by decide +kernel, by decide +kernel, by decide +kernel⟩, by decide⟩
abbrev mX5_add : AM := (yX5_add, cX5_add, 5, none, [])
theorem kX5_add : ae_m mX5_add 4 := ⟨rfl, wd_726, rfl, wd_168, ⟨by decide +kernel, by decide +kernel, by decide +kernel⟩, by decide⟩
abbrev mX5_bring : AM := (yX5_bring, cX5_bring, 5, none, [])
theorem kX5_bring : ae_m mX5_bring 3 := ⟨rfl, wd_730, rfl, wd_168, ⟨by decide +kernel, by decide +kernel, by decide +kernel⟩, by decide⟩
abbrev mX5_howOften : AM := (yX5_howOften, cX5_howOften, 4, (some .int), [])
theorem kX5_howOften : ae_m mX5_howOften 1 := ⟨rfl, wd_915, rfl, wd_168, ⟨by decide +kernel, by decide +kernel, by decide +kernel⟩, by decide⟩
abbrev mX5_numberAt : AM := (yX5_numberAt, cX5_numberAt, 5, (some .int), [])
theorem kX5_numberAt : ae_m mX5_numberAt 2 := ⟨rfl, wd_1385, rfl, wd_168, ⟨by decide +kernel, by decide +kernel, by decide +kernel⟩, by decide⟩
abbrev mX5_full : AM := (yX5_full, cX5_full, 1, (some .int), [])
theorem kX5_full : ae_m mX5_full 0 := ⟨rfl, wd_745, rfl, wd_168, ⟨by decide +kernel, by decide +kernel, by decide +kernel⟩, by decide⟩
abbrev mX5_gap : AM := (yX5_gap, cX5_gap, 3, (some .int), [])
theorem kX5_gap : ae_m mX5_gap 2 := ⟨rfl, wd_819, rfl, wd_168, ⟨by decide +kernel, by decide +kernel, by decide +kernel⟩, by decide⟩
abbrev mX5_standing : AM := (yX5_standing, cX5_standing, 3, (some .int), [])
theorem kX5_standing : ae_m mX5_standing 2 := ⟨rfl, wd_830, rfl, wd_168, ⟨by decide +kernel, by decide +kernel, by decide +kernel⟩, by decide⟩
abbrev mX5_ending : AM := (yX5_ending, cX5_ending, 2, (some .int), [])
theorem kX5_ending : ae_m mX5_ending 1 := ⟨rfl, wd_802, rfl, wd_168, ⟨by decide +kernel, by decide +kernel, by decide +kernel⟩, by decide⟩
abbrev mX6_init : AM := (yX6_init, cX6_init, 2, none, [])
theorem kX6_init : ae_m mX6_init 1 := ⟨rfl, wd_279, rfl, wd_167, ⟨by decide +kernel, by decide +kernel, by decide +kernel⟩, by decide⟩
abbrev mX6_append : AM := (yX6_append, cX6_append, 3, none, [])
theorem kX6_append : ae_m mX6_append 1 := ⟨rfl, wd_695, rfl, wd_167, ⟨by decide +kernel, by decide +kernel, by decide +kernel⟩, by decide⟩
abbrev mX6_isRight : AM := (yX6_isRight, cX6_isRight, 1, (some .boolean), [])
theorem kX6_isRight : ae_m mX6_isRight 0 := ⟨rfl, wd_1026, rfl, wd_167, ⟨by decide +kernel, by decide +kernel, by decide +kernel⟩, by decide⟩
abbrev mX6_fail : AM := (yX6_fail, cX6_fail, 2, none, [])
theorem kX6_fail : ae_m mX6_fail 1 := ⟨rfl, wd_1038, rfl, wd_167, ⟨by decide +kernel, by decide +kernel, by decide +kernel⟩, by decide⟩
abbrev mX6_readBook : AM := (yX6_readBook, cX6_readBook, 4, none, [])
theorem kX6_readBook : ae_m mX6_readBook 1 := ⟨rfl, wd_1006, rfl, wd_167, ⟨by decide +kernel, by decide +kernel, by decide +kernel⟩, by decide⟩
abbrev mX6_readFluency : AM := (yX6_readFluency, cX6_readFluency, 4, none, [])
theorem kX6_readFluency : ae_m mX6_readFluency 1 := ⟨rfl, wd_1169, rfl, wd_167, ⟨by decide +kernel, by decide +kernel, by decide +kernel⟩, by decide⟩
abbrev mX6_readRow : AM := (yX6_readRow, cX6_readRow, 4, none, [])
theorem kX6_readRow : ae_m mX6_readRow 3 := ⟨rfl, wd_1188, rfl, wd_167, ⟨by decide +kernel, by decide +kernel, by decide +kernel⟩, by decide⟩
abbrev mX6_readLesson : AM := (yX6_readLesson, cX6_readLesson, 4, none, [])
theorem kX6_readLesson : ae_m mX6_readLesson 1 := ⟨rfl, wd_1204, rfl, wd_167, ⟨by decide +kernel, by decide +kernel, by decide +kernel⟩, by decide⟩
abbrev mX6_start : AM := (yX6_start, cX6_start, 3, none, [])
theorem kX6_start : ae_m mX6_start 2 := ⟨rfl, wd_1010, rfl, wd_167, ⟨by decide +kernel, by decide +kernel, by decide +kernel⟩, by decide⟩
abbrev mX6_goesOn : AM := (yX6_goesOn, cX6_goesOn, 2, (some .boolean), [])
theorem kX6_goesOn : ae_m mX6_goesOn 1 := ⟨rfl, wd_1066, rfl, wd_167, ⟨by decide +kernel, by decide +kernel, by decide +kernel⟩, by decide⟩
abbrev mX6_readEntry : AM := (yX6_readEntry, cX6_readEntry, 2, none, [])
theorem kX6_readEntry : ae_m mX6_readEntry 1 := ⟨rfl, wd_1018, rfl, wd_167, ⟨by decide +kernel, by decide +kernel, by decide +kernel⟩, by decide⟩
abbrev mX6_readPair : AM := (yX6_readPair, cX6_readPair, 2, none, [])
theorem kX6_readPair : ae_m mX6_readPair 1 := ⟨rfl, wd_1173, rfl, wd_167, ⟨by decide +kernel, by decide +kernel, by decide +kernel⟩, by decide⟩
abbrev mX6_readLink : AM := (yX6_readLink, cX6_readLink, 4, none, [])
theorem kX6_readLink : ae_m mX6_readLink 0 := ⟨rfl, wd_1209, rfl, wd_167, ⟨by decide +kernel, by decide +kernel, by decide +kernel⟩, by decide⟩
abbrev mX6_readWords : AM := (yX6_readWords, cX6_readWords, 5, (some .int), [])
theorem kX6_readWords : ae_m mX6_readWords 3 := ⟨rfl, wd_1022, rfl, wd_167, ⟨by decide +kernel, by decide +kernel, by decide +kernel⟩, by decide⟩
abbrev mX6_readWord : AM := (yX6_readWord, cX6_readWord, 4, (some .int), [])
theorem kX6_readWord : ae_m mX6_readWord 0 := ⟨rfl, wd_1034, rfl, wd_167, ⟨by decide +kernel, by decide +kernel, by decide +kernel⟩, by decide⟩
abbrev mX6_readNumber : AM := (yX6_readNumber, cX6_readNumber, 5, (some .int), [])
theorem kX6_readNumber : ae_m mX6_readNumber 1 := ⟨rfl, wd_1062, rfl, wd_167, ⟨by decide +kernel, by decide +kernel, by decide +kernel⟩, by decide⟩
abbrev mX6_needSome : AM := (yX6_needSome, cX6_needSome, 2, none, [])
theorem kX6_needSome : ae_m mX6_needSome 1 := ⟨rfl, wd_1050, rfl, wd_167, ⟨by decide +kernel, by decide +kernel, by decide +kernel⟩, by decide⟩
abbrev mX6_expect : AM := (yX6_expect, cX6_expect, 2, none, [])
theorem kX6_expect : ae_m mX6_expect 1 := ⟨rfl, wd_1054, rfl, wd_167, ⟨by decide +kernel, by decide +kernel, by decide +kernel⟩, by decide⟩
abbrev mX6_take : AM := (yX6_take, cX6_take, 2, (some .boolean), [])
theorem kX6_take : ae_m mX6_take 1 := ⟨rfl, wd_1058, rfl, wd_167, ⟨by decide +kernel, by decide +kernel, by decide +kernel⟩, by decide⟩
abbrev mX6_atLetter : AM := (yX6_atLetter, cX6_atLetter, 1, (some .boolean), [])
theorem kX6_atLetter : ae_m mX6_atLetter 0 := ⟨rfl, wd_1030, rfl, wd_167, ⟨by decide +kernel, by decide +kernel, by decide +kernel⟩, by decide⟩
abbrev mX6_skipBlanks : AM := (yX6_skipBlanks, cX6_skipBlanks, 1, none, [])
theorem kX6_skipBlanks : ae_m mX6_skipBlanks 0 := ⟨rfl, wd_1014, rfl, wd_167, ⟨by decide +kernel, by decide +kernel, by decide +kernel⟩, by decide⟩
abbrev mX7_init : AM := (yX7_init, cX7_init, 4, none, [])
theorem kX7_init : ae_m mX7_init 3 := ⟨rfl, wd_540, rfl, wd_172, ⟨by decide +kernel, by decide +kernel, by decide +kernel⟩, by decide⟩
abbrev mX7_fill : AM := (yX7_fill, cX7_fill, 6, none, [])
theorem kX7_fill : ae_m mX7_fill 3 := ⟨rfl, wd_927, rfl, wd_172, ⟨by decide +kernel, by decide +kernel, by decide +kernel⟩, by decide⟩
abbrev mX7_lay : AM := (yX7_lay, cX7_lay, 7, none, [])
theorem kX7_lay : ae_m mX7_lay 4 := ⟨rfl, wd_932, rfl, wd_172, ⟨by decide +kernel, by decide +kernel, by decide +kernel⟩, by decide⟩
abbrev mX7_score : AM := (yX7_score, cX7_score, 2, (some .int), [])
theorem kX7_score : ae_m mX7_score 1 := ⟨rfl, wd_938, rfl, wd_172, ⟨by decide +kernel, by decide +kernel, by decide +kernel⟩, by decide⟩
abbrev mX7_choose : AM := (yX7_choose, cX7_choose, 4, none, [])
theorem kX7_choose : ae_m mX7_choose 2 := ⟨rfl, wd_943, rfl, wd_172, ⟨by decide +kernel, by decide +kernel, by decide +kernel⟩, by decide⟩
abbrev mX7_offer : AM := (yX7_offer, cX7_offer, 6, none, [])
theorem kX7_offer : ae_m mX7_offer 2 := ⟨rfl, wd_947, rfl, wd_172, ⟨by decide +kernel, by decide +kernel, by decide +kernel⟩, by decide⟩
abbrev mX7_goOn : AM := (yX7_goOn, cX7_goOn, 10, none, [])
theorem kX7_goOn : ae_m mX7_goOn 3 := ⟨rfl, wd_951, rfl, wd_172, ⟨by decide +kernel, by decide +kernel, by decide +kernel⟩, by decide⟩
abbrev mX7_find : AM := (yX7_find, cX7_find, 4, none, [])
theorem kX7_find : ae_m mX7_find 0 := ⟨rfl, wd_960, rfl, wd_172, ⟨by decide +kernel, by decide +kernel, by decide +kernel⟩, by decide⟩
abbrev mX7_tracePath : AM := (yX7_tracePath, cX7_tracePath, 4, none, [])
theorem kX7_tracePath : ae_m mX7_tracePath 1 := ⟨rfl, wd_965, rfl, wd_172, ⟨by decide +kernel, by decide +kernel, by decide +kernel⟩, by decide⟩
abbrev mX8_init : AM := (yX8_init, cX8_init, 2, none, [])
theorem kX8_init : ae_m mX8_init 1 := ⟨rfl, wd_522, rfl, wd_171, ⟨by decide +kernel, by decide +kernel, by decide +kernel⟩, by decide⟩
abbrev mX8_reckon : AM := (yX8_reckon, cX8_reckon, 3, none, [])
theorem kX8_reckon : ae_m mX8_reckon 0 := ⟨rfl, wd_770, rfl, wd_171, ⟨by decide +kernel, by decide +kernel, by decide +kernel⟩, by decide⟩
abbrev mX8_join : AM := (yX8_join, cX8_join, 6, none, [])
theorem kX8_join : ae_m mX8_join 2 := ⟨rfl, wd_781, rfl, wd_171, ⟨by decide +kernel, by decide +kernel, by decide +kernel⟩, by decide⟩
abbrev mX8_reckonAhead : AM := (yX8_reckonAhead, cX8_reckonAhead, 7, (some .int), [])
theorem kX8_reckonAhead : ae_m mX8_reckonAhead 1 := ⟨rfl, wd_786, rfl, wd_171, ⟨by decide +kernel, by decide +kernel, by decide +kernel⟩, by decide⟩
abbrev mX9_init : AM := (yX9_init, cX9_init, 3, none, [])
theorem kX9_init : ae_m mX9_init 2 := ⟨rfl, wd_467, rfl, wd_170, ⟨by decide +kernel, by decide +kernel, by decide +kernel⟩, by decide⟩
abbrev mX9_begin : AM := (yX9_begin, cX9_begin, 1, none, [])
theorem kX9_begin : ae_m mX9_begin 0 := ⟨rfl, wd_835, rfl, wd_170, ⟨by decide +kernel, by decide +kernel, by decide +kernel⟩, by decide⟩
abbrev mX9_costOf : AM := (yX9_costOf, cX9_costOf, 2, (some .int), [])
theorem kX9_costOf : ae_m mX9_costOf 1 := ⟨rfl, wd_1410, rfl, wd_170, ⟨by decide +kernel, by decide +kernel, by decide +kernel⟩, by decide⟩
abbrev mX9_bring : AM := (yX9_bring, cX9_bring, 3, none, [])
theorem kX9_bring : ae_m mX9_bring 1 := ⟨rfl, wd_873, rfl, wd_170, ⟨by decide +kernel, by decide +kernel, by decide +kernel⟩, by decide⟩
abbrev mX9_unfold : AM := (yX9_unfold, cX9_unfold, 7, (some .boolean), [])
theorem kX9_unfold : ae_m mX9_unfold 1 := ⟨rfl, wd_895, rfl, wd_170, ⟨by decide +kernel, by decide +kernel, by decide +kernel⟩, by decide⟩
abbrev mX9_stepOf : AM := (yX9_stepOf, cX9_stepOf, 3, (some .int), [])
theorem kX9_stepOf : ae_m mX9_stepOf 2 := ⟨rfl, wd_898, rfl, wd_170, ⟨by decide +kernel, by decide +kernel, by decide +kernel⟩, by decide⟩
abbrev mX9_takeFirst : AM := (yX9_takeFirst, cX9_takeFirst, 6, none, [])
theorem kX9_takeFirst : ae_m mX9_takeFirst 0 := ⟨rfl, wd_877, rfl, wd_170, ⟨by decide +kernel, by decide +kernel, by decide +kernel⟩, by decide⟩
abbrev mX9_goOn : AM := (yX9_goOn, cX9_goOn, 17, none, [])
theorem kX9_goOn : ae_m mX9_goOn 4 := ⟨rfl, wd_885, rfl, wd_170, ⟨by decide +kernel, by decide +kernel, by decide +kernel⟩, by decide⟩
abbrev mX9_enqueue : AM := (yX9_enqueue, cX9_enqueue, 8, none, [])
theorem kX9_enqueue : ae_m mX9_enqueue 4 := ⟨rfl, wd_843, rfl, wd_170, ⟨by decide +kernel, by decide +kernel, by decide +kernel⟩, by decide⟩
abbrev mX10_init : AM := (yX10_init, cX10_init, 1, none, [])
theorem kX10_init : ae_m mX10_init 0 := ⟨rfl, wd_192, rfl, wd_165, ⟨by decide +kernel, by decide +kernel, by decide +kernel⟩, by decide⟩
abbrev mX10_feed : AM := (yX10_feed, cX10_feed, 6, (some .int), [])
theorem kX10_feed : ae_m mX10_feed 5 := ⟨rfl, wd_691, rfl, wd_165, ⟨by decide +kernel, by decide +kernel, by decide +kernel⟩, by decide⟩
abbrev mX10_end : AM := (yX10_end, cX10_end, 2, (some .boolean), [])
theorem kX10_end : ae_m mX10_end 1 := ⟨rfl, wd_699, rfl, wd_165, ⟨by decide +kernel, by decide +kernel, by decide +kernel⟩, by decide⟩
abbrev mX10_book : AM := (yX10_book, cX10_book, 2, (some .int), [])
theorem kX10_book : ae_m mX10_book 0 := ⟨rfl, wd_1002, rfl, wd_165, ⟨by decide +kernel, by decide +kernel, by decide +kernel⟩, by decide⟩
abbrev mX10_fluency : AM := (yX10_fluency, cX10_fluency, 1, (some .int), [])
theorem kX10_fluency : ae_m mX10_fluency 0 := ⟨rfl, wd_1165, rfl, wd_165, ⟨by decide +kernel, by decide +kernel, by decide +kernel⟩, by decide⟩
abbrev mX10_sentence : AM := (yX10_sentence, cX10_sentence, 1, (some .int), [])
theorem kX10_sentence : ae_m mX10_sentence 0 := ⟨rfl, wd_1184, rfl, wd_165, ⟨by decide +kernel, by decide +kernel, by decide +kernel⟩, by decide⟩
abbrev mX10_learn : AM := (yX10_learn, cX10_learn, 2, (some .int), [])
theorem kX10_learn : ae_m mX10_learn 0 := ⟨rfl, wd_1200, rfl, wd_165, ⟨by decide +kernel, by decide +kernel, by decide +kernel⟩, by decide⟩
abbrev mX10_fault : AM := (yX10_fault, cX10_fault, 1, (some .int), [])
theorem kX10_fault : ae_m mX10_fault 0 := ⟨rfl, wd_703, rfl, wd_165, ⟨by decide +kernel, by decide +kernel, by decide +kernel⟩, by decide⟩
abbrev mX10_letter : AM := (yX10_letter, cX10_letter, 3, (some .int), [])
theorem kX10_letter : ae_m mX10_letter 2 := ⟨rfl, wd_1254, rfl, wd_165, ⟨by decide +kernel, by decide +kernel, by decide +kernel⟩, by decide⟩
abbrev mX10_phrase : AM := (yX10_phrase, cX10_phrase, 3, (some .int), [])
theorem kX10_phrase : ae_m mX10_phrase 2 := ⟨rfl, wd_1282, rfl, wd_165, ⟨by decide +kernel, by decide +kernel, by decide +kernel⟩, by decide⟩
abbrev mX10_part : AM := (yX10_part, cX10_part, 6, (some .int), [])
theorem kX10_part : ae_m mX10_part 3 := ⟨rfl, wd_1314, rfl, wd_165, ⟨by decide +kernel, by decide +kernel, by decide +kernel⟩, by decide⟩
abbrev mX10_after : AM := (yX10_after, cX10_after, 3, (some .int), [])
theorem kX10_after : ae_m mX10_after 2 := ⟨rfl, wd_1321, rfl, wd_165, ⟨by decide +kernel, by decide +kernel, by decide +kernel⟩, by decide⟩
abbrev mX10_place : AM := (yX10_place, cX10_place, 2, (some .int), [])
theorem kX10_place : ae_m mX10_place 1 := ⟨rfl, wd_1329, rfl, wd_165, ⟨by decide +kernel, by decide +kernel, by decide +kernel⟩, by decide⟩
abbrev mX10_put : AM := (yX10_put, cX10_put, 4, (some .int), [])
theorem kX10_put : ae_m mX10_put 2 := ⟨rfl, wd_1341, rfl, wd_165, ⟨by decide +kernel, by decide +kernel, by decide +kernel⟩, by decide⟩
abbrev mX10_price : AM := (yX10_price, cX10_price, 4, (some .int), [])
theorem kX10_price : ae_m mX10_price 2 := ⟨rfl, wd_1348, rfl, wd_165, ⟨by decide +kernel, by decide +kernel, by decide +kernel⟩, by decide⟩
abbrev mX10_drop : AM := (yX10_drop, cX10_drop, 3, (some .boolean), [])
theorem kX10_drop : ae_m mX10_drop 2 := ⟨rfl, wd_1356, rfl, wd_165, ⟨by decide +kernel, by decide +kernel, by decide +kernel⟩, by decide⟩
abbrev mX10_tune : AM := (yX10_tune, cX10_tune, 4, (some .int), [])
theorem kX10_tune : ae_m mX10_tune 2 := ⟨rfl, wd_1368, rfl, wd_165, ⟨by decide +kernel, by decide +kernel, by decide +kernel⟩, by decide⟩
abbrev mX10_option : AM := (yX10_option, cX10_option, 3, (some .int), [])
theorem kX10_option : ae_m mX10_option 2 := ⟨rfl, wd_1381, rfl, wd_165, ⟨by decide +kernel, by decide +kernel, by decide +kernel⟩, by decide⟩
abbrev mX10_stretch : AM := (yX10_stretch, cX10_stretch, 3, (some .int), [])
theorem kX10_stretch : ae_m mX10_stretch 2 := ⟨rfl, wd_1392, rfl, wd_165, ⟨by decide +kernel, by decide +kernel, by decide +kernel⟩, by decide⟩
abbrev mX10_exact : AM := (yX10_exact, cX10_exact, 1, (some .int), [])
theorem kX10_exact : ae_m mX10_exact 0 := ⟨rfl, wd_707, rfl, wd_165, ⟨by decide +kernel, by decide +kernel, by decide +kernel⟩, by decide⟩
abbrev mX10_many : AM := (yX10_many, cX10_many, 1, (some .int), [])
theorem kX10_many : ae_m mX10_many 0 := ⟨rfl, wd_848, rfl, wd_165, ⟨by decide +kernel, by decide +kernel, by decide +kernel⟩, by decide⟩
abbrev mX10_way : AM := (yX10_way, cX10_way, 3, (some .int), [])
theorem kX10_way : ae_m mX10_way 2 := ⟨rfl, wd_1400, rfl, wd_165, ⟨by decide +kernel, by decide +kernel, by decide +kernel⟩, by decide⟩
abbrev mX10_step : AM := (yX10_step, cX10_step, 5, (some .int), [])
theorem kX10_step : ae_m mX10_step 3 := ⟨rfl, wd_1417, rfl, wd_165, ⟨by decide +kernel, by decide +kernel, by decide +kernel⟩, by decide⟩
abbrev mX10_word : AM := (yX10_word, cX10_word, 3, (some .int), [])
theorem kX10_word : ae_m mX10_word 2 := ⟨rfl, wd_1425, rfl, wd_165, ⟨by decide +kernel, by decide +kernel, by decide +kernel⟩, by decide⟩
abbrev mX10_found : AM := (yX10_found, cX10_found, 2, (some .int), [])
theorem kX10_found : ae_m mX10_found 1 := ⟨rfl, wd_1432, rfl, wd_165, ⟨by decide +kernel, by decide +kernel, by decide +kernel⟩, by decide⟩
abbrev mX10_halves : AM := (yX10_halves, cX10_halves, 4, (some .int), [])
theorem kX10_halves : ae_m mX10_halves 2 := ⟨rfl, wd_1444, rfl, wd_165, ⟨by decide +kernel, by decide +kernel, by decide +kernel⟩, by decide⟩
abbrev mX10_stack : AM := (yX10_stack, cX10_stack, 3, (some .int), [])
theorem kX10_stack : ae_m mX10_stack 2 := ⟨rfl, wd_1451, rfl, wd_165, ⟨by decide +kernel, by decide +kernel, by decide +kernel⟩, by decide⟩
abbrev mX10_forced : AM := (yX10_forced, cX10_forced, 1, (some .int), [])
theorem kX10_forced : ae_m mX10_forced 0 := ⟨rfl, wd_1460, rfl, wd_165, ⟨by decide +kernel, by decide +kernel, by decide +kernel⟩, by decide⟩
abbrev mX10_near : AM := (yX10_near, cX10_near, 1, (some .int), [])
theorem kX10_near : ae_m mX10_near 0 := ⟨rfl, wd_1490, rfl, wd_165, ⟨by decide +kernel, by decide +kernel, by decide +kernel⟩, by decide⟩
abbrev mX10_match : AM := (yX10_match, cX10_match, 2, (some .int), [])
theorem kX10_match : ae_m mX10_match 1 := ⟨rfl, wd_1502, rfl, wd_165, ⟨by decide +kernel, by decide +kernel, by decide +kernel⟩, by decide⟩
abbrev mX10_agreed : AM := (yX10_agreed, cX10_agreed, 3, (some .int), [])
theorem kX10_agreed : ae_m mX10_agreed 1 := ⟨rfl, wd_1519, rfl, wd_165, ⟨by decide +kernel, by decide +kernel, by decide +kernel⟩, by decide⟩
abbrev mX10_needed : AM := (yX10_needed, cX10_needed, 5, (some .int), [])
theorem kX10_needed : ae_m mX10_needed 0 := ⟨rfl, wd_865, rfl, wd_165, ⟨by decide +kernel, by decide +kernel, by decide +kernel⟩, by decide⟩
abbrev mX10_idle : AM := (yX10_idle, cX10_idle, 3, (some .int), [])
theorem kX10_idle : ae_m mX10_idle 0 := ⟨rfl, wd_911, rfl, wd_165, ⟨by decide +kernel, by decide +kernel, by decide +kernel⟩, by decide⟩
abbrev mX10_reach : AM := (yX10_reach, cX10_reach, 4, (some .int), [])
theorem kX10_reach : ae_m mX10_reach 0 := ⟨rfl, wd_919, rfl, wd_165, ⟨by decide +kernel, by decide +kernel, by decide +kernel⟩, by decide⟩
abbrev mX10_width : AM := (yX10_width, cX10_width, 3, (some .int), [])
theorem kX10_width : ae_m mX10_width 0 := ⟨rfl, wd_923, rfl, wd_165, ⟨by decide +kernel, by decide +kernel, by decide +kernel⟩, by decide⟩
abbrev mX10_tuned : AM := (yX10_tuned, cX10_tuned, 5, (some .int), [])
theorem kX10_tuned : ae_m mX10_tuned 0 := ⟨rfl, wd_1542, rfl, wd_165, ⟨by decide +kernel, by decide +kernel, by decide +kernel⟩, by decide⟩
abbrev mX10_image : AM := (yX10_image, cX10_image, 1, none, [])
theorem kX10_image : ae_m mX10_image 0 := ⟨rfl, wd_969, rfl, wd_165, ⟨by decide +kernel, by decide +kernel, by decide +kernel⟩, by decide⟩
abbrev mX10_back : AM := (yX10_back, cX10_back, 1, (some .boolean), [])
theorem kX10_back : ae_m mX10_back 0 := ⟨rfl, wd_978, rfl, wd_165, ⟨by decide +kernel, by decide +kernel, by decide +kernel⟩, by decide⟩
abbrev mX10_count : AM := (yX10_count, cX10_count, 2, (some .int), [])
theorem kX10_count : ae_m mX10_count 1 := ⟨rfl, wd_990, rfl, wd_165, ⟨by decide +kernel, by decide +kernel, by decide +kernel⟩, by decide⟩
abbrev mX10_checkWord : AM := (yX10_checkWord, cX10_checkWord, 2, none, [])
theorem kX10_checkWord : ae_m mX10_checkWord 1 := ⟨rfl, wd_1258, rfl, wd_165, ⟨by decide +kernel, by decide +kernel, by decide +kernel⟩, by decide⟩
abbrev mX10_checkPhrase : AM := (yX10_checkPhrase, cX10_checkPhrase, 2, none, [])
theorem kX10_checkPhrase : ae_m mX10_checkPhrase 1 := ⟨rfl, wd_1286, rfl, wd_165, ⟨by decide +kernel, by decide +kernel, by decide +kernel⟩, by decide⟩
abbrev mX10_checkPlace : AM := (yX10_checkPlace, cX10_checkPlace, 2, none, [])
theorem kX10_checkPlace : ae_m mX10_checkPlace 1 := ⟨rfl, wd_1333, rfl, wd_165, ⟨by decide +kernel, by decide +kernel, by decide +kernel⟩, by decide⟩
abbrev mX10_checkWay : AM := (yX10_checkWay, cX10_checkWay, 2, none, [])
theorem kX10_checkWay : ae_m mX10_checkWay 1 := ⟨rfl, wd_1405, rfl, wd_165, ⟨by decide +kernel, by decide +kernel, by decide +kernel⟩, by decide⟩
abbrev mX10_checkText : AM := (yX10_checkText, cX10_checkText, 1, none, [])
theorem kX10_checkText : ae_m mX10_checkText 0 := ⟨rfl, wd_1084, rfl, wd_165, ⟨by decide +kernel, by decide +kernel, by decide +kernel⟩, by decide⟩
abbrev mX10_readTold : AM := (yX10_readTold, cX10_readTold, 1, none, [])
theorem kX10_readTold : ae_m mX10_readTold 0 := ⟨rfl, wd_1464, rfl, wd_165, ⟨by decide +kernel, by decide +kernel, by decide +kernel⟩, by decide⟩
abbrev mX10_keepDraft : AM := (yX10_keepDraft, cX10_keepDraft, 2, none, [])
theorem kX10_keepDraft : ae_m mX10_keepDraft 0 := ⟨rfl, wd_1158, rfl, wd_165, ⟨by decide +kernel, by decide +kernel, by decide +kernel⟩, by decide⟩
abbrev mX10_forgetOptions : AM := (yX10_forgetOptions, cX10_forgetOptions, 1, none, [])
theorem kX10_forgetOptions : ae_m mX10_forgetOptions 0 := ⟨rfl, wd_982, rfl, wd_165, ⟨by decide +kernel, by decide +kernel, by decide +kernel⟩, by decide⟩
abbrev mX10_forgetWays : AM := (yX10_forgetWays, cX10_forgetWays, 1, none, [])
theorem kX10_forgetWays : ae_m mX10_forgetWays 0 := ⟨rfl, wd_986, rfl, wd_165, ⟨by decide +kernel, by decide +kernel, by decide +kernel⟩, by decide⟩
abbrev mX10_prepareOptions : AM := (yX10_prepareOptions, cX10_prepareOptions, 1, none, [])
theorem kX10_prepareOptions : ae_m mX10_prepareOptions 0 := ⟨rfl, wd_711, rfl, wd_165, ⟨by decide +kernel, by decide +kernel, by decide +kernel⟩, by decide⟩
abbrev mX10_prepareWays : AM := (yX10_prepareWays, cX10_prepareWays, 1, none, [])
theorem kX10_prepareWays : ae_m mX10_prepareWays 0 := ⟨rfl, wd_790, rfl, wd_165, ⟨by decide +kernel, by decide +kernel, by decide +kernel⟩, by decide⟩
abbrev mX10_prepareStacks : AM := (yX10_prepareStacks, cX10_prepareStacks, 1, none, [])
theorem kX10_prepareStacks : ae_m mX10_prepareStacks 0 := ⟨rfl, wd_1437, rfl, wd_165, ⟨by decide +kernel, by decide +kernel, by decide +kernel⟩, by decide⟩
abbrev mX10_unfoldWay : AM := (yX10_unfoldWay, cX10_unfoldWay, 2, (some .boolean), [])
theorem kX10_unfoldWay : ae_m mX10_unfoldWay 1 := ⟨rfl, wd_869, rfl, wd_165, ⟨by decide +kernel, by decide +kernel, by decide +kernel⟩, by decide⟩
abbrev mX10_reckonOtherwise : AM := (yX10_reckonOtherwise, cX10_reckonOtherwise, 4, (some .int), [])
theorem kX10_reckonOtherwise : ae_m mX10_reckonOtherwise 3 := ⟨rfl, wd_907, rfl, wd_165, ⟨by decide +kernel, by decide +kernel, by decide +kernel⟩, by decide⟩
abbrev mX10_phrasesUnfolded : AM := (yX10_phrasesUnfolded, cX10_phrasesUnfolded, 4, (some .int), [])
theorem kX10_phrasesUnfolded : ae_m mX10_phrasesUnfolded 0 := ⟨rfl, wd_903, rfl, wd_165, ⟨by decide +kernel, by decide +kernel, by decide +kernel⟩, by decide⟩
abbrev mX10_worthOf : AM := (yX10_worthOf, cX10_worthOf, 3, (some .int), [])
theorem kX10_worthOf : ae_m mX10_worthOf 1 := ⟨rfl, wd_1291, rfl, wd_165, ⟨by decide +kernel, by decide +kernel, by decide +kernel⟩, by decide⟩
abbrev mX11_init : AM := (yX11_init, cX11_init, 1, none, [])
theorem kX11_init : ae_m mX11_init 0 := ⟨rfl, wd_1548, rfl, wd_175, ⟨by decide +kernel, by decide +kernel, by decide +kernel⟩, by decide⟩
abbrev mX11_thrown : AM := (yX11_thrown, cX11_thrown, 1, (some .int), [])
theorem kX11_thrown : ae_m mX11_thrown 0 := ⟨rfl, wd_1710, rfl, wd_175, ⟨by decide +kernel, by decide +kernel, by decide +kernel⟩, by decide⟩
abbrev mX11_isIn : AM := (yX11_isIn, cX11_isIn, 3, (some .boolean), [])
theorem kX11_isIn : ae_m mX11_isIn 3 := ⟨rfl, wd_1721, rfl, wd_175, ⟨by decide +kernel, by decide +kernel, by decide +kernel⟩, by decide⟩
abbrev mX11_lesser : AM := (yX11_lesser, cX11_lesser, 2, (some .int), [])
theorem kX11_lesser : ae_m mX11_lesser 2 := ⟨rfl, wd_1923, rfl, wd_175, ⟨by decide +kernel, by decide +kernel, by decide +kernel⟩, by decide⟩
abbrev mX11_apartBy : AM := (yX11_apartBy, cX11_apartBy, 2, (some .int), [])
theorem kX11_apartBy : ae_m mX11_apartBy 2 := ⟨rfl, wd_1904, rfl, wd_175, ⟨by decide +kernel, by decide +kernel, by decide +kernel⟩, by decide⟩
abbrev mX11_isOf : AM := (yX11_isOf, cX11_isOf, 2, (some .boolean), [])
theorem kX11_isOf : ae_m mX11_isOf 2 := ⟨rfl, wd_2046, rfl, wd_175, ⟨by decide +kernel, by decide +kernel, by decide +kernel⟩, by decide⟩
abbrev mX11_bits : AM := (yX11_bits, cX11_bits, 3, (some .int), [])
theorem kX11_bits : ae_m mX11_bits 1 := ⟨rfl, wd_2031, rfl, wd_175, ⟨by decide +kernel, by decide +kernel, by decide +kernel⟩, by decide⟩
abbrev mX11_of : AM := (yX11_of, cX11_of, 3, (some .int), [])
theorem kX11_of : ae_m mX11_of 2 := ⟨rfl, wd_1785, rfl, wd_175, ⟨by decide +kernel, by decide +kernel, by decide +kernel⟩, by decide⟩
abbrev mX11_isWord : AM := (yX11_isWord, cX11_isWord, 2, (some .boolean), [])
theorem kX11_isWord : ae_m mX11_isWord 1 := ⟨rfl, wd_1841, rfl, wd_175, ⟨by decide +kernel, by decide +kernel, by decide +kernel⟩, by decide⟩
abbrev mX11_isPhrase : AM := (yX11_isPhrase, cX11_isPhrase, 2, (some .boolean), [])
theorem kX11_isPhrase : ae_m mX11_isPhrase 1 := ⟨rfl, wd_1849, rfl, wd_175, ⟨by decide +kernel, by decide +kernel, by decide +kernel⟩, by decide⟩
abbrev mX11_isPlace : AM := (yX11_isPlace, cX11_isPlace, 2, (some .boolean), [])
theorem kX11_isPlace : ae_m mX11_isPlace 1 := ⟨rfl, wd_1861, rfl, wd_175, ⟨by decide +kernel, by decide +kernel, by decide +kernel⟩, by decide⟩
abbrev mX11_feed : AM := (yX11_feed, cX11_feed, 8, (some .int), [])
theorem kX11_feed : ae_m mX11_feed 5 := ⟨rfl, wd_1714, rfl, wd_175, ⟨by decide +kernel, by decide +kernel, by decide +kernel⟩, by decide⟩
abbrev mX11_end : AM := (yX11_end, cX11_end, 2, (some .boolean), [])
theorem kX11_end : ae_m mX11_end 1 := ⟨rfl, wd_1718, rfl, wd_175, ⟨by decide +kernel, by decide +kernel, by decide +kernel⟩, by decide⟩
abbrev mX11_begins : AM := (yX11_begins, cX11_begins, 2, none, [])
theorem kX11_begins : ae_m mX11_begins 0 := ⟨rfl, wd_1729, rfl, wd_175, ⟨by decide +kernel, by decide +kernel, by decide +kernel⟩, by decide⟩
abbrev mX11_isRight : AM := (yX11_isRight, cX11_isRight, 2, (some .boolean), [])
theorem kX11_isRight : ae_m mX11_isRight 0 := ⟨rfl, wd_1793, rfl, wd_175, ⟨by decide +kernel, by decide +kernel, by decide +kernel⟩, by decide⟩
abbrev mX11_here : AM := (yX11_here, cX11_here, 1, (some .int), [])
theorem kX11_here : ae_m mX11_here 0 := ⟨rfl, wd_1737, rfl, wd_175, ⟨by decide +kernel, by decide +kernel, by decide +kernel⟩, by decide⟩
abbrev mX11_wrong : AM := (yX11_wrong, cX11_wrong, 2, none, [])
theorem kX11_wrong : ae_m mX11_wrong 1 := ⟨rfl, wd_1741, rfl, wd_175, ⟨by decide +kernel, by decide +kernel, by decide +kernel⟩, by decide⟩
abbrev mX11_isSign : AM := (yX11_isSign, cX11_isSign, 2, (some .boolean), [])
theorem kX11_isSign : ae_m mX11_isSign 1 := ⟨rfl, wd_1769, rfl, wd_175, ⟨by decide +kernel, by decide +kernel, by decide +kernel⟩, by decide⟩
abbrev mX11_isLetter : AM := (yX11_isLetter, cX11_isLetter, 1, (some .boolean), [])
theorem kX11_isLetter : ae_m mX11_isLetter 0 := ⟨rfl, wd_1753, rfl, wd_175, ⟨by decide +kernel, by decide +kernel, by decide +kernel⟩, by decide⟩
abbrev mX11_mustSign : AM := (yX11_mustSign, cX11_mustSign, 2, none, [])
theorem kX11_mustSign : ae_m mX11_mustSign 1 := ⟨rfl, wd_1765, rfl, wd_175, ⟨by decide +kernel, by decide +kernel, by decide +kernel⟩, by decide⟩
abbrev mX11_isSpelt : AM := (yX11_isSpelt, cX11_isSpelt, 5, (some .boolean), [])
theorem kX11_isSpelt : ae_m mX11_isSpelt 3 := ⟨rfl, wd_1761, rfl, wd_175, ⟨by decide +kernel, by decide +kernel, by decide +kernel⟩, by decide⟩
abbrev mX11_word : AM := (yX11_word, cX11_word, 6, (some .int), [])
theorem kX11_word : ae_m mX11_word 1 := ⟨rfl, wd_1757, rfl, wd_175, ⟨by decide +kernel, by decide +kernel, by decide +kernel⟩, by decide⟩
abbrev mX11_number : AM := (yX11_number, cX11_number, 4, (some .int), [])
theorem kX11_number : ae_m mX11_number 1 := ⟨rfl, wd_1773, rfl, wd_175, ⟨by decide +kernel, by decide +kernel, by decide +kernel⟩, by decide⟩
abbrev mX11_wordsInto : AM := (yX11_wordsInto, cX11_wordsInto, 7, (some .int), [])
theorem kX11_wordsInto : ae_m mX11_wordsInto 4 := ⟨rfl, wd_1749, rfl, wd_175, ⟨by decide +kernel, by decide +kernel, by decide +kernel⟩, by decide⟩
abbrev mX11_entry : AM := (yX11_entry, cX11_entry, 2, none, [])
theorem kX11_entry : ae_m mX11_entry 0 := ⟨rfl, wd_1745, rfl, wd_175, ⟨by decide +kernel, by decide +kernel, by decide +kernel⟩, by decide⟩
abbrev mX11_pair : AM := (yX11_pair, cX11_pair, 4, none, [])
theorem kX11_pair : ae_m mX11_pair 0 := ⟨rfl, wd_1777, rfl, wd_175, ⟨by decide +kernel, by decide +kernel, by decide +kernel⟩, by decide⟩
abbrev mX11_reads : AM := (yX11_reads, cX11_reads, 3, none, [])
theorem kX11_reads : ae_m mX11_reads 1 := ⟨rfl, wd_1733, rfl, wd_175, ⟨by decide +kernel, by decide +kernel, by decide +kernel⟩, by decide⟩
abbrev mX11_alike : AM := (yX11_alike, cX11_alike, 7, (some .int), [])
theorem kX11_alike : ae_m mX11_alike 3 := ⟨rfl, wd_1781, rfl, wd_175, ⟨by decide +kernel, by decide +kernel, by decide +kernel⟩, by decide⟩
abbrev mX11_comes : AM := (yX11_comes, cX11_comes, 5, none, [])
theorem kX11_comes : ae_m mX11_comes 2 := ⟨rfl, wd_1789, rfl, wd_175, ⟨by decide +kernel, by decide +kernel, by decide +kernel⟩, by decide⟩
abbrev mX11_book : AM := (yX11_book, cX11_book, 4, (some .int), [])
theorem kX11_book : ae_m mX11_book 0 := ⟨rfl, wd_1725, rfl, wd_175, ⟨by decide +kernel, by decide +kernel, by decide +kernel⟩, by decide⟩
abbrev mX11_pairOf : AM := (yX11_pairOf, cX11_pairOf, 4, (some .int), [])
theorem kX11_pairOf : ae_m mX11_pairOf 2 := ⟨rfl, wd_1801, rfl, wd_175, ⟨by decide +kernel, by decide +kernel, by decide +kernel⟩, by decide⟩
abbrev mX11_fluency : AM := (yX11_fluency, cX11_fluency, 5, (some .int), [])
theorem kX11_fluency : ae_m mX11_fluency 0 := ⟨rfl, wd_1797, rfl, wd_175, ⟨by decide +kernel, by decide +kernel, by decide +kernel⟩, by decide⟩
abbrev mX11_sentence : AM := (yX11_sentence, cX11_sentence, 3, (some .int), [])
theorem kX11_sentence : ae_m mX11_sentence 0 := ⟨rfl, wd_1805, rfl, wd_175, ⟨by decide +kernel, by decide +kernel, by decide +kernel⟩, by decide⟩
abbrev mX11_link : AM := (yX11_link, cX11_link, 5, none, [])
theorem kX11_link : ae_m mX11_link 0 := ⟨rfl, wd_1817, rfl, wd_175, ⟨by decide +kernel, by decide +kernel, by decide +kernel⟩, by decide⟩
abbrev mX11_lesson : AM := (yX11_lesson, cX11_lesson, 3, none, [])
theorem kX11_lesson : ae_m mX11_lesson 0 := ⟨rfl, wd_1813, rfl, wd_175, ⟨by decide +kernel, by decide +kernel, by decide +kernel⟩, by decide⟩
abbrev mX11_goTogether : AM := (yX11_goTogether, cX11_goTogether, 9, (some .boolean), [])
theorem kX11_goTogether : ae_m mX11_goTogether 4 := ⟨rfl, wd_1821, rfl, wd_175, ⟨by decide +kernel, by decide +kernel, by decide +kernel⟩, by decide⟩
abbrev mX11_unlinked : AM := (yX11_unlinked, cX11_unlinked, 9, (some .int), [])
theorem kX11_unlinked : ae_m mX11_unlinked 4 := ⟨rfl, wd_1829, rfl, wd_175, ⟨by decide +kernel, by decide +kernel, by decide +kernel⟩, by decide⟩
abbrev mX11_learns : AM := (yX11_learns, cX11_learns, 7, (some .int), [])
theorem kX11_learns : ae_m mX11_learns 4 := ⟨rfl, wd_1825, rfl, wd_175, ⟨by decide +kernel, by decide +kernel, by decide +kernel⟩, by decide⟩
abbrev mX11_learn : AM := (yX11_learn, cX11_learn, 8, (some .int), [])
theorem kX11_learn : ae_m mX11_learn 0 := ⟨rfl, wd_1809, rfl, wd_175, ⟨by decide +kernel, by decide +kernel, by decide +kernel⟩, by decide⟩
abbrev mX11_fault : AM := (yX11_fault, cX11_fault, 1, (some .int), [])
theorem kX11_fault : ae_m mX11_fault 0 := ⟨rfl, wd_1833, rfl, wd_175, ⟨by decide +kernel, by decide +kernel, by decide +kernel⟩, by decide⟩
abbrev mX11_letter : AM := (yX11_letter, cX11_letter, 3, (some .int), [])
theorem kX11_letter : ae_m mX11_letter 2 := ⟨rfl, wd_1837, rfl, wd_175, ⟨by decide +kernel, by decide +kernel, by decide +kernel⟩, by decide⟩
abbrev mX11_placesOf : AM := (yX11_placesOf, cX11_placesOf, 4, (some .int), [])
theorem kX11_placesOf : ae_m mX11_placesOf 1 := ⟨rfl, wd_1853, rfl, wd_175, ⟨by decide +kernel, by decide +kernel, by decide +kernel⟩, by decide⟩
abbrev mX11_phrase : AM := (yX11_phrase, cX11_phrase, 3, (some .int), [])
theorem kX11_phrase : ae_m mX11_phrase 2 := ⟨rfl, wd_1845, rfl, wd_175, ⟨by decide +kernel, by decide +kernel, by decide +kernel⟩, by decide⟩
abbrev mX11_part : AM := (yX11_part, cX11_part, 5, (some .int), [])
theorem kX11_part : ae_m mX11_part 3 := ⟨rfl, wd_1927, rfl, wd_175, ⟨by decide +kernel, by decide +kernel, by decide +kernel⟩, by decide⟩
abbrev mX11_after0 : AM := (yX11_after0, cX11_after0, 4, (some .int), [])
theorem kX11_after0 : ae_m mX11_after0 2 := ⟨rfl, wd_1889, rfl, wd_175, ⟨by decide +kernel, by decide +kernel, by decide +kernel⟩, by decide⟩
abbrev mX11_after : AM := (yX11_after, cX11_after, 3, (some .int), [])
theorem kX11_after : ae_m mX11_after 2 := ⟨rfl, wd_1931, rfl, wd_175, ⟨by decide +kernel, by decide +kernel, by decide +kernel⟩, by decide⟩
abbrev mX11_place : AM := (yX11_place, cX11_place, 2, (some .int), [])
theorem kX11_place : ae_m mX11_place 1 := ⟨rfl, wd_1935, rfl, wd_175, ⟨by decide +kernel, by decide +kernel, by decide +kernel⟩, by decide⟩
abbrev mX11_put : AM := (yX11_put, cX11_put, 4, (some .int), [])
theorem kX11_put : ae_m mX11_put 2 := ⟨rfl, wd_1939, rfl, wd_175, ⟨by decide +kernel, by decide +kernel, by decide +kernel⟩, by decide⟩
abbrev mX11_price : AM := (yX11_price, cX11_price, 4, (some .int), [])
theorem kX11_price : ae_m mX11_price 2 := ⟨rfl, wd_1943, rfl, wd_175, ⟨by decide +kernel, by decide +kernel, by decide +kernel⟩, by decide⟩
abbrev mX11_drop : AM := (yX11_drop, cX11_drop, 4, (some .boolean), [])
theorem kX11_drop : ae_m mX11_drop 2 := ⟨rfl, wd_1947, rfl, wd_175, ⟨by decide +kernel, by decide +kernel, by decide +kernel⟩, by decide⟩
abbrev mX11_tune : AM := (yX11_tune, cX11_tune, 5, (some .int), [])
theorem kX11_tune : ae_m mX11_tune 2 := ⟨rfl, wd_1951, rfl, wd_175, ⟨by decide +kernel, by decide +kernel, by decide +kernel⟩, by decide⟩
abbrev mX11_covers : AM := (yX11_covers, cX11_covers, 2, (some .int), [])
theorem kX11_covers : ae_m mX11_covers 1 := ⟨rfl, wd_1865, rfl, wd_175, ⟨by decide +kernel, by decide +kernel, by decide +kernel⟩, by decide⟩
abbrev mX11_isOption : AM := (yX11_isOption, cX11_isOption, 4, (some .boolean), [])
theorem kX11_isOption : ae_m mX11_isOption 2 := ⟨rfl, wd_1857, rfl, wd_175, ⟨by decide +kernel, by decide +kernel, by decide +kernel⟩, by decide⟩
abbrev mX11_next : AM := (yX11_next, cX11_next, 3, (some .int), [])
theorem kX11_next : ae_m mX11_next 1 := ⟨rfl, wd_1897, rfl, wd_175, ⟨by decide +kernel, by decide +kernel, by decide +kernel⟩, by decide⟩
abbrev mX11_option : AM := (yX11_option, cX11_option, 5, (some .int), [])
theorem kX11_option : ae_m mX11_option 2 := ⟨rfl, wd_1955, rfl, wd_175, ⟨by decide +kernel, by decide +kernel, by decide +kernel⟩, by decide⟩
abbrev mX11_targetMany : AM := (yX11_targetMany, cX11_targetMany, 2, (some .int), [])
theorem kX11_targetMany : ae_m mX11_targetMany 1 := ⟨rfl, wd_1916, rfl, wd_175, ⟨by decide +kernel, by decide +kernel, by decide +kernel⟩, by decide⟩
abbrev mX11_targetOf : AM := (yX11_targetOf, cX11_targetOf, 4, (some .int), [])
theorem kX11_targetOf : ae_m mX11_targetOf 3 := ⟨rfl, wd_1920, rfl, wd_175, ⟨by decide +kernel, by decide +kernel, by decide +kernel⟩, by decide⟩
abbrev mX11_maskOf : AM := (yX11_maskOf, cX11_maskOf, 3, (some .int), [])
theorem kX11_maskOf : ae_m mX11_maskOf 2 := ⟨rfl, wd_1908, rfl, wd_175, ⟨by decide +kernel, by decide +kernel, by decide +kernel⟩, by decide⟩
abbrev mX11_may : AM := (yX11_may, cX11_may, 5, (some .boolean), [])
theorem kX11_may : ae_m mX11_may 4 := ⟨rfl, wd_1901, rfl, wd_175, ⟨by decide +kernel, by decide +kernel, by decide +kernel⟩, by decide⟩
abbrev mX11_weighs : AM := (yX11_weighs, cX11_weighs, 7, none, [])
theorem kX11_weighs : ae_m mX11_weighs 4 := ⟨rfl, wd_1912, rfl, wd_175, ⟨by decide +kernel, by decide +kernel, by decide +kernel⟩, by decide⟩
abbrev mX11_key : AM := (yX11_key, cX11_key, 3, (some .int), [])
theorem kX11_key : ae_m mX11_key 3 := ⟨rfl, wd_1892, rfl, wd_175, ⟨by decide +kernel, by decide +kernel, by decide +kernel⟩, by decide⟩
abbrev mX11_full : AM := (yX11_full, cX11_full, 1, (some .int), [])
theorem kX11_full : ae_m mX11_full 0 := ⟨rfl, wd_1885, rfl, wd_175, ⟨by decide +kernel, by decide +kernel, by decide +kernel⟩, by decide⟩
abbrev mX11_lays : AM := (yX11_lays, cX11_lays, 2, none, [])
theorem kX11_lays : ae_m mX11_lays 0 := ⟨rfl, wd_1877, rfl, wd_175, ⟨by decide +kernel, by decide +kernel, by decide +kernel⟩, by decide⟩
abbrev mX11_rest : AM := (yX11_rest, cX11_rest, 10, (some .int), [])
theorem kX11_rest : ae_m mX11_rest 3 := ⟨rfl, wd_1881, rfl, wd_175, ⟨by decide +kernel, by decide +kernel, by decide +kernel⟩, by decide⟩
abbrev mX11_exact0 : AM := (yX11_exact0, cX11_exact0, 1, (some .int), [])
theorem kX11_exact0 : ae_m mX11_exact0 0 := ⟨rfl, wd_1873, rfl, wd_175, ⟨by decide +kernel, by decide +kernel, by decide +kernel⟩, by decide⟩
abbrev mX11_exact : AM := (yX11_exact, cX11_exact, 1, (some .int), [])
theorem kX11_exact : ae_m mX11_exact 0 := ⟨rfl, wd_1959, rfl, wd_175, ⟨by decide +kernel, by decide +kernel, by decide +kernel⟩, by decide⟩
abbrev mX11_waysFrom : AM := (yX11_waysFrom, cX11_waysFrom, 8, (some .long), [])
theorem kX11_waysFrom : ae_m mX11_waysFrom 2 := ⟨rfl, wd_1968, rfl, wd_175, ⟨by decide +kernel, by decide +kernel, by decide +kernel⟩, by decide⟩
abbrev mX11_many : AM := (yX11_many, cX11_many, 2, (some .int), [])
theorem kX11_many : ae_m mX11_many 0 := ⟨rfl, wd_1963, rfl, wd_175, ⟨by decide +kernel, by decide +kernel, by decide +kernel⟩, by decide⟩
abbrev mX11_goes : AM := (yX11_goes, cX11_goes, 11, (some .boolean), [])
theorem kX11_goes : ae_m mX11_goes 5 := ⟨rfl, wd_1984, rfl, wd_175, ⟨by decide +kernel, by decide +kernel, by decide +kernel⟩, by decide⟩
abbrev mX11_isWay : AM := (yX11_isWay, cX11_isWay, 2, (some .boolean), [])
theorem kX11_isWay : ae_m mX11_isWay 1 := ⟨rfl, wd_1980, rfl, wd_175, ⟨by decide +kernel, by decide +kernel, by decide +kernel⟩, by decide⟩
abbrev mX11_spells : AM := (yX11_spells, cX11_spells, 3, none, [])
theorem kX11_spells : ae_m mX11_spells 0 := ⟨rfl, wd_1988, rfl, wd_175, ⟨by decide +kernel, by decide +kernel, by decide +kernel⟩, by decide⟩
abbrev mX11_isWayNumber : AM := (yX11_isWayNumber, cX11_isWayNumber, 1, (some .boolean), [])
theorem kX11_isWayNumber : ae_m mX11_isWayNumber 1 := ⟨rfl, wd_1976, rfl, wd_175, ⟨by decide +kernel, by decide +kernel, by decide +kernel⟩, by decide⟩
abbrev mX11_way : AM := (yX11_way, cX11_way, 3, (some .int), [])
theorem kX11_way : ae_m mX11_way 2 := ⟨rfl, wd_1973, rfl, wd_175, ⟨by decide +kernel, by decide +kernel, by decide +kernel⟩, by decide⟩
abbrev mX11_costOf : AM := (yX11_costOf, cX11_costOf, 5, (some .int), [])
theorem kX11_costOf : ae_m mX11_costOf 1 := ⟨rfl, wd_1996, rfl, wd_175, ⟨by decide +kernel, by decide +kernel, by decide +kernel⟩, by decide⟩
abbrev mX11_step : AM := (yX11_step, cX11_step, 4, (some .int), [])
theorem kX11_step : ae_m mX11_step 3 := ⟨rfl, wd_1992, rfl, wd_175, ⟨by decide +kernel, by decide +kernel, by decide +kernel⟩, by decide⟩
abbrev mX11_word_ : AM := (yX11_word_, cX11_word_, 3, (some .int), [])
theorem kX11_word_ : ae_m mX11_word_ 2 := ⟨rfl, wd_2000, rfl, wd_175, ⟨by decide +kernel, by decide +kernel, by decide +kernel⟩, by decide⟩
abbrev mX11_optionFor : AM := (yX11_optionFor, cX11_optionFor, 7, (some .int), [])
theorem kX11_optionFor : ae_m mX11_optionFor 2 := ⟨rfl, wd_2012, rfl, wd_175, ⟨by decide +kernel, by decide +kernel, by decide +kernel⟩, by decide⟩
abbrev mX11_laysStretches : AM := (yX11_laysStretches, cX11_laysStretches, 6, none, [])
theorem kX11_laysStretches : ae_m mX11_laysStretches 0 := ⟨rfl, wd_2008, rfl, wd_175, ⟨by decide +kernel, by decide +kernel, by decide +kernel⟩, by decide⟩
abbrev mX11_stretch : AM := (yX11_stretch, cX11_stretch, 3, (some .int), [])
theorem kX11_stretch : ae_m mX11_stretch 2 := ⟨rfl, wd_2004, rfl, wd_175, ⟨by decide +kernel, by decide +kernel, by decide +kernel⟩, by decide⟩
abbrev mX11_aheadOf : AM := (yX11_aheadOf, cX11_aheadOf, 5, (some .int), [])
theorem kX11_aheadOf : ae_m mX11_aheadOf 1 := ⟨rfl, wd_2043, rfl, wd_175, ⟨by decide +kernel, by decide +kernel, by decide +kernel⟩, by decide⟩
abbrev mX11_setOf : AM := (yX11_setOf, cX11_setOf, 2, (some .int), [])
theorem kX11_setOf : ae_m mX11_setOf 1 := ⟨rfl, wd_2039, rfl, wd_175, ⟨by decide +kernel, by decide +kernel, by decide +kernel⟩, by decide⟩
abbrev mX11_placeOf : AM := (yX11_placeOf, cX11_placeOf, 2, (some .int), [])
theorem kX11_placeOf : ae_m mX11_placeOf 1 := ⟨rfl, wd_2058, rfl, wd_175, ⟨by decide +kernel, by decide +kernel, by decide +kernel⟩, by decide⟩
abbrev mX11_lastOf : AM := (yX11_lastOf, cX11_lastOf, 2, (some .int), [])
theorem kX11_lastOf : ae_m mX11_lastOf 1 := ⟨rfl, wd_2062, rfl, wd_175, ⟨by decide +kernel, by decide +kernel, by decide +kernel⟩, by decide⟩
abbrev mX11_scoreOf : AM := (yX11_scoreOf, cX11_scoreOf, 2, (some .int), [])
theorem kX11_scoreOf : ae_m mX11_scoreOf 1 := ⟨rfl, wd_2035, rfl, wd_175, ⟨by decide +kernel, by decide +kernel, by decide +kernel⟩, by decide⟩
abbrev mX11_lies : AM := (yX11_lies, cX11_lies, 6, none, [])
theorem kX11_lies : ae_m mX11_lies 5 := ⟨rfl, wd_2024, rfl, wd_175, ⟨by decide +kernel, by decide +kernel, by decide +kernel⟩, by decide⟩
abbrev mX11_goesOn : AM := (yX11_goesOn, cX11_goesOn, 5, none, [])
theorem kX11_goesOn : ae_m mX11_goesOn 1 := ⟨rfl, wd_2054, rfl, wd_175, ⟨by decide +kernel, by decide +kernel, by decide +kernel⟩, by decide⟩
abbrev mX11_nextOf : AM := (yX11_nextOf, cX11_nextOf, 7, (some .int), [])
theorem kX11_nextOf : ae_m mX11_nextOf 1 := ⟨rfl, wd_2050, rfl, wd_175, ⟨by decide +kernel, by decide +kernel, by decide +kernel⟩, by decide⟩
abbrev mX11_counts : AM := (yX11_counts, cX11_counts, 5, none, [])
theorem kX11_counts : ae_m mX11_counts 1 := ⟨rfl, wd_2028, rfl, wd_175, ⟨by decide +kernel, by decide +kernel, by decide +kernel⟩, by decide⟩
abbrev mX11_stacks : AM := (yX11_stacks, cX11_stacks, 4, none, [])
theorem kX11_stacks : ae_m mX11_stacks 0 := ⟨rfl, wd_2020, rfl, wd_175, ⟨by decide +kernel, by decide +kernel, by decide +kernel⟩, by decide⟩
abbrev mX11_finds : AM := (yX11_finds, cX11_finds, 3, none, [])
theorem kX11_finds : ae_m mX11_finds 0 := ⟨rfl, wd_2066, rfl, wd_175, ⟨by decide +kernel, by decide +kernel, by decide +kernel⟩, by decide⟩
abbrev mX11_stepsOf : AM := (yX11_stepsOf, cX11_stepsOf, 4, (some .int), [])
theorem kX11_stepsOf : ae_m mX11_stepsOf 1 := ⟨rfl, wd_2070, rfl, wd_175, ⟨by decide +kernel, by decide +kernel, by decide +kernel⟩, by decide⟩
abbrev mX11_found : AM := (yX11_found, cX11_found, 2, (some .int), [])
theorem kX11_found : ae_m mX11_found 1 := ⟨rfl, wd_2016, rfl, wd_175, ⟨by decide +kernel, by decide +kernel, by decide +kernel⟩, by decide⟩
abbrev mX11_halves : AM := (yX11_halves, cX11_halves, 5, (some .int), [])
theorem kX11_halves : ae_m mX11_halves 2 := ⟨rfl, wd_2074, rfl, wd_175, ⟨by decide +kernel, by decide +kernel, by decide +kernel⟩, by decide⟩
abbrev mX11_stack : AM := (yX11_stack, cX11_stack, 3, (some .int), [])
theorem kX11_stack : ae_m mX11_stack 2 := ⟨rfl, wd_2078, rfl, wd_175, ⟨by decide +kernel, by decide +kernel, by decide +kernel⟩, by decide⟩
abbrev mX11_isTold : AM := (yX11_isTold, cX11_isTold, 1, (some .boolean), [])
theorem kX11_isTold : ae_m mX11_isTold 0 := ⟨rfl, wd_2086, rfl, wd_175, ⟨by decide +kernel, by decide +kernel, by decide +kernel⟩, by decide⟩
abbrev mX11_isSpoken : AM := (yX11_isSpoken, cX11_isSpoken, 5, (some .boolean), [])
theorem kX11_isSpoken : ae_m mX11_isSpoken 3 := ⟨rfl, wd_2094, rfl, wd_175, ⟨by decide +kernel, by decide +kernel, by decide +kernel⟩, by decide⟩
abbrev mX11_forcedFrom : AM := (yX11_forcedFrom, cX11_forcedFrom, 10, (some .int), [])
theorem kX11_forcedFrom : ae_m mX11_forcedFrom 3 := ⟨rfl, wd_2090, rfl, wd_175, ⟨by decide +kernel, by decide +kernel, by decide +kernel⟩, by decide⟩
abbrev mX11_forced : AM := (yX11_forced, cX11_forced, 2, (some .int), [])
theorem kX11_forced : ae_m mX11_forced 0 := ⟨rfl, wd_2082, rfl, wd_175, ⟨by decide +kernel, by decide +kernel, by decide +kernel⟩, by decide⟩
abbrev mX11_apart : AM := (yX11_apart, cX11_apart, 10, (some .int), [])
theorem kX11_apart : ae_m mX11_apart 6 := ⟨rfl, wd_2106, rfl, wd_175, ⟨by decide +kernel, by decide +kernel, by decide +kernel⟩, by decide⟩
abbrev mX11_nearTold : AM := (yX11_nearTold, cX11_nearTold, 2, (some .int), [])
theorem kX11_nearTold : ae_m mX11_nearTold 0 := ⟨rfl, wd_2102, rfl, wd_175, ⟨by decide +kernel, by decide +kernel, by decide +kernel⟩, by decide⟩
abbrev mX11_near : AM := (yX11_near, cX11_near, 1, (some .int), [])
theorem kX11_near : ae_m mX11_near 0 := ⟨rfl, wd_2098, rfl, wd_175, ⟨by decide +kernel, by decide +kernel, by decide +kernel⟩, by decide⟩
abbrev mX11_areAlike : AM := (yX11_areAlike, cX11_areAlike, 6, (some .boolean), [])
theorem kX11_areAlike : ae_m mX11_areAlike 5 := ⟨rfl, wd_2113, rfl, wd_175, ⟨by decide +kernel, by decide +kernel, by decide +kernel⟩, by decide⟩
abbrev mX11_times : AM := (yX11_times, cX11_times, 7, (some .int), [])
theorem kX11_times : ae_m mX11_times 5 := ⟨rfl, wd_2116, rfl, wd_175, ⟨by decide +kernel, by decide +kernel, by decide +kernel⟩, by decide⟩
abbrev mX11_match : AM := (yX11_match, cX11_match, 7, (some .int), [])
theorem kX11_match : ae_m mX11_match 1 := ⟨rfl, wd_2110, rfl, wd_175, ⟨by decide +kernel, by decide +kernel, by decide +kernel⟩, by decide⟩
abbrev mX11_agreed : AM := (yX11_agreed, cX11_agreed, 8, (some .int), [])
theorem kX11_agreed : ae_m mX11_agreed 1 := ⟨rfl, wd_2120, rfl, wd_175, ⟨by decide +kernel, by decide +kernel, by decide +kernel⟩, by decide⟩
abbrev mX11_worth : AM := (yX11_worth, cX11_worth, 4, (some .int), [])
theorem kX11_worth : ae_m mX11_worth 1 := ⟨rfl, wd_1869, rfl, wd_175, ⟨by decide +kernel, by decide +kernel, by decide +kernel⟩, by decide⟩
abbrev mX11_needed : AM := (yX11_needed, cX11_needed, 3, (some .int), [])
theorem kX11_needed : ae_m mX11_needed 0 := ⟨rfl, wd_2124, rfl, wd_175, ⟨by decide +kernel, by decide +kernel, by decide +kernel⟩, by decide⟩
abbrev mX11_idle : AM := (yX11_idle, cX11_idle, 3, (some .int), [])
theorem kX11_idle : ae_m mX11_idle 0 := ⟨rfl, wd_2128, rfl, wd_175, ⟨by decide +kernel, by decide +kernel, by decide +kernel⟩, by decide⟩
abbrev mX11_exactBy : AM := (yX11_exactBy, cX11_exactBy, 5, (some .int), [])
theorem kX11_exactBy : ae_m mX11_exactBy 2 := ⟨rfl, wd_2136, rfl, wd_175, ⟨by decide +kernel, by decide +kernel, by decide +kernel⟩, by decide⟩
abbrev mX11_reach : AM := (yX11_reach, cX11_reach, 3, (some .int), [])
theorem kX11_reach : ae_m mX11_reach 0 := ⟨rfl, wd_2132, rfl, wd_175, ⟨by decide +kernel, by decide +kernel, by decide +kernel⟩, by decide⟩
abbrev mX11_width : AM := (yX11_width, cX11_width, 5, (some .int), [])
theorem kX11_width : ae_m mX11_width 0 := ⟨rfl, wd_2140, rfl, wd_175, ⟨by decide +kernel, by decide +kernel, by decide +kernel⟩, by decide⟩
abbrev mX11_tuned : AM := (yX11_tuned, cX11_tuned, 6, (some .int), [])
theorem kX11_tuned : ae_m mX11_tuned 0 := ⟨rfl, wd_2144, rfl, wd_175, ⟨by decide +kernel, by decide +kernel, by decide +kernel⟩, by decide⟩
abbrev mX11_image : AM := (yX11_image, cX11_image, 2, none, [])
theorem kX11_image : ae_m mX11_image 0 := ⟨rfl, wd_2148, rfl, wd_175, ⟨by decide +kernel, by decide +kernel, by decide +kernel⟩, by decide⟩
abbrev mX11_back : AM := (yX11_back, cX11_back, 2, (some .boolean), [])
theorem kX11_back : ae_m mX11_back 0 := ⟨rfl, wd_2152, rfl, wd_175, ⟨by decide +kernel, by decide +kernel, by decide +kernel⟩, by decide⟩
abbrev mX11_count : AM := (yX11_count, cX11_count, 4, (some .int), [])
theorem kX11_count : ae_m mX11_count 1 := ⟨rfl, wd_2156, rfl, wd_175, ⟨by decide +kernel, by decide +kernel, by decide +kernel⟩, by decide⟩
abbrev mJ6_bitCount_0f7a4 : AM := (yJ6_bitCount_0f7a4, cJ6_bitCount_0f7a4, 1, (some .int), [])
theorem kJ6_bitCount_0f7a4 : ae_m mJ6_bitCount_0f7a4 1 := ⟨rfl, wd_748, rfl, wd_184, ⟨by decide +kernel, by decide +kernel, by decide +kernel⟩, by decide⟩
abbrev mJ9_abs_0f7a4 : AM := (yJ9_abs_0f7a4, cJ9_abs_0f7a4, 1, (some .int), [])
theorem kJ9_abs_0f7a4 : ae_m mJ9_abs_0f7a4 1 := ⟨rfl, wd_822, rfl, wd_183, ⟨by decide +kernel, by decide +kernel, by decide +kernel⟩, by decide⟩
abbrev mJ9_max_7cf53 : AM := (yJ9_max_7cf53, cJ9_max_7cf53, 2, (some .int), [])
theorem kJ9_max_7cf53 : ae_m mJ9_max_7cf53 2 := ⟨rfl, wd_1225, rfl, wd_183, ⟨by decide +kernel, by decide +kernel, by decide +kernel⟩, by decide⟩
abbrev mJ9_min_7cf53 : AM := (yJ9_min_7cf53, cJ9_min_7cf53, 2, (some .int), [])
theorem kJ9_min_7cf53 : ae_m mJ9_min_7cf53 2 := ⟨rfl, wd_777, rfl, wd_183, ⟨by decide +kernel, by decide +kernel, by decide +kernel⟩, by decide⟩
abbrev mJ7_fill_53178 : AM := (yJ7_fill_53178, cJ7_fill_53178, 4, none, [])
theorem kJ7_fill_53178 : ae_m mJ7_fill_53178 2 := ⟨rfl, wd_774, rfl, wd_181, ⟨by decide +kernel, by decide +kernel, by decide +kernel⟩, by decide⟩
abbrev mL_book : AM := (yL_book, cL_book, 3, (some .int), [(0, 8, 11, 13)])
abbrev mL_fluency : AM := (yL_fluency, cL_fluency, 3, (some .int), [(0, 8, 11, 13)])
abbrev mL_sentence : AM := (yL_sentence, cL_sentence, 3, (some .int), [(0, 8, 11, 13)])
abbrev mL_learn : AM := (yL_learn, cL_learn, 3, (some .int), [(0, 8, 11, 13), (0, 8, 14, 24)])
abbrev mL_letter : AM := (yL_letter, cL_letter, 5, (some .int), [(0, 10, 13, 30)])
abbrev mL_phrase : AM := (yL_phrase, cL_phrase, 5, (some .int), [(0, 10, 13, 30), (0, 10, 17, 35)])
abbrev mL_part : AM := (yL_part, cL_part, 6, (some .int), [(0, 12, 15, 30)])
abbrev mL_after : AM := (yL_after, cL_after, 5, (some .int), [(0, 10, 13, 30)])
abbrev mL_place : AM := (yL_place, cL_place, 4, (some .int), [(0, 9, 12, 30)])
abbrev mL_put : AM := (yL_put, cL_put, 5, (some .int), [(0, 10, 13, 30)])
abbrev mL_price : AM := (yL_price, cL_price, 5, (some .int), [(0, 10, 13, 30), (0, 10, 17, 13)])
abbrev mL_drop : AM := (yL_drop, cL_drop, 5, (some .int), [(0, 17, 20, 30), (0, 17, 24, 13)])
abbrev mL_tune : AM := (yL_tune, cL_tune, 5, (some .int), [(0, 10, 13, 35), (0, 10, 17, 13)])
abbrev mL_option : AM := (yL_option, cL_option, 5, (some .int), [(0, 10, 13, 30)])
abbrev mL_stretch : AM := (yL_stretch, cL_stretch, 5, (some .int), [(0, 10, 13, 30), (0, 10, 17, 13)])
abbrev mL_way : AM := (yL_way, cL_way, 5, (some .int), [(0, 10, 13, 35), (0, 10, 17, 13)])
abbrev mL_step : AM := (yL_step, cL_step, 6, (some .int), [(0, 12, 15, 35), (0, 12, 19, 13)])
abbrev mL_word : AM := (yL_word, cL_word, 5, (some .int), [(0, 10, 13, 13)])
abbrev mL_found : AM := (yL_found, cL_found, 4, (some .int), [(0, 9, 12, 35)])
abbrev mL_halves : AM := (yL_halves, cL_halves, 5, (some .int), [(0, 10, 13, 35)])
abbrev mL_stack : AM := (yL_stack, cL_stack, 5, (some .int), [(0, 10, 13, 30), (0, 10, 17, 35)])
abbrev mL_forced : AM := (yL_forced, cL_forced, 3, (some .int), [(0, 8, 11, 13)])
abbrev mL_near : AM := (yL_near, cL_near, 3, (some .int), [(0, 8, 11, 13)])
abbrev mL_match : AM := (yL_match, cL_match, 4, (some .int), [(0, 9, 12, 13)])
abbrev mL_agreed : AM := (yL_agreed, cL_agreed, 4, (some .int), [(0, 9, 12, 13)])
abbrev mL_tuned : AM := (yL_tuned, cL_tuned, 3, (some .int), [(0, 8, 11, 13)])
end FA
