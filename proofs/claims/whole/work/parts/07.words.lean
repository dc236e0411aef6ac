/-! ===== the words that the walks use ===== -/
theorem wc_J6_265 : Cond.constant RJ6 265 1431655765 ∈ gdW := gdW_at 583 (by decide +kernel) rfl
theorem wc_J6_266 : Cond.constant RJ6 266 858993459 ∈ gdW := gdW_at 584 (by decide +kernel) rfl
theorem wc_J6_267 : Cond.constant RJ6 267 252645135 ∈ gdW := gdW_at 585 (by decide +kernel) rfl
theorem wc_X0_73 : Cond.constant RX0 73 1103515245 ∈ gdW := gdW_at 771 (by decide +kernel) rfl
theorem wc_X0_74 : Cond.constant RX0 74 2147483647 ∈ gdW := gdW_at 772 (by decide +kernel) rfl
theorem wc_X0_75 : Cond.constant RX0 75 65536 ∈ gdW := gdW_at 773 (by decide +kernel) rfl
theorem wc_X1_67 : Cond.constantLong RX1 67 100 ∈ gdW := gdW_at 696 (by decide +kernel) rfl
theorem wc_X2_50 : Cond.constant RX2 50 2097152 ∈ gdW := gdW_at 242 (by decide +kernel) rfl
theorem wc_X2_59 : Cond.constant RX2 59 4194304 ∈ gdW := gdW_at 249 (by decide +kernel) rfl
theorem wc_X8_293 : Cond.constantLong RX8 293 4000000000000000000 ∈ gdW := gdW_at 513 (by decide +kernel) rfl
theorem wc_X9_75 : Cond.constantLong RX9 75 4000000000000000000 ∈ gdW := gdW_at 1143 (by decide +kernel) rfl
theorem wc_X9_214 : Cond.constantLong RX9 214 131071 ∈ gdW := gdW_at 1165 (by decide +kernel) rfl
theorem wc_X9_245 : Cond.constantLong RX9 245 100 ∈ gdW := gdW_at 1241 (by decide +kernel) rfl
theorem wc_X9_269 : Cond.constant RX9 269 1103515245 ∈ gdW := gdW_at 1281 (by decide +kernel) rfl
theorem wc_X9_270 : Cond.constant RX9 270 2147483647 ∈ gdW := gdW_at 1282 (by decide +kernel) rfl
theorem wc_X9_271 : Cond.constant RX9 271 65536 ∈ gdW := gdW_at 1283 (by decide +kernel) rfl
theorem inX0 : ∀ w ∈ wsX00, w ∈ gdW := fun w hw => (fun h : w ∈ lw_tbl ∧ goodWord w = true => gdW_in h.1 h.2) ((by decide +kernel : ∀ w ∈ wsX00, w ∈ lw_tbl ∧ goodWord w = true) w hw)
theorem inX1 : ∀ w ∈ wsX10, w ∈ gdW := fun w hw => (fun h : w ∈ lw_tbl ∧ goodWord w = true => gdW_in h.1 h.2) ((by decide +kernel : ∀ w ∈ wsX10, w ∈ lw_tbl ∧ goodWord w = true) w hw)
theorem inX2 : ∀ w ∈ wsX20, w ∈ gdW := fun w hw => (fun h : w ∈ lw_tbl ∧ goodWord w = true => gdW_in h.1 h.2) ((by decide +kernel : ∀ w ∈ wsX20, w ∈ lw_tbl ∧ goodWord w = true) w hw)
theorem inX3 : ∀ w ∈ wsX30, w ∈ gdW := fun w hw => (fun h : w ∈ lw_tbl ∧ goodWord w = true => gdW_in h.1 h.2) ((by decide +kernel : ∀ w ∈ wsX30, w ∈ lw_tbl ∧ goodWord w = true) w hw)
theorem inX4 : ∀ w ∈ wsX40, w ∈ gdW := fun w hw => (fun h : w ∈ lw_tbl ∧ goodWord w = true => gdW_in h.1 h.2) ((by decide +kernel : ∀ w ∈ wsX40, w ∈ lw_tbl ∧ goodWord w = true) w hw)
theorem inX5 : ∀ w ∈ wsX50, w ∈ gdW := fun w hw => (fun h : w ∈ lw_tbl ∧ goodWord w = true => gdW_in h.1 h.2) ((by decide +kernel : ∀ w ∈ wsX50, w ∈ lw_tbl ∧ goodWord w = true) w hw)
theorem inX6 : ∀ w ∈ wsX60, w ∈ gdW := fun w hw => (fun h : w ∈ lw_tbl ∧ goodWord w = true => gdW_in h.1 h.2) ((by decide +kernel : ∀ w ∈ wsX60, w ∈ lw_tbl ∧ goodWord w = true) w hw)
theorem inX7 : ∀ w ∈ wsX70, w ∈ gdW := fun w hw => (fun h : w ∈ lw_tbl ∧ goodWord w = true => gdW_in h.1 h.2) ((by decide +kernel : ∀ w ∈ wsX70, w ∈ lw_tbl ∧ goodWord w = true) w hw)
theorem inX8 : ∀ w ∈ wsX80, w ∈ gdW := fun w hw => (fun h : w ∈ lw_tbl ∧ goodWord w = true => gdW_in h.1 h.2) ((by decide +kernel : ∀ w ∈ wsX80, w ∈ lw_tbl ∧ goodWord w = true) w hw)
theorem inX9 : ∀ w ∈ wsX90, w ∈ gdW := fun w hw => (fun h : w ∈ lw_tbl ∧ goodWord w = true => gdW_in h.1 h.2) ((by decide +kernel : ∀ w ∈ wsX90, w ∈ lw_tbl ∧ goodWord w = true) w hw)
theorem wf_X0_9 : Cond.fieldLink RX0 9 "HangsTogether$Drawers" "village" "LHangsTogether$Village;" ∈ gdW := gdW_at 201 (by decide +kernel) rfl
theorem wf_X0_15 : Cond.fieldLink RX0 15 "HangsTogether$Drawers" "ways" "LHangsTogether$Ways;" ∈ gdW := gdW_at 202 (by decide +kernel) rfl
theorem wf_X0_19 : Cond.fieldLink RX0 19 "HangsTogether$Drawers" "told" "LHangsTogether$Row;" ∈ gdW := gdW_at 203 (by decide +kernel) rfl
theorem wf_X0_23 : Cond.fieldLink RX0 23 "HangsTogether$Drawers" "seed" "I" ∈ gdW := gdW_at 204 (by decide +kernel) rfl
theorem wf_X0_27 : Cond.fieldLink RX0 27 "HangsTogether$Drawers" "lanesOn" "[I" ∈ gdW := gdW_at 205 (by decide +kernel) rfl
theorem wf_X0_31 : Cond.fieldLink RX0 31 "HangsTogether$Drawers" "weightOn" "[I" ∈ gdW := gdW_at 206 (by decide +kernel) rfl
theorem wf_X0_34 : Cond.fieldLink RX0 34 "HangsTogether$Drawers" "pool" "[I" ∈ gdW := gdW_at 207 (by decide +kernel) rfl
theorem wf_X0_37 : Cond.fieldLink RX0 37 "HangsTogether$Drawers" "poolWorth" "[I" ∈ gdW := gdW_at 208 (by decide +kernel) rfl
theorem wf_X0_59 : Cond.fieldLinkNest RX0 59 "HangsTogether$Ways" "size" "I" "HangsTogether" ∈ nsW := nsW_at 122 (by decide +kernel) rfl
theorem wf_X0_76 : Cond.fieldLinkNest RX0 76 "HangsTogether$Village" "lanes" "I" "HangsTogether" ∈ nsW := nsW_at 33 (by decide +kernel) rfl
theorem wf_X0_85 : Cond.fieldLinkNest RX0 85 "HangsTogether$Village" "weight" "[I" "HangsTogether" ∈ nsW := nsW_at 58 (by decide +kernel) rfl
theorem wf_X0_88 : Cond.fieldLinkNest RX0 88 "HangsTogether$Village" "barred" "I" "HangsTogether" ∈ nsW := nsW_at 41 (by decide +kernel) rfl
theorem wf_X0_91 : Cond.fieldLinkNest RX0 91 "HangsTogether$Village" "from" "[I" "HangsTogether" ∈ nsW := nsW_at 50 (by decide +kernel) rfl
theorem wf_X0_94 : Cond.fieldLinkNest RX0 94 "HangsTogether$Village" "to" "[I" "HangsTogether" ∈ nsW := nsW_at 54 (by decide +kernel) rfl
theorem wf_X0_97 : Cond.fieldLinkNest RX0 97 "HangsTogether$Village" "kind" "[I" "HangsTogether" ∈ nsW := nsW_at 45 (by decide +kernel) rfl
theorem wf_X1_9 : Cond.fieldLink RX1 9 "HangsTogether$Forests" "village" "LHangsTogether$Village;" ∈ gdW := gdW_at 149 (by decide +kernel) rfl
theorem wf_X1_15 : Cond.fieldLink RX1 15 "HangsTogether$Forests" "joins" "LHangsTogether$Joins;" ∈ gdW := gdW_at 150 (by decide +kernel) rfl
theorem wf_X1_54 : Cond.fieldLinkNest RX1 54 "HangsTogether$Village" "barred" "I" "HangsTogether" ∈ nsW := nsW_at 40 (by decide +kernel) rfl
theorem wf_X1_61 : Cond.fieldLinkNest RX1 61 "HangsTogether$Village" "must" "I" "HangsTogether" ∈ nsW := nsW_at 37 (by decide +kernel) rfl
theorem wf_X1_76 : Cond.fieldLinkNest RX1 76 "HangsTogether$Village" "lanes" "I" "HangsTogether" ∈ nsW := nsW_at 34 (by decide +kernel) rfl
theorem wf_X1_79 : Cond.fieldLinkNest RX1 79 "HangsTogether$Village" "drift" "[I" "HangsTogether" ∈ nsW := nsW_at 63 (by decide +kernel) rfl
theorem wf_X2_11 : Cond.fieldLink RX2 11 "HangsTogether$Joins" "village" "LHangsTogether$Village;" ∈ gdW := gdW_at 106 (by decide +kernel) rfl
theorem wf_X2_15 : Cond.fieldLink RX2 15 "HangsTogether$Joins" "state" "[I" ∈ gdW := gdW_at 107 (by decide +kernel) rfl
theorem wf_X2_19 : Cond.fieldLinkNest RX2 19 "HangsTogether$Village" "houses" "I" "HangsTogether" ∈ nsW := nsW_at 28 (by decide +kernel) rfl
theorem wf_X2_29 : Cond.fieldLinkNest RX2 29 "HangsTogether$Village" "lanes" "I" "HangsTogether" ∈ nsW := nsW_at 31 (by decide +kernel) rfl
theorem wf_X2_32 : Cond.fieldLinkNest RX2 32 "HangsTogether$Village" "from" "[I" "HangsTogether" ∈ nsW := nsW_at 48 (by decide +kernel) rfl
theorem wf_X2_35 : Cond.fieldLinkNest RX2 35 "HangsTogether$Village" "to" "[I" "HangsTogether" ∈ nsW := nsW_at 52 (by decide +kernel) rfl
theorem wf_X3_9 : Cond.fieldLink RX3 9 "HangsTogether$Letters" "letter" "[I" ∈ gdW := gdW_at 92 (by decide +kernel) rfl
theorem wf_X3_15 : Cond.fieldLink RX3 15 "HangsTogether$Letters" "size" "I" ∈ gdW := gdW_at 93 (by decide +kernel) rfl
theorem wf_X4_9 : Cond.fieldLink RX4 9 "HangsTogether$Plans" "houses" "I" ∈ gdW := gdW_at 162 (by decide +kernel) rfl
theorem wf_X4_15 : Cond.fieldLink RX4 15 "HangsTogether$Plans" "ways" "[I" ∈ gdW := gdW_at 163 (by decide +kernel) rfl
theorem wf_X4_19 : Cond.fieldLink RX4 19 "HangsTogether$Plans" "most" "[I" ∈ gdW := gdW_at 164 (by decide +kernel) rfl
theorem wf_X4_22 : Cond.fieldLink RX4 22 "HangsTogether$Plans" "first" "[I" ∈ gdW := gdW_at 165 (by decide +kernel) rfl
theorem wf_X5_9 : Cond.fieldLink RX5 9 "HangsTogether$Row" "village" "LHangsTogether$Village;" ∈ gdW := gdW_at 181 (by decide +kernel) rfl
theorem wf_X5_15 : Cond.fieldLink RX5 15 "HangsTogether$Row" "joins" "LHangsTogether$Joins;" ∈ gdW := gdW_at 182 (by decide +kernel) rfl
theorem wf_X5_19 : Cond.fieldLink RX5 19 "HangsTogether$Row" "told" "[I" ∈ gdW := gdW_at 183 (by decide +kernel) rfl
theorem wf_X5_23 : Cond.fieldLink RX5 23 "HangsTogether$Row" "size" "I" ∈ gdW := gdW_at 184 (by decide +kernel) rfl
theorem wf_X6_9 : Cond.fieldLink RX6 9 "HangsTogether$Village" "houses" "I" ∈ gdW := gdW_at 27 (by decide +kernel) rfl
theorem wf_X6_15 : Cond.fieldLink RX6 15 "HangsTogether$Village" "lanes" "I" ∈ gdW := gdW_at 30 (by decide +kernel) rfl
theorem wf_X6_18 : Cond.fieldLink RX6 18 "HangsTogether$Village" "must" "I" ∈ gdW := gdW_at 36 (by decide +kernel) rfl
theorem wf_X6_21 : Cond.fieldLink RX6 21 "HangsTogether$Village" "barred" "I" ∈ gdW := gdW_at 39 (by decide +kernel) rfl
theorem wf_X6_24 : Cond.fieldLink RX6 24 "HangsTogether$Village" "kind" "[I" ∈ gdW := gdW_at 43 (by decide +kernel) rfl
theorem wf_X6_28 : Cond.fieldLink RX6 28 "HangsTogether$Village" "from" "[I" ∈ gdW := gdW_at 47 (by decide +kernel) rfl
theorem wf_X6_31 : Cond.fieldLink RX6 31 "HangsTogether$Village" "to" "[I" ∈ gdW := gdW_at 51 (by decide +kernel) rfl
theorem wf_X6_34 : Cond.fieldLink RX6 34 "HangsTogether$Village" "weight" "[I" ∈ gdW := gdW_at 56 (by decide +kernel) rfl
theorem wf_X6_37 : Cond.fieldLink RX6 37 "HangsTogether$Village" "cost" "[I" ∈ gdW := gdW_at 59 (by decide +kernel) rfl
theorem wf_X6_40 : Cond.fieldLink RX6 40 "HangsTogether$Village" "drift" "[I" ∈ gdW := gdW_at 61 (by decide +kernel) rfl
theorem wf_X7_9 : Cond.fieldLink RX7 9 "HangsTogether$Ways" "village" "LHangsTogether$Village;" ∈ gdW := gdW_at 119 (by decide +kernel) rfl
theorem wf_X7_15 : Cond.fieldLink RX7 15 "HangsTogether$Ways" "joins" "LHangsTogether$Joins;" ∈ gdW := gdW_at 120 (by decide +kernel) rfl
theorem wf_X7_19 : Cond.fieldLink RX7 19 "HangsTogether$Ways" "size" "I" ∈ gdW := gdW_at 121 (by decide +kernel) rfl
theorem wf_X7_23 : Cond.fieldLink RX7 23 "HangsTogether$Ways" "bits" "[I" ∈ gdW := gdW_at 124 (by decide +kernel) rfl
theorem wf_X7_27 : Cond.fieldLink RX7 27 "HangsTogether$Ways" "worth" "[I" ∈ gdW := gdW_at 125 (by decide +kernel) rfl
theorem wf_X7_30 : Cond.fieldLink RX7 30 "HangsTogether$Ways" "keys" "[I" ∈ gdW := gdW_at 126 (by decide +kernel) rfl
theorem wf_X7_33 : Cond.fieldLink RX7 33 "HangsTogether$Ways" "sorted" "Z" ∈ gdW := gdW_at 127 (by decide +kernel) rfl
theorem wf_X7_81 : Cond.fieldLinkNest RX7 81 "HangsTogether$Village" "lanes" "I" "HangsTogether" ∈ nsW := nsW_at 35 (by decide +kernel) rfl
theorem wf_X7_84 : Cond.fieldLinkNest RX7 84 "HangsTogether$Village" "kind" "[I" "HangsTogether" ∈ nsW := nsW_at 46 (by decide +kernel) rfl
theorem wf_X7_87 : Cond.fieldLinkNest RX7 87 "HangsTogether$Village" "to" "[I" "HangsTogether" ∈ nsW := nsW_at 55 (by decide +kernel) rfl
theorem wf_X8_10 : Cond.fieldLink RX8 10 "HangsTogether" "now" "LHangsTogether$Village;" ∈ gdW := gdW_at 277 (by decide +kernel) rfl
theorem wf_X8_16 : Cond.fieldLink RX8 16 "HangsTogether" "draft" "LHangsTogether$Village;" ∈ gdW := gdW_at 278 (by decide +kernel) rfl
theorem wf_X8_19 : Cond.fieldLink RX8 19 "HangsTogether" "taken" "LHangsTogether$Village;" ∈ gdW := gdW_at 279 (by decide +kernel) rfl
theorem wf_X8_22 : Cond.fieldLink RX8 22 "HangsTogether" "imageTaken" "Z" ∈ gdW := gdW_at 280 (by decide +kernel) rfl
theorem wf_X8_29 : Cond.fieldLink RX8 29 "HangsTogether" "letters" "LHangsTogether$Letters;" ∈ gdW := gdW_at 281 (by decide +kernel) rfl
theorem wf_X8_38 : Cond.fieldLink RX8 38 "HangsTogether" "joins" "LHangsTogether$Joins;" ∈ gdW := gdW_at 282 (by decide +kernel) rfl
theorem wf_X8_47 : Cond.fieldLink RX8 47 "HangsTogether" "ways" "LHangsTogether$Ways;" ∈ gdW := gdW_at 283 (by decide +kernel) rfl
theorem wf_X8_54 : Cond.fieldLink RX8 54 "HangsTogether" "woods" "LHangsTogether$Forests;" ∈ gdW := gdW_at 284 (by decide +kernel) rfl
theorem wf_X8_61 : Cond.fieldLink RX8 61 "HangsTogether" "plans" "LHangsTogether$Plans;" ∈ gdW := gdW_at 285 (by decide +kernel) rfl
theorem wf_X8_68 : Cond.fieldLink RX8 68 "HangsTogether" "toldRow" "LHangsTogether$Row;" ∈ gdW := gdW_at 286 (by decide +kernel) rfl
theorem wf_X8_77 : Cond.fieldLink RX8 77 "HangsTogether" "drawers" "LHangsTogether$Drawers;" ∈ gdW := gdW_at 287 (by decide +kernel) rfl
theorem wf_X8_81 : Cond.fieldLink RX8 81 "HangsTogether" "refusals" "[I" ∈ gdW := gdW_at 288 (by decide +kernel) rfl
theorem wf_X8_119 : Cond.fieldLinkNest RX8 119 "HangsTogether$Village" "kind" "[I" "HangsTogether" ∈ nsW := nsW_at 44 (by decide +kernel) rfl
theorem wf_X8_122 : Cond.fieldLinkNest RX8 122 "HangsTogether$Village" "from" "[I" "HangsTogether" ∈ nsW := nsW_at 49 (by decide +kernel) rfl
theorem wf_X8_125 : Cond.fieldLinkNest RX8 125 "HangsTogether$Village" "to" "[I" "HangsTogether" ∈ nsW := nsW_at 53 (by decide +kernel) rfl
theorem wf_X8_128 : Cond.fieldLinkNest RX8 128 "HangsTogether$Village" "weight" "[I" "HangsTogether" ∈ nsW := nsW_at 57 (by decide +kernel) rfl
theorem wf_X8_131 : Cond.fieldLinkNest RX8 131 "HangsTogether$Village" "cost" "[I" "HangsTogether" ∈ nsW := nsW_at 60 (by decide +kernel) rfl
theorem wf_X8_134 : Cond.fieldLinkNest RX8 134 "HangsTogether$Village" "drift" "[I" "HangsTogether" ∈ nsW := nsW_at 62 (by decide +kernel) rfl
theorem wf_X8_144 : Cond.fieldLinkNest RX8 144 "HangsTogether$Village" "lanes" "I" "HangsTogether" ∈ nsW := nsW_at 32 (by decide +kernel) rfl
theorem wf_X8_164 : Cond.fieldLinkNest RX8 164 "HangsTogether$Ways" "size" "I" "HangsTogether" ∈ nsW := nsW_at 123 (by decide +kernel) rfl
theorem wf_X8_240 : Cond.fieldLinkNest RX8 240 "HangsTogether$Village" "must" "I" "HangsTogether" ∈ nsW := nsW_at 38 (by decide +kernel) rfl
theorem wf_X8_243 : Cond.fieldLinkNest RX8 243 "HangsTogether$Village" "barred" "I" "HangsTogether" ∈ nsW := nsW_at 42 (by decide +kernel) rfl
theorem wf_X8_252 : Cond.fieldLinkNest RX8 252 "HangsTogether$Village" "houses" "I" "HangsTogether" ∈ nsW := nsW_at 29 (by decide +kernel) rfl
theorem wf_X8_288 : Cond.fieldLinkNest RX8 288 "HangsTogether$Letters" "size" "I" "HangsTogether" ∈ nsW := nsW_at 94 (by decide +kernel) rfl
theorem wf_X8_289 : Cond.fieldLinkNest RX8 289 "HangsTogether$Row" "size" "I" "HangsTogether" ∈ nsW := nsW_at 185 (by decide +kernel) rfl
theorem wf_X9_7 : Cond.fieldLink RX9 7 "HangsTogetherModel" "refused" "[I" ∈ gdW := gdW_at 863 (by decide +kernel) rfl
theorem wf_X9_13 : Cond.fieldLink RX9 13 "HangsTogetherModel" "kind" "[I" ∈ gdW := gdW_at 864 (by decide +kernel) rfl
theorem wf_X9_16 : Cond.fieldLink RX9 16 "HangsTogetherModel" "from" "[I" ∈ gdW := gdW_at 865 (by decide +kernel) rfl
theorem wf_X9_19 : Cond.fieldLink RX9 19 "HangsTogetherModel" "to" "[I" ∈ gdW := gdW_at 866 (by decide +kernel) rfl
theorem wf_X9_22 : Cond.fieldLink RX9 22 "HangsTogetherModel" "ofW" "[I" ∈ gdW := gdW_at 867 (by decide +kernel) rfl
theorem wf_X9_25 : Cond.fieldLink RX9 25 "HangsTogetherModel" "ofC" "[I" ∈ gdW := gdW_at 868 (by decide +kernel) rfl
theorem wf_X9_28 : Cond.fieldLink RX9 28 "HangsTogetherModel" "ofD" "[I" ∈ gdW := gdW_at 869 (by decide +kernel) rfl
theorem wf_X9_31 : Cond.fieldLink RX9 31 "HangsTogetherModel" "ruled" "[I" ∈ gdW := gdW_at 870 (by decide +kernel) rfl
theorem wf_X9_34 : Cond.fieldLink RX9 34 "HangsTogetherModel" "houses" "I" ∈ gdW := gdW_at 871 (by decide +kernel) rfl
theorem wf_X9_38 : Cond.fieldLink RX9 38 "HangsTogetherModel" "tape" "[I" ∈ gdW := gdW_at 873 (by decide +kernel) rfl
theorem wf_X9_41 : Cond.fieldLink RX9 41 "HangsTogetherModel" "letter" "[I" ∈ gdW := gdW_at 874 (by decide +kernel) rfl
theorem wf_X9_44 : Cond.fieldLink RX9 44 "HangsTogetherModel" "letterAt" "[I" ∈ gdW := gdW_at 875 (by decide +kernel) rfl
theorem wf_X9_47 : Cond.fieldLink RX9 47 "HangsTogetherModel" "told" "[I" ∈ gdW := gdW_at 876 (by decide +kernel) rfl
theorem wf_X9_50 : Cond.fieldLink RX9 50 "HangsTogetherModel" "kept" "[I" ∈ gdW := gdW_at 880 (by decide +kernel) rfl
theorem wf_X9_53 : Cond.fieldLink RX9 53 "HangsTogetherModel" "part" "[I" ∈ gdW := gdW_at 884 (by decide +kernel) rfl
theorem wf_X9_56 : Cond.fieldLink RX9 56 "HangsTogetherModel" "ways" "[I" ∈ gdW := gdW_at 885 (by decide +kernel) rfl
theorem wf_X9_59 : Cond.fieldLink RX9 59 "HangsTogetherModel" "worths" "[J" ∈ gdW := gdW_at 886 (by decide +kernel) rfl
theorem wf_X9_63 : Cond.fieldLink RX9 63 "HangsTogetherModel" "pairA" "[I" ∈ gdW := gdW_at 888 (by decide +kernel) rfl
theorem wf_X9_66 : Cond.fieldLink RX9 66 "HangsTogetherModel" "pairB" "[I" ∈ gdW := gdW_at 889 (by decide +kernel) rfl
theorem wf_X9_69 : Cond.fieldLink RX9 69 "HangsTogetherModel" "trees" "[I" ∈ gdW := gdW_at 890 (by decide +kernel) rfl
theorem wf_X9_72 : Cond.fieldLink RX9 72 "HangsTogetherModel" "row" "[I" ∈ gdW := gdW_at 896 (by decide +kernel) rfl
theorem wf_X9_77 : Cond.fieldLink RX9 77 "HangsTogetherModel" "lanes" "I" ∈ gdW := gdW_at 872 (by decide +kernel) rfl
theorem wf_X9_84 : Cond.fieldLink RX9 84 "HangsTogetherModel" "taped" "I" ∈ gdW := gdW_at 877 (by decide +kernel) rfl
theorem wf_X9_91 : Cond.fieldLink RX9 91 "HangsTogetherModel" "at" "I" ∈ gdW := gdW_at 878 (by decide +kernel) rfl
theorem wf_X9_102 : Cond.fieldLink RX9 102 "HangsTogetherModel" "statements" "I" ∈ gdW := gdW_at 879 (by decide +kernel) rfl
theorem wf_X9_136 : Cond.fieldLink RX9 136 "HangsTogetherModel" "isKeeping" "Z" ∈ gdW := gdW_at 882 (by decide +kernel) rfl
theorem wf_X9_140 : Cond.fieldLink RX9 140 "HangsTogetherModel" "cursor" "I" ∈ gdW := gdW_at 883 (by decide +kernel) rfl
theorem wf_X9_150 : Cond.fieldLink RX9 150 "HangsTogetherModel" "hasImage" "Z" ∈ gdW := gdW_at 881 (by decide +kernel) rfl
theorem wf_X9_183 : Cond.fieldLink RX9 183 "HangsTogetherModel" "wayMany" "I" ∈ gdW := gdW_at 887 (by decide +kernel) rfl
theorem wf_X9_247 : Cond.fieldLink RX9 247 "HangsTogetherModel" "pairs" "I" ∈ gdW := gdW_at 891 (by decide +kernel) rfl
theorem wf_X9_250 : Cond.fieldLink RX9 250 "HangsTogetherModel" "treeMany" "I" ∈ gdW := gdW_at 892 (by decide +kernel) rfl
theorem wf_X9_256 : Cond.fieldLink RX9 256 "HangsTogetherModel" "planMany" "I" ∈ gdW := gdW_at 893 (by decide +kernel) rfl
theorem wf_X9_259 : Cond.fieldLink RX9 259 "HangsTogetherModel" "planBits" "I" ∈ gdW := gdW_at 894 (by decide +kernel) rfl
theorem wf_X9_266 : Cond.fieldLink RX9 266 "HangsTogetherModel" "lots" "I" ∈ gdW := gdW_at 895 (by decide +kernel) rfl
theorem wf_X9_283 : Cond.fieldLink RX9 283 "HangsTogetherModel" "rowMany" "I" ∈ gdW := gdW_at 897 (by decide +kernel) rfl
theorem wm_L_13 : Cond.methodLink RL 13 yX8_feed ∈ gdW := gdW_at 314 (by decide +kernel) rfl
theorem wm_L_17 : Cond.methodLink RL 17 yX9_feed ∈ gdW := gdW_at 970 (by decide +kernel) rfl
theorem wm_L_18 : Cond.methodLink RL 18 yX8_village ∈ gdW := gdW_at 330 (by decide +kernel) rfl
theorem wm_L_22 : Cond.methodLink RL 22 yX9_village ∈ gdW := gdW_at 981 (by decide +kernel) rfl
theorem wm_L_23 : Cond.methodLink RL 23 yX8_lane ∈ gdW := gdW_at 424 (by decide +kernel) rfl
theorem wm_L_27 : Cond.methodLink RL 27 yX9_lane ∈ gdW := gdW_at 1044 (by decide +kernel) rfl
theorem wm_L_28 : Cond.methodLink RL 28 yX8_rule ∈ gdW := gdW_at 433 (by decide +kernel) rfl
theorem wm_L_31 : Cond.methodLink RL 31 yX9_rule ∈ gdW := gdW_at 1060 (by decide +kernel) rfl
theorem wm_L_32 : Cond.methodLink RL 32 yX8_takeUp ∈ gdW := gdW_at 438 (by decide +kernel) rfl
theorem wm_L_35 : Cond.methodLink RL 35 yX9_takeUp ∈ gdW := gdW_at 1064 (by decide +kernel) rfl
theorem wm_L_36 : Cond.methodLink RL 36 yX8_is ∈ gdW := gdW_at 447 (by decide +kernel) rfl
theorem wm_L_39 : Cond.methodLink RL 39 yX9_is ∈ gdW := gdW_at 1068 (by decide +kernel) rfl
theorem wm_L_40 : Cond.methodLink RL 40 yX8_hangs ∈ gdW := gdW_at 469 (by decide +kernel) rfl
theorem wm_L_43 : Cond.methodLink RL 43 yX9_hangs ∈ gdW := gdW_at 1103 (by decide +kernel) rfl
theorem wm_L_44 : Cond.methodLink RL 44 yX8_parts ∈ gdW := gdW_at 477 (by decide +kernel) rfl
theorem wm_L_47 : Cond.methodLink RL 47 yX9_parts ∈ gdW := gdW_at 1107 (by decide +kernel) rfl
theorem wm_L_48 : Cond.methodLink RL 48 yX8_many ∈ gdW := gdW_at 481 (by decide +kernel) rfl
theorem wm_L_51 : Cond.methodLink RL 51 yX9_many ∈ gdW := gdW_at 1111 (by decide +kernel) rfl
theorem wm_L_52 : Cond.methodLink RL 52 yX8_sum ∈ gdW := gdW_at 485 (by decide +kernel) rfl
theorem wm_L_56 : Cond.methodLink RL 56 yX9_sum ∈ gdW := gdW_at 1123 (by decide +kernel) rfl
theorem wm_L_57 : Cond.methodLink RL 57 yX8_way ∈ gdW := gdW_at 493 (by decide +kernel) rfl
theorem wm_L_60 : Cond.methodLink RL 60 yX9_way ∈ gdW := gdW_at 1131 (by decide +kernel) rfl
theorem wm_L_61 : Cond.methodLink RL 61 yX8_likely ∈ gdW := gdW_at 505 (by decide +kernel) rfl
theorem wm_L_65 : Cond.methodLink RL 65 yX9_likely ∈ gdW := gdW_at 1135 (by decide +kernel) rfl
theorem wm_L_66 : Cond.methodLink RL 66 yX8_pair ∈ gdW := gdW_at 527 (by decide +kernel) rfl
theorem wm_L_70 : Cond.methodLink RL 70 yX9_pair ∈ gdW := gdW_at 1154 (by decide +kernel) rfl
theorem wm_L_71 : Cond.methodLink RL 71 yX8_less ∈ gdW := gdW_at 531 (by decide +kernel) rfl
theorem wm_L_74 : Cond.methodLink RL 74 yX9_less ∈ gdW := gdW_at 1158 (by decide +kernel) rfl
theorem wm_L_75 : Cond.methodLink RL 75 yX8_inAll ∈ gdW := gdW_at 535 (by decide +kernel) rfl
theorem wm_L_78 : Cond.methodLink RL 78 yX9_inAll ∈ gdW := gdW_at 1169 (by decide +kernel) rfl
theorem wm_L_79 : Cond.methodLink RL 79 yX8_inNone ∈ gdW := gdW_at 544 (by decide +kernel) rfl
theorem wm_L_82 : Cond.methodLink RL 82 yX9_inNone ∈ gdW := gdW_at 1173 (by decide +kernel) rfl
theorem wm_L_83 : Cond.methodLink RL 83 yX8_cheap ∈ gdW := gdW_at 552 (by decide +kernel) rfl
theorem wm_L_86 : Cond.methodLink RL 86 yX9_cheap ∈ gdW := gdW_at 1177 (by decide +kernel) rfl
theorem wm_L_87 : Cond.methodLink RL 87 yX8_nights ∈ gdW := gdW_at 576 (by decide +kernel) rfl
theorem wm_L_90 : Cond.methodLink RL 90 yX9_nights ∈ gdW := gdW_at 1189 (by decide +kernel) rfl
theorem wm_L_91 : Cond.methodLink RL 91 yX8_step ∈ gdW := gdW_at 586 (by decide +kernel) rfl
theorem wm_L_94 : Cond.methodLink RL 94 yX9_step ∈ gdW := gdW_at 1193 (by decide +kernel) rfl
theorem wm_L_95 : Cond.methodLink RL 95 yX8_toward ∈ gdW := gdW_at 595 (by decide +kernel) rfl
theorem wm_L_98 : Cond.methodLink RL 98 yX9_toward ∈ gdW := gdW_at 1197 (by decide +kernel) rfl
theorem wm_L_99 : Cond.methodLink RL 99 yX8_forests ∈ gdW := gdW_at 616 (by decide +kernel) rfl
theorem wm_L_102 : Cond.methodLink RL 102 yX9_forests ∈ gdW := gdW_at 1205 (by decide +kernel) rfl
theorem wm_L_103 : Cond.methodLink RL 103 yX8_ploughs ∈ gdW := gdW_at 627 (by decide +kernel) rfl
theorem wm_L_106 : Cond.methodLink RL 106 yX9_ploughs ∈ gdW := gdW_at 1209 (by decide +kernel) rfl
theorem wm_L_107 : Cond.methodLink RL 107 yX8_hard ∈ gdW := gdW_at 648 (by decide +kernel) rfl
theorem wm_L_110 : Cond.methodLink RL 110 yX9_hard ∈ gdW := gdW_at 1217 (by decide +kernel) rfl
theorem wm_L_111 : Cond.methodLink RL 111 yX8_more ∈ gdW := gdW_at 670 (by decide +kernel) rfl
theorem wm_L_114 : Cond.methodLink RL 114 yX9_more ∈ gdW := gdW_at 1233 (by decide +kernel) rfl
theorem wm_L_115 : Cond.methodLink RL 115 yX8_holds ∈ gdW := gdW_at 674 (by decide +kernel) rfl
theorem wm_L_119 : Cond.methodLink RL 119 yX9_holds ∈ gdW := gdW_at 1237 (by decide +kernel) rfl
theorem wm_L_120 : Cond.methodLink RL 120 yX8_plan ∈ gdW := gdW_at 697 (by decide +kernel) rfl
theorem wm_L_123 : Cond.methodLink RL 123 yX9_plan ∈ gdW := gdW_at 1242 (by decide +kernel) rfl
theorem wm_L_124 : Cond.methodLink RL 124 yX8_draw ∈ gdW := gdW_at 734 (by decide +kernel) rfl
theorem wm_L_127 : Cond.methodLink RL 127 yX9_draw ∈ gdW := gdW_at 1254 (by decide +kernel) rfl
theorem wm_L_128 : Cond.methodLink RL 128 yX8_often ∈ gdW := gdW_at 802 (by decide +kernel) rfl
theorem wm_L_132 : Cond.methodLink RL 132 yX9_often ∈ gdW := gdW_at 1296 (by decide +kernel) rfl
theorem wm_L_133 : Cond.methodLink RL 133 yX8_row ∈ gdW := gdW_at 806 (by decide +kernel) rfl
theorem wm_L_136 : Cond.methodLink RL 136 yX9_row ∈ gdW := gdW_at 1300 (by decide +kernel) rfl
theorem wm_L_137 : Cond.methodLink RL 137 yX8_judge ∈ gdW := gdW_at 818 (by decide +kernel) rfl
theorem wm_L_140 : Cond.methodLink RL 140 yX9_judge ∈ gdW := gdW_at 1304 (by decide +kernel) rfl
theorem wm_L_141 : Cond.methodLink RL 141 yX8_image ∈ gdW := gdW_at 836 (by decide +kernel) rfl
theorem wm_L_144 : Cond.methodLink RL 144 yX9_image ∈ gdW := gdW_at 1036 (by decide +kernel) rfl
theorem wm_L_145 : Cond.methodLink RL 145 yX8_restore ∈ gdW := gdW_at 840 (by decide +kernel) rfl
theorem wm_L_148 : Cond.methodLink RL 148 yX9_restore ∈ gdW := gdW_at 1040 (by decide +kernel) rfl
theorem wm_L_149 : Cond.methodLink RL 149 yX8_count ∈ gdW := gdW_at 844 (by decide +kernel) rfl
theorem wm_L_152 : Cond.methodLink RL 152 yX9_count ∈ gdW := gdW_at 1308 (by decide +kernel) rfl
theorem wm_X0_40 : Cond.methodLink RX0 40 yX0_lookRound ∈ gdW := gdW_at 746 (by decide +kernel) rfl
theorem wm_X0_43 : Cond.methodLink RX0 43 yX0_walkAbout ∈ gdW := gdW_at 758 (by decide +kernel) rfl
theorem wm_X0_47 : Cond.methodLink RX0 47 yX0_laneByLane ∈ gdW := gdW_at 775 (by decide +kernel) rfl
theorem wm_X0_50 : Cond.methodLinkNest RX0 50 yX7_bitsByCost "HangsTogether" ∈ nsW := nsW_at 791 (by decide +kernel) rfl
theorem wm_X0_56 : Cond.methodLinkNest RX0 56 yX7_dearest "HangsTogether" ∈ nsW := nsW_at 792 (by decide +kernel) rfl
theorem wm_X0_62 : Cond.methodLink RX0 62 yX0_below ∈ gdW := gdW_at 767 (by decide +kernel) rfl
theorem wm_X0_65 : Cond.methodLinkNest RX0 65 yX7_at "HangsTogether" ∈ nsW := nsW_at 796 (by decide +kernel) rfl
theorem wm_X0_68 : Cond.methodLinkNest RX0 68 yX5_asWay "HangsTogether" ∈ nsW := nsW_at 797 (by decide +kernel) rfl
theorem wm_X0_81 : Cond.methodLink RX0 81 yX0_goesOn ∈ gdW := gdW_at 750 (by decide +kernel) rfl
theorem wm_X0_100 : Cond.methodLinkNest RX0 100 yX6_allHouses "HangsTogether" ∈ nsW := nsW_at 762 (by decide +kernel) rfl
theorem wm_X0_103 : Cond.methodLink RX0 103 yX0_laneFrom ∈ gdW := gdW_at 763 (by decide +kernel) rfl
theorem wm_X0_106 : Cond.methodLinkNest RX0 106 yX6_hasLane "HangsTogether" ∈ nsW := nsW_at 774 (by decide +kernel) rfl
theorem wm_X0_110 : Cond.methodLinkNest RX0 110 yX7_copyTo "HangsTogether" ∈ nsW := nsW_at 779 (by decide +kernel) rfl
theorem wm_X0_114 : Cond.methodLink RX0 114 yX0_poolWorthWith ∈ gdW := gdW_at 783 (by decide +kernel) rfl
theorem wm_X0_118 : Cond.methodLink RX0 118 yX0_narrow ∈ gdW := gdW_at 787 (by decide +kernel) rfl
theorem wm_X1_19 : Cond.methodLinkNest RX1 19 yX6_sets "HangsTogether" ∈ nsW := nsW_at 624 (by decide +kernel) rfl
theorem wm_X1_25 : Cond.methodLinkNest RX1 25 yX6_allows "HangsTogether" ∈ nsW := nsW_at 625 (by decide +kernel) rfl
theorem wm_X1_29 : Cond.methodLinkNest RX1 29 yX2_leavesForest "HangsTogether" ∈ nsW := nsW_at 626 (by decide +kernel) rfl
theorem wm_X1_35 : Cond.methodLink RX1 35 yJ6_bitCount ∈ gdW := gdW_at 643 (by decide +kernel) rfl
theorem wm_X1_41 : Cond.methodLinkNest RX1 41 yX2_areAllApart "HangsTogether" ∈ nsW := nsW_at 644 (by decide +kernel) rfl
theorem wm_X1_44 : Cond.methodLink RX1 44 yX1_isOpen ∈ gdW := gdW_at 660 (by decide +kernel) rfl
theorem wm_X1_47 : Cond.methodLinkNest RX1 47 yX6_worthOf "HangsTogether" ∈ nsW := nsW_at 664 (by decide +kernel) rfl
theorem wm_X1_50 : Cond.methodLinkNest RX1 50 yX2_areTogether "HangsTogether" ∈ nsW := nsW_at 669 (by decide +kernel) rfl
theorem wm_X1_58 : Cond.methodLinkNest RX1 58 yX6_allLanes "HangsTogether" ∈ nsW := nsW_at 686 (by decide +kernel) rfl
theorem wm_X1_64 : Cond.methodLink RX1 64 yX1_free ∈ gdW := gdW_at 682 (by decide +kernel) rfl
theorem wm_X1_69 : Cond.methodLinkNest RX1 69 yX2_partsLeft "HangsTogether" ∈ nsW := nsW_at 687 (by decide +kernel) rfl
theorem wm_X1_72 : Cond.methodLink RX1 72 yX1_chancesOf ∈ gdW := gdW_at 688 (by decide +kernel) rfl
theorem wm_X2_25 : Cond.methodLink RX2 25 yX2_apart ∈ gdW := gdW_at 230 (by decide +kernel) rfl
theorem wm_X2_38 : Cond.methodLink RX2 38 yX2_joinAll ∈ gdW := gdW_at 233 (by decide +kernel) rfl
theorem wm_X2_42 : Cond.methodLink RX2 42 yX2_joined ∈ gdW := gdW_at 236 (by decide +kernel) rfl
theorem wm_X2_46 : Cond.methodLink RX2 46 yX2_partOf ∈ gdW := gdW_at 239 (by decide +kernel) rfl
theorem wm_X2_51 : Cond.methodLink RX2 51 Lib.Math.min.name ∈ gdW := gdW_at 243 (by decide +kernel) rfl
theorem wm_X2_56 : Cond.methodLink RX2 56 Lib.Math.max.name ∈ gdW := gdW_at 246 (by decide +kernel) rfl
theorem wm_X2_60 : Cond.methodLink RX2 60 yX2_stateOf ∈ gdW := gdW_at 266 (by decide +kernel) rfl
theorem wm_X2_63 : Cond.methodLink RX2 63 yX2_isForest ∈ gdW := gdW_at 270 (by decide +kernel) rfl
theorem wm_X2_67 : Cond.methodLinkNest RX2 67 yX6_hasAll "HangsTogether" ∈ nsW := nsW_at 463 (by decide +kernel) rfl
theorem wm_X2_71 : Cond.methodLinkNest RX2 71 yX6_allows "HangsTogether" ∈ nsW := nsW_at 464 (by decide +kernel) rfl
theorem wm_X2_74 : Cond.methodLink RX2 74 yX2_leavesForest ∈ gdW := gdW_at 465 (by decide +kernel) rfl
theorem wm_X3_19 : Cond.methodLink RX3 19 yX3_placeOfWrongForm ∈ gdW := gdW_at 342 (by decide +kernel) rfl
theorem wm_X3_23 : Cond.methodLink RX3 23 yX3_tellOne ∈ gdW := gdW_at 358 (by decide +kernel) rfl
theorem wm_X3_27 : Cond.methodLink RX3 27 yX3_after ∈ gdW := gdW_at 346 (by decide +kernel) rfl
theorem wm_X3_31 : Cond.methodLink RX3 31 yX3_afterStart ∈ gdW := gdW_at 349 (by decide +kernel) rfl
theorem wm_X3_35 : Cond.methodLink RX3 35 yX3_isDigit ∈ gdW := gdW_at 352 (by decide +kernel) rfl
theorem wm_X3_39 : Cond.methodLink RX3 39 yX3_afterComma ∈ gdW := gdW_at 355 (by decide +kernel) rfl
theorem wm_X3_42 : Cond.methodLink RX3 42 yX3_number ∈ gdW := gdW_at 362 (by decide +kernel) rfl
theorem wm_X3_45 : Cond.methodLink RX3 45 yX3_letterAt ∈ gdW := gdW_at 366 (by decide +kernel) rfl
theorem wm_X3_48 : Cond.methodLinkNest RX3 48 yX6_setHouses "HangsTogether" ∈ nsW := nsW_at 374 (by decide +kernel) rfl
theorem wm_X3_53 : Cond.methodLink RX3 53 yX3_tellRule ∈ gdW := gdW_at 383 (by decide +kernel) rfl
theorem wm_X3_56 : Cond.methodLink RX3 56 yX3_tellLane ∈ gdW := gdW_at 394 (by decide +kernel) rfl
theorem wm_X3_59 : Cond.methodLinkNest RX3 59 yX6_hasLane "HangsTogether" ∈ nsW := nsW_at 386 (by decide +kernel) rfl
theorem wm_X3_62 : Cond.methodLinkNest RX3 62 yX6_setRule "HangsTogether" ∈ nsW := nsW_at 390 (by decide +kernel) rfl
theorem wm_X3_66 : Cond.methodLink RX3 66 yX3_digitAt ∈ gdW := gdW_at 370 (by decide +kernel) rfl
theorem wm_X3_69 : Cond.methodLinkNest RX3 69 yX6_addLane "HangsTogether" ∈ nsW := nsW_at 398 (by decide +kernel) rfl
theorem wm_X4_25 : Cond.methodLinkNest RX4 25 yX8_pairsOf "HangsTogether" ∈ nsW := nsW_at 708 (by decide +kernel) rfl
theorem wm_X4_29 : Cond.methodLink RX4 29 yX4_joinPairs ∈ gdW := gdW_at 709 (by decide +kernel) rfl
theorem wm_X4_32 : Cond.methodLinkNest RX4 32 yX2_isForest "HangsTogether" ∈ nsW := nsW_at 715 (by decide +kernel) rfl
theorem wm_X4_38 : Cond.methodLinkNest RX4 38 yX8_yesNo "HangsTogether" ∈ nsW := nsW_at 716 (by decide +kernel) rfl
theorem wm_X4_42 : Cond.methodLink RX4 42 yX4_addThoseWithout ∈ gdW := gdW_at 717 (by decide +kernel) rfl
theorem wm_X4_46 : Cond.methodLink RX4 46 yX4_chooseBest ∈ gdW := gdW_at 721 (by decide +kernel) rfl
theorem wm_X4_50 : Cond.methodLinkNest RX4 50 yX2_apart "HangsTogether" ∈ nsW := nsW_at 713 (by decide +kernel) rfl
theorem wm_X4_53 : Cond.methodLinkNest RX4 53 yX2_joinAll "HangsTogether" ∈ nsW := nsW_at 714 (by decide +kernel) rfl
theorem wm_X4_57 : Cond.methodLink RX4 57 yJ6_bitCount ∈ gdW := gdW_at 725 (by decide +kernel) rfl
theorem wm_X5_27 : Cond.methodLinkNest RX5 27 yX6_hasLane "HangsTogether" ∈ nsW := nsW_at 826 (by decide +kernel) rfl
theorem wm_X5_33 : Cond.methodLinkNest RX5 33 yX6_ruleOf "HangsTogether" ∈ nsW := nsW_at 827 (by decide +kernel) rfl
theorem wm_X5_37 : Cond.methodLinkNest RX5 37 yX2_hasRing "HangsTogether" ∈ nsW := nsW_at 828 (by decide +kernel) rfl
theorem wm_X5_42 : Cond.methodLinkNest RX5 42 yX2_isWay "HangsTogether" ∈ nsW := nsW_at 801 (by decide +kernel) rfl
theorem wm_X6_43 : Cond.methodLink RX6 43 yX6_allHouses ∈ gdW := gdW_at 635 (by decide +kernel) rfl
theorem wm_X6_47 : Cond.methodLink RX6 47 yX6_allLanes ∈ gdW := gdW_at 455 (by decide +kernel) rfl
theorem wm_X6_50 : Cond.methodLink RX6 50 yX6_farthestHouse ∈ gdW := gdW_at 378 (by decide +kernel) rfl
theorem wm_X6_53 : Cond.methodLink RX6 53 Lib.Math.max.name ∈ gdW := gdW_at 382 (by decide +kernel) rfl
theorem wm_X6_59 : Cond.methodLink RX6 59 yX6_hasHouse ∈ gdW := gdW_at 402 (by decide +kernel) rfl
theorem wm_X6_63 : Cond.methodLink RX6 63 yX6_weightByKind ∈ gdW := gdW_at 406 (by decide +kernel) rfl
theorem wm_X6_66 : Cond.methodLink RX6 66 yX6_costByKind ∈ gdW := gdW_at 409 (by decide +kernel) rfl
theorem wm_X6_69 : Cond.methodLink RX6 69 yX6_driftByKind ∈ gdW := gdW_at 412 (by decide +kernel) rfl
theorem wm_X6_72 : Cond.methodLink RX6 72 yX6_setRule ∈ gdW := gdW_at 446 (by decide +kernel) rfl
theorem wm_X6_76 : Cond.methodLink RX6 76 yX6_costOf ∈ gdW := gdW_at 852 (by decide +kernel) rfl
theorem wm_X6_80 : Cond.methodLink RX6 80 Lib.Math.min.name ∈ gdW := gdW_at 415 (by decide +kernel) rfl
theorem wm_X7_37 : Cond.methodLinkNest RX7 37 yX6_sets "HangsTogether" ∈ nsW := nsW_at 254 (by decide +kernel) rfl
theorem wm_X7_43 : Cond.methodLinkNest RX7 43 yX6_allows "HangsTogether" ∈ nsW := nsW_at 258 (by decide +kernel) rfl
theorem wm_X7_47 : Cond.methodLinkNest RX7 47 yX2_leavesForest "HangsTogether" ∈ nsW := nsW_at 262 (by decide +kernel) rfl
theorem wm_X7_53 : Cond.methodLinkNest RX7 53 yX6_worthOf "HangsTogether" ∈ nsW := nsW_at 273 (by decide +kernel) rfl
theorem wm_X7_57 : Cond.methodLink RX7 57 yX7_has ∈ gdW := gdW_at 501 (by decide +kernel) rfl
theorem wm_X7_60 : Cond.methodLinkNest RX7 60 yX6_allLanes "HangsTogether" ∈ nsW := nsW_at 543 (by decide +kernel) rfl
theorem wm_X7_63 : Cond.methodLink RX7 63 yX7_sortByCost ∈ gdW := gdW_at 560 (by decide +kernel) rfl
theorem wm_X7_66 : Cond.methodLinkNest RX7 66 yX6_costOf "HangsTogether" ∈ nsW := nsW_at 564 (by decide +kernel) rfl
theorem wm_X7_69 : Cond.methodLink RX7 69 yX7_sortEvery ∈ gdW := gdW_at 568 (by decide +kernel) rfl
theorem wm_X7_73 : Cond.methodLink RX7 73 yJ6_bitCount ∈ gdW := gdW_at 594 (by decide +kernel) rfl
theorem wm_X7_78 : Cond.methodLink RX7 78 yX7_leadsTo ∈ gdW := gdW_at 604 (by decide +kernel) rfl
theorem wm_X7_90 : Cond.methodLinkNest RX7 90 yX2_areTogether "HangsTogether" ∈ nsW := nsW_at 608 (by decide +kernel) rfl
theorem wm_X8_85 : Cond.methodLinkNest RX8 85 yX2_build "HangsTogether" ∈ nsW := nsW_at 226 (by decide +kernel) rfl
theorem wm_X8_88 : Cond.methodLinkNest RX8 88 yX7_list "HangsTogether" ∈ nsW := nsW_at 250 (by decide +kernel) rfl
theorem wm_X8_91 : Cond.methodLink RX8 91 yX8_refuse ∈ gdW := gdW_at 318 (by decide +kernel) rfl
theorem wm_X8_95 : Cond.methodLinkNest RX8 95 yX3_haveRoom "HangsTogether" ∈ nsW := nsW_at 322 (by decide +kernel) rfl
theorem wm_X8_99 : Cond.methodLinkNest RX8 99 yX3_append "HangsTogether" ∈ nsW := nsW_at 326 (by decide +kernel) rfl
theorem wm_X8_102 : Cond.methodLinkNest RX8 102 yX6_copy "HangsTogether" ∈ nsW := nsW_at 334 (by decide +kernel) rfl
theorem wm_X8_105 : Cond.methodLinkNest RX8 105 yX3_tellTo "HangsTogether" ∈ nsW := nsW_at 338 (by decide +kernel) rfl
theorem wm_X8_109 : Cond.methodLinkNest RX8 109 yX3_clear "HangsTogether" ∈ nsW := nsW_at 416 (by decide +kernel) rfl
theorem wm_X8_112 : Cond.methodLink RX8 112 yX8_lanesChanged ∈ gdW := gdW_at 420 (by decide +kernel) rfl
theorem wm_X8_115 : Cond.methodLinkNest RX8 115 yX6_hasLane "HangsTogether" ∈ nsW := nsW_at 428 (by decide +kernel) rfl
theorem wm_X8_137 : Cond.methodLinkNest RX8 137 yX6_ruleOf "HangsTogether" ∈ nsW := nsW_at 429 (by decide +kernel) rfl
theorem wm_X8_140 : Cond.methodLinkNest RX8 140 yX6_setRule "HangsTogether" ∈ nsW := nsW_at 437 (by decide +kernel) rfl
theorem wm_X8_148 : Cond.methodLinkNest RX8 148 yX6_removeLatest "HangsTogether" ∈ nsW := nsW_at 442 (by decide +kernel) rfl
theorem wm_X8_151 : Cond.methodLinkNest RX8 151 yX6_hasAll "HangsTogether" ∈ nsW := nsW_at 451 (by decide +kernel) rfl
theorem wm_X8_154 : Cond.methodLinkNest RX8 154 yX2_isWay "HangsTogether" ∈ nsW := nsW_at 459 (by decide +kernel) rfl
theorem wm_X8_157 : Cond.methodLink RX8 157 yX8_yesNo ∈ gdW := gdW_at 466 (by decide +kernel) rfl
theorem wm_X8_161 : Cond.methodLinkNest RX8 161 yX2_partsLeft "HangsTogether" ∈ nsW := nsW_at 473 (by decide +kernel) rfl
theorem wm_X8_167 : Cond.methodLinkNest RX8 167 yX7_worthWith "HangsTogether" ∈ nsW := nsW_at 489 (by decide +kernel) rfl
theorem wm_X8_171 : Cond.methodLinkNest RX8 171 yX7_at "HangsTogether" ∈ nsW := nsW_at 497 (by decide +kernel) rfl
theorem wm_X8_174 : Cond.methodLink RX8 174 yX8_refuseLong ∈ gdW := gdW_at 509 (by decide +kernel) rfl
theorem wm_X8_177 : Cond.methodLink RX8 177 yX8_likelyAll ∈ gdW := gdW_at 514 (by decide +kernel) rfl
theorem wm_X8_181 : Cond.methodLinkNest RX8 181 yX7_lanesInAll "HangsTogether" ∈ nsW := nsW_at 539 (by decide +kernel) rfl
theorem wm_X8_185 : Cond.methodLinkNest RX8 185 yX7_lanesInNone "HangsTogether" ∈ nsW := nsW_at 548 (by decide +kernel) rfl
theorem wm_X8_188 : Cond.methodLinkNest RX8 188 yX7_bitsByCost "HangsTogether" ∈ nsW := nsW_at 556 (by decide +kernel) rfl
theorem wm_X8_191 : Cond.methodLinkNest RX8 191 yX7_costByCost "HangsTogether" ∈ nsW := nsW_at 572 (by decide +kernel) rfl
theorem wm_X8_194 : Cond.methodLink RX8 194 yJ6_bitCount ∈ gdW := gdW_at 580 (by decide +kernel) rfl
theorem wm_X8_199 : Cond.methodLinkNest RX8 199 yX7_stepBetween "HangsTogether" ∈ nsW := nsW_at 590 (by decide +kernel) rfl
theorem wm_X8_203 : Cond.methodLinkNest RX8 203 yX6_hasHouse "HangsTogether" ∈ nsW := nsW_at 599 (by decide +kernel) rfl
theorem wm_X8_206 : Cond.methodLinkNest RX8 206 yX7_manyToward "HangsTogether" ∈ nsW := nsW_at 600 (by decide +kernel) rfl
theorem wm_X8_209 : Cond.methodLinkNest RX8 209 yX7_worthToward "HangsTogether" ∈ nsW := nsW_at 612 (by decide +kernel) rfl
theorem wm_X8_212 : Cond.methodLinkNest RX8 212 yX1_manyOf "HangsTogether" ∈ nsW := nsW_at 620 (by decide +kernel) rfl
theorem wm_X8_215 : Cond.methodLinkNest RX8 215 yX6_hasAllHouses "HangsTogether" ∈ nsW := nsW_at 631 (by decide +kernel) rfl
theorem wm_X8_218 : Cond.methodLinkNest RX8 218 yX1_manyWithOneEach "HangsTogether" ∈ nsW := nsW_at 639 (by decide +kernel) rfl
theorem wm_X8_221 : Cond.methodLink RX8 221 yX8_areTwoHouses ∈ gdW := gdW_at 652 (by decide +kernel) rfl
theorem wm_X8_225 : Cond.methodLink RX8 225 yX8_isPart ∈ gdW := gdW_at 518 (by decide +kernel) rfl
theorem wm_X8_228 : Cond.methodLinkNest RX8 228 yX1_worthOfWhole "HangsTogether" ∈ nsW := nsW_at 656 (by decide +kernel) rfl
theorem wm_X8_232 : Cond.methodLinkNest RX8 232 yX1_worthApart "HangsTogether" ∈ nsW := nsW_at 665 (by decide +kernel) rfl
theorem wm_X8_236 : Cond.methodLink RX8 236 yX8_leastTerms ∈ gdW := gdW_at 521 (by decide +kernel) rfl
theorem wm_X8_246 : Cond.methodLinkNest RX8 246 yX1_chancesToHold "HangsTogether" ∈ nsW := nsW_at 678 (by decide +kernel) rfl
theorem wm_X8_249 : Cond.methodLinkNest RX8 249 yX1_chancesInAll "HangsTogether" ∈ nsW := nsW_at 692 (by decide +kernel) rfl
theorem wm_X8_255 : Cond.methodLink RX8 255 yX8_pairsOf ∈ gdW := gdW_at 701 (by decide +kernel) rfl
theorem wm_X8_258 : Cond.methodLinkNest RX8 258 yX4_makeFor "HangsTogether" ∈ nsW := nsW_at 704 (by decide +kernel) rfl
theorem wm_X8_262 : Cond.methodLinkNest RX8 262 yX4_mostWays "HangsTogether" ∈ nsW := nsW_at 726 (by decide +kernel) rfl
theorem wm_X8_265 : Cond.methodLinkNest RX8 265 yX4_firstSet "HangsTogether" ∈ nsW := nsW_at 730 (by decide +kernel) rfl
theorem wm_X8_268 : Cond.methodLinkNest RX8 268 yX0_isDrawer "HangsTogether" ∈ nsW := nsW_at 738 (by decide +kernel) rfl
theorem wm_X8_271 : Cond.methodLinkNest RX8 271 yX0_begin "HangsTogether" ∈ nsW := nsW_at 742 (by decide +kernel) rfl
theorem wm_X8_274 : Cond.methodLinkNest RX8 274 yX0_makeNext "HangsTogether" ∈ nsW := nsW_at 754 (by decide +kernel) rfl
theorem wm_X8_277 : Cond.methodLinkNest RX8 277 yX5_hasRoom "HangsTogether" ∈ nsW := nsW_at 810 (by decide +kernel) rfl
theorem wm_X8_280 : Cond.methodLinkNest RX8 280 yX5_append "HangsTogether" ∈ nsW := nsW_at 814 (by decide +kernel) rfl
theorem wm_X8_281 : Cond.methodLinkNest RX8 281 yX5_judged "HangsTogether" ∈ nsW := nsW_at 822 (by decide +kernel) rfl
theorem wm_X8_284 : Cond.methodLinkNest RX8 284 yX5_clear "HangsTogether" ∈ nsW := nsW_at 832 (by decide +kernel) rfl
theorem wm_X8_285 : Cond.methodLinkNest RX8 285 yX6_costOfAll "HangsTogether" ∈ nsW := nsW_at 848 (by decide +kernel) rfl
theorem wm_X8_290 : Cond.methodLink RX8 290 yX8_refusalsOf ∈ gdW := gdW_at 853 (by decide +kernel) rfl
theorem wm_X8_295 : Cond.methodLink RX8 295 yX8_commonDivisor ∈ gdW := gdW_at 524 (by decide +kernel) rfl
theorem wm_X9_80 : Cond.methodLink RX9 80 yX9_bound ∈ gdW := gdW_at 974 (by decide +kernel) rfl
theorem wm_X9_87 : Cond.methodLink RX9 87 yX9_no ∈ gdW := gdW_at 977 (by decide +kernel) rfl
theorem wm_X9_94 : Cond.methodLink RX9 94 yX9_next ∈ gdW := gdW_at 989 (by decide +kernel) rfl
theorem wm_X9_98 : Cond.methodLink RX9 98 yX9_isIn ∈ gdW := gdW_at 997 (by decide +kernel) rfl
theorem wm_X9_105 : Cond.methodLink RX9 105 yX9_reads ∈ gdW := gdW_at 993 (by decide +kernel) rfl
theorem wm_X9_109 : Cond.methodLink RX9 109 yX9_isNext ∈ gdW := gdW_at 1000 (by decide +kernel) rfl
theorem wm_X9_113 : Cond.methodLink RX9 113 yX9_isHouse ∈ gdW := gdW_at 1028 (by decide +kernel) rfl
theorem wm_X9_116 : Cond.methodLink RX9 116 yX9_toldHouses ∈ gdW := gdW_at 1020 (by decide +kernel) rfl
theorem wm_X9_119 : Cond.methodLink RX9 119 yX9_comesLane ∈ gdW := gdW_at 1024 (by decide +kernel) rfl
theorem wm_X9_122 : Cond.methodLink RX9 122 yX9_isLane ∈ gdW := gdW_at 1032 (by decide +kernel) rfl
theorem wm_X9_125 : Cond.methodLink RX9 125 yX9_statement ∈ gdW := gdW_at 985 (by decide +kernel) rfl
theorem wm_X9_129 : Cond.methodLink RX9 129 yX9_passesAll ∈ gdW := gdW_at 1004 (by decide +kernel) rfl
theorem wm_X9_133 : Cond.methodLink RX9 133 yX9_comes ∈ gdW := gdW_at 1016 (by decide +kernel) rfl
theorem wm_X9_143 : Cond.methodLink RX9 143 yX9_passes ∈ gdW := gdW_at 1008 (by decide +kernel) rfl
theorem wm_X9_147 : Cond.methodLink RX9 147 yX9_passOne ∈ gdW := gdW_at 1012 (by decide +kernel) rfl
theorem wm_X9_153 : Cond.methodLink RX9 153 yX9_weightOf ∈ gdW := gdW_at 1048 (by decide +kernel) rfl
theorem wm_X9_156 : Cond.methodLink RX9 156 yX9_costOf ∈ gdW := gdW_at 1052 (by decide +kernel) rfl
theorem wm_X9_159 : Cond.methodLink RX9 159 yX9_driftOf ∈ gdW := gdW_at 1056 (by decide +kernel) rfl
theorem wm_X9_162 : Cond.methodLink RX9 162 yX9_allLanes ∈ gdW := gdW_at 1076 (by decide +kernel) rfl
theorem wm_X9_165 : Cond.methodLink RX9 165 yX9_bits ∈ gdW := gdW_at 1088 (by decide +kernel) rfl
theorem wm_X9_168 : Cond.methodLink RX9 168 yX9_partsOf ∈ gdW := gdW_at 1091 (by decide +kernel) rfl
theorem wm_X9_171 : Cond.methodLink RX9 171 yX9_ruledAs ∈ gdW := gdW_at 1099 (by decide +kernel) rfl
theorem wm_X9_174 : Cond.methodLink RX9 174 yX9_areLanes ∈ gdW := gdW_at 1072 (by decide +kernel) rfl
theorem wm_X9_177 : Cond.methodLink RX9 177 yX9_isForest ∈ gdW := gdW_at 1084 (by decide +kernel) rfl
theorem wm_X9_180 : Cond.methodLink RX9 180 yX9_isRuled ∈ gdW := gdW_at 1095 (by decide +kernel) rfl
theorem wm_X9_186 : Cond.methodLink RX9 186 yX9_isWay ∈ gdW := gdW_at 1080 (by decide +kernel) rfl
theorem wm_X9_189 : Cond.methodLink RX9 189 yX9_worthOf ∈ gdW := gdW_at 1119 (by decide +kernel) rfl
theorem wm_X9_193 : Cond.methodLink RX9 193 yX9_findWays ∈ gdW := gdW_at 1115 (by decide +kernel) rfl
theorem wm_X9_196 : Cond.methodLink RX9 196 yX9_sumWith ∈ gdW := gdW_at 1127 (by decide +kernel) rfl
theorem wm_X9_200 : Cond.methodLink RX9 200 yX9_divisor ∈ gdW := gdW_at 1151 (by decide +kernel) rfl
theorem wm_X9_204 : Cond.methodLink RX9 204 yX9_lowest ∈ gdW := gdW_at 1139 (by decide +kernel) rfl
theorem wm_X9_207 : Cond.methodLink RX9 207 yX9_inLeast ∈ gdW := gdW_at 1148 (by decide +kernel) rfl
theorem wm_X9_211 : Cond.methodLink RX9 211 yX9_share ∈ gdW := gdW_at 1144 (by decide +kernel) rfl
theorem wm_X9_216 : Cond.methodLink RX9 216 yX9_highOf ∈ gdW := gdW_at 1162 (by decide +kernel) rfl
theorem wm_X9_219 : Cond.methodLink RX9 219 yX9_lowOf ∈ gdW := gdW_at 1166 (by decide +kernel) rfl
theorem wm_X9_222 : Cond.methodLink RX9 222 yX9_costsOf ∈ gdW := gdW_at 1185 (by decide +kernel) rfl
theorem wm_X9_225 : Cond.methodLink RX9 225 yX9_cheapest ∈ gdW := gdW_at 1181 (by decide +kernel) rfl
theorem wm_X9_228 : Cond.methodLink RX9 228 yX9_isToward ∈ gdW := gdW_at 1201 (by decide +kernel) rfl
theorem wm_X9_231 : Cond.methodLink RX9 231 yX9_isOneEach ∈ gdW := gdW_at 1213 (by decide +kernel) rfl
theorem wm_X9_234 : Cond.methodLink RX9 234 yX9_areTwo ∈ gdW := gdW_at 1221 (by decide +kernel) rfl
theorem wm_X9_237 : Cond.methodLink RX9 237 yX9_sumTogether ∈ gdW := gdW_at 1225 (by decide +kernel) rfl
theorem wm_X9_241 : Cond.methodLink RX9 241 yX9_sumApart ∈ gdW := gdW_at 1229 (by decide +kernel) rfl
theorem wm_X9_253 : Cond.methodLink RX9 253 yX9_doJoin ∈ gdW := gdW_at 1250 (by decide +kernel) rfl
theorem wm_X9_262 : Cond.methodLink RX9 262 yX9_findPlan ∈ gdW := gdW_at 1246 (by decide +kernel) rfl
theorem wm_X9_272 : Cond.methodLink RX9 272 yX9_leads ∈ gdW := gdW_at 1273 (by decide +kernel) rfl
theorem wm_X9_276 : Cond.methodLink RX9 276 yX9_weightsFrom ∈ gdW := gdW_at 1269 (by decide +kernel) rfl
theorem wm_X9_279 : Cond.methodLink RX9 279 yX9_drawn ∈ gdW := gdW_at 1277 (by decide +kernel) rfl
theorem wm_X9_286 : Cond.methodLink RX9 286 yX9_walks ∈ gdW := gdW_at 1265 (by decide +kernel) rfl
theorem wm_X9_289 : Cond.methodLink RX9 289 yX9_rowWay ∈ gdW := gdW_at 1284 (by decide +kernel) rfl
theorem wm_X9_292 : Cond.methodLink RX9 292 yX9_steps ∈ gdW := gdW_at 1288 (by decide +kernel) rfl
theorem wm_X9_295 : Cond.methodLink RX9 295 yX9_dearest ∈ gdW := gdW_at 1292 (by decide +kernel) rfl
theorem wm_X9_298 : Cond.methodLink RX9 298 yX9_isDrawer ∈ gdW := gdW_at 1258 (by decide +kernel) rfl
theorem wm_X9_301 : Cond.methodLink RX9 301 yX9_makes ∈ gdW := gdW_at 1261 (by decide +kernel) rfl
theorem mf_X0_isDrawer : MFv yX0_isDrawer cX0_isDrawer 2 (some .boolean) RX0 1 := ⟨gdW_at 740 (by decide +kernel) rfl, gdW_sel (q := (yX0_isDrawer, 8)) 68 (by decide +kernel), gdW_at 9 (by decide +kernel) rfl, gdW_at 741 (by decide +kernel) rfl, by decide +kernel⟩
theorem mf_X0_goesOn : MFv yX0_goesOn cX0_goesOn 3 (some .boolean) RX0 2 := ⟨gdW_at 752 (by decide +kernel) rfl, gdW_sel (q := (yX0_goesOn, 8)) 71 (by decide +kernel), gdW_at 9 (by decide +kernel) rfl, gdW_at 753 (by decide +kernel) rfl, by decide +kernel⟩
theorem mf_X0_lookRound : MFv yX0_lookRound cX0_lookRound 3 none RX0 0 := ⟨gdW_at 748 (by decide +kernel) rfl, gdW_sel (q := (yX0_lookRound, 8)) 70 (by decide +kernel), gdW_at 9 (by decide +kernel) rfl, gdW_at 749 (by decide +kernel) rfl, by decide +kernel⟩
theorem mf_X0_begin : MFv yX0_begin cX0_begin 2 none RX0 1 := ⟨gdW_at 744 (by decide +kernel) rfl, gdW_sel (q := (yX0_begin, 8)) 69 (by decide +kernel), gdW_at 9 (by decide +kernel) rfl, gdW_at 745 (by decide +kernel) rfl, by decide +kernel⟩
theorem mf_X6_allHouses : MFv yX6_allHouses cX6_allHouses 1 (some .int) RX6 0 := ⟨gdW_at 637 (by decide +kernel) rfl, gdW_sel (q := (yX6_allHouses, 10)) 51 (by decide +kernel), gdW_at 2 (by decide +kernel) rfl, gdW_at 638 (by decide +kernel) rfl, by decide +kernel⟩
theorem mf_X0_below : MFv yX0_below cX0_below 2 (some .int) RX0 1 := ⟨gdW_at 769 (by decide +kernel) rfl, gdW_sel (q := (yX0_below, 8)) 75 (by decide +kernel), gdW_at 9 (by decide +kernel) rfl, gdW_at 770 (by decide +kernel) rfl, by decide +kernel⟩
theorem mf_X0_laneFrom : MFv yX0_laneFrom cX0_laneFrom 4 (some .int) RX0 1 := ⟨gdW_at 765 (by decide +kernel) rfl, gdW_sel (q := (yX0_laneFrom, 8)) 74 (by decide +kernel), gdW_at 9 (by decide +kernel) rfl, gdW_at 766 (by decide +kernel) rfl, by decide +kernel⟩
theorem mf_X6_hasLane : MFv yX6_hasLane cX6_hasLane 2 (some .boolean) RX6 1 := ⟨gdW_at 388 (by decide +kernel) rfl, gdW_sel (q := (yX6_hasLane, 10)) 19 (by decide +kernel), gdW_at 2 (by decide +kernel) rfl, gdW_at 389 (by decide +kernel) rfl, by decide +kernel⟩
theorem mf_X0_walkAbout : MFv yX0_walkAbout cX0_walkAbout 7 (some .int) RX0 0 := ⟨gdW_at 760 (by decide +kernel) rfl, gdW_sel (q := (yX0_walkAbout, 8)) 73 (by decide +kernel), gdW_at 9 (by decide +kernel) rfl, gdW_at 761 (by decide +kernel) rfl, by decide +kernel⟩
theorem mf_X7_copyTo : MFv yX7_copyTo cX7_copyTo 4 (some .int) RX7 2 := ⟨gdW_at 781 (by decide +kernel) rfl, gdW_sel (q := (yX7_copyTo, 7)) 77 (by decide +kernel), gdW_at 5 (by decide +kernel) rfl, gdW_at 782 (by decide +kernel) rfl, by decide +kernel⟩
theorem mf_X0_poolWorthWith : MFv yX0_poolWorthWith cX0_poolWorthWith 5 (some .int) RX0 2 := ⟨gdW_at 785 (by decide +kernel) rfl, gdW_sel (q := (yX0_poolWorthWith, 8)) 78 (by decide +kernel), gdW_at 9 (by decide +kernel) rfl, gdW_at 786 (by decide +kernel) rfl, by decide +kernel⟩
theorem mf_X0_narrow : MFv yX0_narrow cX0_narrow 6 (some .int) RX0 3 := ⟨gdW_at 789 (by decide +kernel) rfl, gdW_sel (q := (yX0_narrow, 8)) 79 (by decide +kernel), gdW_at 9 (by decide +kernel) rfl, gdW_at 790 (by decide +kernel) rfl, by decide +kernel⟩
theorem mf_X0_laneByLane : MFv yX0_laneByLane cX0_laneByLane 6 (some .int) RX0 0 := ⟨gdW_at 777 (by decide +kernel) rfl, gdW_sel (q := (yX0_laneByLane, 8)) 76 (by decide +kernel), gdW_at 9 (by decide +kernel) rfl, gdW_at 778 (by decide +kernel) rfl, by decide +kernel⟩
theorem mf_X6_costOf : MFv yX6_costOf cX6_costOf 4 (some .int) RX6 1 := ⟨gdW_at 566 (by decide +kernel) rfl, gdW_sel (q := (yX6_costOf, 10)) 41 (by decide +kernel), gdW_at 2 (by decide +kernel) rfl, gdW_at 567 (by decide +kernel) rfl, by decide +kernel⟩
theorem mf_X7_sortEvery : MFv yX7_sortEvery cX7_sortEvery 5 none RX7 1 := ⟨gdW_at 570 (by decide +kernel) rfl, gdW_sel (q := (yX7_sortEvery, 7)) 42 (by decide +kernel), gdW_at 5 (by decide +kernel) rfl, gdW_at 571 (by decide +kernel) rfl, by decide +kernel⟩
theorem mf_X7_sortByCost : MFv yX7_sortByCost cX7_sortByCost 2 none RX7 0 := ⟨gdW_at 562 (by decide +kernel) rfl, gdW_sel (q := (yX7_sortByCost, 7)) 40 (by decide +kernel), gdW_at 5 (by decide +kernel) rfl, gdW_at 563 (by decide +kernel) rfl, by decide +kernel⟩
theorem mf_X7_has : MFv yX7_has cX7_has 2 (some .boolean) RX7 1 := ⟨gdW_at 503 (by decide +kernel) rfl, gdW_sel (q := (yX7_has, 7)) 34 (by decide +kernel), gdW_at 5 (by decide +kernel) rfl, gdW_at 504 (by decide +kernel) rfl, by decide +kernel⟩
theorem mf_X7_bitsByCost : MFv yX7_bitsByCost cX7_bitsByCost 2 (some .int) RX7 1 := ⟨gdW_at 558 (by decide +kernel) rfl, gdW_sel (q := (yX7_bitsByCost, 7)) 39 (by decide +kernel), gdW_at 5 (by decide +kernel) rfl, gdW_at 559 (by decide +kernel) rfl, by decide +kernel⟩
theorem mf_X7_dearest : MFv yX7_dearest cX7_dearest 4 (some .int) RX7 0 := ⟨gdW_at 794 (by decide +kernel) rfl, gdW_sel (q := (yX7_dearest, 7)) 80 (by decide +kernel), gdW_at 5 (by decide +kernel) rfl, gdW_at 795 (by decide +kernel) rfl, by decide +kernel⟩
theorem mf_X7_at : MFv yX7_at cX7_at 2 (some .int) RX7 1 := ⟨gdW_at 499 (by decide +kernel) rfl, gdW_sel (q := (yX7_at, 7)) 33 (by decide +kernel), gdW_at 5 (by decide +kernel) rfl, gdW_at 500 (by decide +kernel) rfl, by decide +kernel⟩
theorem mf_X6_allLanes : MFv yX6_allLanes cX6_allLanes 1 (some .int) RX6 0 := ⟨gdW_at 457 (by decide +kernel) rfl, gdW_sel (q := (yX6_allLanes, 10)) 29 (by decide +kernel), gdW_at 2 (by decide +kernel) rfl, gdW_at 458 (by decide +kernel) rfl, by decide +kernel⟩
theorem mf_X6_hasAll : MFv yX6_hasAll cX6_hasAll 2 (some .boolean) RX6 1 := ⟨gdW_at 453 (by decide +kernel) rfl, gdW_sel (q := (yX6_hasAll, 10)) 28 (by decide +kernel), gdW_at 2 (by decide +kernel) rfl, gdW_at 454 (by decide +kernel) rfl, by decide +kernel⟩
theorem mf_X6_allows : MFv yX6_allows cX6_allows 2 (some .boolean) RX6 1 := ⟨gdW_at 260 (by decide +kernel) rfl, gdW_sel (q := (yX6_allows, 10)) 3 (by decide +kernel), gdW_at 2 (by decide +kernel) rfl, gdW_at 261 (by decide +kernel) rfl, by decide +kernel⟩
theorem mf_X2_stateOf : MFv yX2_stateOf cX2_stateOf 2 (some .int) RX2 1 := ⟨gdW_at 268 (by decide +kernel) rfl, gdW_sel (q := (yX2_stateOf, 2)) 5 (by decide +kernel), gdW_at 4 (by decide +kernel) rfl, gdW_at 269 (by decide +kernel) rfl, by decide +kernel⟩
theorem mf_X2_isForest : MFs yX2_isForest cX2_isForest 2 (some .boolean) 2 := ⟨gdW_at 271 (by decide +kernel) rfl, gdW_at 4 (by decide +kernel) rfl, gdW_at 272 (by decide +kernel) rfl, by decide +kernel⟩
theorem mf_X2_leavesForest : MFv yX2_leavesForest cX2_leavesForest 3 (some .boolean) RX2 2 := ⟨gdW_at 264 (by decide +kernel) rfl, gdW_sel (q := (yX2_leavesForest, 2)) 4 (by decide +kernel), gdW_at 4 (by decide +kernel) rfl, gdW_at 265 (by decide +kernel) rfl, by decide +kernel⟩
theorem mf_X2_isWay : MFv yX2_isWay cX2_isWay 2 (some .boolean) RX2 1 := ⟨gdW_at 461 (by decide +kernel) rfl, gdW_sel (q := (yX2_isWay, 2)) 30 (by decide +kernel), gdW_at 4 (by decide +kernel) rfl, gdW_at 462 (by decide +kernel) rfl, by decide +kernel⟩
theorem mf_X5_asWay : MFv yX5_asWay cX5_asWay 3 (some .int) RX5 0 := ⟨gdW_at 799 (by decide +kernel) rfl, gdW_sel (q := (yX5_asWay, 4)) 81 (by decide +kernel), gdW_at 8 (by decide +kernel) rfl, gdW_at 800 (by decide +kernel) rfl, by decide +kernel⟩
theorem mf_X0_makeNext : MFv yX0_makeNext cX0_makeNext 2 (some .int) RX0 1 := ⟨gdW_at 756 (by decide +kernel) rfl, gdW_sel (q := (yX0_makeNext, 8)) 72 (by decide +kernel), gdW_at 9 (by decide +kernel) rfl, gdW_at 757 (by decide +kernel) rfl, by decide +kernel⟩
theorem mf_X6_sets : MFv yX6_sets cX6_sets 1 (some .int) RX6 0 := ⟨gdW_at 256 (by decide +kernel) rfl, gdW_sel (q := (yX6_sets, 10)) 2 (by decide +kernel), gdW_at 2 (by decide +kernel) rfl, gdW_at 257 (by decide +kernel) rfl, by decide +kernel⟩
theorem mf_X1_manyOf : MFv yX1_manyOf cX1_manyOf 5 (some .int) RX1 1 := ⟨gdW_at 622 (by decide +kernel) rfl, gdW_sel (q := (yX1_manyOf, 2)) 49 (by decide +kernel), gdW_at 6 (by decide +kernel) rfl, gdW_at 623 (by decide +kernel) rfl, by decide +kernel⟩
theorem mf_J6_bitCount : MFs yJ6_bitCount cJ6_bitCount 1 (some .int) 1 := ⟨gdW_at 581 (by decide +kernel) rfl, gdW_at 12 (by decide +kernel) rfl, gdW_at 582 (by decide +kernel) rfl, by decide +kernel⟩
theorem mf_X2_partOf : MFs yX2_partOf cX2_partOf 2 (some .int) 2 := ⟨gdW_at 240 (by decide +kernel) rfl, gdW_at 4 (by decide +kernel) rfl, gdW_at 241 (by decide +kernel) rfl, by decide +kernel⟩
theorem mf_X2_areAllApart : MFv yX2_areAllApart cX2_areAllApart 7 (some .boolean) RX2 2 := ⟨gdW_at 646 (by decide +kernel) rfl, gdW_sel (q := (yX2_areAllApart, 2)) 53 (by decide +kernel), gdW_at 4 (by decide +kernel) rfl, gdW_at 647 (by decide +kernel) rfl, by decide +kernel⟩
theorem mf_X1_manyWithOneEach : MFv yX1_manyWithOneEach cX1_manyWithOneEach 6 (some .int) RX1 1 := ⟨gdW_at 641 (by decide +kernel) rfl, gdW_sel (q := (yX1_manyWithOneEach, 2)) 52 (by decide +kernel), gdW_at 6 (by decide +kernel) rfl, gdW_at 642 (by decide +kernel) rfl, by decide +kernel⟩
theorem mf_X1_isOpen : MFv yX1_isOpen cX1_isOpen 3 (some .boolean) RX1 2 := ⟨gdW_at 662 (by decide +kernel) rfl, gdW_sel (q := (yX1_isOpen, 2)) 56 (by decide +kernel), gdW_at 6 (by decide +kernel) rfl, gdW_at 663 (by decide +kernel) rfl, by decide +kernel⟩
theorem mf_X6_worthOf : MFv yX6_worthOf cX6_worthOf 4 (some .int) RX6 1 := ⟨gdW_at 275 (by decide +kernel) rfl, gdW_sel (q := (yX6_worthOf, 10)) 6 (by decide +kernel), gdW_at 2 (by decide +kernel) rfl, gdW_at 276 (by decide +kernel) rfl, by decide +kernel⟩
theorem mf_X1_worthOfWhole : MFv yX1_worthOfWhole cX1_worthOfWhole 5 (some .long) RX1 0 := ⟨gdW_at 658 (by decide +kernel) rfl, gdW_sel (q := (yX1_worthOfWhole, 2)) 55 (by decide +kernel), gdW_at 6 (by decide +kernel) rfl, gdW_at 659 (by decide +kernel) rfl, by decide +kernel⟩
theorem mf_X2_areTogether : MFv yX2_areTogether cX2_areTogether 5 (some .boolean) RX2 3 := ⟨gdW_at 610 (by decide +kernel) rfl, gdW_sel (q := (yX2_areTogether, 2)) 47 (by decide +kernel), gdW_at 4 (by decide +kernel) rfl, gdW_at 611 (by decide +kernel) rfl, by decide +kernel⟩
theorem mf_X1_worthApart : MFv yX1_worthApart cX1_worthApart 8 (some .long) RX1 3 := ⟨gdW_at 667 (by decide +kernel) rfl, gdW_sel (q := (yX1_worthApart, 2)) 57 (by decide +kernel), gdW_at 6 (by decide +kernel) rfl, gdW_at 668 (by decide +kernel) rfl, by decide +kernel⟩
theorem mf_X1_free : MFv yX1_free cX1_free 1 (some .int) RX1 0 := ⟨gdW_at 684 (by decide +kernel) rfl, gdW_sel (q := (yX1_free, 2)) 59 (by decide +kernel), gdW_at 6 (by decide +kernel) rfl, gdW_at 685 (by decide +kernel) rfl, by decide +kernel⟩
theorem mf_X1_chancesInAll : MFv yX1_chancesInAll cX1_chancesInAll 5 (some .long) RX1 0 := ⟨gdW_at 694 (by decide +kernel) rfl, gdW_sel (q := (yX1_chancesInAll, 2)) 61 (by decide +kernel), gdW_at 6 (by decide +kernel) rfl, gdW_at 695 (by decide +kernel) rfl, by decide +kernel⟩
theorem mf_X2_partsLeft : MFv yX2_partsLeft cX2_partsLeft 2 (some .int) RX2 1 := ⟨gdW_at 475 (by decide +kernel) rfl, gdW_sel (q := (yX2_partsLeft, 2)) 31 (by decide +kernel), gdW_at 4 (by decide +kernel) rfl, gdW_at 476 (by decide +kernel) rfl, by decide +kernel⟩
theorem mf_X1_chancesOf : MFv yX1_chancesOf cX1_chancesOf 7 (some .long) RX1 2 := ⟨gdW_at 690 (by decide +kernel) rfl, gdW_sel (q := (yX1_chancesOf, 2)) 60 (by decide +kernel), gdW_at 6 (by decide +kernel) rfl, gdW_at 691 (by decide +kernel) rfl, by decide +kernel⟩
theorem mf_X1_chancesToHold : MFv yX1_chancesToHold cX1_chancesToHold 6 (some .long) RX1 0 := ⟨gdW_at 680 (by decide +kernel) rfl, gdW_sel (q := (yX1_chancesToHold, 2)) 58 (by decide +kernel), gdW_at 6 (by decide +kernel) rfl, gdW_at 681 (by decide +kernel) rfl, by decide +kernel⟩
theorem mf_X2_apart : MFs yX2_apart cX2_apart 3 (some .int) 1 := ⟨gdW_at 231 (by decide +kernel) rfl, gdW_at 4 (by decide +kernel) rfl, gdW_at 232 (by decide +kernel) rfl, by decide +kernel⟩
theorem mf_J7_min : Cond.static Lib.Math.min.name ∈ gdW ∧ Cond.initialized "java/lang/Math" ∈ gdW ∧ Cond.code Lib.Math.min.name Lib.Math.min.code 2 (some .int) ∈ gdW := ⟨gdW_at 244 (by decide +kernel) rfl, gdW_at 10 (by decide +kernel) rfl, gdW_at 245 (by decide +kernel) rfl⟩
theorem mf_J7_max : Cond.static Lib.Math.max.name ∈ gdW ∧ Cond.initialized "java/lang/Math" ∈ gdW ∧ Cond.code Lib.Math.max.name Lib.Math.max.code 2 (some .int) ∈ gdW := ⟨gdW_at 247 (by decide +kernel) rfl, gdW_at 10 (by decide +kernel) rfl, gdW_at 248 (by decide +kernel) rfl⟩
theorem mf_X2_joined : MFs yX2_joined cX2_joined 9 (some .int) 3 := ⟨gdW_at 237 (by decide +kernel) rfl, gdW_at 4 (by decide +kernel) rfl, gdW_at 238 (by decide +kernel) rfl, by decide +kernel⟩
theorem mf_X2_joinAll : MFs yX2_joinAll cX2_joinAll 6 none 4 := ⟨gdW_at 234 (by decide +kernel) rfl, gdW_at 4 (by decide +kernel) rfl, gdW_at 235 (by decide +kernel) rfl, by decide +kernel⟩
theorem mf_X2_build : MFv yX2_build cX2_build 2 none RX2 0 := ⟨gdW_at 228 (by decide +kernel) rfl, gdW_sel (q := (yX2_build, 2)) 0 (by decide +kernel), gdW_at 4 (by decide +kernel) rfl, gdW_at 229 (by decide +kernel) rfl, by decide +kernel⟩
theorem mf_X2_hasRing : MFv yX2_hasRing cX2_hasRing 2 (some .boolean) RX2 1 := ⟨gdW_at 830 (by decide +kernel) rfl, gdW_sel (q := (yX2_hasRing, 2)) 85 (by decide +kernel), gdW_at 4 (by decide +kernel) rfl, gdW_at 831 (by decide +kernel) rfl, by decide +kernel⟩
theorem mf_X3_haveRoom : MFv yX3_haveRoom cX3_haveRoom 1 (some .boolean) RX3 0 := ⟨gdW_at 324 (by decide +kernel) rfl, gdW_sel (q := (yX3_haveRoom, 2)) 8 (by decide +kernel), gdW_at 3 (by decide +kernel) rfl, gdW_at 325 (by decide +kernel) rfl, by decide +kernel⟩
theorem mf_X3_append : MFv yX3_append cX3_append 2 (some .int) RX3 1 := ⟨gdW_at 328 (by decide +kernel) rfl, gdW_sel (q := (yX3_append, 2)) 9 (by decide +kernel), gdW_at 3 (by decide +kernel) rfl, gdW_at 329 (by decide +kernel) rfl, by decide +kernel⟩
theorem mf_X3_clear : MFv yX3_clear cX3_clear 1 none RX3 0 := ⟨gdW_at 418 (by decide +kernel) rfl, gdW_sel (q := (yX3_clear, 2)) 24 (by decide +kernel), gdW_at 3 (by decide +kernel) rfl, gdW_at 419 (by decide +kernel) rfl, by decide +kernel⟩
theorem mf_X3_afterStart : MFs yX3_afterStart cX3_afterStart 1 (some .int) 1 := ⟨gdW_at 350 (by decide +kernel) rfl, gdW_at 3 (by decide +kernel) rfl, gdW_at 351 (by decide +kernel) rfl, by decide +kernel⟩
theorem mf_X3_isDigit : MFs yX3_isDigit cX3_isDigit 1 (some .boolean) 1 := ⟨gdW_at 353 (by decide +kernel) rfl, gdW_at 3 (by decide +kernel) rfl, gdW_at 354 (by decide +kernel) rfl, by decide +kernel⟩
theorem mf_X3_afterComma : MFs yX3_afterComma cX3_afterComma 1 (some .int) 1 := ⟨gdW_at 356 (by decide +kernel) rfl, gdW_at 3 (by decide +kernel) rfl, gdW_at 357 (by decide +kernel) rfl, by decide +kernel⟩
theorem mf_X3_after : MFs yX3_after cX3_after 2 (some .int) 2 := ⟨gdW_at 347 (by decide +kernel) rfl, gdW_at 3 (by decide +kernel) rfl, gdW_at 348 (by decide +kernel) rfl, by decide +kernel⟩
theorem mf_X3_placeOfWrongForm : MFv yX3_placeOfWrongForm cX3_placeOfWrongForm 3 (some .int) RX3 0 := ⟨gdW_at 344 (by decide +kernel) rfl, gdW_sel (q := (yX3_placeOfWrongForm, 2)) 12 (by decide +kernel), gdW_at 3 (by decide +kernel) rfl, gdW_at 345 (by decide +kernel) rfl, by decide +kernel⟩
theorem mf_X3_letterAt : MFv yX3_letterAt cX3_letterAt 2 (some .int) RX3 1 := ⟨gdW_at 368 (by decide +kernel) rfl, gdW_sel (q := (yX3_letterAt, 2)) 15 (by decide +kernel), gdW_at 3 (by decide +kernel) rfl, gdW_at 369 (by decide +kernel) rfl, by decide +kernel⟩
theorem mf_X3_digitAt : MFv yX3_digitAt cX3_digitAt 2 (some .int) RX3 1 := ⟨gdW_at 372 (by decide +kernel) rfl, gdW_sel (q := (yX3_digitAt, 2)) 16 (by decide +kernel), gdW_at 3 (by decide +kernel) rfl, gdW_at 373 (by decide +kernel) rfl, by decide +kernel⟩
theorem mf_X3_number : MFv yX3_number cX3_number 5 (some .int) RX3 2 := ⟨gdW_at 364 (by decide +kernel) rfl, gdW_sel (q := (yX3_number, 2)) 14 (by decide +kernel), gdW_at 3 (by decide +kernel) rfl, gdW_at 365 (by decide +kernel) rfl, by decide +kernel⟩
theorem mf_X6_farthestHouse : MFv yX6_farthestHouse cX6_farthestHouse 3 (some .int) RX6 0 := ⟨gdW_at 380 (by decide +kernel) rfl, gdW_sel (q := (yX6_farthestHouse, 10)) 18 (by decide +kernel), gdW_at 2 (by decide +kernel) rfl, gdW_at 381 (by decide +kernel) rfl, by decide +kernel⟩
theorem mf_X6_setHouses : MFv yX6_setHouses cX6_setHouses 2 (some .boolean) RX6 1 := ⟨gdW_at 376 (by decide +kernel) rfl, gdW_sel (q := (yX6_setHouses, 10)) 17 (by decide +kernel), gdW_at 2 (by decide +kernel) rfl, gdW_at 377 (by decide +kernel) rfl, by decide +kernel⟩
theorem mf_X6_setRule : MFv yX6_setRule cX6_setRule 4 none RX6 2 := ⟨gdW_at 392 (by decide +kernel) rfl, gdW_sel (q := (yX6_setRule, 10)) 20 (by decide +kernel), gdW_at 2 (by decide +kernel) rfl, gdW_at 393 (by decide +kernel) rfl, by decide +kernel⟩
theorem mf_X3_tellRule : MFs yX3_tellRule cX3_tellRule 3 (some .boolean) 3 := ⟨gdW_at 384 (by decide +kernel) rfl, gdW_at 3 (by decide +kernel) rfl, gdW_at 385 (by decide +kernel) rfl, by decide +kernel⟩
theorem mf_X6_hasHouse : MFv yX6_hasHouse cX6_hasHouse 2 (some .boolean) RX6 1 := ⟨gdW_at 404 (by decide +kernel) rfl, gdW_sel (q := (yX6_hasHouse, 10)) 23 (by decide +kernel), gdW_at 2 (by decide +kernel) rfl, gdW_at 405 (by decide +kernel) rfl, by decide +kernel⟩
theorem mf_X6_weightByKind : MFs yX6_weightByKind cX6_weightByKind 2 (some .int) 2 := ⟨gdW_at 407 (by decide +kernel) rfl, gdW_at 2 (by decide +kernel) rfl, gdW_at 408 (by decide +kernel) rfl, by decide +kernel⟩
theorem mf_X6_costByKind : MFs yX6_costByKind cX6_costByKind 2 (some .int) 2 := ⟨gdW_at 410 (by decide +kernel) rfl, gdW_at 2 (by decide +kernel) rfl, gdW_at 411 (by decide +kernel) rfl, by decide +kernel⟩
theorem mf_X6_driftByKind : MFs yX6_driftByKind cX6_driftByKind 2 (some .int) 2 := ⟨gdW_at 413 (by decide +kernel) rfl, gdW_at 2 (by decide +kernel) rfl, gdW_at 414 (by decide +kernel) rfl, by decide +kernel⟩
theorem mf_X6_addLane : MFv yX6_addLane cX6_addLane 7 (some .boolean) RX6 6 := ⟨gdW_at 400 (by decide +kernel) rfl, gdW_sel (q := (yX6_addLane, 10)) 22 (by decide +kernel), gdW_at 2 (by decide +kernel) rfl, gdW_at 401 (by decide +kernel) rfl, by decide +kernel⟩
theorem mf_X3_tellLane : MFv yX3_tellLane cX3_tellLane 5 (some .boolean) RX3 3 := ⟨gdW_at 396 (by decide +kernel) rfl, gdW_sel (q := (yX3_tellLane, 2)) 21 (by decide +kernel), gdW_at 3 (by decide +kernel) rfl, gdW_at 397 (by decide +kernel) rfl, by decide +kernel⟩
theorem mf_X3_tellOne : MFv yX3_tellOne cX3_tellOne 5 (some .boolean) RX3 3 := ⟨gdW_at 360 (by decide +kernel) rfl, gdW_sel (q := (yX3_tellOne, 2)) 13 (by decide +kernel), gdW_at 3 (by decide +kernel) rfl, gdW_at 361 (by decide +kernel) rfl, by decide +kernel⟩
theorem mf_X3_tellTo : MFv yX3_tellTo cX3_tellTo 6 (some .int) RX3 1 := ⟨gdW_at 340 (by decide +kernel) rfl, gdW_sel (q := (yX3_tellTo, 2)) 11 (by decide +kernel), gdW_at 3 (by decide +kernel) rfl, gdW_at 341 (by decide +kernel) rfl, by decide +kernel⟩
theorem mf_X8_pairsOf : MFs yX8_pairsOf cX8_pairsOf 1 (some .int) 1 := ⟨gdW_at 702 (by decide +kernel) rfl, gdW_at 1 (by decide +kernel) rfl, gdW_at 703 (by decide +kernel) rfl, by decide +kernel⟩
theorem mf_X4_joinPairs : MFv yX4_joinPairs cX4_joinPairs 4 none RX4 0 := ⟨gdW_at 711 (by decide +kernel) rfl, gdW_sel (q := (yX4_joinPairs, 4)) 63 (by decide +kernel), gdW_at 7 (by decide +kernel) rfl, gdW_at 712 (by decide +kernel) rfl, by decide +kernel⟩
theorem mf_X8_yesNo : MFs yX8_yesNo cX8_yesNo 1 (some .int) 1 := ⟨gdW_at 467 (by decide +kernel) rfl, gdW_at 1 (by decide +kernel) rfl, gdW_at 468 (by decide +kernel) rfl, by decide +kernel⟩
theorem mf_X4_addThoseWithout : MFv yX4_addThoseWithout cX4_addThoseWithout 5 none RX4 2 := ⟨gdW_at 719 (by decide +kernel) rfl, gdW_sel (q := (yX4_addThoseWithout, 4)) 64 (by decide +kernel), gdW_at 7 (by decide +kernel) rfl, gdW_at 720 (by decide +kernel) rfl, by decide +kernel⟩
theorem mf_X4_chooseBest : MFv yX4_chooseBest cX4_chooseBest 4 none RX4 1 := ⟨gdW_at 723 (by decide +kernel) rfl, gdW_sel (q := (yX4_chooseBest, 4)) 65 (by decide +kernel), gdW_at 7 (by decide +kernel) rfl, gdW_at 724 (by decide +kernel) rfl, by decide +kernel⟩
theorem mf_X4_makeFor : MFv yX4_makeFor cX4_makeFor 5 none RX4 1 := ⟨gdW_at 706 (by decide +kernel) rfl, gdW_sel (q := (yX4_makeFor, 4)) 62 (by decide +kernel), gdW_at 7 (by decide +kernel) rfl, gdW_at 707 (by decide +kernel) rfl, by decide +kernel⟩
theorem mf_X4_mostWays : MFv yX4_mostWays cX4_mostWays 2 (some .int) RX4 1 := ⟨gdW_at 728 (by decide +kernel) rfl, gdW_sel (q := (yX4_mostWays, 4)) 66 (by decide +kernel), gdW_at 7 (by decide +kernel) rfl, gdW_at 729 (by decide +kernel) rfl, by decide +kernel⟩
theorem mf_X4_firstSet : MFv yX4_firstSet cX4_firstSet 2 (some .int) RX4 1 := ⟨gdW_at 732 (by decide +kernel) rfl, gdW_sel (q := (yX4_firstSet, 4)) 67 (by decide +kernel), gdW_at 7 (by decide +kernel) rfl, gdW_at 733 (by decide +kernel) rfl, by decide +kernel⟩
theorem mf_X5_hasRoom : MFv yX5_hasRoom cX5_hasRoom 1 (some .boolean) RX5 0 := ⟨gdW_at 812 (by decide +kernel) rfl, gdW_sel (q := (yX5_hasRoom, 4)) 82 (by decide +kernel), gdW_at 8 (by decide +kernel) rfl, gdW_at 813 (by decide +kernel) rfl, by decide +kernel⟩
theorem mf_X5_append : MFv yX5_append cX5_append 2 (some .int) RX5 1 := ⟨gdW_at 816 (by decide +kernel) rfl, gdW_sel (q := (yX5_append, 4)) 83 (by decide +kernel), gdW_at 8 (by decide +kernel) rfl, gdW_at 817 (by decide +kernel) rfl, by decide +kernel⟩
theorem mf_X5_clear : MFv yX5_clear cX5_clear 1 none RX5 0 := ⟨gdW_at 834 (by decide +kernel) rfl, gdW_sel (q := (yX5_clear, 4)) 86 (by decide +kernel), gdW_at 8 (by decide +kernel) rfl, gdW_at 835 (by decide +kernel) rfl, by decide +kernel⟩
theorem mf_X6_ruleOf : MFv yX6_ruleOf cX6_ruleOf 3 (some .int) RX6 1 := ⟨gdW_at 431 (by decide +kernel) rfl, gdW_sel (q := (yX6_ruleOf, 10)) 26 (by decide +kernel), gdW_at 2 (by decide +kernel) rfl, gdW_at 432 (by decide +kernel) rfl, by decide +kernel⟩
theorem mf_X5_judged : MFv yX5_judged cX5_judged 5 (some .int) RX5 0 := ⟨gdW_at 824 (by decide +kernel) rfl, gdW_sel (q := (yX5_judged, 4)) 84 (by decide +kernel), gdW_at 8 (by decide +kernel) rfl, gdW_at 825 (by decide +kernel) rfl, by decide +kernel⟩
theorem mf_X6_copy : MFv yX6_copy cX6_copy 3 none RX6 1 := ⟨gdW_at 336 (by decide +kernel) rfl, gdW_sel (q := (yX6_copy, 10)) 10 (by decide +kernel), gdW_at 2 (by decide +kernel) rfl, gdW_at 337 (by decide +kernel) rfl, by decide +kernel⟩
theorem mf_X6_hasAllHouses : MFv yX6_hasAllHouses cX6_hasAllHouses 2 (some .boolean) RX6 1 := ⟨gdW_at 633 (by decide +kernel) rfl, gdW_sel (q := (yX6_hasAllHouses, 10)) 50 (by decide +kernel), gdW_at 2 (by decide +kernel) rfl, gdW_at 634 (by decide +kernel) rfl, by decide +kernel⟩
theorem mf_X6_removeLatest : MFv yX6_removeLatest cX6_removeLatest 1 none RX6 0 := ⟨gdW_at 444 (by decide +kernel) rfl, gdW_sel (q := (yX6_removeLatest, 10)) 27 (by decide +kernel), gdW_at 2 (by decide +kernel) rfl, gdW_at 445 (by decide +kernel) rfl, by decide +kernel⟩
theorem mf_X6_costOfAll : MFv yX6_costOfAll cX6_costOfAll 1 (some .int) RX6 0 := ⟨gdW_at 850 (by decide +kernel) rfl, gdW_sel (q := (yX6_costOfAll, 10)) 87 (by decide +kernel), gdW_at 2 (by decide +kernel) rfl, gdW_at 851 (by decide +kernel) rfl, by decide +kernel⟩
theorem mf_X7_list : MFv yX7_list cX7_list 3 none RX7 0 := ⟨gdW_at 252 (by decide +kernel) rfl, gdW_sel (q := (yX7_list, 7)) 1 (by decide +kernel), gdW_at 5 (by decide +kernel) rfl, gdW_at 253 (by decide +kernel) rfl, by decide +kernel⟩
theorem mf_X7_worthWith : MFv yX7_worthWith cX7_worthWith 5 (some .long) RX7 1 := ⟨gdW_at 491 (by decide +kernel) rfl, gdW_sel (q := (yX7_worthWith, 7)) 32 (by decide +kernel), gdW_at 5 (by decide +kernel) rfl, gdW_at 492 (by decide +kernel) rfl, by decide +kernel⟩
theorem mf_X7_lanesInAll : MFv yX7_lanesInAll cX7_lanesInAll 3 (some .int) RX7 0 := ⟨gdW_at 541 (by decide +kernel) rfl, gdW_sel (q := (yX7_lanesInAll, 7)) 37 (by decide +kernel), gdW_at 5 (by decide +kernel) rfl, gdW_at 542 (by decide +kernel) rfl, by decide +kernel⟩
theorem mf_X7_lanesInNone : MFv yX7_lanesInNone cX7_lanesInNone 3 (some .int) RX7 0 := ⟨gdW_at 550 (by decide +kernel) rfl, gdW_sel (q := (yX7_lanesInNone, 7)) 38 (by decide +kernel), gdW_at 5 (by decide +kernel) rfl, gdW_at 551 (by decide +kernel) rfl, by decide +kernel⟩
theorem mf_X7_costByCost : MFv yX7_costByCost cX7_costByCost 2 (some .int) RX7 1 := ⟨gdW_at 574 (by decide +kernel) rfl, gdW_sel (q := (yX7_costByCost, 7)) 43 (by decide +kernel), gdW_at 5 (by decide +kernel) rfl, gdW_at 575 (by decide +kernel) rfl, by decide +kernel⟩
theorem mf_X7_stepBetween : MFv yX7_stepBetween cX7_stepBetween 6 (some .int) RX7 2 := ⟨gdW_at 592 (by decide +kernel) rfl, gdW_sel (q := (yX7_stepBetween, 7)) 44 (by decide +kernel), gdW_at 5 (by decide +kernel) rfl, gdW_at 593 (by decide +kernel) rfl, by decide +kernel⟩
theorem mf_X7_leadsTo : MFv yX7_leadsTo cX7_leadsTo 5 (some .boolean) RX7 2 := ⟨gdW_at 606 (by decide +kernel) rfl, gdW_sel (q := (yX7_leadsTo, 7)) 46 (by decide +kernel), gdW_at 5 (by decide +kernel) rfl, gdW_at 607 (by decide +kernel) rfl, by decide +kernel⟩
theorem mf_X7_manyToward : MFv yX7_manyToward cX7_manyToward 4 (some .int) RX7 1 := ⟨gdW_at 602 (by decide +kernel) rfl, gdW_sel (q := (yX7_manyToward, 7)) 45 (by decide +kernel), gdW_at 5 (by decide +kernel) rfl, gdW_at 603 (by decide +kernel) rfl, by decide +kernel⟩
theorem mf_X7_worthToward : MFv yX7_worthToward cX7_worthToward 5 (some .long) RX7 1 := ⟨gdW_at 614 (by decide +kernel) rfl, gdW_sel (q := (yX7_worthToward, 7)) 48 (by decide +kernel), gdW_at 5 (by decide +kernel) rfl, gdW_at 615 (by decide +kernel) rfl, by decide +kernel⟩
theorem mf_X8_refuse : MFv yX8_refuse cX8_refuse 3 (some .int) RX8 1 := ⟨gdW_at 320 (by decide +kernel) rfl, gdW_sel (q := (yX8_refuse, 12)) 7 (by decide +kernel), gdW_at 1 (by decide +kernel) rfl, gdW_at 321 (by decide +kernel) rfl, by decide +kernel⟩
theorem mf_X8_feed : MFv yX8_feed cX8_feed 2 (some .int) RX8 1 := ⟨gdW_at 315 (by decide +kernel) rfl, gdW_at 316 (by decide +kernel) rfl, gdW_at 1 (by decide +kernel) rfl, gdW_at 317 (by decide +kernel) rfl, by decide +kernel⟩
theorem mf_X8_lanesChanged : MFv yX8_lanesChanged cX8_lanesChanged 1 none RX8 0 := ⟨gdW_at 422 (by decide +kernel) rfl, gdW_sel (q := (yX8_lanesChanged, 12)) 25 (by decide +kernel), gdW_at 1 (by decide +kernel) rfl, gdW_at 423 (by decide +kernel) rfl, by decide +kernel⟩
theorem mf_X8_village : MFv yX8_village cX8_village 2 (some .int) RX8 0 := ⟨gdW_at 331 (by decide +kernel) rfl, gdW_at 332 (by decide +kernel) rfl, gdW_at 1 (by decide +kernel) rfl, gdW_at 333 (by decide +kernel) rfl, by decide +kernel⟩
theorem mf_X8_lane : MFv yX8_lane cX8_lane 3 (some .int) RX8 2 := ⟨gdW_at 425 (by decide +kernel) rfl, gdW_at 426 (by decide +kernel) rfl, gdW_at 1 (by decide +kernel) rfl, gdW_at 427 (by decide +kernel) rfl, by decide +kernel⟩
theorem mf_X8_rule : MFv yX8_rule cX8_rule 4 (some .int) RX8 2 := ⟨gdW_at 434 (by decide +kernel) rfl, gdW_at 435 (by decide +kernel) rfl, gdW_at 1 (by decide +kernel) rfl, gdW_at 436 (by decide +kernel) rfl, by decide +kernel⟩
theorem mf_X8_takeUp : MFv yX8_takeUp cX8_takeUp 1 (some .int) RX8 0 := ⟨gdW_at 439 (by decide +kernel) rfl, gdW_at 440 (by decide +kernel) rfl, gdW_at 1 (by decide +kernel) rfl, gdW_at 441 (by decide +kernel) rfl, by decide +kernel⟩
theorem mf_X8_is : MFv yX8_is cX8_is 2 (some .int) RX8 1 := ⟨gdW_at 448 (by decide +kernel) rfl, gdW_at 449 (by decide +kernel) rfl, gdW_at 1 (by decide +kernel) rfl, gdW_at 450 (by decide +kernel) rfl, by decide +kernel⟩
theorem mf_X8_hangs : MFv yX8_hangs cX8_hangs 2 (some .int) RX8 1 := ⟨gdW_at 470 (by decide +kernel) rfl, gdW_at 471 (by decide +kernel) rfl, gdW_at 1 (by decide +kernel) rfl, gdW_at 472 (by decide +kernel) rfl, by decide +kernel⟩
theorem mf_X8_parts : MFv yX8_parts cX8_parts 2 (some .int) RX8 1 := ⟨gdW_at 478 (by decide +kernel) rfl, gdW_at 479 (by decide +kernel) rfl, gdW_at 1 (by decide +kernel) rfl, gdW_at 480 (by decide +kernel) rfl, by decide +kernel⟩
theorem mf_X8_many : MFv yX8_many cX8_many 1 (some .int) RX8 0 := ⟨gdW_at 482 (by decide +kernel) rfl, gdW_at 483 (by decide +kernel) rfl, gdW_at 1 (by decide +kernel) rfl, gdW_at 484 (by decide +kernel) rfl, by decide +kernel⟩
theorem mf_X8_sum : MFv yX8_sum cX8_sum 1 (some .long) RX8 0 := ⟨gdW_at 486 (by decide +kernel) rfl, gdW_at 487 (by decide +kernel) rfl, gdW_at 1 (by decide +kernel) rfl, gdW_at 488 (by decide +kernel) rfl, by decide +kernel⟩
theorem mf_X8_way : MFv yX8_way cX8_way 2 (some .int) RX8 1 := ⟨gdW_at 494 (by decide +kernel) rfl, gdW_at 495 (by decide +kernel) rfl, gdW_at 1 (by decide +kernel) rfl, gdW_at 496 (by decide +kernel) rfl, by decide +kernel⟩
theorem mf_X8_refuseLong : MFv yX8_refuseLong cX8_refuseLong 2 (some .long) RX8 1 := ⟨gdW_at 511 (by decide +kernel) rfl, gdW_sel (q := (yX8_refuseLong, 12)) 35 (by decide +kernel), gdW_at 1 (by decide +kernel) rfl, gdW_at 512 (by decide +kernel) rfl, by decide +kernel⟩
theorem mf_X8_isPart : MFs yX8_isPart cX8_isPart 1 (some .boolean) 1 := ⟨gdW_at 519 (by decide +kernel) rfl, gdW_at 1 (by decide +kernel) rfl, gdW_at 520 (by decide +kernel) rfl, by decide +kernel⟩
theorem mf_X8_commonDivisor : MFs yX8_commonDivisor cX8_commonDivisor 11 (some .long) 2 := ⟨gdW_at 525 (by decide +kernel) rfl, gdW_at 1 (by decide +kernel) rfl, gdW_at 526 (by decide +kernel) rfl, by decide +kernel⟩
theorem mf_X8_leastTerms : MFs yX8_leastTerms cX8_leastTerms 7 (some .long) 3 := ⟨gdW_at 522 (by decide +kernel) rfl, gdW_at 1 (by decide +kernel) rfl, gdW_at 523 (by decide +kernel) rfl, by decide +kernel⟩
theorem mf_X8_likelyAll : MFv yX8_likelyAll cX8_likelyAll 3 (some .long) RX8 2 := ⟨gdW_at 516 (by decide +kernel) rfl, gdW_sel (q := (yX8_likelyAll, 12)) 36 (by decide +kernel), gdW_at 1 (by decide +kernel) rfl, gdW_at 517 (by decide +kernel) rfl, by decide +kernel⟩
theorem mf_X8_likely : MFv yX8_likely cX8_likely 3 (some .long) RX8 2 := ⟨gdW_at 506 (by decide +kernel) rfl, gdW_at 507 (by decide +kernel) rfl, gdW_at 1 (by decide +kernel) rfl, gdW_at 508 (by decide +kernel) rfl, by decide +kernel⟩
theorem mf_X8_pair : MFv yX8_pair cX8_pair 4 (some .long) RX8 3 := ⟨gdW_at 528 (by decide +kernel) rfl, gdW_at 529 (by decide +kernel) rfl, gdW_at 1 (by decide +kernel) rfl, gdW_at 530 (by decide +kernel) rfl, by decide +kernel⟩
theorem mf_X8_less : MFv yX8_less cX8_less 7 (some .int) RX8 2 := ⟨gdW_at 532 (by decide +kernel) rfl, gdW_at 533 (by decide +kernel) rfl, gdW_at 1 (by decide +kernel) rfl, gdW_at 534 (by decide +kernel) rfl, by decide +kernel⟩
theorem mf_X8_inAll : MFv yX8_inAll cX8_inAll 1 (some .int) RX8 0 := ⟨gdW_at 536 (by decide +kernel) rfl, gdW_at 537 (by decide +kernel) rfl, gdW_at 1 (by decide +kernel) rfl, gdW_at 538 (by decide +kernel) rfl, by decide +kernel⟩
theorem mf_X8_inNone : MFv yX8_inNone cX8_inNone 1 (some .int) RX8 0 := ⟨gdW_at 545 (by decide +kernel) rfl, gdW_at 546 (by decide +kernel) rfl, gdW_at 1 (by decide +kernel) rfl, gdW_at 547 (by decide +kernel) rfl, by decide +kernel⟩
theorem mf_X8_cheap : MFv yX8_cheap cX8_cheap 3 (some .int) RX8 2 := ⟨gdW_at 553 (by decide +kernel) rfl, gdW_at 554 (by decide +kernel) rfl, gdW_at 1 (by decide +kernel) rfl, gdW_at 555 (by decide +kernel) rfl, by decide +kernel⟩
theorem mf_X8_nights : MFv yX8_nights cX8_nights 3 (some .int) RX8 2 := ⟨gdW_at 577 (by decide +kernel) rfl, gdW_at 578 (by decide +kernel) rfl, gdW_at 1 (by decide +kernel) rfl, gdW_at 579 (by decide +kernel) rfl, by decide +kernel⟩
theorem mf_X8_step : MFv yX8_step cX8_step 3 (some .int) RX8 2 := ⟨gdW_at 587 (by decide +kernel) rfl, gdW_at 588 (by decide +kernel) rfl, gdW_at 1 (by decide +kernel) rfl, gdW_at 589 (by decide +kernel) rfl, by decide +kernel⟩
theorem mf_X8_toward : MFv yX8_toward cX8_toward 3 (some .long) RX8 2 := ⟨gdW_at 596 (by decide +kernel) rfl, gdW_at 597 (by decide +kernel) rfl, gdW_at 1 (by decide +kernel) rfl, gdW_at 598 (by decide +kernel) rfl, by decide +kernel⟩
theorem mf_X8_forests : MFv yX8_forests cX8_forests 2 (some .int) RX8 1 := ⟨gdW_at 617 (by decide +kernel) rfl, gdW_at 618 (by decide +kernel) rfl, gdW_at 1 (by decide +kernel) rfl, gdW_at 619 (by decide +kernel) rfl, by decide +kernel⟩
theorem mf_X8_ploughs : MFv yX8_ploughs cX8_ploughs 2 (some .int) RX8 1 := ⟨gdW_at 628 (by decide +kernel) rfl, gdW_at 629 (by decide +kernel) rfl, gdW_at 1 (by decide +kernel) rfl, gdW_at 630 (by decide +kernel) rfl, by decide +kernel⟩
theorem mf_X8_areTwoHouses : MFv yX8_areTwoHouses cX8_areTwoHouses 3 (some .boolean) RX8 2 := ⟨gdW_at 654 (by decide +kernel) rfl, gdW_sel (q := (yX8_areTwoHouses, 12)) 54 (by decide +kernel), gdW_at 1 (by decide +kernel) rfl, gdW_at 655 (by decide +kernel) rfl, by decide +kernel⟩
theorem mf_X8_hard : MFv yX8_hard cX8_hard 6 (some .long) RX8 3 := ⟨gdW_at 649 (by decide +kernel) rfl, gdW_at 650 (by decide +kernel) rfl, gdW_at 1 (by decide +kernel) rfl, gdW_at 651 (by decide +kernel) rfl, by decide +kernel⟩
theorem mf_X8_more : MFv yX8_more cX8_more 6 (some .long) RX8 3 := ⟨gdW_at 671 (by decide +kernel) rfl, gdW_at 672 (by decide +kernel) rfl, gdW_at 1 (by decide +kernel) rfl, gdW_at 673 (by decide +kernel) rfl, by decide +kernel⟩
theorem mf_X8_holds : MFv yX8_holds cX8_holds 2 (some .long) RX8 1 := ⟨gdW_at 675 (by decide +kernel) rfl, gdW_at 676 (by decide +kernel) rfl, gdW_at 1 (by decide +kernel) rfl, gdW_at 677 (by decide +kernel) rfl, by decide +kernel⟩
theorem mf_X8_plan : MFv yX8_plan cX8_plan 3 (some .int) RX8 2 := ⟨gdW_at 698 (by decide +kernel) rfl, gdW_at 699 (by decide +kernel) rfl, gdW_at 1 (by decide +kernel) rfl, gdW_at 700 (by decide +kernel) rfl, by decide +kernel⟩
theorem mf_X8_draw : MFv yX8_draw cX8_draw 3 (some .int) RX8 2 := ⟨gdW_at 735 (by decide +kernel) rfl, gdW_at 736 (by decide +kernel) rfl, gdW_at 1 (by decide +kernel) rfl, gdW_at 737 (by decide +kernel) rfl, by decide +kernel⟩
theorem mf_X8_often : MFv yX8_often cX8_often 8 (some .int) RX8 4 := ⟨gdW_at 803 (by decide +kernel) rfl, gdW_at 804 (by decide +kernel) rfl, gdW_at 1 (by decide +kernel) rfl, gdW_at 805 (by decide +kernel) rfl, by decide +kernel⟩
theorem mf_X8_row : MFv yX8_row cX8_row 2 (some .int) RX8 1 := ⟨gdW_at 807 (by decide +kernel) rfl, gdW_at 808 (by decide +kernel) rfl, gdW_at 1 (by decide +kernel) rfl, gdW_at 809 (by decide +kernel) rfl, by decide +kernel⟩
theorem mf_X8_judge : MFv yX8_judge cX8_judge 2 (some .int) RX8 0 := ⟨gdW_at 819 (by decide +kernel) rfl, gdW_at 820 (by decide +kernel) rfl, gdW_at 1 (by decide +kernel) rfl, gdW_at 821 (by decide +kernel) rfl, by decide +kernel⟩
theorem mf_X8_image : MFv yX8_image cX8_image 1 (some .int) RX8 0 := ⟨gdW_at 837 (by decide +kernel) rfl, gdW_at 838 (by decide +kernel) rfl, gdW_at 1 (by decide +kernel) rfl, gdW_at 839 (by decide +kernel) rfl, by decide +kernel⟩
theorem mf_X8_restore : MFv yX8_restore cX8_restore 1 (some .int) RX8 0 := ⟨gdW_at 841 (by decide +kernel) rfl, gdW_at 842 (by decide +kernel) rfl, gdW_at 1 (by decide +kernel) rfl, gdW_at 843 (by decide +kernel) rfl, by decide +kernel⟩
theorem mf_X8_refusalsOf : MFv yX8_refusalsOf cX8_refusalsOf 2 (some .int) RX8 1 := ⟨gdW_at 855 (by decide +kernel) rfl, gdW_sel (q := (yX8_refusalsOf, 12)) 88 (by decide +kernel), gdW_at 1 (by decide +kernel) rfl, gdW_at 856 (by decide +kernel) rfl, by decide +kernel⟩
theorem mf_X8_count : MFv yX8_count cX8_count 2 (some .int) RX8 1 := ⟨gdW_at 845 (by decide +kernel) rfl, gdW_at 846 (by decide +kernel) rfl, gdW_at 1 (by decide +kernel) rfl, gdW_at 847 (by decide +kernel) rfl, by decide +kernel⟩
theorem mf_X9_no : MFv yX9_no cX9_no 2 (some .int) RX9 1 := ⟨gdW_at 979 (by decide +kernel) rfl, gdW_sel (q := (yX9_no, 35)) 89 (by decide +kernel), gdW_at 11 (by decide +kernel) rfl, gdW_at 980 (by decide +kernel) rfl, by decide +kernel⟩
theorem mf_X9_lowest : MFv yX9_lowest cX9_lowest 2 (some .long) RX9 1 := ⟨gdW_at 1141 (by decide +kernel) rfl, gdW_sel (q := (yX9_lowest, 35)) 115 (by decide +kernel), gdW_at 11 (by decide +kernel) rfl, gdW_at 1142 (by decide +kernel) rfl, by decide +kernel⟩
theorem mf_X9_isIn : MFs yX9_isIn cX9_isIn 3 (some .boolean) 3 := ⟨gdW_at 998 (by decide +kernel) rfl, gdW_at 11 (by decide +kernel) rfl, gdW_at 999 (by decide +kernel) rfl, by decide +kernel⟩
theorem mf_X9_bound : MFs yX9_bound cX9_bound 3 (some .int) 3 := ⟨gdW_at 975 (by decide +kernel) rfl, gdW_at 11 (by decide +kernel) rfl, gdW_at 976 (by decide +kernel) rfl, by decide +kernel⟩
theorem mf_X9_isHouse : MFv yX9_isHouse cX9_isHouse 2 (some .boolean) RX9 1 := ⟨gdW_at 1030 (by decide +kernel) rfl, gdW_sel (q := (yX9_isHouse, 35)) 100 (by decide +kernel), gdW_at 11 (by decide +kernel) rfl, gdW_at 1031 (by decide +kernel) rfl, by decide +kernel⟩
theorem mf_X9_isLane : MFv yX9_isLane cX9_isLane 2 (some .boolean) RX9 1 := ⟨gdW_at 1034 (by decide +kernel) rfl, gdW_sel (q := (yX9_isLane, 35)) 101 (by decide +kernel), gdW_at 11 (by decide +kernel) rfl, gdW_at 1035 (by decide +kernel) rfl, by decide +kernel⟩
theorem mf_X9_feed : MFv yX9_feed cX9_feed 3 (some .int) RX9 1 := ⟨gdW_at 971 (by decide +kernel) rfl, gdW_at 972 (by decide +kernel) rfl, gdW_at 11 (by decide +kernel) rfl, gdW_at 973 (by decide +kernel) rfl, by decide +kernel⟩
theorem mf_X9_next : MFv yX9_next cX9_next 1 (some .int) RX9 0 := ⟨gdW_at 991 (by decide +kernel) rfl, gdW_sel (q := (yX9_next, 35)) 91 (by decide +kernel), gdW_at 11 (by decide +kernel) rfl, gdW_at 992 (by decide +kernel) rfl, by decide +kernel⟩
theorem mf_X9_isNext : MFv yX9_isNext cX9_isNext 2 (some .boolean) RX9 1 := ⟨gdW_at 1002 (by decide +kernel) rfl, gdW_sel (q := (yX9_isNext, 35)) 93 (by decide +kernel), gdW_at 11 (by decide +kernel) rfl, gdW_at 1003 (by decide +kernel) rfl, by decide +kernel⟩
theorem mf_X9_reads : MFv yX9_reads cX9_reads 5 (some .boolean) RX9 2 := ⟨gdW_at 995 (by decide +kernel) rfl, gdW_sel (q := (yX9_reads, 35)) 92 (by decide +kernel), gdW_at 11 (by decide +kernel) rfl, gdW_at 996 (by decide +kernel) rfl, by decide +kernel⟩
theorem mf_X9_statement : MFv yX9_statement cX9_statement 4 (some .boolean) RX9 0 := ⟨gdW_at 987 (by decide +kernel) rfl, gdW_sel (q := (yX9_statement, 35)) 90 (by decide +kernel), gdW_at 11 (by decide +kernel) rfl, gdW_at 988 (by decide +kernel) rfl, by decide +kernel⟩
theorem mf_X9_toldHouses : MFv yX9_toldHouses cX9_toldHouses 3 (some .int) RX9 0 := ⟨gdW_at 1022 (by decide +kernel) rfl, gdW_sel (q := (yX9_toldHouses, 35)) 98 (by decide +kernel), gdW_at 11 (by decide +kernel) rfl, gdW_at 1023 (by decide +kernel) rfl, by decide +kernel⟩
theorem mf_X9_comesLane : MFv yX9_comesLane cX9_comesLane 2 (some .boolean) RX9 1 := ⟨gdW_at 1026 (by decide +kernel) rfl, gdW_sel (q := (yX9_comesLane, 35)) 99 (by decide +kernel), gdW_at 11 (by decide +kernel) rfl, gdW_at 1027 (by decide +kernel) rfl, by decide +kernel⟩
theorem mf_X9_comes : MFv yX9_comes cX9_comes 3 (some .boolean) RX9 1 := ⟨gdW_at 1018 (by decide +kernel) rfl, gdW_sel (q := (yX9_comes, 35)) 97 (by decide +kernel), gdW_at 11 (by decide +kernel) rfl, gdW_at 1019 (by decide +kernel) rfl, by decide +kernel⟩
theorem mf_X9_passes : MFv yX9_passes cX9_passes 3 none RX9 1 := ⟨gdW_at 1010 (by decide +kernel) rfl, gdW_sel (q := (yX9_passes, 35)) 95 (by decide +kernel), gdW_at 11 (by decide +kernel) rfl, gdW_at 1011 (by decide +kernel) rfl, by decide +kernel⟩
theorem mf_X9_passOne : MFv yX9_passOne cX9_passOne 3 (some .int) RX9 1 := ⟨gdW_at 1014 (by decide +kernel) rfl, gdW_sel (q := (yX9_passOne, 35)) 96 (by decide +kernel), gdW_at 11 (by decide +kernel) rfl, gdW_at 1015 (by decide +kernel) rfl, by decide +kernel⟩
theorem mf_X9_passesAll : MFv yX9_passesAll cX9_passesAll 3 none RX9 2 := ⟨gdW_at 1006 (by decide +kernel) rfl, gdW_sel (q := (yX9_passesAll, 35)) 94 (by decide +kernel), gdW_at 11 (by decide +kernel) rfl, gdW_at 1007 (by decide +kernel) rfl, by decide +kernel⟩
theorem mf_X9_village : MFv yX9_village cX9_village 3 (some .int) RX9 0 := ⟨gdW_at 982 (by decide +kernel) rfl, gdW_at 983 (by decide +kernel) rfl, gdW_at 11 (by decide +kernel) rfl, gdW_at 984 (by decide +kernel) rfl, by decide +kernel⟩
theorem mf_X9_image : MFv yX9_image cX9_image 1 (some .int) RX9 0 := ⟨gdW_at 1037 (by decide +kernel) rfl, gdW_at 1038 (by decide +kernel) rfl, gdW_at 11 (by decide +kernel) rfl, gdW_at 1039 (by decide +kernel) rfl, by decide +kernel⟩
theorem mf_X9_restore : MFv yX9_restore cX9_restore 1 (some .int) RX9 0 := ⟨gdW_at 1041 (by decide +kernel) rfl, gdW_at 1042 (by decide +kernel) rfl, gdW_at 11 (by decide +kernel) rfl, gdW_at 1043 (by decide +kernel) rfl, by decide +kernel⟩
theorem mf_X9_weightOf : MFv yX9_weightOf cX9_weightOf 2 (some .int) RX9 1 := ⟨gdW_at 1050 (by decide +kernel) rfl, gdW_sel (q := (yX9_weightOf, 35)) 102 (by decide +kernel), gdW_at 11 (by decide +kernel) rfl, gdW_at 1051 (by decide +kernel) rfl, by decide +kernel⟩
theorem mf_X9_costOf : MFv yX9_costOf cX9_costOf 2 (some .int) RX9 1 := ⟨gdW_at 1054 (by decide +kernel) rfl, gdW_sel (q := (yX9_costOf, 35)) 103 (by decide +kernel), gdW_at 11 (by decide +kernel) rfl, gdW_at 1055 (by decide +kernel) rfl, by decide +kernel⟩
theorem mf_X9_driftOf : MFv yX9_driftOf cX9_driftOf 3 (some .int) RX9 1 := ⟨gdW_at 1058 (by decide +kernel) rfl, gdW_sel (q := (yX9_driftOf, 35)) 104 (by decide +kernel), gdW_at 11 (by decide +kernel) rfl, gdW_at 1059 (by decide +kernel) rfl, by decide +kernel⟩
theorem mf_X9_lane : MFv yX9_lane cX9_lane 3 (some .int) RX9 2 := ⟨gdW_at 1045 (by decide +kernel) rfl, gdW_at 1046 (by decide +kernel) rfl, gdW_at 11 (by decide +kernel) rfl, gdW_at 1047 (by decide +kernel) rfl, by decide +kernel⟩
theorem mf_X9_rule : MFv yX9_rule cX9_rule 4 (some .int) RX9 2 := ⟨gdW_at 1061 (by decide +kernel) rfl, gdW_at 1062 (by decide +kernel) rfl, gdW_at 11 (by decide +kernel) rfl, gdW_at 1063 (by decide +kernel) rfl, by decide +kernel⟩
theorem mf_X9_takeUp : MFv yX9_takeUp cX9_takeUp 1 (some .int) RX9 0 := ⟨gdW_at 1065 (by decide +kernel) rfl, gdW_at 1066 (by decide +kernel) rfl, gdW_at 11 (by decide +kernel) rfl, gdW_at 1067 (by decide +kernel) rfl, by decide +kernel⟩
theorem mf_X9_allLanes : MFv yX9_allLanes cX9_allLanes 1 (some .int) RX9 0 := ⟨gdW_at 1078 (by decide +kernel) rfl, gdW_sel (q := (yX9_allLanes, 35)) 106 (by decide +kernel), gdW_at 11 (by decide +kernel) rfl, gdW_at 1079 (by decide +kernel) rfl, by decide +kernel⟩
theorem mf_X9_ruledAs : MFv yX9_ruledAs cX9_ruledAs 4 (some .int) RX9 1 := ⟨gdW_at 1101 (by decide +kernel) rfl, gdW_sel (q := (yX9_ruledAs, 35)) 111 (by decide +kernel), gdW_at 11 (by decide +kernel) rfl, gdW_at 1102 (by decide +kernel) rfl, by decide +kernel⟩
theorem mf_X9_areLanes : MFv yX9_areLanes cX9_areLanes 2 (some .boolean) RX9 1 := ⟨gdW_at 1074 (by decide +kernel) rfl, gdW_sel (q := (yX9_areLanes, 35)) 105 (by decide +kernel), gdW_at 11 (by decide +kernel) rfl, gdW_at 1075 (by decide +kernel) rfl, by decide +kernel⟩
theorem mf_X9_bits : MFs yX9_bits cX9_bits 3 (some .int) 1 := ⟨gdW_at 1089 (by decide +kernel) rfl, gdW_at 11 (by decide +kernel) rfl, gdW_at 1090 (by decide +kernel) rfl, by decide +kernel⟩
theorem mf_X9_partsOf : MFv yX9_partsOf cX9_partsOf 7 (some .int) RX9 1 := ⟨gdW_at 1093 (by decide +kernel) rfl, gdW_sel (q := (yX9_partsOf, 35)) 109 (by decide +kernel), gdW_at 11 (by decide +kernel) rfl, gdW_at 1094 (by decide +kernel) rfl, by decide +kernel⟩
theorem mf_X9_isForest : MFv yX9_isForest cX9_isForest 3 (some .boolean) RX9 2 := ⟨gdW_at 1086 (by decide +kernel) rfl, gdW_sel (q := (yX9_isForest, 35)) 108 (by decide +kernel), gdW_at 11 (by decide +kernel) rfl, gdW_at 1087 (by decide +kernel) rfl, by decide +kernel⟩
theorem mf_X9_isRuled : MFv yX9_isRuled cX9_isRuled 2 (some .boolean) RX9 1 := ⟨gdW_at 1097 (by decide +kernel) rfl, gdW_sel (q := (yX9_isRuled, 35)) 110 (by decide +kernel), gdW_at 11 (by decide +kernel) rfl, gdW_at 1098 (by decide +kernel) rfl, by decide +kernel⟩
theorem mf_X9_isWay : MFv yX9_isWay cX9_isWay 2 (some .boolean) RX9 1 := ⟨gdW_at 1082 (by decide +kernel) rfl, gdW_sel (q := (yX9_isWay, 35)) 107 (by decide +kernel), gdW_at 11 (by decide +kernel) rfl, gdW_at 1083 (by decide +kernel) rfl, by decide +kernel⟩
theorem mf_X9_worthOf : MFv yX9_worthOf cX9_worthOf 5 (some .long) RX9 1 := ⟨gdW_at 1121 (by decide +kernel) rfl, gdW_sel (q := (yX9_worthOf, 35)) 113 (by decide +kernel), gdW_at 11 (by decide +kernel) rfl, gdW_at 1122 (by decide +kernel) rfl, by decide +kernel⟩
theorem mf_X9_costsOf : MFv yX9_costsOf cX9_costsOf 4 (some .int) RX9 1 := ⟨gdW_at 1187 (by decide +kernel) rfl, gdW_sel (q := (yX9_costsOf, 35)) 118 (by decide +kernel), gdW_at 11 (by decide +kernel) rfl, gdW_at 1188 (by decide +kernel) rfl, by decide +kernel⟩
theorem mf_X9_findWays : MFv yX9_findWays cX9_findWays 2 none RX9 0 := ⟨gdW_at 1117 (by decide +kernel) rfl, gdW_sel (q := (yX9_findWays, 35)) 112 (by decide +kernel), gdW_at 11 (by decide +kernel) rfl, gdW_at 1118 (by decide +kernel) rfl, by decide +kernel⟩
theorem mf_X9_sumWith : MFv yX9_sumWith cX9_sumWith 6 (some .long) RX9 2 := ⟨gdW_at 1129 (by decide +kernel) rfl, gdW_sel (q := (yX9_sumWith, 35)) 114 (by decide +kernel), gdW_at 11 (by decide +kernel) rfl, gdW_at 1130 (by decide +kernel) rfl, by decide +kernel⟩
theorem mf_X9_is : MFv yX9_is cX9_is 2 (some .int) RX9 1 := ⟨gdW_at 1069 (by decide +kernel) rfl, gdW_at 1070 (by decide +kernel) rfl, gdW_at 11 (by decide +kernel) rfl, gdW_at 1071 (by decide +kernel) rfl, by decide +kernel⟩
theorem mf_X9_hangs : MFv yX9_hangs cX9_hangs 2 (some .int) RX9 1 := ⟨gdW_at 1104 (by decide +kernel) rfl, gdW_at 1105 (by decide +kernel) rfl, gdW_at 11 (by decide +kernel) rfl, gdW_at 1106 (by decide +kernel) rfl, by decide +kernel⟩
theorem mf_X9_parts : MFv yX9_parts cX9_parts 2 (some .int) RX9 1 := ⟨gdW_at 1108 (by decide +kernel) rfl, gdW_at 1109 (by decide +kernel) rfl, gdW_at 11 (by decide +kernel) rfl, gdW_at 1110 (by decide +kernel) rfl, by decide +kernel⟩
theorem mf_X9_many : MFv yX9_many cX9_many 1 (some .int) RX9 0 := ⟨gdW_at 1112 (by decide +kernel) rfl, gdW_at 1113 (by decide +kernel) rfl, gdW_at 11 (by decide +kernel) rfl, gdW_at 1114 (by decide +kernel) rfl, by decide +kernel⟩
theorem mf_X9_sum : MFv yX9_sum cX9_sum 1 (some .long) RX9 0 := ⟨gdW_at 1124 (by decide +kernel) rfl, gdW_at 1125 (by decide +kernel) rfl, gdW_at 11 (by decide +kernel) rfl, gdW_at 1126 (by decide +kernel) rfl, by decide +kernel⟩
theorem mf_X9_way : MFv yX9_way cX9_way 2 (some .int) RX9 1 := ⟨gdW_at 1132 (by decide +kernel) rfl, gdW_at 1133 (by decide +kernel) rfl, gdW_at 11 (by decide +kernel) rfl, gdW_at 1134 (by decide +kernel) rfl, by decide +kernel⟩
theorem mf_X9_divisor : MFs yX9_divisor cX9_divisor 10 (some .long) 2 := ⟨gdW_at 1152 (by decide +kernel) rfl, gdW_at 11 (by decide +kernel) rfl, gdW_at 1153 (by decide +kernel) rfl, by decide +kernel⟩
theorem mf_X9_inLeast : MFs yX9_inLeast cX9_inLeast 5 (some .long) 3 := ⟨gdW_at 1149 (by decide +kernel) rfl, gdW_at 11 (by decide +kernel) rfl, gdW_at 1150 (by decide +kernel) rfl, by decide +kernel⟩
theorem mf_X9_share : MFv yX9_share cX9_share 3 (some .long) RX9 2 := ⟨gdW_at 1146 (by decide +kernel) rfl, gdW_sel (q := (yX9_share, 35)) 116 (by decide +kernel), gdW_at 11 (by decide +kernel) rfl, gdW_at 1147 (by decide +kernel) rfl, by decide +kernel⟩
theorem mf_X9_likely : MFv yX9_likely cX9_likely 3 (some .long) RX9 2 := ⟨gdW_at 1136 (by decide +kernel) rfl, gdW_at 1137 (by decide +kernel) rfl, gdW_at 11 (by decide +kernel) rfl, gdW_at 1138 (by decide +kernel) rfl, by decide +kernel⟩
theorem mf_X9_pair : MFv yX9_pair cX9_pair 4 (some .long) RX9 3 := ⟨gdW_at 1155 (by decide +kernel) rfl, gdW_at 1156 (by decide +kernel) rfl, gdW_at 11 (by decide +kernel) rfl, gdW_at 1157 (by decide +kernel) rfl, by decide +kernel⟩
theorem mf_X9_highOf : MFs yX9_highOf cX9_highOf 4 (some .long) 2 := ⟨gdW_at 1163 (by decide +kernel) rfl, gdW_at 11 (by decide +kernel) rfl, gdW_at 1164 (by decide +kernel) rfl, by decide +kernel⟩
theorem mf_X9_lowOf : MFs yX9_lowOf cX9_lowOf 4 (some .long) 2 := ⟨gdW_at 1167 (by decide +kernel) rfl, gdW_at 11 (by decide +kernel) rfl, gdW_at 1168 (by decide +kernel) rfl, by decide +kernel⟩
theorem mf_X9_less : MFv yX9_less cX9_less 17 (some .int) RX9 2 := ⟨gdW_at 1159 (by decide +kernel) rfl, gdW_at 1160 (by decide +kernel) rfl, gdW_at 11 (by decide +kernel) rfl, gdW_at 1161 (by decide +kernel) rfl, by decide +kernel⟩
theorem mf_X9_inAll : MFv yX9_inAll cX9_inAll 3 (some .int) RX9 0 := ⟨gdW_at 1170 (by decide +kernel) rfl, gdW_at 1171 (by decide +kernel) rfl, gdW_at 11 (by decide +kernel) rfl, gdW_at 1172 (by decide +kernel) rfl, by decide +kernel⟩
theorem mf_X9_inNone : MFv yX9_inNone cX9_inNone 3 (some .int) RX9 0 := ⟨gdW_at 1174 (by decide +kernel) rfl, gdW_at 1175 (by decide +kernel) rfl, gdW_at 11 (by decide +kernel) rfl, gdW_at 1176 (by decide +kernel) rfl, by decide +kernel⟩
theorem mf_X9_cheapest : MFv yX9_cheapest cX9_cheapest 7 (some .int) RX9 1 := ⟨gdW_at 1183 (by decide +kernel) rfl, gdW_sel (q := (yX9_cheapest, 35)) 117 (by decide +kernel), gdW_at 11 (by decide +kernel) rfl, gdW_at 1184 (by decide +kernel) rfl, by decide +kernel⟩
theorem mf_X9_cheap : MFv yX9_cheap cX9_cheap 4 (some .int) RX9 2 := ⟨gdW_at 1178 (by decide +kernel) rfl, gdW_at 1179 (by decide +kernel) rfl, gdW_at 11 (by decide +kernel) rfl, gdW_at 1180 (by decide +kernel) rfl, by decide +kernel⟩
theorem mf_X9_nights : MFv yX9_nights cX9_nights 3 (some .int) RX9 2 := ⟨gdW_at 1190 (by decide +kernel) rfl, gdW_at 1191 (by decide +kernel) rfl, gdW_at 11 (by decide +kernel) rfl, gdW_at 1192 (by decide +kernel) rfl, by decide +kernel⟩
theorem mf_X9_step : MFv yX9_step cX9_step 8 (some .int) RX9 2 := ⟨gdW_at 1194 (by decide +kernel) rfl, gdW_at 1195 (by decide +kernel) rfl, gdW_at 11 (by decide +kernel) rfl, gdW_at 1196 (by decide +kernel) rfl, by decide +kernel⟩
theorem mf_X9_isToward : MFv yX9_isToward cX9_isToward 4 (some .boolean) RX9 2 := ⟨gdW_at 1203 (by decide +kernel) rfl, gdW_sel (q := (yX9_isToward, 35)) 119 (by decide +kernel), gdW_at 11 (by decide +kernel) rfl, gdW_at 1204 (by decide +kernel) rfl, by decide +kernel⟩
theorem mf_X9_toward : MFv yX9_toward cX9_toward 6 (some .long) RX9 2 := ⟨gdW_at 1198 (by decide +kernel) rfl, gdW_at 1199 (by decide +kernel) rfl, gdW_at 11 (by decide +kernel) rfl, gdW_at 1200 (by decide +kernel) rfl, by decide +kernel⟩
theorem mf_X9_forests : MFv yX9_forests cX9_forests 5 (some .int) RX9 1 := ⟨gdW_at 1206 (by decide +kernel) rfl, gdW_at 1207 (by decide +kernel) rfl, gdW_at 11 (by decide +kernel) rfl, gdW_at 1208 (by decide +kernel) rfl, by decide +kernel⟩
theorem mf_X9_isOneEach : MFv yX9_isOneEach cX9_isOneEach 4 (some .boolean) RX9 1 := ⟨gdW_at 1215 (by decide +kernel) rfl, gdW_sel (q := (yX9_isOneEach, 35)) 120 (by decide +kernel), gdW_at 11 (by decide +kernel) rfl, gdW_at 1216 (by decide +kernel) rfl, by decide +kernel⟩
theorem mf_X9_ploughs : MFv yX9_ploughs cX9_ploughs 4 (some .int) RX9 1 := ⟨gdW_at 1210 (by decide +kernel) rfl, gdW_at 1211 (by decide +kernel) rfl, gdW_at 11 (by decide +kernel) rfl, gdW_at 1212 (by decide +kernel) rfl, by decide +kernel⟩
theorem mf_X9_sumApart : MFv yX9_sumApart cX9_sumApart 7 (some .long) RX9 3 := ⟨gdW_at 1231 (by decide +kernel) rfl, gdW_sel (q := (yX9_sumApart, 35)) 123 (by decide +kernel), gdW_at 11 (by decide +kernel) rfl, gdW_at 1232 (by decide +kernel) rfl, by decide +kernel⟩
theorem mf_X9_sumTogether : MFv yX9_sumTogether cX9_sumTogether 4 (some .long) RX9 0 := ⟨gdW_at 1227 (by decide +kernel) rfl, gdW_sel (q := (yX9_sumTogether, 35)) 122 (by decide +kernel), gdW_at 11 (by decide +kernel) rfl, gdW_at 1228 (by decide +kernel) rfl, by decide +kernel⟩
theorem mf_X9_areTwo : MFv yX9_areTwo cX9_areTwo 3 (some .boolean) RX9 2 := ⟨gdW_at 1223 (by decide +kernel) rfl, gdW_sel (q := (yX9_areTwo, 35)) 121 (by decide +kernel), gdW_at 11 (by decide +kernel) rfl, gdW_at 1224 (by decide +kernel) rfl, by decide +kernel⟩
theorem mf_X9_hard : MFv yX9_hard cX9_hard 6 (some .long) RX9 3 := ⟨gdW_at 1218 (by decide +kernel) rfl, gdW_at 1219 (by decide +kernel) rfl, gdW_at 11 (by decide +kernel) rfl, gdW_at 1220 (by decide +kernel) rfl, by decide +kernel⟩
theorem mf_X9_more : MFv yX9_more cX9_more 6 (some .long) RX9 3 := ⟨gdW_at 1234 (by decide +kernel) rfl, gdW_at 1235 (by decide +kernel) rfl, gdW_at 11 (by decide +kernel) rfl, gdW_at 1236 (by decide +kernel) rfl, by decide +kernel⟩
theorem mf_X9_holds : MFv yX9_holds cX9_holds 11 (some .long) RX9 1 := ⟨gdW_at 1238 (by decide +kernel) rfl, gdW_at 1239 (by decide +kernel) rfl, gdW_at 11 (by decide +kernel) rfl, gdW_at 1240 (by decide +kernel) rfl, by decide +kernel⟩
theorem mf_X9_doJoin : MFv yX9_doJoin cX9_doJoin 7 (some .boolean) RX9 1 := ⟨gdW_at 1252 (by decide +kernel) rfl, gdW_sel (q := (yX9_doJoin, 35)) 125 (by decide +kernel), gdW_at 11 (by decide +kernel) rfl, gdW_at 1253 (by decide +kernel) rfl, by decide +kernel⟩
theorem mf_X9_findPlan : MFv yX9_findPlan cX9_findPlan 5 none RX9 1 := ⟨gdW_at 1248 (by decide +kernel) rfl, gdW_sel (q := (yX9_findPlan, 35)) 124 (by decide +kernel), gdW_at 11 (by decide +kernel) rfl, gdW_at 1249 (by decide +kernel) rfl, by decide +kernel⟩
theorem mf_X9_plan : MFv yX9_plan cX9_plan 6 (some .int) RX9 2 := ⟨gdW_at 1243 (by decide +kernel) rfl, gdW_at 1244 (by decide +kernel) rfl, gdW_at 11 (by decide +kernel) rfl, gdW_at 1245 (by decide +kernel) rfl, by decide +kernel⟩
theorem mf_X9_drawn : MFv yX9_drawn cX9_drawn 3 (some .int) RX9 1 := ⟨gdW_at 1279 (by decide +kernel) rfl, gdW_sel (q := (yX9_drawn, 35)) 130 (by decide +kernel), gdW_at 11 (by decide +kernel) rfl, gdW_at 1280 (by decide +kernel) rfl, by decide +kernel⟩
theorem mf_X9_leads : MFv yX9_leads cX9_leads 3 (some .int) RX9 2 := ⟨gdW_at 1275 (by decide +kernel) rfl, gdW_sel (q := (yX9_leads, 35)) 129 (by decide +kernel), gdW_at 11 (by decide +kernel) rfl, gdW_at 1276 (by decide +kernel) rfl, by decide +kernel⟩
theorem mf_X9_weightsFrom : MFv yX9_weightsFrom cX9_weightsFrom 4 (some .int) RX9 1 := ⟨gdW_at 1271 (by decide +kernel) rfl, gdW_sel (q := (yX9_weightsFrom, 35)) 128 (by decide +kernel), gdW_at 11 (by decide +kernel) rfl, gdW_at 1272 (by decide +kernel) rfl, by decide +kernel⟩
theorem mf_X9_walks : MFv yX9_walks cX9_walks 8 (some .int) RX9 0 := ⟨gdW_at 1267 (by decide +kernel) rfl, gdW_sel (q := (yX9_walks, 35)) 127 (by decide +kernel), gdW_at 11 (by decide +kernel) rfl, gdW_at 1268 (by decide +kernel) rfl, by decide +kernel⟩
theorem mf_X9_steps : MFv yX9_steps cX9_steps 9 (some .int) RX9 0 := ⟨gdW_at 1290 (by decide +kernel) rfl, gdW_sel (q := (yX9_steps, 35)) 132 (by decide +kernel), gdW_at 11 (by decide +kernel) rfl, gdW_at 1291 (by decide +kernel) rfl, by decide +kernel⟩
theorem mf_X9_dearest : MFv yX9_dearest cX9_dearest 3 (some .int) RX9 0 := ⟨gdW_at 1294 (by decide +kernel) rfl, gdW_sel (q := (yX9_dearest, 35)) 133 (by decide +kernel), gdW_at 11 (by decide +kernel) rfl, gdW_at 1295 (by decide +kernel) rfl, by decide +kernel⟩
theorem mf_X9_rowWay : MFv yX9_rowWay cX9_rowWay 3 (some .int) RX9 0 := ⟨gdW_at 1286 (by decide +kernel) rfl, gdW_sel (q := (yX9_rowWay, 35)) 131 (by decide +kernel), gdW_at 11 (by decide +kernel) rfl, gdW_at 1287 (by decide +kernel) rfl, by decide +kernel⟩
theorem mf_X9_makes : MFv yX9_makes cX9_makes 2 (some .int) RX9 1 := ⟨gdW_at 1263 (by decide +kernel) rfl, gdW_sel (q := (yX9_makes, 35)) 126 (by decide +kernel), gdW_at 11 (by decide +kernel) rfl, gdW_at 1264 (by decide +kernel) rfl, by decide +kernel⟩
theorem mf_X9_isDrawer : MFs yX9_isDrawer cX9_isDrawer 1 (some .boolean) 1 := ⟨gdW_at 1259 (by decide +kernel) rfl, gdW_at 11 (by decide +kernel) rfl, gdW_at 1260 (by decide +kernel) rfl, by decide +kernel⟩
theorem mf_X9_draw : MFv yX9_draw cX9_draw 3 (some .int) RX9 2 := ⟨gdW_at 1255 (by decide +kernel) rfl, gdW_at 1256 (by decide +kernel) rfl, gdW_at 11 (by decide +kernel) rfl, gdW_at 1257 (by decide +kernel) rfl, by decide +kernel⟩
theorem mf_X9_often : MFv yX9_often cX9_often 9 (some .int) RX9 4 := ⟨gdW_at 1297 (by decide +kernel) rfl, gdW_at 1298 (by decide +kernel) rfl, gdW_at 11 (by decide +kernel) rfl, gdW_at 1299 (by decide +kernel) rfl, by decide +kernel⟩
theorem mf_X9_row : MFv yX9_row cX9_row 3 (some .int) RX9 1 := ⟨gdW_at 1301 (by decide +kernel) rfl, gdW_at 1302 (by decide +kernel) rfl, gdW_at 11 (by decide +kernel) rfl, gdW_at 1303 (by decide +kernel) rfl, by decide +kernel⟩
theorem mf_X9_judge : MFv yX9_judge cX9_judge 6 (some .int) RX9 0 := ⟨gdW_at 1305 (by decide +kernel) rfl, gdW_at 1306 (by decide +kernel) rfl, gdW_at 11 (by decide +kernel) rfl, gdW_at 1307 (by decide +kernel) rfl, by decide +kernel⟩
theorem mf_X9_count : MFv yX9_count cX9_count 4 (some .int) RX9 1 := ⟨gdW_at 1309 (by decide +kernel) rfl, gdW_at 1310 (by decide +kernel) rfl, gdW_at 11 (by decide +kernel) rfl, gdW_at 1311 (by decide +kernel) rfl, by decide +kernel⟩
