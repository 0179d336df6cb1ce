/-! words by name, cells by number -/
theorem fl_0 : Cond.fieldLink RX0 9 "ClothMaker$Cones" "counts" "[I" ∈ gtb := gtb_mem (List.mem_append_right _ (List.mem_of_getElem? (i := 97) (by decide +kernel))) rfl
theorem fl_1 : Cond.fieldLink RX0 15 "ClothMaker$Cones" "depths" "[I" ∈ gtb := gtb_mem (List.mem_append_right _ (List.mem_of_getElem? (i := 99) (by decide +kernel))) rfl
theorem fl_2 : Cond.fieldLink RX0 18 "ClothMaker$Cones" "ranks" "[J" ∈ gtb := gtb_mem (List.mem_append_right _ (List.mem_of_getElem? (i := 101) (by decide +kernel))) rfl
theorem fl_3 : Cond.fieldLink RX1 21 "ClothMaker$Frames" "size" "I" ∈ gtb := gtb_mem (List.mem_append_right _ (List.mem_of_getElem? (i := 268) (by decide +kernel))) rfl
theorem fl_4 : Cond.fieldLink RX1 9 "ClothMaker$Frames" "bytes" "[I" ∈ gtb := gtb_mem (List.mem_append_right _ (List.mem_of_getElem? (i := 270) (by decide +kernel))) rfl
theorem fl_5 : Cond.fieldLink RX7 9 "ClothMaker$Tables" "letterCounts" "[I" ∈ gtb := gtb_mem (List.mem_append_right _ (List.mem_of_getElem? (i := 120) (by decide +kernel))) rfl
theorem fl_6 : Cond.fieldLink RX7 18 "ClothMaker$Tables" "letters" "[I" ∈ gtb := gtb_mem (List.mem_append_right _ (List.mem_of_getElem? (i := 128) (by decide +kernel))) rfl
theorem fl_7 : Cond.fieldLink RX1 65 "ClothMaker$Tables" "letterCounts" "[I" ∈ gtb := gtb_mem (List.mem_append_right _ (List.mem_of_getElem? (i := 122) (by decide +kernel))) rfl
theorem fl_8 : Cond.fieldLink RX1 73 "ClothMaker$Tables" "bits" "[I" ∈ gtb := gtb_mem (List.mem_append_right _ (List.mem_of_getElem? (i := 126) (by decide +kernel))) rfl
theorem fl_9 : Cond.fieldLink RX1 57 "ClothMaker$Net" "sorts" "[I" ∈ gtb := gtb_mem (List.mem_append_right _ (List.mem_of_getElem? (i := 32) (by decide +kernel))) rfl
theorem fl_10 : Cond.fieldLink RX1 18 "ClothMaker$Frames" "lettersAt" "[I" ∈ gtb := gtb_mem (List.mem_append_right _ (List.mem_of_getElem? (i := 274) (by decide +kernel))) rfl
theorem fl_11 : Cond.fieldLink RX1 62 "ClothMaker$Net" "lefts" "[I" ∈ gtb := gtb_mem (List.mem_append_right _ (List.mem_of_getElem? (i := 38) (by decide +kernel))) rfl
theorem fl_12 : Cond.fieldLink RX1 30 "ClothMaker$Places" "things" "I" ∈ gtb := gtb_mem (List.mem_append_right _ (List.mem_of_getElem? (i := 204) (by decide +kernel))) rfl
theorem fl_13 : Cond.fieldLink RX1 15 "ClothMaker$Frames" "starts" "[I" ∈ gtb := gtb_mem (List.mem_append_right _ (List.mem_of_getElem? (i := 272) (by decide +kernel))) rfl
theorem fl_14 : Cond.fieldLink RX1 35 "ClothMaker$Places" "order" "[I" ∈ gtb := gtb_mem (List.mem_append_right _ (List.mem_of_getElem? (i := 208) (by decide +kernel))) rfl
theorem fl_15 : Cond.fieldLink RX1 38 "ClothMaker$Places" "tiles" "[I" ∈ gtb := gtb_mem (List.mem_append_right _ (List.mem_of_getElem? (i := 211) (by decide +kernel))) rfl
theorem fl_16 : Cond.fieldLink RX1 25 "ClothMaker$Grid" "tileCount" "I" ∈ gtb := gtb_mem (List.mem_append_right _ (List.mem_of_getElem? (i := 154) (by decide +kernel))) rfl
theorem fl_17 : Cond.fieldLink RX1 53 "ClothMaker$Frames" "ready" "Z" ∈ gtb := gtb_mem (List.mem_append_right _ (List.mem_of_getElem? (i := 266) (by decide +kernel))) rfl
theorem fl_18 : Cond.fieldLink RX7 24 "ClothMaker$Tables" "wanted" "I" ∈ gtb := gtb_mem (List.mem_append_right _ (List.mem_of_getElem? (i := 130) (by decide +kernel))) rfl
theorem fl_19 : Cond.fieldLink RX1 76 "ClothMaker$Net" "cells" "I" ∈ gtb := gtb_mem (List.mem_append_right _ (List.mem_of_getElem? (i := 54) (by decide +kernel))) rfl
theorem fl_20 : Cond.fieldLink RX2 18 "ClothMaker$Grid" "lessers" "[I" ∈ gtb := gtb_mem (List.mem_append_right _ (List.mem_of_getElem? (i := 165) (by decide +kernel))) rfl
theorem fl_21 : Cond.fieldLink RX2 37 "ClothMaker$Grid" "joints" "I" ∈ gtb := gtb_mem (List.mem_append_right _ (List.mem_of_getElem? (i := 158) (by decide +kernel))) rfl
theorem fl_22 : Cond.fieldLink RX2 21 "ClothMaker$Grid" "greaters" "[I" ∈ gtb := gtb_mem (List.mem_append_right _ (List.mem_of_getElem? (i := 168) (by decide +kernel))) rfl
theorem fl_23 : Cond.fieldLink RX2 24 "ClothMaker$Grid" "around" "[I" ∈ gtb := gtb_mem (List.mem_append_right _ (List.mem_of_getElem? (i := 171) (by decide +kernel))) rfl
theorem fl_24 : Cond.fieldLink RX2 34 "ClothMaker$Grid" "tileCount" "I" ∈ gtb := gtb_mem (List.mem_append_right _ (List.mem_of_getElem? (i := 155) (by decide +kernel))) rfl
theorem fl_25 : Cond.fieldLink RX2 9 "ClothMaker$Grid" "columns" "[I" ∈ gtb := gtb_mem (List.mem_append_right _ (List.mem_of_getElem? (i := 161) (by decide +kernel))) rfl
theorem fl_26 : Cond.fieldLink RX2 15 "ClothMaker$Grid" "lines" "[I" ∈ gtb := gtb_mem (List.mem_append_right _ (List.mem_of_getElem? (i := 163) (by decide +kernel))) rfl
theorem fl_27 : Cond.fieldLink RX2 27 "ClothMaker$Grid" "room" "I" ∈ gtb := gtb_mem (List.mem_append_right _ (List.mem_of_getElem? (i := 172) (by decide +kernel))) rfl
theorem fl_28 : Cond.fieldLink RX2 31 "ClothMaker$Grid" "carry" "I" ∈ gtb := gtb_mem (List.mem_append_right _ (List.mem_of_getElem? (i := 152) (by decide +kernel))) rfl
theorem fl_29 : Cond.fieldLink RX2 40 "ClothMaker$Grid" "brokenTiles" "J" ∈ gtb := gtb_mem (List.mem_append_right _ (List.mem_of_getElem? (i := 173) (by decide +kernel))) rfl
theorem fl_30 : Cond.fieldLink RX3 27 "ClothMaker$Net" "cells" "I" ∈ gtb := gtb_mem (List.mem_append_right _ (List.mem_of_getElem? (i := 50) (by decide +kernel))) rfl
theorem fl_31 : Cond.fieldLink RX3 9 "ClothMaker$Net" "sorts" "[I" ∈ gtb := gtb_mem (List.mem_append_right _ (List.mem_of_getElem? (i := 30) (by decide +kernel))) rfl
theorem fl_32 : Cond.fieldLink RX3 15 "ClothMaker$Net" "lefts" "[I" ∈ gtb := gtb_mem (List.mem_append_right _ (List.mem_of_getElem? (i := 36) (by decide +kernel))) rfl
theorem fl_33 : Cond.fieldLink RX3 18 "ClothMaker$Net" "rights" "[I" ∈ gtb := gtb_mem (List.mem_append_right _ (List.mem_of_getElem? (i := 42) (by decide +kernel))) rfl
theorem fl_34 : Cond.fieldLink RX3 21 "ClothMaker$Net" "ops" "[I" ∈ gtb := gtb_mem (List.mem_append_right _ (List.mem_of_getElem? (i := 44) (by decide +kernel))) rfl
theorem fl_35 : Cond.fieldLink RX3 31 "ClothMaker$Net" "inputs" "I" ∈ gtb := gtb_mem (List.mem_append_right _ (List.mem_of_getElem? (i := 56) (by decide +kernel))) rfl
theorem fl_36 : Cond.fieldLink RX3 38 "ClothMaker$Net" "keepers" "I" ∈ gtb := gtb_mem (List.mem_append_right _ (List.mem_of_getElem? (i := 58) (by decide +kernel))) rfl
theorem fl_37 : Cond.fieldLink RX3 41 "ClothMaker$Net" "firsts" "I" ∈ gtb := gtb_mem (List.mem_append_right _ (List.mem_of_getElem? (i := 66) (by decide +kernel))) rfl
theorem fl_38 : Cond.fieldLink RX3 44 "ClothMaker$Net" "gates" "I" ∈ gtb := gtb_mem (List.mem_append_right _ (List.mem_of_getElem? (i := 64) (by decide +kernel))) rfl
theorem fl_39 : Cond.fieldLink RX3 24 "ClothMaker$Net" "outs" "[I" ∈ gtb := gtb_mem (List.mem_append_right _ (List.mem_of_getElem? (i := 46) (by decide +kernel))) rfl
theorem fl_40 : Cond.fieldLink RX3 47 "ClothMaker$Net" "outCount" "I" ∈ gtb := gtb_mem (List.mem_append_right _ (List.mem_of_getElem? (i := 61) (by decide +kernel))) rfl
theorem fl_41 : Cond.fieldLink RX4 21 "ClothMaker$Numbers" "count" "I" ∈ gtb := gtb_mem (List.mem_append_right _ (List.mem_of_getElem? (i := 323) (by decide +kernel))) rfl
theorem fl_42 : Cond.fieldLink RX4 9 "ClothMaker$Numbers" "values" "[I" ∈ gtb := gtb_mem (List.mem_append_right _ (List.mem_of_getElem? (i := 325) (by decide +kernel))) rfl
theorem fl_43 : Cond.fieldLink RX4 31 "ClothMaker$Numbers" "there" "Z" ∈ gtb := gtb_mem (List.mem_append_right _ (List.mem_of_getElem? (i := 321) (by decide +kernel))) rfl
theorem fl_44 : Cond.fieldLink RX5 62 "ClothMaker$Tables" "letterCounts" "[I" ∈ gtb := gtb_mem (List.mem_append_right _ (List.mem_of_getElem? (i := 121) (by decide +kernel))) rfl
theorem fl_45 : Cond.fieldLink RX5 50 "ClothMaker$Net" "sorts" "[I" ∈ gtb := gtb_mem (List.mem_append_right _ (List.mem_of_getElem? (i := 31) (by decide +kernel))) rfl
theorem fl_46 : Cond.fieldLink RX5 59 "ClothMaker$Net" "lefts" "[I" ∈ gtb := gtb_mem (List.mem_append_right _ (List.mem_of_getElem? (i := 37) (by decide +kernel))) rfl
theorem fl_47 : Cond.fieldLink RX5 24 "ClothMaker$Places" "users" "[I" ∈ gtb := gtb_mem (List.mem_append_right _ (List.mem_of_getElem? (i := 216) (by decide +kernel))) rfl
theorem fl_48 : Cond.fieldLink RX5 9 "ClothMaker$Places" "order" "[I" ∈ gtb := gtb_mem (List.mem_append_right _ (List.mem_of_getElem? (i := 207) (by decide +kernel))) rfl
theorem fl_49 : Cond.fieldLink RX5 27 "ClothMaker$Places" "things" "I" ∈ gtb := gtb_mem (List.mem_append_right _ (List.mem_of_getElem? (i := 203) (by decide +kernel))) rfl
theorem fl_50 : Cond.fieldLink RX5 37 "ClothMaker$Net" "cells" "I" ∈ gtb := gtb_mem (List.mem_append_right _ (List.mem_of_getElem? (i := 51) (by decide +kernel))) rfl
theorem fl_51 : Cond.fieldLink RX5 21 "ClothMaker$Places" "feeders" "[I" ∈ gtb := gtb_mem (List.mem_append_right _ (List.mem_of_getElem? (i := 215) (by decide +kernel))) rfl
theorem fl_52 : Cond.fieldLink RX5 15 "ClothMaker$Places" "tiles" "[I" ∈ gtb := gtb_mem (List.mem_append_right _ (List.mem_of_getElem? (i := 210) (by decide +kernel))) rfl
theorem fl_53 : Cond.fieldLink RX5 18 "ClothMaker$Places" "loads" "[I" ∈ gtb := gtb_mem (List.mem_append_right _ (List.mem_of_getElem? (i := 214) (by decide +kernel))) rfl
theorem fl_54 : Cond.fieldLink RX5 73 "ClothMaker$Grid" "tileCount" "I" ∈ gtb := gtb_mem (List.mem_append_right _ (List.mem_of_getElem? (i := 157) (by decide +kernel))) rfl
theorem fl_55 : Cond.fieldLink RX5 82 "ClothMaker$Places" "ready" "Z" ∈ gtb := gtb_mem (List.mem_append_right _ (List.mem_of_getElem? (i := 201) (by decide +kernel))) rfl
theorem fl_56 : Cond.fieldLink RX5 96 "ClothMaker$Grid" "columns" "[I" ∈ gtb := gtb_mem (List.mem_append_right _ (List.mem_of_getElem? (i := 162) (by decide +kernel))) rfl
theorem fl_57 : Cond.fieldLink RX5 99 "ClothMaker$Grid" "lines" "[I" ∈ gtb := gtb_mem (List.mem_append_right _ (List.mem_of_getElem? (i := 164) (by decide +kernel))) rfl
theorem fl_58 : Cond.fieldLink RX6 9 "ClothMaker$Runs" "netValues" "[I" ∈ gtb := gtb_mem (List.mem_append_right _ (List.mem_of_getElem? (i := 300) (by decide +kernel))) rfl
theorem fl_59 : Cond.fieldLink RX6 31 "ClothMaker$Net" "firsts" "I" ∈ gtb := gtb_mem (List.mem_append_right _ (List.mem_of_getElem? (i := 65) (by decide +kernel))) rfl
theorem fl_60 : Cond.fieldLink RX6 15 "ClothMaker$Runs" "clothValues" "[I" ∈ gtb := gtb_mem (List.mem_append_right _ (List.mem_of_getElem? (i := 301) (by decide +kernel))) rfl
theorem fl_61 : Cond.fieldLink RX6 18 "ClothMaker$Runs" "clocks" "I" ∈ gtb := gtb_mem (List.mem_append_right _ (List.mem_of_getElem? (i := 292) (by decide +kernel))) rfl
theorem fl_62 : Cond.fieldLink RX6 22 "ClothMaker$Runs" "netOuts" "I" ∈ gtb := gtb_mem (List.mem_append_right _ (List.mem_of_getElem? (i := 294) (by decide +kernel))) rfl
theorem fl_63 : Cond.fieldLink RX6 25 "ClothMaker$Runs" "clothOuts" "I" ∈ gtb := gtb_mem (List.mem_append_right _ (List.mem_of_getElem? (i := 296) (by decide +kernel))) rfl
theorem fl_64 : Cond.fieldLink RX6 28 "ClothMaker$Runs" "differed" "I" ∈ gtb := gtb_mem (List.mem_append_right _ (List.mem_of_getElem? (i := 298) (by decide +kernel))) rfl
theorem fl_65 : Cond.fieldLink RX6 40 "ClothMaker$Net" "cells" "I" ∈ gtb := gtb_mem (List.mem_append_right _ (List.mem_of_getElem? (i := 52) (by decide +kernel))) rfl
theorem fl_66 : Cond.fieldLink RX6 43 "ClothMaker$Net" "sorts" "[I" ∈ gtb := gtb_mem (List.mem_append_right _ (List.mem_of_getElem? (i := 33) (by decide +kernel))) rfl
theorem fl_67 : Cond.fieldLink RX6 94 "ClothMaker$Net" "outCount" "I" ∈ gtb := gtb_mem (List.mem_append_right _ (List.mem_of_getElem? (i := 62) (by decide +kernel))) rfl
theorem fl_68 : Cond.fieldLink RX6 97 "ClothMaker$Net" "outs" "[I" ∈ gtb := gtb_mem (List.mem_append_right _ (List.mem_of_getElem? (i := 48) (by decide +kernel))) rfl
theorem fl_69 : Cond.fieldLink RX6 54 "ClothMaker$Net" "lefts" "[I" ∈ gtb := gtb_mem (List.mem_append_right _ (List.mem_of_getElem? (i := 39) (by decide +kernel))) rfl
theorem fl_70 : Cond.fieldLink RX6 84 "ClothMaker$Tables" "letterCounts" "[I" ∈ gtb := gtb_mem (List.mem_append_right _ (List.mem_of_getElem? (i := 123) (by decide +kernel))) rfl
theorem fl_71 : Cond.fieldLink RX7 39 "ClothMaker$Net" "cells" "I" ∈ gtb := gtb_mem (List.mem_append_right _ (List.mem_of_getElem? (i := 53) (by decide +kernel))) rfl
theorem fl_72 : Cond.fieldLink RX7 54 "ClothMaker$Net" "gates" "I" ∈ gtb := gtb_mem (List.mem_append_right _ (List.mem_of_getElem? (i := 63) (by decide +kernel))) rfl
theorem fl_73 : Cond.fieldLink RX7 75 "ClothMaker$Net" "sorts" "[I" ∈ gtb := gtb_mem (List.mem_append_right _ (List.mem_of_getElem? (i := 35) (by decide +kernel))) rfl
theorem fl_74 : Cond.fieldLink RX7 78 "ClothMaker$Net" "lefts" "[I" ∈ gtb := gtb_mem (List.mem_append_right _ (List.mem_of_getElem? (i := 40) (by decide +kernel))) rfl
theorem fl_75 : Cond.fieldLink RX7 69 "ClothMaker$Net" "outCount" "I" ∈ gtb := gtb_mem (List.mem_append_right _ (List.mem_of_getElem? (i := 59) (by decide +kernel))) rfl
theorem fl_76 : Cond.fieldLink RX7 72 "ClothMaker$Net" "outs" "[I" ∈ gtb := gtb_mem (List.mem_append_right _ (List.mem_of_getElem? (i := 47) (by decide +kernel))) rfl
theorem fl_77 : Cond.fieldLink RX7 21 "ClothMaker$Tables" "words" "[I" ∈ gtb := gtb_mem (List.mem_append_right _ (List.mem_of_getElem? (i := 129) (by decide +kernel))) rfl
theorem fl_78 : Cond.fieldLink RX7 81 "ClothMaker$Tables" "LETTER_BITS" "[I" ∈ gtb := gtb_mem (List.mem_append_right _ (List.mem_of_getElem? (i := 534) (by decide +kernel))) rfl
theorem fl_79 : Cond.fieldLink RX7 65 "ClothMaker$Tables" "ready" "Z" ∈ gtb := gtb_mem (List.mem_append_right _ (List.mem_of_getElem? (i := 116) (by decide +kernel))) rfl
theorem fl_80 : Cond.fieldLink RX7 15 "ClothMaker$Tables" "bits" "[I" ∈ gtb := gtb_mem (List.mem_append_right _ (List.mem_of_getElem? (i := 125) (by decide +kernel))) rfl
theorem fl_81 : Cond.fieldLink RX7 36 "ClothMaker$Tables" "count" "I" ∈ gtb := gtb_mem (List.mem_append_right _ (List.mem_of_getElem? (i := 118) (by decide +kernel))) rfl
theorem fl_82 : Cond.fieldLink RX8 58 "ClothMaker$Grid" "joints" "I" ∈ gtb := gtb_mem (List.mem_append_right _ (List.mem_of_getElem? (i := 159) (by decide +kernel))) rfl
theorem fl_83 : Cond.fieldLink RX8 18 "ClothMaker$Ways" "paths" "[J" ∈ gtb := gtb_mem (List.mem_append_right _ (List.mem_of_getElem? (i := 244) (by decide +kernel))) rfl
theorem fl_84 : Cond.fieldLink RX8 9 "ClothMaker$Ways" "loads" "[I" ∈ gtb := gtb_mem (List.mem_append_right _ (List.mem_of_getElem? (i := 240) (by decide +kernel))) rfl
theorem fl_85 : Cond.fieldLink RX8 22 "ClothMaker$Ways" "prices" "[I" ∈ gtb := gtb_mem (List.mem_append_right _ (List.mem_of_getElem? (i := 245) (by decide +kernel))) rfl
theorem fl_86 : Cond.fieldLink RX8 15 "ClothMaker$Ways" "pasts" "[I" ∈ gtb := gtb_mem (List.mem_append_right _ (List.mem_of_getElem? (i := 242) (by decide +kernel))) rfl
theorem fl_87 : Cond.fieldLink RX8 63 "ClothMaker$Grid" "carry" "I" ∈ gtb := gtb_mem (List.mem_append_right _ (List.mem_of_getElem? (i := 153) (by decide +kernel))) rfl
theorem fl_88 : Cond.fieldLink RX8 25 "ClothMaker$Ways" "fars" "[I" ∈ gtb := gtb_mem (List.mem_append_right _ (List.mem_of_getElem? (i := 246) (by decide +kernel))) rfl
theorem fl_89 : Cond.fieldLink RX8 113 "ClothMaker$Grid" "lessers" "[I" ∈ gtb := gtb_mem (List.mem_append_right _ (List.mem_of_getElem? (i := 166) (by decide +kernel))) rfl
theorem fl_90 : Cond.fieldLink RX8 116 "ClothMaker$Grid" "greaters" "[I" ∈ gtb := gtb_mem (List.mem_append_right _ (List.mem_of_getElem? (i := 169) (by decide +kernel))) rfl
theorem fl_91 : Cond.fieldLink RX8 85 "ClothMaker$Grid" "tileCount" "I" ∈ gtb := gtb_mem (List.mem_append_right _ (List.mem_of_getElem? (i := 156) (by decide +kernel))) rfl
theorem fl_92 : Cond.fieldLink RX8 78 "ClothMaker$Places" "tiles" "[I" ∈ gtb := gtb_mem (List.mem_append_right _ (List.mem_of_getElem? (i := 212) (by decide +kernel))) rfl
theorem fl_93 : Cond.fieldLink RX8 41 "ClothMaker$Places" "things" "I" ∈ gtb := gtb_mem (List.mem_append_right _ (List.mem_of_getElem? (i := 205) (by decide +kernel))) rfl
theorem fl_94 : Cond.fieldLink RX8 47 "ClothMaker$Places" "order" "[I" ∈ gtb := gtb_mem (List.mem_append_right _ (List.mem_of_getElem? (i := 209) (by decide +kernel))) rfl
theorem fl_95 : Cond.fieldLink RX8 28 "ClothMaker$Ways" "ready" "Z" ∈ gtb := gtb_mem (List.mem_append_right _ (List.mem_of_getElem? (i := 238) (by decide +kernel))) rfl
theorem fl_96 : Cond.fieldLink RX9 72 "ClothMaker" "refusals" "[I" ∈ gtb := gtb_mem (List.mem_append_right _ (List.mem_of_getElem? (i := 358) (by decide +kernel))) rfl
theorem fl_97 : Cond.fieldLink RX9 47 "ClothMaker" "ways" "LClothMaker$Ways;" ∈ gtb := gtb_mem (List.mem_append_right _ (List.mem_of_getElem? (i := 354) (by decide +kernel))) rfl
theorem fl_98 : Cond.fieldLink RX9 264 "ClothMaker$Ways" "ready" "Z" ∈ gtb := gtb_mem (List.mem_append_right _ (List.mem_of_getElem? (i := 239) (by decide +kernel))) rfl
theorem fl_99 : Cond.fieldLink RX9 54 "ClothMaker" "written" "LClothMaker$Frames;" ∈ gtb := gtb_mem (List.mem_append_right _ (List.mem_of_getElem? (i := 355) (by decide +kernel))) rfl
theorem fl_100 : Cond.fieldLink RX9 301 "ClothMaker$Frames" "ready" "Z" ∈ gtb := gtb_mem (List.mem_append_right _ (List.mem_of_getElem? (i := 267) (by decide +kernel))) rfl
theorem fl_101 : Cond.fieldLink RX9 40 "ClothMaker" "places" "LClothMaker$Places;" ∈ gtb := gtb_mem (List.mem_append_right _ (List.mem_of_getElem? (i := 353) (by decide +kernel))) rfl
theorem fl_102 : Cond.fieldLink RX9 239 "ClothMaker$Places" "ready" "Z" ∈ gtb := gtb_mem (List.mem_append_right _ (List.mem_of_getElem? (i := 202) (by decide +kernel))) rfl
theorem fl_103 : Cond.fieldLink RX9 26 "ClothMaker" "found" "LClothMaker$Tables;" ∈ gtb := gtb_mem (List.mem_append_right _ (List.mem_of_getElem? (i := 351) (by decide +kernel))) rfl
theorem fl_104 : Cond.fieldLink RX9 165 "ClothMaker$Tables" "ready" "Z" ∈ gtb := gtb_mem (List.mem_append_right _ (List.mem_of_getElem? (i := 117) (by decide +kernel))) rfl
theorem fl_105 : Cond.fieldLink RX9 61 "ClothMaker" "runs" "LClothMaker$Runs;" ∈ gtb := gtb_mem (List.mem_append_right _ (List.mem_of_getElem? (i := 356) (by decide +kernel))) rfl
theorem fl_106 : Cond.fieldLink RX9 12 "ClothMaker" "net" "LClothMaker$Net;" ∈ gtb := gtb_mem (List.mem_append_right _ (List.mem_of_getElem? (i := 349) (by decide +kernel))) rfl
theorem fl_107 : Cond.fieldLink RX9 84 "ClothMaker$Net" "cells" "I" ∈ gtb := gtb_mem (List.mem_append_right _ (List.mem_of_getElem? (i := 49) (by decide +kernel))) rfl
theorem fl_108 : Cond.fieldLink RX9 88 "ClothMaker$Net" "inputs" "I" ∈ gtb := gtb_mem (List.mem_append_right _ (List.mem_of_getElem? (i := 55) (by decide +kernel))) rfl
theorem fl_109 : Cond.fieldLink RX9 19 "ClothMaker" "cones" "LClothMaker$Cones;" ∈ gtb := gtb_mem (List.mem_append_right _ (List.mem_of_getElem? (i := 350) (by decide +kernel))) rfl
theorem fl_110 : Cond.fieldLink RX9 106 "ClothMaker$Net" "keepers" "I" ∈ gtb := gtb_mem (List.mem_append_right _ (List.mem_of_getElem? (i := 57) (by decide +kernel))) rfl
theorem fl_111 : Cond.fieldLink RX9 127 "ClothMaker$Net" "sorts" "[I" ∈ gtb := gtb_mem (List.mem_append_right _ (List.mem_of_getElem? (i := 34) (by decide +kernel))) rfl
theorem fl_112 : Cond.fieldLink RX9 130 "ClothMaker$Net" "lefts" "[I" ∈ gtb := gtb_mem (List.mem_append_right _ (List.mem_of_getElem? (i := 41) (by decide +kernel))) rfl
theorem fl_113 : Cond.fieldLink RX9 133 "ClothMaker$Net" "outCount" "I" ∈ gtb := gtb_mem (List.mem_append_right _ (List.mem_of_getElem? (i := 60) (by decide +kernel))) rfl
theorem fl_114 : Cond.fieldLink RX9 139 "ClothMaker$Net" "rights" "[I" ∈ gtb := gtb_mem (List.mem_append_right _ (List.mem_of_getElem? (i := 43) (by decide +kernel))) rfl
theorem fl_115 : Cond.fieldLink RX9 142 "ClothMaker$Net" "ops" "[I" ∈ gtb := gtb_mem (List.mem_append_right _ (List.mem_of_getElem? (i := 45) (by decide +kernel))) rfl
theorem fl_116 : Cond.fieldLink RX9 148 "ClothMaker$Cones" "counts" "[I" ∈ gtb := gtb_mem (List.mem_append_right _ (List.mem_of_getElem? (i := 98) (by decide +kernel))) rfl
theorem fl_117 : Cond.fieldLink RX9 155 "ClothMaker$Cones" "depths" "[I" ∈ gtb := gtb_mem (List.mem_append_right _ (List.mem_of_getElem? (i := 100) (by decide +kernel))) rfl
theorem fl_118 : Cond.fieldLink RX9 162 "ClothMaker$Tables" "count" "I" ∈ gtb := gtb_mem (List.mem_append_right _ (List.mem_of_getElem? (i := 119) (by decide +kernel))) rfl
theorem fl_119 : Cond.fieldLink RX9 175 "ClothMaker$Tables" "bits" "[I" ∈ gtb := gtb_mem (List.mem_append_right _ (List.mem_of_getElem? (i := 127) (by decide +kernel))) rfl
theorem fl_120 : Cond.fieldLink RX9 172 "ClothMaker$Tables" "letterCounts" "[I" ∈ gtb := gtb_mem (List.mem_append_right _ (List.mem_of_getElem? (i := 124) (by decide +kernel))) rfl
theorem fl_121 : Cond.fieldLink RX9 33 "ClothMaker" "grid" "LClothMaker$Grid;" ∈ gtb := gtb_mem (List.mem_append_right _ (List.mem_of_getElem? (i := 352) (by decide +kernel))) rfl
theorem fl_122 : Cond.fieldLink RX9 188 "ClothMaker$Grid" "joints" "I" ∈ gtb := gtb_mem (List.mem_append_right _ (List.mem_of_getElem? (i := 160) (by decide +kernel))) rfl
theorem fl_123 : Cond.fieldLink RX9 215 "ClothMaker$Places" "things" "I" ∈ gtb := gtb_mem (List.mem_append_right _ (List.mem_of_getElem? (i := 206) (by decide +kernel))) rfl
theorem fl_124 : Cond.fieldLink RX9 221 "ClothMaker$Places" "tiles" "[I" ∈ gtb := gtb_mem (List.mem_append_right _ (List.mem_of_getElem? (i := 213) (by decide +kernel))) rfl
theorem fl_125 : Cond.fieldLink RX9 265 "ClothMaker$Ways" "loads" "[I" ∈ gtb := gtb_mem (List.mem_append_right _ (List.mem_of_getElem? (i := 241) (by decide +kernel))) rfl
theorem fl_126 : Cond.fieldLink RX9 272 "ClothMaker$Grid" "lessers" "[I" ∈ gtb := gtb_mem (List.mem_append_right _ (List.mem_of_getElem? (i := 167) (by decide +kernel))) rfl
theorem fl_127 : Cond.fieldLink RX9 275 "ClothMaker$Grid" "greaters" "[I" ∈ gtb := gtb_mem (List.mem_append_right _ (List.mem_of_getElem? (i := 170) (by decide +kernel))) rfl
theorem fl_128 : Cond.fieldLink RX9 278 "ClothMaker$Ways" "pasts" "[I" ∈ gtb := gtb_mem (List.mem_append_right _ (List.mem_of_getElem? (i := 243) (by decide +kernel))) rfl
theorem fl_129 : Cond.fieldLink RX9 289 "ClothMaker$Frames" "size" "I" ∈ gtb := gtb_mem (List.mem_append_right _ (List.mem_of_getElem? (i := 269) (by decide +kernel))) rfl
theorem fl_130 : Cond.fieldLink RX9 295 "ClothMaker$Frames" "bytes" "[I" ∈ gtb := gtb_mem (List.mem_append_right _ (List.mem_of_getElem? (i := 271) (by decide +kernel))) rfl
theorem fl_131 : Cond.fieldLink RX9 298 "ClothMaker$Frames" "starts" "[I" ∈ gtb := gtb_mem (List.mem_append_right _ (List.mem_of_getElem? (i := 273) (by decide +kernel))) rfl
theorem fl_132 : Cond.fieldLink RX9 317 "ClothMaker$Runs" "netOuts" "I" ∈ gtb := gtb_mem (List.mem_append_right _ (List.mem_of_getElem? (i := 295) (by decide +kernel))) rfl
theorem fl_133 : Cond.fieldLink RX9 320 "ClothMaker$Runs" "clocks" "I" ∈ gtb := gtb_mem (List.mem_append_right _ (List.mem_of_getElem? (i := 293) (by decide +kernel))) rfl
theorem fl_134 : Cond.fieldLink RX9 326 "ClothMaker$Runs" "differed" "I" ∈ gtb := gtb_mem (List.mem_append_right _ (List.mem_of_getElem? (i := 299) (by decide +kernel))) rfl
theorem fl_135 : Cond.fieldLink RX9 323 "ClothMaker$Runs" "clothOuts" "I" ∈ gtb := gtb_mem (List.mem_append_right _ (List.mem_of_getElem? (i := 297) (by decide +kernel))) rfl
theorem fl_136 : Cond.fieldLink RX9 68 "ClothMaker" "numbers" "LClothMaker$Numbers;" ∈ gtb := gtb_mem (List.mem_append_right _ (List.mem_of_getElem? (i := 357) (by decide +kernel))) rfl
theorem fl_137 : Cond.fieldLink RX9 333 "ClothMaker$Numbers" "count" "I" ∈ gtb := gtb_mem (List.mem_append_right _ (List.mem_of_getElem? (i := 324) (by decide +kernel))) rfl
theorem fl_138 : Cond.fieldLink RX9 334 "ClothMaker$Numbers" "there" "Z" ∈ gtb := gtb_mem (List.mem_append_right _ (List.mem_of_getElem? (i := 322) (by decide +kernel))) rfl
theorem fl_139 : Cond.fieldLink RX9 337 "ClothMaker$Numbers" "values" "[I" ∈ gtb := gtb_mem (List.mem_append_right _ (List.mem_of_getElem? (i := 326) (by decide +kernel))) rfl
theorem fl_140 : Cond.fieldLink RX10 29 "ClothMakerModel" "refused" "[I" ∈ gtb := gtb_mem (List.mem_append_right _ (List.mem_of_getElem? (i := 933) (by decide +kernel))) rfl
theorem fl_141 : Cond.fieldLink RX10 123 "ClothMakerModel" "cells" "I" ∈ gtb := gtb_mem (List.mem_append_right _ (List.mem_of_getElem? (i := 929) (by decide +kernel))) rfl
theorem fl_142 : Cond.fieldLink RX10 105 "ClothMakerModel" "cloth" "[Z" ∈ gtb := gtb_mem (List.mem_append_right _ (List.mem_of_getElem? (i := 963) (by decide +kernel))) rfl
theorem fl_143 : Cond.fieldLink RX10 102 "ClothMakerModel" "net" "[Z" ∈ gtb := gtb_mem (List.mem_append_right _ (List.mem_of_getElem? (i := 962) (by decide +kernel))) rfl
theorem fl_144 : Cond.fieldLink RX10 325 "ClothMakerModel" "clocks" "I" ∈ gtb := gtb_mem (List.mem_append_right _ (List.mem_of_getElem? (i := 965) (by decide +kernel))) rfl
theorem fl_145 : Cond.fieldLink RX10 111 "ClothMakerModel" "differed" "I" ∈ gtb := gtb_mem (List.mem_append_right _ (List.mem_of_getElem? (i := 968) (by decide +kernel))) rfl
theorem fl_146 : Cond.fieldLink RX10 7 "ClothMakerModel" "sort" "[I" ∈ gtb := gtb_mem (List.mem_append_right _ (List.mem_of_getElem? (i := 923) (by decide +kernel))) rfl
theorem fl_147 : Cond.fieldLink RX10 22 "ClothMakerModel" "first" "[Z" ∈ gtb := gtb_mem (List.mem_append_right _ (List.mem_of_getElem? (i := 927) (by decide +kernel))) rfl
theorem fl_148 : Cond.fieldLink RX10 126 "ClothMakerModel" "areTabled" "Z" ∈ gtb := gtb_mem (List.mem_append_right _ (List.mem_of_getElem? (i := 934) (by decide +kernel))) rfl
theorem fl_149 : Cond.fieldLink RX10 130 "ClothMakerModel" "areSet" "Z" ∈ gtb := gtb_mem (List.mem_append_right _ (List.mem_of_getElem? (i := 935) (by decide +kernel))) rfl
theorem fl_150 : Cond.fieldLink RX10 133 "ClothMakerModel" "wasLed" "Z" ∈ gtb := gtb_mem (List.mem_append_right _ (List.mem_of_getElem? (i := 936) (by decide +kernel))) rfl
theorem fl_151 : Cond.fieldLink RX10 136 "ClothMakerModel" "areFramed" "Z" ∈ gtb := gtb_mem (List.mem_append_right _ (List.mem_of_getElem? (i := 937) (by decide +kernel))) rfl
theorem fl_152 : Cond.fieldLink RX10 139 "ClothMakerModel" "isCut" "Z" ∈ gtb := gtb_mem (List.mem_append_right _ (List.mem_of_getElem? (i := 938) (by decide +kernel))) rfl
theorem fl_153 : Cond.fieldLink RX10 13 "ClothMakerModel" "x" "[I" ∈ gtb := gtb_mem (List.mem_append_right _ (List.mem_of_getElem? (i := 924) (by decide +kernel))) rfl
theorem fl_154 : Cond.fieldLink RX10 16 "ClothMakerModel" "y" "[I" ∈ gtb := gtb_mem (List.mem_append_right _ (List.mem_of_getElem? (i := 925) (by decide +kernel))) rfl
theorem fl_155 : Cond.fieldLink RX10 148 "ClothMakerModel" "inputs" "I" ∈ gtb := gtb_mem (List.mem_append_right _ (List.mem_of_getElem? (i := 930) (by decide +kernel))) rfl
theorem fl_156 : Cond.fieldLink RX10 159 "ClothMakerModel" "keepers" "I" ∈ gtb := gtb_mem (List.mem_append_right _ (List.mem_of_getElem? (i := 931) (by decide +kernel))) rfl
theorem fl_157 : Cond.fieldLink RX10 19 "ClothMakerModel" "gateKind" "[I" ∈ gtb := gtb_mem (List.mem_append_right _ (List.mem_of_getElem? (i := 926) (by decide +kernel))) rfl
theorem fl_158 : Cond.fieldLink RX10 175 "ClothMakerModel" "outCount" "I" ∈ gtb := gtb_mem (List.mem_append_right _ (List.mem_of_getElem? (i := 932) (by decide +kernel))) rfl
theorem fl_159 : Cond.fieldLink RX10 26 "ClothMakerModel" "outs" "[I" ∈ gtb := gtb_mem (List.mem_append_right _ (List.mem_of_getElem? (i := 928) (by decide +kernel))) rfl
theorem fl_160 : Cond.fieldLink RX10 38 "ClothMakerModel" "depths" "[I" ∈ gtb := gtb_mem (List.mem_append_right _ (List.mem_of_getElem? (i := 941) (by decide +kernel))) rfl
theorem fl_161 : Cond.fieldLink RX10 32 "ClothMakerModel" "cuts" "[I" ∈ gtb := gtb_mem (List.mem_append_right _ (List.mem_of_getElem? (i := 939) (by decide +kernel))) rfl
theorem fl_162 : Cond.fieldLink RX10 35 "ClothMakerModel" "cutCount" "[I" ∈ gtb := gtb_mem (List.mem_append_right _ (List.mem_of_getElem? (i := 940) (by decide +kernel))) rfl
theorem fl_163 : Cond.fieldLink RX10 53 "ClothMakerModel" "value" "[Z" ∈ gtb := gtb_mem (List.mem_append_right _ (List.mem_of_getElem? (i := 946) (by decide +kernel))) rfl
theorem fl_164 : Cond.fieldLink RX10 47 "ClothMakerModel" "letterCount" "[I" ∈ gtb := gtb_mem (List.mem_append_right _ (List.mem_of_getElem? (i := 944) (by decide +kernel))) rfl
theorem fl_165 : Cond.fieldLink RX10 44 "ClothMakerModel" "letters" "[I" ∈ gtb := gtb_mem (List.mem_append_right _ (List.mem_of_getElem? (i := 943) (by decide +kernel))) rfl
theorem fl_166 : Cond.fieldLink RX10 50 "ClothMakerModel" "tableBits" "[I" ∈ gtb := gtb_mem (List.mem_append_right _ (List.mem_of_getElem? (i := 945) (by decide +kernel))) rfl
theorem fl_167 : Cond.fieldLink RX10 41 "ClothMakerModel" "isTable" "[Z" ∈ gtb := gtb_mem (List.mem_append_right _ (List.mem_of_getElem? (i := 942) (by decide +kernel))) rfl
theorem fl_168 : Cond.fieldLink RX10 56 "ClothMakerModel" "wide" "I" ∈ gtb := gtb_mem (List.mem_append_right _ (List.mem_of_getElem? (i := 947) (by decide +kernel))) rfl
theorem fl_169 : Cond.fieldLink RX10 60 "ClothMakerModel" "high" "I" ∈ gtb := gtb_mem (List.mem_append_right _ (List.mem_of_getElem? (i := 948) (by decide +kernel))) rfl
theorem fl_170 : Cond.fieldLink RX10 69 "ClothMakerModel" "isBroken" "[Z" ∈ gtb := gtb_mem (List.mem_append_right _ (List.mem_of_getElem? (i := 951) (by decide +kernel))) rfl
theorem fl_171 : Cond.fieldLink RX10 63 "ClothMakerModel" "room" "I" ∈ gtb := gtb_mem (List.mem_append_right _ (List.mem_of_getElem? (i := 949) (by decide +kernel))) rfl
theorem fl_172 : Cond.fieldLink RX10 66 "ClothMakerModel" "carry" "I" ∈ gtb := gtb_mem (List.mem_append_right _ (List.mem_of_getElem? (i := 950) (by decide +kernel))) rfl
theorem fl_173 : Cond.fieldLink RX10 72 "ClothMakerModel" "tileOf" "[I" ∈ gtb := gtb_mem (List.mem_append_right _ (List.mem_of_getElem? (i := 952) (by decide +kernel))) rfl
theorem fl_174 : Cond.fieldLink RX10 78 "ClothMakerModel" "onJoint" "[I" ∈ gtb := gtb_mem (List.mem_append_right _ (List.mem_of_getElem? (i := 954) (by decide +kernel))) rfl
theorem fl_175 : Cond.fieldLink RX10 81 "ClothMakerModel" "past" "[I" ∈ gtb := gtb_mem (List.mem_append_right _ (List.mem_of_getElem? (i := 955) (by decide +kernel))) rfl
theorem fl_176 : Cond.fieldLink RX10 84 "ClothMakerModel" "far" "[I" ∈ gtb := gtb_mem (List.mem_append_right _ (List.mem_of_getElem? (i := 956) (by decide +kernel))) rfl
theorem fl_177 : Cond.fieldLink RX10 87 "ClothMakerModel" "inTree" "[Z" ∈ gtb := gtb_mem (List.mem_append_right _ (List.mem_of_getElem? (i := 957) (by decide +kernel))) rfl
theorem fl_178 : Cond.fieldLink RX10 75 "ClothMakerModel" "has" "[Z" ∈ gtb := gtb_mem (List.mem_append_right _ (List.mem_of_getElem? (i := 953) (by decide +kernel))) rfl
theorem fl_179 : Cond.fieldLink RX10 90 "ClothMakerModel" "found" "[I" ∈ gtb := gtb_mem (List.mem_append_right _ (List.mem_of_getElem? (i := 958) (by decide +kernel))) rfl
theorem fl_180 : Cond.fieldLink RX10 93 "ClothMakerModel" "frame" "[I" ∈ gtb := gtb_mem (List.mem_append_right _ (List.mem_of_getElem? (i := 959) (by decide +kernel))) rfl
theorem fl_181 : Cond.fieldLink RX10 96 "ClothMakerModel" "frameSize" "[I" ∈ gtb := gtb_mem (List.mem_append_right _ (List.mem_of_getElem? (i := 960) (by decide +kernel))) rfl
theorem fl_182 : Cond.fieldLink RX10 99 "ClothMakerModel" "beginsAt" "[I" ∈ gtb := gtb_mem (List.mem_append_right _ (List.mem_of_getElem? (i := 961) (by decide +kernel))) rfl
theorem fl_183 : Cond.fieldLink RX10 108 "ClothMakerModel" "next" "[Z" ∈ gtb := gtb_mem (List.mem_append_right _ (List.mem_of_getElem? (i := 964) (by decide +kernel))) rfl
theorem fl_184 : Cond.fieldLink RX10 335 "ClothMakerModel" "netOuts" "I" ∈ gtb := gtb_mem (List.mem_append_right _ (List.mem_of_getElem? (i := 966) (by decide +kernel))) rfl
theorem fl_185 : Cond.fieldLink RX10 341 "ClothMakerModel" "clothOuts" "I" ∈ gtb := gtb_mem (List.mem_append_right _ (List.mem_of_getElem? (i := 967) (by decide +kernel))) rfl
theorem fl_186 : Cond.fieldLink RX10 120 "ClothMakerModel" "rowSize" "I" ∈ gtb := gtb_mem (List.mem_append_right _ (List.mem_of_getElem? (i := 971) (by decide +kernel))) rfl
theorem fl_187 : Cond.fieldLink RX10 114 "ClothMakerModel" "row" "[I" ∈ gtb := gtb_mem (List.mem_append_right _ (List.mem_of_getElem? (i := 969) (by decide +kernel))) rfl
theorem fl_188 : Cond.fieldLink RX10 117 "ClothMakerModel" "moving" "[I" ∈ gtb := gtb_mem (List.mem_append_right _ (List.mem_of_getElem? (i := 970) (by decide +kernel))) rfl
theorem ml_0 : Cond.methodLink RX0 30 yX0_rank ∈ gtb := gtb_mem (List.mem_append_right _ (List.mem_of_getElem? (i := 443) (by decide +kernel))) rfl
theorem ml_1 : Cond.methodLink RX0 52 Lib.Math.min.name ∈ gtb := gtb_mem (List.mem_append_right _ (List.mem_of_getElem? (i := 464) (by decide +kernel))) rfl
theorem ml_2 : Cond.methodLink RX0 36 yJ13_bitCount_95d88 ∈ gtb := gtb_mem (List.mem_append_right _ (List.mem_of_getElem? (i := 451) (by decide +kernel))) rfl
theorem ml_3 : Cond.methodLink RX0 42 Lib.MathLoose.max_long.x ∈ gtb := gtb_mem (List.mem_append_right _ (List.mem_of_getElem? (i := 457) (by decide +kernel))) rfl
theorem ml_4 : Cond.methodLink RX0 48 yX0_insert ∈ gtb := gtb_mem (List.mem_append_right _ (List.mem_of_getElem? (i := 460) (by decide +kernel))) rfl
theorem ml_5 : Cond.methodLink RX0 22 yX0_choice ∈ gtb := gtb_mem (List.mem_append_right _ (List.mem_of_getElem? (i := 439) (by decide +kernel))) rfl
theorem ml_6 : Cond.methodLink RX0 26 yX0_offer ∈ gtb := gtb_mem (List.mem_append_right _ (List.mem_of_getElem? (i := 446) (by decide +kernel))) rfl
theorem ml_7 : Cond.methodLink RX1 49 yX1_put ∈ gtb := gtb_mem (List.mem_append_right _ (List.mem_of_getElem? (i := 792) (by decide +kernel))) rfl
theorem ml_8 : Cond.methodLink RX1 70 yX7_letter ∈ gtb := gtb_mem (List.mem_append_right _ (List.mem_of_getElem? (i := 796) (by decide +kernel))) rfl
theorem ml_9 : Cond.methodLink RX1 45 yX1_sumOf ∈ gtb := gtb_mem (List.mem_append_right _ (List.mem_of_getElem? (i := 797) (by decide +kernel))) rfl
theorem ml_10 : Cond.methodLink RX1 41 yX1_writeThing ∈ gtb := gtb_mem (List.mem_append_right _ (List.mem_of_getElem? (i := 788) (by decide +kernel))) rfl
theorem ml_11 : Cond.methodLink RX1 79 yX7_isTable ∈ gtb := gtb_mem (List.mem_append_right _ (List.mem_of_getElem? (i := 833) (by decide +kernel))) rfl
theorem ml_12 : Cond.methodLink RX1 83 yX1_bitsThere ∈ gtb := gtb_mem (List.mem_append_right _ (List.mem_of_getElem? (i := 834) (by decide +kernel))) rfl
theorem ml_13 : Cond.methodLink RX2 50 yX2_addJoint ∈ gtb := gtb_mem (List.mem_append_right _ (List.mem_of_getElem? (i := 341) (by decide +kernel))) rfl
theorem ml_14 : Cond.methodLink RX2 44 yJ7_fill_53178 ∈ gtb := gtb_mem (List.mem_append_right _ (List.mem_of_getElem? (i := 338) (by decide +kernel))) rfl
theorem ml_15 : Cond.methodLink RX2 60 yX2_isBroken ∈ gtb := gtb_mem (List.mem_append_right _ (List.mem_of_getElem? (i := 607) (by decide +kernel))) rfl
theorem ml_16 : Cond.methodLink RX2 64 yJ13_bitCount_95d88 ∈ gtb := gtb_mem (List.mem_append_right _ (List.mem_of_getElem? (i := 583) (by decide +kernel))) rfl
theorem ml_17 : Cond.methodLink RX2 70 yX2_beyondJoint ∈ gtb := gtb_mem (List.mem_append_right _ (List.mem_of_getElem? (i := 735) (by decide +kernel))) rfl
theorem ml_18 : Cond.methodLink RX3 34 yX3_add ∈ gtb := gtb_mem (List.mem_append_right _ (List.mem_of_getElem? (i := 395) (by decide +kernel))) rfl
theorem ml_19 : Cond.methodLink RX3 50 yX3_word ∈ gtb := gtb_mem (List.mem_append_right _ (List.mem_of_getElem? (i := 540) (by decide +kernel))) rfl
theorem ml_20 : Cond.methodLink RX4 15 Lib.Math.min.name ∈ gtb := gtb_mem (List.mem_append_right _ (List.mem_of_getElem? (i := 892) (by decide +kernel))) rfl
theorem ml_21 : Cond.methodLink RX4 25 arraycopyName ∈ gtb := gtb_mem (List.mem_append_right _ (List.mem_of_getElem? (i := 893) (by decide +kernel))) rfl
theorem ml_22 : Cond.methodLink RX5 65 yX7_letter ∈ gtb := gtb_mem (List.mem_append_right _ (List.mem_of_getElem? (i := 593) (by decide +kernel))) rfl
theorem ml_23 : Cond.methodLink RX5 53 yX7_isTable ∈ gtb := gtb_mem (List.mem_append_right _ (List.mem_of_getElem? (i := 592) (by decide +kernel))) rfl
theorem ml_24 : Cond.methodLink RX5 42 yX5_feedersOf ∈ gtb := gtb_mem (List.mem_append_right _ (List.mem_of_getElem? (i := 589) (by decide +kernel))) rfl
theorem ml_25 : Cond.methodLink RX5 46 yX5_linkUser ∈ gtb := gtb_mem (List.mem_append_right _ (List.mem_of_getElem? (i := 594) (by decide +kernel))) rfl
theorem ml_26 : Cond.methodLink RX5 31 yJ7_fill_53178 ∈ gtb := gtb_mem (List.mem_append_right _ (List.mem_of_getElem? (i := 588) (by decide +kernel))) rfl
theorem ml_27 : Cond.methodLink RX5 78 yX2_roomOf ∈ gtb := gtb_mem (List.mem_append_right _ (List.mem_of_getElem? (i := 603) (by decide +kernel))) rfl
theorem ml_28 : Cond.methodLink RX5 88 yX5_endsOf ∈ gtb := gtb_mem (List.mem_append_right _ (List.mem_of_getElem? (i := 679) (by decide +kernel))) rfl
theorem ml_29 : Cond.methodLink RX5 102 Lib.Math.min.name ∈ gtb := gtb_mem (List.mem_append_right _ (List.mem_of_getElem? (i := 644) (by decide +kernel))) rfl
theorem ml_30 : Cond.methodLink RX5 107 Lib.Math.max.name ∈ gtb := gtb_mem (List.mem_append_right _ (List.mem_of_getElem? (i := 645) (by decide +kernel))) rfl
theorem ml_31 : Cond.methodLink RX5 92 yX5_spanOf ∈ gtb := gtb_mem (List.mem_append_right _ (List.mem_of_getElem? (i := 640) (by decide +kernel))) rfl
theorem ml_32 : Cond.methodLink RX5 118 yX5_spanOfSome ∈ gtb := gtb_mem (List.mem_append_right _ (List.mem_of_getElem? (i := 662) (by decide +kernel))) rfl
theorem ml_33 : Cond.methodLink RX5 121 yX5_exchange ∈ gtb := gtb_mem (List.mem_append_right _ (List.mem_of_getElem? (i := 666) (by decide +kernel))) rfl
theorem ml_34 : Cond.methodLink RX5 114 yX5_exchangeUnlessLonger ∈ gtb := gtb_mem (List.mem_append_right _ (List.mem_of_getElem? (i := 658) (by decide +kernel))) rfl
theorem ml_35 : Cond.methodLink RX6 61 yX6_setKeepers ∈ gtb := gtb_mem (List.mem_append_right _ (List.mem_of_getElem? (i := 858) (by decide +kernel))) rfl
theorem ml_36 : Cond.methodLink RX6 50 yX6_outsOf ∈ gtb := gtb_mem (List.mem_append_right _ (List.mem_of_getElem? (i := 854) (by decide +kernel))) rfl
theorem ml_37 : Cond.methodLink RX6 46 yX3_reckon ∈ gtb := gtb_mem (List.mem_append_right _ (List.mem_of_getElem? (i := 853) (by decide +kernel))) rfl
theorem ml_38 : Cond.methodLink RX6 36 yX6_takeInputs ∈ gtb := gtb_mem (List.mem_append_right _ (List.mem_of_getElem? (i := 850) (by decide +kernel))) rfl
theorem ml_39 : Cond.methodLink RX6 91 yX3_has ∈ gtb := gtb_mem (List.mem_append_right _ (List.mem_of_getElem? (i := 878) (by decide +kernel))) rfl
theorem ml_40 : Cond.methodLink RX6 87 yX1_bitsThere ∈ gtb := gtb_mem (List.mem_append_right _ (List.mem_of_getElem? (i := 879) (by decide +kernel))) rfl
theorem ml_41 : Cond.methodLink RX6 74 yX1_letterThere ∈ gtb := gtb_mem (List.mem_append_right _ (List.mem_of_getElem? (i := 870) (by decide +kernel))) rfl
theorem ml_42 : Cond.methodLink RX6 80 yX6_letterValue ∈ gtb := gtb_mem (List.mem_append_right _ (List.mem_of_getElem? (i := 874) (by decide +kernel))) rfl
theorem ml_43 : Cond.methodLink RX6 64 yX7_isTable ∈ gtb := gtb_mem (List.mem_append_right _ (List.mem_of_getElem? (i := 865) (by decide +kernel))) rfl
theorem ml_44 : Cond.methodLink RX6 70 yX6_tableValue ∈ gtb := gtb_mem (List.mem_append_right _ (List.mem_of_getElem? (i := 866) (by decide +kernel))) rfl
theorem ml_45 : Cond.methodLink RX7 84 yX3_reckon ∈ gtb := gtb_mem (List.mem_append_right _ (List.mem_of_getElem? (i := 536) (by decide +kernel))) rfl
theorem ml_46 : Cond.methodLink RX7 44 yX7_isTable ∈ gtb := gtb_mem (List.mem_append_right _ (List.mem_of_getElem? (i := 518) (by decide +kernel))) rfl
theorem ml_47 : Cond.methodLink RX7 48 yX0_members ∈ gtb := gtb_mem (List.mem_append_right _ (List.mem_of_getElem? (i := 525) (by decide +kernel))) rfl
theorem ml_48 : Cond.methodLink RX7 57 yX7_takeLetters ∈ gtb := gtb_mem (List.mem_append_right _ (List.mem_of_getElem? (i := 526) (by decide +kernel))) rfl
theorem ml_49 : Cond.methodLink RX7 61 yX7_reckonBits ∈ gtb := gtb_mem (List.mem_append_right _ (List.mem_of_getElem? (i := 530) (by decide +kernel))) rfl
theorem ml_50 : Cond.methodLink RX7 32 yX7_askedFor ∈ gtb := gtb_mem (List.mem_append_right _ (List.mem_of_getElem? (i := 515) (by decide +kernel))) rfl
theorem ml_51 : Cond.methodLink RX8 102 Lib.Math.max.name ∈ gtb := gtb_mem (List.mem_append_right _ (List.mem_of_getElem? (i := 712) (by decide +kernel))) rfl
theorem ml_52 : Cond.methodLink RX8 32 yJ7_fill_53178 ∈ gtb := gtb_mem (List.mem_append_right _ (List.mem_of_getElem? (i := 694) (by decide +kernel))) rfl
theorem ml_53 : Cond.methodLink RX8 109 yX8_relax ∈ gtb := gtb_mem (List.mem_append_right _ (List.mem_of_getElem? (i := 723) (by decide +kernel))) rfl
theorem ml_54 : Cond.methodLink RX8 126 yX8_joinTree ∈ gtb := gtb_mem (List.mem_append_right _ (List.mem_of_getElem? (i := 740) (by decide +kernel))) rfl
theorem ml_55 : Cond.methodLink RX8 119 yX2_jointBack ∈ gtb := gtb_mem (List.mem_append_right _ (List.mem_of_getElem? (i := 731) (by decide +kernel))) rfl
theorem ml_56 : Cond.methodLink RX8 123 yX2_beyondJoint ∈ gtb := gtb_mem (List.mem_append_right _ (List.mem_of_getElem? (i := 739) (by decide +kernel))) rfl
theorem ml_57 : Cond.methodLink RX8 94 yX8_measure ∈ gtb := gtb_mem (List.mem_append_right _ (List.mem_of_getElem? (i := 719) (by decide +kernel))) rfl
theorem ml_58 : Cond.methodLink RX8 98 yX8_goBack ∈ gtb := gtb_mem (List.mem_append_right _ (List.mem_of_getElem? (i := 727) (by decide +kernel))) rfl
theorem ml_59 : Cond.methodLink RX8 66 yX8_takeOff ∈ gtb := gtb_mem (List.mem_append_right _ (List.mem_of_getElem? (i := 702) (by decide +kernel))) rfl
theorem ml_60 : Cond.methodLink RX8 70 yX5_endsOf ∈ gtb := gtb_mem (List.mem_append_right _ (List.mem_of_getElem? (i := 707) (by decide +kernel))) rfl
theorem ml_61 : Cond.methodLink RX8 74 yX8_setPrices ∈ gtb := gtb_mem (List.mem_append_right _ (List.mem_of_getElem? (i := 708) (by decide +kernel))) rfl
theorem ml_62 : Cond.methodLink RX8 81 yX8_plantTree ∈ gtb := gtb_mem (List.mem_append_right _ (List.mem_of_getElem? (i := 713) (by decide +kernel))) rfl
theorem ml_63 : Cond.methodLink RX8 54 yX8_addPasts ∈ gtb := gtb_mem (List.mem_append_right _ (List.mem_of_getElem? (i := 744) (by decide +kernel))) rfl
theorem ml_64 : Cond.methodLink RX8 50 yX8_leadWire ∈ gtb := gtb_mem (List.mem_append_right _ (List.mem_of_getElem? (i := 698) (by decide +kernel))) rfl
theorem ml_65 : Cond.methodLink RX8 38 yJ7_fill_d0a16 ∈ gtb := gtb_mem (List.mem_append_right _ (List.mem_of_getElem? (i := 695) (by decide +kernel))) rfl
theorem ml_66 : Cond.methodLink RX8 130 yX8_longestOf ∈ gtb := gtb_mem (List.mem_append_right _ (List.mem_of_getElem? (i := 776) (by decide +kernel))) rfl
theorem ml_67 : Cond.methodLink RX9 181 yX9_within ∈ gtb := gtb_mem (List.mem_append_right _ (List.mem_of_getElem? (i := 388) (by decide +kernel))) rfl
theorem ml_68 : Cond.methodLink RX9 212 yX9_forgetWays ∈ gtb := gtb_mem (List.mem_append_right _ (List.mem_of_getElem? (i := 411) (by decide +kernel))) rfl
theorem ml_69 : Cond.methodLink RX9 185 yX9_forgetPlaces ∈ gtb := gtb_mem (List.mem_append_right _ (List.mem_of_getElem? (i := 407) (by decide +kernel))) rfl
theorem ml_70 : Cond.methodLink RX9 80 yX6_begin ∈ gtb := gtb_mem (List.mem_append_right _ (List.mem_of_getElem? (i := 345) (by decide +kernel))) rfl
theorem ml_71 : Cond.methodLink RX9 91 yX9_refuse ∈ gtb := gtb_mem (List.mem_append_right _ (List.mem_of_getElem? (i := 384) (by decide +kernel))) rfl
theorem ml_72 : Cond.methodLink RX9 95 yX3_addInput ∈ gtb := gtb_mem (List.mem_append_right _ (List.mem_of_getElem? (i := 391) (by decide +kernel))) rfl
theorem ml_73 : Cond.methodLink RX9 99 yX0_addPlain ∈ gtb := gtb_mem (List.mem_append_right _ (List.mem_of_getElem? (i := 399) (by decide +kernel))) rfl
theorem ml_74 : Cond.methodLink RX9 103 yX9_forgetTables ∈ gtb := gtb_mem (List.mem_append_right _ (List.mem_of_getElem? (i := 403) (by decide +kernel))) rfl
theorem ml_75 : Cond.methodLink RX9 109 yX3_addKeeper ∈ gtb := gtb_mem (List.mem_append_right _ (List.mem_of_getElem? (i := 419) (by decide +kernel))) rfl
theorem ml_76 : Cond.methodLink RX9 113 yX3_hasSign ∈ gtb := gtb_mem (List.mem_append_right _ (List.mem_of_getElem? (i := 427) (by decide +kernel))) rfl
theorem ml_77 : Cond.methodLink RX9 117 yX3_addGate ∈ gtb := gtb_mem (List.mem_append_right _ (List.mem_of_getElem? (i := 431) (by decide +kernel))) rfl
theorem ml_78 : Cond.methodLink RX9 121 yX0_addGate ∈ gtb := gtb_mem (List.mem_append_right _ (List.mem_of_getElem? (i := 435) (by decide +kernel))) rfl
theorem ml_79 : Cond.methodLink RX9 124 yX3_has ∈ gtb := gtb_mem (List.mem_append_right _ (List.mem_of_getElem? (i := 471) (by decide +kernel))) rfl
theorem ml_80 : Cond.methodLink RX9 136 yX3_addOut ∈ gtb := gtb_mem (List.mem_append_right _ (List.mem_of_getElem? (i := 479) (by decide +kernel))) rfl
theorem ml_81 : Cond.methodLink RX9 145 yX9_wrongGate ∈ gtb := gtb_mem (List.mem_append_right _ (List.mem_of_getElem? (i := 491) (by decide +kernel))) rfl
theorem ml_82 : Cond.methodLink RX9 151 yX0_members ∈ gtb := gtb_mem (List.mem_append_right _ (List.mem_of_getElem? (i := 499) (by decide +kernel))) rfl
theorem ml_83 : Cond.methodLink RX9 158 yX7_find ∈ gtb := gtb_mem (List.mem_append_right _ (List.mem_of_getElem? (i := 511) (by decide +kernel))) rfl
theorem ml_84 : Cond.methodLink RX9 169 yX7_isTable ∈ gtb := gtb_mem (List.mem_append_right _ (List.mem_of_getElem? (i := 548) (by decide +kernel))) rfl
theorem ml_85 : Cond.methodLink RX9 178 yX7_letter ∈ gtb := gtb_mem (List.mem_append_right _ (List.mem_of_getElem? (i := 549) (by decide +kernel))) rfl
theorem ml_86 : Cond.methodLink RX9 76 yX2_shape ∈ gtb := gtb_mem (List.mem_append_right _ (List.mem_of_getElem? (i := 334) (by decide +kernel))) rfl
theorem ml_87 : Cond.methodLink RX9 197 yX2_breakTile ∈ gtb := gtb_mem (List.mem_append_right _ (List.mem_of_getElem? (i := 570) (by decide +kernel))) rfl
theorem ml_88 : Cond.methodLink RX9 191 yX2_hasTile ∈ gtb := gtb_mem (List.mem_append_right _ (List.mem_of_getElem? (i := 561) (by decide +kernel))) rfl
theorem ml_89 : Cond.methodLink RX9 194 yX2_isBroken ∈ gtb := gtb_mem (List.mem_append_right _ (List.mem_of_getElem? (i := 565) (by decide +kernel))) rfl
theorem ml_90 : Cond.methodLink RX9 201 yX2_roomInAll ∈ gtb := gtb_mem (List.mem_append_right _ (List.mem_of_getElem? (i := 579) (by decide +kernel))) rfl
theorem ml_91 : Cond.methodLink RX9 204 yX5_gather ∈ gtb := gtb_mem (List.mem_append_right _ (List.mem_of_getElem? (i := 584) (by decide +kernel))) rfl
theorem ml_92 : Cond.methodLink RX9 208 yX5_putAll ∈ gtb := gtb_mem (List.mem_append_right _ (List.mem_of_getElem? (i := 599) (by decide +kernel))) rfl
theorem ml_93 : Cond.methodLink RX9 218 yX5_holds ∈ gtb := gtb_mem (List.mem_append_right _ (List.mem_of_getElem? (i := 612) (by decide +kernel))) rfl
theorem ml_94 : Cond.methodLink RX9 224 yX5_hasRoom ∈ gtb := gtb_mem (List.mem_append_right _ (List.mem_of_getElem? (i := 620) (by decide +kernel))) rfl
theorem ml_95 : Cond.methodLink RX9 228 yX5_carryOver ∈ gtb := gtb_mem (List.mem_append_right _ (List.mem_of_getElem? (i := 624) (by decide +kernel))) rfl
theorem ml_96 : Cond.methodLink RX9 232 yX5_exchange ∈ gtb := gtb_mem (List.mem_append_right _ (List.mem_of_getElem? (i := 632) (by decide +kernel))) rfl
theorem ml_97 : Cond.methodLink RX9 235 yX5_spanOfAll ∈ gtb := gtb_mem (List.mem_append_right _ (List.mem_of_getElem? (i := 636) (by decide +kernel))) rfl
theorem ml_98 : Cond.methodLink RX9 240 yX5_tryExchanges ∈ gtb := gtb_mem (List.mem_append_right _ (List.mem_of_getElem? (i := 652) (by decide +kernel))) rfl
theorem ml_99 : Cond.methodLink RX9 247 yX5_endsOf ∈ gtb := gtb_mem (List.mem_append_right _ (List.mem_of_getElem? (i := 684) (by decide +kernel))) rfl
theorem ml_100 : Cond.methodLink RX9 251 yJ13_bitCount_95d88 ∈ gtb := gtb_mem (List.mem_append_right _ (List.mem_of_getElem? (i := 685) (by decide +kernel))) rfl
theorem ml_101 : Cond.methodLink RX9 244 yX5_wireCount ∈ gtb := gtb_mem (List.mem_append_right _ (List.mem_of_getElem? (i := 675) (by decide +kernel))) rfl
theorem ml_102 : Cond.methodLink RX9 257 yX8_leadAll ∈ gtb := gtb_mem (List.mem_append_right _ (List.mem_of_getElem? (i := 690) (by decide +kernel))) rfl
theorem ml_103 : Cond.methodLink RX9 261 yX2_hasJoint ∈ gtb := gtb_mem (List.mem_append_right _ (List.mem_of_getElem? (i := 752) (by decide +kernel))) rfl
theorem ml_104 : Cond.methodLink RX9 268 yX8_jointOf ∈ gtb := gtb_mem (List.mem_append_right _ (List.mem_of_getElem? (i := 760) (by decide +kernel))) rfl
theorem ml_105 : Cond.methodLink RX9 281 yX8_longestOfAll ∈ gtb := gtb_mem (List.mem_append_right _ (List.mem_of_getElem? (i := 772) (by decide +kernel))) rfl
theorem ml_106 : Cond.methodLink RX9 285 yX1_write ∈ gtb := gtb_mem (List.mem_append_right _ (List.mem_of_getElem? (i := 784) (by decide +kernel))) rfl
theorem ml_107 : Cond.methodLink RX9 350 yX1_lengthOf ∈ gtb := gtb_mem (List.mem_append_right _ (List.mem_of_getElem? (i := 809) (by decide +kernel))) rfl
theorem ml_108 : Cond.methodLink RX9 292 yX9_wrongByte ∈ gtb := gtb_mem (List.mem_append_right _ (List.mem_of_getElem? (i := 805) (by decide +kernel))) rfl
theorem ml_109 : Cond.methodLink RX9 302 yX1_firstWrongSum ∈ gtb := gtb_mem (List.mem_append_right _ (List.mem_of_getElem? (i := 821) (by decide +kernel))) rfl
theorem ml_110 : Cond.methodLink RX9 305 yX1_strangeTables ∈ gtb := gtb_mem (List.mem_append_right _ (List.mem_of_getElem? (i := 829) (by decide +kernel))) rfl
theorem ml_111 : Cond.methodLink RX9 309 yX6_stepNet ∈ gtb := gtb_mem (List.mem_append_right _ (List.mem_of_getElem? (i := 846) (by decide +kernel))) rfl
theorem ml_112 : Cond.methodLink RX9 313 yX6_stepCloth ∈ gtb := gtb_mem (List.mem_append_right _ (List.mem_of_getElem? (i := 861) (by decide +kernel))) rfl
theorem ml_113 : Cond.methodLink RX9 329 yX4_take ∈ gtb := gtb_mem (List.mem_append_right _ (List.mem_of_getElem? (i := 888) (by decide +kernel))) rfl
theorem ml_114 : Cond.methodLink RX9 340 yX4_hasStretch ∈ gtb := gtb_mem (List.mem_append_right _ (List.mem_of_getElem? (i := 908) (by decide +kernel))) rfl
theorem ml_115 : Cond.methodLink RX9 344 arraycopyName ∈ gtb := gtb_mem (List.mem_append_right _ (List.mem_of_getElem? (i := 912) (by decide +kernel))) rfl
theorem ml_116 : Cond.methodLink RX10 142 yX10_begins ∈ gtb := gtb_mem (List.mem_append_right _ (List.mem_of_getElem? (i := 1088) (by decide +kernel))) rfl
theorem ml_117 : Cond.methodLink RX10 145 yX10_changes ∈ gtb := gtb_mem (List.mem_append_right _ (List.mem_of_getElem? (i := 1084) (by decide +kernel))) rfl
theorem ml_118 : Cond.methodLink RX10 151 yX10_no ∈ gtb := gtb_mem (List.mem_append_right _ (List.mem_of_getElem? (i := 1076) (by decide +kernel))) rfl
theorem ml_119 : Cond.methodLink RX10 155 yX10_adds ∈ gtb := gtb_mem (List.mem_append_right _ (List.mem_of_getElem? (i := 1080) (by decide +kernel))) rfl
theorem ml_120 : Cond.methodLink RX10 164 yX10_isIn ∈ gtb := gtb_mem (List.mem_append_right _ (List.mem_of_getElem? (i := 1101) (by decide +kernel))) rfl
theorem ml_121 : Cond.methodLink RX10 168 yX10_isSign ∈ gtb := gtb_mem (List.mem_append_right _ (List.mem_of_getElem? (i := 1104) (by decide +kernel))) rfl
theorem ml_122 : Cond.methodLink RX10 172 yX10_isCell ∈ gtb := gtb_mem (List.mem_append_right _ (List.mem_of_getElem? (i := 1112) (by decide +kernel))) rfl
theorem ml_123 : Cond.methodLink RX10 180 yX10_depthOf ∈ gtb := gtb_mem (List.mem_append_right _ (List.mem_of_getElem? (i := 1148) (by decide +kernel))) rfl
theorem ml_124 : Cond.methodLink RX10 183 yX10_many ∈ gtb := gtb_mem (List.mem_append_right _ (List.mem_of_getElem? (i := 1137) (by decide +kernel))) rfl
theorem ml_125 : Cond.methodLink RX10 188 yX10_isAhead ∈ gtb := gtb_mem (List.mem_append_right _ (List.mem_of_getElem? (i := 1144) (by decide +kernel))) rfl
theorem ml_126 : Cond.methodLink RX10 192 yX10_partOf ∈ gtb := gtb_mem (List.mem_append_right _ (List.mem_of_getElem? (i := 1133) (by decide +kernel))) rfl
theorem ml_127 : Cond.methodLink RX10 196 yX10_enters ∈ gtb := gtb_mem (List.mem_append_right _ (List.mem_of_getElem? (i := 1140) (by decide +kernel))) rfl
theorem ml_128 : Cond.methodLink RX10 200 yX10_findCuts ∈ gtb := gtb_mem (List.mem_append_right _ (List.mem_of_getElem? (i := 1129) (by decide +kernel))) rfl
theorem ml_129 : Cond.methodLink RX10 203 yX10_isOf ∈ gtb := gtb_mem (List.mem_append_right _ (List.mem_of_getElem? (i := 1169) (by decide +kernel))) rfl
theorem ml_130 : Cond.methodLink RX10 206 yX10_gateOf ∈ gtb := gtb_mem (List.mem_append_right _ (List.mem_of_getElem? (i := 1173) (by decide +kernel))) rfl
theorem ml_131 : Cond.methodLink RX10 210 yX10_findBits ∈ gtb := gtb_mem (List.mem_append_right _ (List.mem_of_getElem? (i := 1165) (by decide +kernel))) rfl
theorem ml_132 : Cond.methodLink RX10 216 yX10_tiles ∈ gtb := gtb_mem (List.mem_append_right _ (List.mem_of_getElem? (i := 1207) (by decide +kernel))) rfl
theorem ml_133 : Cond.methodLink RX10 220 yX10_moved ∈ gtb := gtb_mem (List.mem_append_right _ (List.mem_of_getElem? (i := 1191) (by decide +kernel))) rfl
theorem ml_134 : Cond.methodLink RX10 227 yX10_unset ∈ gtb := gtb_mem (List.mem_append_right _ (List.mem_of_getElem? (i := 1187) (by decide +kernel))) rfl
theorem ml_135 : Cond.methodLink RX10 230 yX10_joints ∈ gtb := gtb_mem (List.mem_append_right _ (List.mem_of_getElem? (i := 1195) (by decide +kernel))) rfl
theorem ml_136 : Cond.methodLink RX10 233 yX10_isTile ∈ gtb := gtb_mem (List.mem_append_right _ (List.mem_of_getElem? (i := 1203) (by decide +kernel))) rfl
theorem ml_137 : Cond.methodLink RX10 236 yX10_isThing ∈ gtb := gtb_mem (List.mem_append_right _ (List.mem_of_getElem? (i := 1219) (by decide +kernel))) rfl
theorem ml_138 : Cond.methodLink RX10 242 yX10_roomLeft ∈ gtb := gtb_mem (List.mem_append_right _ (List.mem_of_getElem? (i := 1223) (by decide +kernel))) rfl
theorem ml_139 : Cond.methodLink RX10 239 yX10_things ∈ gtb := gtb_mem (List.mem_append_right _ (List.mem_of_getElem? (i := 1215) (by decide +kernel))) rfl
theorem ml_140 : Cond.methodLink RX10 245 yX10_whyNo ∈ gtb := gtb_mem (List.mem_append_right _ (List.mem_of_getElem? (i := 1231) (by decide +kernel))) rfl
theorem ml_141 : Cond.methodLink RX10 261 yX10_lettersOf ∈ gtb := gtb_mem (List.mem_append_right _ (List.mem_of_getElem? (i := 1259) (by decide +kernel))) rfl
theorem ml_142 : Cond.methodLink RX10 264 yX10_letter ∈ gtb := gtb_mem (List.mem_append_right _ (List.mem_of_getElem? (i := 1263) (by decide +kernel))) rfl
theorem ml_143 : Cond.methodLink RX10 267 yX10_endsOf ∈ gtb := gtb_mem (List.mem_append_right _ (List.mem_of_getElem? (i := 1255) (by decide +kernel))) rfl
theorem ml_144 : Cond.methodLink RX10 271 yX10_costOf ∈ gtb := gtb_mem (List.mem_append_right _ (List.mem_of_getElem? (i := 1251) (by decide +kernel))) rfl
theorem ml_145 : Cond.methodLink RX10 248 yX10_swaps ∈ gtb := gtb_mem (List.mem_append_right _ (List.mem_of_getElem? (i := 1243) (by decide +kernel))) rfl
theorem ml_146 : Cond.methodLink RX10 251 yX10_costs ∈ gtb := gtb_mem (List.mem_append_right _ (List.mem_of_getElem? (i := 1247) (by decide +kernel))) rfl
theorem ml_147 : Cond.methodLink RX10 258 yX10_thingAt ∈ gtb := gtb_mem (List.mem_append_right _ (List.mem_of_getElem? (i := 1273) (by decide +kernel))) rfl
theorem ml_148 : Cond.methodLink RX10 274 yX10_manyTiles ∈ gtb := gtb_mem (List.mem_append_right _ (List.mem_of_getElem? (i := 1285) (by decide +kernel))) rfl
theorem ml_149 : Cond.methodLink RX10 278 yX10_lesser ∈ gtb := gtb_mem (List.mem_append_right _ (List.mem_of_getElem? (i := 1310) (by decide +kernel))) rfl
theorem ml_150 : Cond.methodLink RX10 285 yX10_price ∈ gtb := gtb_mem (List.mem_append_right _ (List.mem_of_getElem? (i := 1318) (by decide +kernel))) rfl
theorem ml_151 : Cond.methodLink RX10 282 yX10_greater ∈ gtb := gtb_mem (List.mem_append_right _ (List.mem_of_getElem? (i := 1314) (by decide +kernel))) rfl
theorem ml_152 : Cond.methodLink RX10 291 yX10_backFrom ∈ gtb := gtb_mem (List.mem_append_right _ (List.mem_of_getElem? (i := 1322) (by decide +kernel))) rfl
theorem ml_153 : Cond.methodLink RX10 288 yX10_findFar ∈ gtb := gtb_mem (List.mem_append_right _ (List.mem_of_getElem? (i := 1305) (by decide +kernel))) rfl
theorem ml_154 : Cond.methodLink RX10 297 yX10_leadTo ∈ gtb := gtb_mem (List.mem_append_right _ (List.mem_of_getElem? (i := 1301) (by decide +kernel))) rfl
theorem ml_155 : Cond.methodLink RX10 294 yX10_takeOff ∈ gtb := gtb_mem (List.mem_append_right _ (List.mem_of_getElem? (i := 1297) (by decide +kernel))) rfl
theorem ml_156 : Cond.methodLink RX10 302 yX10_leadWire ∈ gtb := gtb_mem (List.mem_append_right _ (List.mem_of_getElem? (i := 1293) (by decide +kernel))) rfl
theorem ml_157 : Cond.methodLink RX10 305 yX10_isJoint ∈ gtb := gtb_mem (List.mem_append_right _ (List.mem_of_getElem? (i := 1330) (by decide +kernel))) rfl
theorem ml_158 : Cond.methodLink RX10 308 yX10_longestOf ∈ gtb := gtb_mem (List.mem_append_right _ (List.mem_of_getElem? (i := 1346) (by decide +kernel))) rfl
theorem ml_159 : Cond.methodLink RX10 311 yX10_puts ∈ gtb := gtb_mem (List.mem_append_right _ (List.mem_of_getElem? (i := 1354) (by decide +kernel))) rfl
theorem ml_160 : Cond.methodLink RX10 314 yX10_sumOf ∈ gtb := gtb_mem (List.mem_append_right _ (List.mem_of_getElem? (i := 1358) (by decide +kernel))) rfl
theorem ml_161 : Cond.methodLink RX10 317 yX10_whyNoByte ∈ gtb := gtb_mem (List.mem_append_right _ (List.mem_of_getElem? (i := 1366) (by decide +kernel))) rfl
theorem ml_162 : Cond.methodLink RX10 322 yX10_bitsThere ∈ gtb := gtb_mem (List.mem_append_right _ (List.mem_of_getElem? (i := 1383) (by decide +kernel))) rfl
theorem ml_163 : Cond.methodLink RX10 331 yX10_outsOf ∈ gtb := gtb_mem (List.mem_append_right _ (List.mem_of_getElem? (i := 1403) (by decide +kernel))) rfl
theorem ml_164 : Cond.methodLink RX10 328 yX10_netIs ∈ gtb := gtb_mem (List.mem_append_right _ (List.mem_of_getElem? (i := 1399) (by decide +kernel))) rfl
theorem ml_165 : Cond.methodLink RX10 338 yX10_letterIs ∈ gtb := gtb_mem (List.mem_append_right _ (List.mem_of_getElem? (i := 1411) (by decide +kernel))) rfl
theorem ml_166 : Cond.methodLink RX10 344 yX10_clockNet ∈ gtb := gtb_mem (List.mem_append_right _ (List.mem_of_getElem? (i := 1395) (by decide +kernel))) rfl
theorem ml_167 : Cond.methodLink RX10 347 yX10_clockCloth ∈ gtb := gtb_mem (List.mem_append_right _ (List.mem_of_getElem? (i := 1407) (by decide +kernel))) rfl
theorem cl_0 : Cond.constantLong RJ13 314 (6148914691236517205) ∈ gtb := gtb_mem (List.mem_append_right _ (List.mem_of_getElem? (i := 454) (by decide +kernel))) rfl
theorem cl_1 : Cond.constantLong RJ13 316 (3689348814741910323) ∈ gtb := gtb_mem (List.mem_append_right _ (List.mem_of_getElem? (i := 455) (by decide +kernel))) rfl
theorem cl_2 : Cond.constantLong RJ13 318 (1085102592571150095) ∈ gtb := gtb_mem (List.mem_append_right _ (List.mem_of_getElem? (i := 456) (by decide +kernel))) rfl
theorem cl_3 : Cond.constantLong RX0 34 (4294967295) ∈ gtb := gtb_mem (List.mem_append_right _ (List.mem_of_getElem? (i := 450) (by decide +kernel))) rfl
theorem cl_4 : Cond.constantLong RX2 58 (-1) ∈ gtb := gtb_mem (List.mem_append_right _ (List.mem_of_getElem? (i := 574) (by decide +kernel))) rfl
theorem cl_5 : Cond.constantLong RX5 86 (-1) ∈ gtb := gtb_mem (List.mem_append_right _ (List.mem_of_getElem? (i := 683) (by decide +kernel))) rfl
theorem cl_6 : Cond.constantLong RX5 110 (6364136223846793005) ∈ gtb := gtb_mem (List.mem_append_right _ (List.mem_of_getElem? (i := 656) (by decide +kernel))) rfl
theorem cl_7 : Cond.constantLong RX5 112 (1442695040888963407) ∈ gtb := gtb_mem (List.mem_append_right _ (List.mem_of_getElem? (i := 657) (by decide +kernel))) rfl
theorem cl_8 : Cond.constantLong RX8 92 (-1) ∈ gtb := gtb_mem (List.mem_append_right _ (List.mem_of_getElem? (i := 718) (by decide +kernel))) rfl
theorem cl_9 : Cond.constantLong RX10 162 (2) ∈ gtb := gtb_mem (List.mem_append_right _ (List.mem_of_getElem? (i := 1100) (by decide +kernel))) rfl
theorem cl_10 : Cond.constantLong RX10 178 (3) ∈ gtb := gtb_mem (List.mem_append_right _ (List.mem_of_getElem? (i := 1124) (by decide +kernel))) rfl
theorem cl_11 : Cond.constantLong RX10 186 (4294967295) ∈ gtb := gtb_mem (List.mem_append_right _ (List.mem_of_getElem? (i := 1152) (by decide +kernel))) rfl
theorem cl_12 : Cond.constantLong RX10 214 (5) ∈ gtb := gtb_mem (List.mem_append_right _ (List.mem_of_getElem? (i := 1180) (by decide +kernel))) rfl
theorem cl_13 : Cond.constantLong RX10 223 (6) ∈ gtb := gtb_mem (List.mem_append_right _ (List.mem_of_getElem? (i := 1185) (by decide +kernel))) rfl
theorem cl_14 : Cond.constantLong RX10 225 (4) ∈ gtb := gtb_mem (List.mem_append_right _ (List.mem_of_getElem? (i := 1186) (by decide +kernel))) rfl
theorem cl_15 : Cond.constantLong RX10 254 (6364136223846793005) ∈ gtb := gtb_mem (List.mem_append_right _ (List.mem_of_getElem? (i := 1271) (by decide +kernel))) rfl
theorem cl_16 : Cond.constantLong RX10 256 (1442695040888963407) ∈ gtb := gtb_mem (List.mem_append_right _ (List.mem_of_getElem? (i := 1272) (by decide +kernel))) rfl
theorem cl_17 : Cond.constantLong RX10 300 (40) ∈ gtb := gtb_mem (List.mem_append_right _ (List.mem_of_getElem? (i := 1292) (by decide +kernel))) rfl
theorem cl_18 : Cond.constantLong RX10 320 (255) ∈ gtb := gtb_mem (List.mem_append_right _ (List.mem_of_getElem? (i := 1374) (by decide +kernel))) rfl
theorem cl_19 : Cond.constantLong RX10 350 (-8) ∈ gtb := gtb_mem (List.mem_append_right _ (List.mem_of_getElem? (i := 1439) (by decide +kernel))) rfl
theorem cl_20 : Cond.constantLong RX10 352 (-2) ∈ gtb := gtb_mem (List.mem_append_right _ (List.mem_of_getElem? (i := 1440) (by decide +kernel))) rfl
theorem ci_0 : Cond.constant RX7 88 (65535) ∈ gtb := gtb_mem (List.mem_append_right _ (List.mem_of_getElem? (i := 543) (by decide +kernel))) rfl
theorem ci_1 : Cond.constant RX8 108 (536870912) ∈ gtb := gtb_mem (List.mem_append_right _ (List.mem_of_getElem? (i := 717) (by decide +kernel))) rfl
theorem ci_2 : Cond.constant RX10 281 (1000000000) ∈ gtb := gtb_mem (List.mem_append_right _ (List.mem_of_getElem? (i := 1309) (by decide +kernel))) rfl
theorem mn_0 : Cond.methodLinkNest RX7 28 yX9_hasBit "ClothMaker" ∈ tables_1 := List.mem_of_getElem? (i := 522) (by decide +kernel)
theorem mn_1 : Cond.methodLinkNest RX2 54 yX9_hasBit "ClothMaker" ∈ tables_1 := List.mem_of_getElem? (i := 569) (by decide +kernel)
theorem mn_2 : Cond.methodLinkNest RX5 69 yX9_hasBit "ClothMaker" ∈ tables_1 := List.mem_of_getElem? (i := 598) (by decide +kernel)
theorem mn_3 : Cond.methodLinkNest RX6 57 yX9_hasBit "ClothMaker" ∈ tables_1 := List.mem_of_getElem? (i := 857) (by decide +kernel)
theorem mn_4 : Cond.methodLinkNest RX8 88 yX9_hasBit "ClothMaker" ∈ tables_1 := List.mem_of_getElem? (i := 706) (by decide +kernel)
theorem ac_n : Cond.native arraycopyName ∈ gtb := gtb_mem (List.mem_append_right _ (List.mem_of_getElem? (i := 895) (by decide +kernel))) rfl
theorem ac_s : Cond.static arraycopyName ∈ gtb := gtb_mem (List.mem_append_right _ (List.mem_of_getElem? (i := 894) (by decide +kernel))) rfl
theorem ac_i : Cond.initialized "java/lang/System" ∈ gtb := gtb_mem (List.mem_append_right _ (List.mem_of_getElem? (i := 15) (by decide +kernel))) rfl
theorem ms_i : Cond.initialized "java/lang/Math" ∈ gtb := gtb_mem (List.mem_append_right _ (List.mem_of_getElem? (i := 14) (by decide +kernel))) rfl
theorem ms_va_mmax : Cond.static Lib.Math.max.name ∈ gtb := gtb_mem (List.mem_append_right _ (List.mem_of_getElem? (i := 646) (by decide +kernel))) rfl
theorem mc_va_mmax : Cond.code Lib.Math.max.name Lib.Math.max.code 2 (some .int) ∈ gtb := gtb_mem (List.mem_append_right _ (List.mem_of_getElem? (i := 647) (by decide +kernel))) rfl
theorem ms_va_mmax_long : Cond.static Lib.MathLoose.max_long.x ∈ gtb := gtb_mem (List.mem_append_right _ (List.mem_of_getElem? (i := 458) (by decide +kernel))) rfl
theorem mc_va_mmax_long : Cond.code Lib.MathLoose.max_long.x Lib.MathLoose.max_long.code 4 (some .long) ∈ gtb := gtb_mem (List.mem_append_right _ (List.mem_of_getElem? (i := 459) (by decide +kernel))) rfl
theorem ms_va_mmin : Cond.static Lib.Math.min.name ∈ gtb := gtb_mem (List.mem_append_right _ (List.mem_of_getElem? (i := 465) (by decide +kernel))) rfl
theorem mc_va_mmin : Cond.code Lib.Math.min.name Lib.Math.min.code 2 (some .int) ∈ gtb := gtb_mem (List.mem_append_right _ (List.mem_of_getElem? (i := 466) (by decide +kernel))) rfl
theorem ok_J13_bitCount_95d88 : okC yJ13_bitCount_95d88 cJ13_bitCount_95d88 2 (some .int) 1 := ⟨gtb_mem (List.mem_append_right _ (List.mem_of_getElem? (i := 453) (by decide +kernel))) rfl, gtb_mem (List.mem_append_right _ (List.mem_of_getElem? (i := 13) (by decide +kernel))) rfl, by decide +kernel⟩
theorem ov_J13_bitCount_95d88 : Cond.static yJ13_bitCount_95d88 ∈ gtb := gtb_mem (List.mem_append_right _ (List.mem_of_getElem? (i := 452) (by decide +kernel))) rfl
theorem ok_J7_fill_53178 : okC yJ7_fill_53178 cJ7_fill_53178 4 none 2 := ⟨gtb_mem (List.mem_append_right _ (List.mem_of_getElem? (i := 340) (by decide +kernel))) rfl, gtb_mem (List.mem_append_right _ (List.mem_of_getElem? (i := 11) (by decide +kernel))) rfl, by decide +kernel⟩
theorem ov_J7_fill_53178 : Cond.static yJ7_fill_53178 ∈ gtb := gtb_mem (List.mem_append_right _ (List.mem_of_getElem? (i := 339) (by decide +kernel))) rfl
theorem ok_J7_fill_d0a16 : okC yJ7_fill_d0a16 cJ7_fill_d0a16 5 none 2 := ⟨gtb_mem (List.mem_append_right _ (List.mem_of_getElem? (i := 697) (by decide +kernel))) rfl, gtb_mem (List.mem_append_right _ (List.mem_of_getElem? (i := 11) (by decide +kernel))) rfl, by decide +kernel⟩
theorem ov_J7_fill_d0a16 : Cond.static yJ7_fill_d0a16 ∈ gtb := gtb_mem (List.mem_append_right _ (List.mem_of_getElem? (i := 696) (by decide +kernel))) rfl
theorem ok_X0_addGate : okC yX0_addGate cX0_addGate 8 none 3 := ⟨gtb_mem (List.mem_append_right _ (List.mem_of_getElem? (i := 438) (by decide +kernel))) rfl, gtb_mem (List.mem_append_right _ (List.mem_of_getElem? (i := 3) (by decide +kernel))) rfl, by decide +kernel⟩
theorem ov_X0_addGate : okV yX0_addGate := ⟨gtb_mem (List.mem_append_right _ (List.mem_of_getElem? (i := 436) (by decide +kernel))) rfl, gtb_mem (List.mem_append_right _ (List.mem_of_getElem? (i := 437) (by decide +kernel))) rfl⟩
theorem ok_X0_addPlain : okC yX0_addPlain cX0_addPlain 2 none 1 := ⟨gtb_mem (List.mem_append_right _ (List.mem_of_getElem? (i := 402) (by decide +kernel))) rfl, gtb_mem (List.mem_append_right _ (List.mem_of_getElem? (i := 3) (by decide +kernel))) rfl, by decide +kernel⟩
theorem ov_X0_addPlain : okV yX0_addPlain := ⟨gtb_mem (List.mem_append_right _ (List.mem_of_getElem? (i := 400) (by decide +kernel))) rfl, gtb_mem (List.mem_append_right _ (List.mem_of_getElem? (i := 401) (by decide +kernel))) rfl⟩
theorem ok_X0_choice : okC yX0_choice cX0_choice 3 (some .long) 2 := ⟨gtb_mem (List.mem_append_right _ (List.mem_of_getElem? (i := 442) (by decide +kernel))) rfl, gtb_mem (List.mem_append_right _ (List.mem_of_getElem? (i := 3) (by decide +kernel))) rfl, by decide +kernel⟩
theorem ov_X0_choice : okV yX0_choice := ⟨gtb_mem (List.mem_append_right _ (List.mem_of_getElem? (i := 441) (by decide +kernel))) rfl, gtb_mem (List.mem_append_left _ (List.mem_of_getElem? (i := 6) (by decide +kernel))) rfl⟩
theorem ok_X0_insert : okC yX0_insert cX0_insert 10 none 2 := ⟨gtb_mem (List.mem_append_right _ (List.mem_of_getElem? (i := 463) (by decide +kernel))) rfl, gtb_mem (List.mem_append_right _ (List.mem_of_getElem? (i := 3) (by decide +kernel))) rfl, by decide +kernel⟩
theorem ov_X0_insert : okV yX0_insert := ⟨gtb_mem (List.mem_append_right _ (List.mem_of_getElem? (i := 462) (by decide +kernel))) rfl, gtb_mem (List.mem_append_left _ (List.mem_of_getElem? (i := 8) (by decide +kernel))) rfl⟩
theorem ok_X0_members : okC yX0_members cX0_members 3 (some .int) 2 := ⟨gtb_mem (List.mem_append_right _ (List.mem_of_getElem? (i := 502) (by decide +kernel))) rfl, gtb_mem (List.mem_append_right _ (List.mem_of_getElem? (i := 3) (by decide +kernel))) rfl, by decide +kernel⟩
theorem ov_X0_members : okV yX0_members := ⟨gtb_mem (List.mem_append_right _ (List.mem_of_getElem? (i := 500) (by decide +kernel))) rfl, gtb_mem (List.mem_append_right _ (List.mem_of_getElem? (i := 501) (by decide +kernel))) rfl⟩
theorem ok_X0_offer : okC yX0_offer cX0_offer 11 none 3 := ⟨gtb_mem (List.mem_append_right _ (List.mem_of_getElem? (i := 449) (by decide +kernel))) rfl, gtb_mem (List.mem_append_right _ (List.mem_of_getElem? (i := 3) (by decide +kernel))) rfl, by decide +kernel⟩
theorem ov_X0_offer : okV yX0_offer := ⟨gtb_mem (List.mem_append_right _ (List.mem_of_getElem? (i := 448) (by decide +kernel))) rfl, gtb_mem (List.mem_append_left _ (List.mem_of_getElem? (i := 7) (by decide +kernel))) rfl⟩
theorem ok_X0_rank : okC yX0_rank cX0_rank 6 (some .long) 3 := ⟨gtb_mem (List.mem_append_right _ (List.mem_of_getElem? (i := 445) (by decide +kernel))) rfl, gtb_mem (List.mem_append_right _ (List.mem_of_getElem? (i := 3) (by decide +kernel))) rfl, by decide +kernel⟩
theorem ov_X0_rank : Cond.static yX0_rank ∈ gtb := gtb_mem (List.mem_append_right _ (List.mem_of_getElem? (i := 444) (by decide +kernel))) rfl
theorem ok_X10_adds : okC yX10_adds cX10_adds 5 (some .int) 3 := ⟨gtb_mem (List.mem_append_right _ (List.mem_of_getElem? (i := 1083) (by decide +kernel))) rfl, gtb_mem (List.mem_append_right _ (List.mem_of_getElem? (i := 12) (by decide +kernel))) rfl, by decide +kernel⟩
theorem ov_X10_adds : okV yX10_adds := ⟨gtb_mem (List.mem_append_right _ (List.mem_of_getElem? (i := 1082) (by decide +kernel))) rfl, gtb_mem (List.mem_append_left _ (List.mem_of_getElem? (i := 33) (by decide +kernel))) rfl⟩
theorem ok_X10_back : okC yX10_back cX10_back 3 (some .int) 0 := ⟨gtb_mem (List.mem_append_right _ (List.mem_of_getElem? (i := 1382) (by decide +kernel))) rfl, gtb_mem (List.mem_append_right _ (List.mem_of_getElem? (i := 12) (by decide +kernel))) rfl, by decide +kernel⟩
theorem ov_X10_back : okV yX10_back := ⟨gtb_mem (List.mem_append_right _ (List.mem_of_getElem? (i := 1380) (by decide +kernel))) rfl, gtb_mem (List.mem_append_right _ (List.mem_of_getElem? (i := 1381) (by decide +kernel))) rfl⟩
theorem ok_X10_backFrom : okC yX10_backFrom cX10_backFrom 6 (some .int) 1 := ⟨gtb_mem (List.mem_append_right _ (List.mem_of_getElem? (i := 1325) (by decide +kernel))) rfl, gtb_mem (List.mem_append_right _ (List.mem_of_getElem? (i := 12) (by decide +kernel))) rfl, by decide +kernel⟩
theorem ov_X10_backFrom : okV yX10_backFrom := ⟨gtb_mem (List.mem_append_right _ (List.mem_of_getElem? (i := 1324) (by decide +kernel))) rfl, gtb_mem (List.mem_append_left _ (List.mem_of_getElem? (i := 68) (by decide +kernel))) rfl⟩
theorem ok_X10_begins : okC yX10_begins cX10_begins 2 none 0 := ⟨gtb_mem (List.mem_append_right _ (List.mem_of_getElem? (i := 1091) (by decide +kernel))) rfl, gtb_mem (List.mem_append_right _ (List.mem_of_getElem? (i := 12) (by decide +kernel))) rfl, by decide +kernel⟩
theorem ov_X10_begins : okV yX10_begins := ⟨gtb_mem (List.mem_append_right _ (List.mem_of_getElem? (i := 1090) (by decide +kernel))) rfl, gtb_mem (List.mem_append_left _ (List.mem_of_getElem? (i := 35) (by decide +kernel))) rfl⟩
theorem ok_X10_bend : okC yX10_bend cX10_bend 5 (some .int) 3 := ⟨gtb_mem (List.mem_append_right _ (List.mem_of_getElem? (i := 1373) (by decide +kernel))) rfl, gtb_mem (List.mem_append_right _ (List.mem_of_getElem? (i := 12) (by decide +kernel))) rfl, by decide +kernel⟩
theorem ov_X10_bend : okV yX10_bend := ⟨gtb_mem (List.mem_append_right _ (List.mem_of_getElem? (i := 1371) (by decide +kernel))) rfl, gtb_mem (List.mem_append_right _ (List.mem_of_getElem? (i := 1372) (by decide +kernel))) rfl⟩
theorem ok_X10_bitsThere : okC yX10_bitsThere cX10_bitsThere 3 (some .int) 1 := ⟨gtb_mem (List.mem_append_right _ (List.mem_of_getElem? (i := 1386) (by decide +kernel))) rfl, gtb_mem (List.mem_append_right _ (List.mem_of_getElem? (i := 12) (by decide +kernel))) rfl, by decide +kernel⟩
theorem ov_X10_bitsThere : okV yX10_bitsThere := ⟨gtb_mem (List.mem_append_right _ (List.mem_of_getElem? (i := 1385) (by decide +kernel))) rfl, gtb_mem (List.mem_append_left _ (List.mem_of_getElem? (i := 74) (by decide +kernel))) rfl⟩
theorem ok_X10_broken : okC yX10_broken cX10_broken 4 (some .int) 2 := ⟨gtb_mem (List.mem_append_right _ (List.mem_of_getElem? (i := 1202) (by decide +kernel))) rfl, gtb_mem (List.mem_append_right _ (List.mem_of_getElem? (i := 12) (by decide +kernel))) rfl, by decide +kernel⟩
theorem ov_X10_broken : okV yX10_broken := ⟨gtb_mem (List.mem_append_right _ (List.mem_of_getElem? (i := 1200) (by decide +kernel))) rfl, gtb_mem (List.mem_append_right _ (List.mem_of_getElem? (i := 1201) (by decide +kernel))) rfl⟩
theorem ok_X10_cell : okC yX10_cell cX10_cell 3 (some .int) 2 := ⟨gtb_mem (List.mem_append_right _ (List.mem_of_getElem? (i := 1123) (by decide +kernel))) rfl, gtb_mem (List.mem_append_right _ (List.mem_of_getElem? (i := 12) (by decide +kernel))) rfl, by decide +kernel⟩
theorem ov_X10_cell : okV yX10_cell := ⟨gtb_mem (List.mem_append_right _ (List.mem_of_getElem? (i := 1121) (by decide +kernel))) rfl, gtb_mem (List.mem_append_right _ (List.mem_of_getElem? (i := 1122) (by decide +kernel))) rfl⟩
theorem ok_X10_changes : okC yX10_changes cX10_changes 1 none 0 := ⟨gtb_mem (List.mem_append_right _ (List.mem_of_getElem? (i := 1087) (by decide +kernel))) rfl, gtb_mem (List.mem_append_right _ (List.mem_of_getElem? (i := 12) (by decide +kernel))) rfl, by decide +kernel⟩
theorem ov_X10_changes : okV yX10_changes := ⟨gtb_mem (List.mem_append_right _ (List.mem_of_getElem? (i := 1086) (by decide +kernel))) rfl, gtb_mem (List.mem_append_left _ (List.mem_of_getElem? (i := 34) (by decide +kernel))) rfl⟩
theorem ok_X10_check : okC yX10_check cX10_check 2 (some .int) 0 := ⟨gtb_mem (List.mem_append_right _ (List.mem_of_getElem? (i := 1378) (by decide +kernel))) rfl, gtb_mem (List.mem_append_right _ (List.mem_of_getElem? (i := 12) (by decide +kernel))) rfl, by decide +kernel⟩
theorem ov_X10_check : okV yX10_check := ⟨gtb_mem (List.mem_append_right _ (List.mem_of_getElem? (i := 1376) (by decide +kernel))) rfl, gtb_mem (List.mem_append_right _ (List.mem_of_getElem? (i := 1377) (by decide +kernel))) rfl⟩
theorem ok_X10_clock : okC yX10_clock cX10_clock 4 (some .int) 1 := ⟨gtb_mem (List.mem_append_right _ (List.mem_of_getElem? (i := 1394) (by decide +kernel))) rfl, gtb_mem (List.mem_append_right _ (List.mem_of_getElem? (i := 12) (by decide +kernel))) rfl, by decide +kernel⟩
theorem ov_X10_clock : okV yX10_clock := ⟨gtb_mem (List.mem_append_right _ (List.mem_of_getElem? (i := 1392) (by decide +kernel))) rfl, gtb_mem (List.mem_append_right _ (List.mem_of_getElem? (i := 1393) (by decide +kernel))) rfl⟩
theorem ok_X10_clockCloth : okC yX10_clockCloth cX10_clockCloth 4 none 0 := ⟨gtb_mem (List.mem_append_right _ (List.mem_of_getElem? (i := 1410) (by decide +kernel))) rfl, gtb_mem (List.mem_append_right _ (List.mem_of_getElem? (i := 12) (by decide +kernel))) rfl, by decide +kernel⟩
theorem ov_X10_clockCloth : okV yX10_clockCloth := ⟨gtb_mem (List.mem_append_right _ (List.mem_of_getElem? (i := 1409) (by decide +kernel))) rfl, gtb_mem (List.mem_append_left _ (List.mem_of_getElem? (i := 78) (by decide +kernel))) rfl⟩
theorem ok_X10_clockNet : okC yX10_clockNet cX10_clockNet 2 none 0 := ⟨gtb_mem (List.mem_append_right _ (List.mem_of_getElem? (i := 1398) (by decide +kernel))) rfl, gtb_mem (List.mem_append_right _ (List.mem_of_getElem? (i := 12) (by decide +kernel))) rfl, by decide +kernel⟩
theorem ov_X10_clockNet : okV yX10_clockNet := ⟨gtb_mem (List.mem_append_right _ (List.mem_of_getElem? (i := 1397) (by decide +kernel))) rfl, gtb_mem (List.mem_append_left _ (List.mem_of_getElem? (i := 75) (by decide +kernel))) rfl⟩
theorem ok_X10_cloth : okC yX10_cloth cX10_cloth 6 (some .int) 4 := ⟨gtb_mem (List.mem_append_right _ (List.mem_of_getElem? (i := 1184) (by decide +kernel))) rfl, gtb_mem (List.mem_append_right _ (List.mem_of_getElem? (i := 12) (by decide +kernel))) rfl, by decide +kernel⟩
theorem ov_X10_cloth : okV yX10_cloth := ⟨gtb_mem (List.mem_append_right _ (List.mem_of_getElem? (i := 1182) (by decide +kernel))) rfl, gtb_mem (List.mem_append_right _ (List.mem_of_getElem? (i := 1183) (by decide +kernel))) rfl⟩
theorem ok_X10_copy : okC yX10_copy cX10_copy 5 (some .int) 3 := ⟨gtb_mem (List.mem_append_right _ (List.mem_of_getElem? (i := 1434) (by decide +kernel))) rfl, gtb_mem (List.mem_append_right _ (List.mem_of_getElem? (i := 12) (by decide +kernel))) rfl, by decide +kernel⟩
theorem ov_X10_copy : okV yX10_copy := ⟨gtb_mem (List.mem_append_right _ (List.mem_of_getElem? (i := 1432) (by decide +kernel))) rfl, gtb_mem (List.mem_append_right _ (List.mem_of_getElem? (i := 1433) (by decide +kernel))) rfl⟩
theorem ok_X10_cost : okC yX10_cost cX10_cost 1 (some .int) 0 := ⟨gtb_mem (List.mem_append_right _ (List.mem_of_getElem? (i := 1280) (by decide +kernel))) rfl, gtb_mem (List.mem_append_right _ (List.mem_of_getElem? (i := 12) (by decide +kernel))) rfl, by decide +kernel⟩
theorem ov_X10_cost : okV yX10_cost := ⟨gtb_mem (List.mem_append_right _ (List.mem_of_getElem? (i := 1278) (by decide +kernel))) rfl, gtb_mem (List.mem_append_right _ (List.mem_of_getElem? (i := 1279) (by decide +kernel))) rfl⟩
theorem ok_X10_costOf : okC yX10_costOf cX10_costOf 11 (some .int) 1 := ⟨gtb_mem (List.mem_append_right _ (List.mem_of_getElem? (i := 1254) (by decide +kernel))) rfl, gtb_mem (List.mem_append_right _ (List.mem_of_getElem? (i := 12) (by decide +kernel))) rfl, by decide +kernel⟩
theorem ov_X10_costOf : okV yX10_costOf := ⟨gtb_mem (List.mem_append_right _ (List.mem_of_getElem? (i := 1253) (by decide +kernel))) rfl, gtb_mem (List.mem_append_left _ (List.mem_of_getElem? (i := 56) (by decide +kernel))) rfl⟩
theorem ok_X10_costs : okC yX10_costs cX10_costs 3 (some .int) 0 := ⟨gtb_mem (List.mem_append_right _ (List.mem_of_getElem? (i := 1250) (by decide +kernel))) rfl, gtb_mem (List.mem_append_right _ (List.mem_of_getElem? (i := 12) (by decide +kernel))) rfl, by decide +kernel⟩
theorem ov_X10_costs : okV yX10_costs := ⟨gtb_mem (List.mem_append_right _ (List.mem_of_getElem? (i := 1249) (by decide +kernel))) rfl, gtb_mem (List.mem_append_left _ (List.mem_of_getElem? (i := 55) (by decide +kernel))) rfl⟩
theorem ok_X10_cut : okC yX10_cut cX10_cut 5 (some .int) 2 := ⟨gtb_mem (List.mem_append_right _ (List.mem_of_getElem? (i := 1156) (by decide +kernel))) rfl, gtb_mem (List.mem_append_right _ (List.mem_of_getElem? (i := 12) (by decide +kernel))) rfl, by decide +kernel⟩
theorem ov_X10_cut : okV yX10_cut := ⟨gtb_mem (List.mem_append_right _ (List.mem_of_getElem? (i := 1154) (by decide +kernel))) rfl, gtb_mem (List.mem_append_right _ (List.mem_of_getElem? (i := 1155) (by decide +kernel))) rfl⟩
theorem ok_X10_cuts : okC yX10_cuts cX10_cuts 2 (some .int) 1 := ⟨gtb_mem (List.mem_append_right _ (List.mem_of_getElem? (i := 1128) (by decide +kernel))) rfl, gtb_mem (List.mem_append_right _ (List.mem_of_getElem? (i := 12) (by decide +kernel))) rfl, by decide +kernel⟩
theorem ov_X10_cuts : okV yX10_cuts := ⟨gtb_mem (List.mem_append_right _ (List.mem_of_getElem? (i := 1126) (by decide +kernel))) rfl, gtb_mem (List.mem_append_right _ (List.mem_of_getElem? (i := 1127) (by decide +kernel))) rfl⟩
theorem ok_X10_depth : okC yX10_depth cX10_depth 2 (some .int) 1 := ⟨gtb_mem (List.mem_append_right _ (List.mem_of_getElem? (i := 1160) (by decide +kernel))) rfl, gtb_mem (List.mem_append_right _ (List.mem_of_getElem? (i := 12) (by decide +kernel))) rfl, by decide +kernel⟩
theorem ov_X10_depth : okV yX10_depth := ⟨gtb_mem (List.mem_append_right _ (List.mem_of_getElem? (i := 1158) (by decide +kernel))) rfl, gtb_mem (List.mem_append_right _ (List.mem_of_getElem? (i := 1159) (by decide +kernel))) rfl⟩
theorem ok_X10_depthOf : okC yX10_depthOf cX10_depthOf 4 (some .int) 1 := ⟨gtb_mem (List.mem_append_right _ (List.mem_of_getElem? (i := 1151) (by decide +kernel))) rfl, gtb_mem (List.mem_append_right _ (List.mem_of_getElem? (i := 12) (by decide +kernel))) rfl, by decide +kernel⟩
theorem ov_X10_depthOf : okV yX10_depthOf := ⟨gtb_mem (List.mem_append_right _ (List.mem_of_getElem? (i := 1150) (by decide +kernel))) rfl, gtb_mem (List.mem_append_left _ (List.mem_of_getElem? (i := 42) (by decide +kernel))) rfl⟩
theorem ok_X10_endsOf : okC yX10_endsOf cX10_endsOf 6 (some .long) 1 := ⟨gtb_mem (List.mem_append_right _ (List.mem_of_getElem? (i := 1258) (by decide +kernel))) rfl, gtb_mem (List.mem_append_right _ (List.mem_of_getElem? (i := 12) (by decide +kernel))) rfl, by decide +kernel⟩
theorem ov_X10_endsOf : okV yX10_endsOf := ⟨gtb_mem (List.mem_append_right _ (List.mem_of_getElem? (i := 1257) (by decide +kernel))) rfl, gtb_mem (List.mem_append_left _ (List.mem_of_getElem? (i := 57) (by decide +kernel))) rfl⟩
theorem ok_X10_enters : okC yX10_enters cX10_enters 6 none 2 := ⟨gtb_mem (List.mem_append_right _ (List.mem_of_getElem? (i := 1143) (by decide +kernel))) rfl, gtb_mem (List.mem_append_right _ (List.mem_of_getElem? (i := 12) (by decide +kernel))) rfl, by decide +kernel⟩
theorem ov_X10_enters : okV yX10_enters := ⟨gtb_mem (List.mem_append_right _ (List.mem_of_getElem? (i := 1142) (by decide +kernel))) rfl, gtb_mem (List.mem_append_left _ (List.mem_of_getElem? (i := 40) (by decide +kernel))) rfl⟩
theorem ok_X10_findBits : okC yX10_findBits cX10_findBits 6 none 1 := ⟨gtb_mem (List.mem_append_right _ (List.mem_of_getElem? (i := 1168) (by decide +kernel))) rfl, gtb_mem (List.mem_append_right _ (List.mem_of_getElem? (i := 12) (by decide +kernel))) rfl, by decide +kernel⟩
theorem ov_X10_findBits : okV yX10_findBits := ⟨gtb_mem (List.mem_append_right _ (List.mem_of_getElem? (i := 1167) (by decide +kernel))) rfl, gtb_mem (List.mem_append_left _ (List.mem_of_getElem? (i := 43) (by decide +kernel))) rfl⟩
theorem ok_X10_findCuts : okC yX10_findCuts cX10_findCuts 7 none 0 := ⟨gtb_mem (List.mem_append_right _ (List.mem_of_getElem? (i := 1132) (by decide +kernel))) rfl, gtb_mem (List.mem_append_right _ (List.mem_of_getElem? (i := 12) (by decide +kernel))) rfl, by decide +kernel⟩
theorem ov_X10_findCuts : okV yX10_findCuts := ⟨gtb_mem (List.mem_append_right _ (List.mem_of_getElem? (i := 1131) (by decide +kernel))) rfl, gtb_mem (List.mem_append_left _ (List.mem_of_getElem? (i := 38) (by decide +kernel))) rfl⟩
theorem ok_X10_findFar : okC yX10_findFar cX10_findFar 5 none 0 := ⟨gtb_mem (List.mem_append_right _ (List.mem_of_getElem? (i := 1308) (by decide +kernel))) rfl, gtb_mem (List.mem_append_right _ (List.mem_of_getElem? (i := 12) (by decide +kernel))) rfl, by decide +kernel⟩
theorem ov_X10_findFar : okV yX10_findFar := ⟨gtb_mem (List.mem_append_right _ (List.mem_of_getElem? (i := 1307) (by decide +kernel))) rfl, gtb_mem (List.mem_append_left _ (List.mem_of_getElem? (i := 64) (by decide +kernel))) rfl⟩
theorem ok_X10_frames : okC yX10_frames cX10_frames 5 (some .int) 0 := ⟨gtb_mem (List.mem_append_right _ (List.mem_of_getElem? (i := 1353) (by decide +kernel))) rfl, gtb_mem (List.mem_append_right _ (List.mem_of_getElem? (i := 12) (by decide +kernel))) rfl, by decide +kernel⟩
theorem ov_X10_frames : okV yX10_frames := ⟨gtb_mem (List.mem_append_right _ (List.mem_of_getElem? (i := 1351) (by decide +kernel))) rfl, gtb_mem (List.mem_append_right _ (List.mem_of_getElem? (i := 1352) (by decide +kernel))) rfl⟩
theorem ok_X10_gate : okC yX10_gate cX10_gate 4 (some .int) 3 := ⟨gtb_mem (List.mem_append_right _ (List.mem_of_getElem? (i := 1099) (by decide +kernel))) rfl, gtb_mem (List.mem_append_right _ (List.mem_of_getElem? (i := 12) (by decide +kernel))) rfl, by decide +kernel⟩
theorem ov_X10_gate : okV yX10_gate := ⟨gtb_mem (List.mem_append_right _ (List.mem_of_getElem? (i := 1097) (by decide +kernel))) rfl, gtb_mem (List.mem_append_right _ (List.mem_of_getElem? (i := 1098) (by decide +kernel))) rfl⟩
theorem ok_X10_gateOf : okC yX10_gateOf cX10_gateOf 3 (some .boolean) 3 := ⟨gtb_mem (List.mem_append_right _ (List.mem_of_getElem? (i := 1175) (by decide +kernel))) rfl, gtb_mem (List.mem_append_right _ (List.mem_of_getElem? (i := 12) (by decide +kernel))) rfl, by decide +kernel⟩
theorem ov_X10_gateOf : Cond.static yX10_gateOf ∈ gtb := gtb_mem (List.mem_append_right _ (List.mem_of_getElem? (i := 1174) (by decide +kernel))) rfl
theorem ok_X10_greater : okC yX10_greater cX10_greater 2 (some .int) 1 := ⟨gtb_mem (List.mem_append_right _ (List.mem_of_getElem? (i := 1317) (by decide +kernel))) rfl, gtb_mem (List.mem_append_right _ (List.mem_of_getElem? (i := 12) (by decide +kernel))) rfl, by decide +kernel⟩
theorem ov_X10_greater : okV yX10_greater := ⟨gtb_mem (List.mem_append_right _ (List.mem_of_getElem? (i := 1316) (by decide +kernel))) rfl, gtb_mem (List.mem_append_left _ (List.mem_of_getElem? (i := 66) (by decide +kernel))) rfl⟩
theorem ok_X10_input : okC yX10_input cX10_input 1 (some .int) 0 := ⟨gtb_mem (List.mem_append_right _ (List.mem_of_getElem? (i := 1075) (by decide +kernel))) rfl, gtb_mem (List.mem_append_right _ (List.mem_of_getElem? (i := 12) (by decide +kernel))) rfl, by decide +kernel⟩
theorem ov_X10_input : okV yX10_input := ⟨gtb_mem (List.mem_append_right _ (List.mem_of_getElem? (i := 1073) (by decide +kernel))) rfl, gtb_mem (List.mem_append_right _ (List.mem_of_getElem? (i := 1074) (by decide +kernel))) rfl⟩
theorem ok_X10_isAhead : okC yX10_isAhead cX10_isAhead 5 (some .boolean) 2 := ⟨gtb_mem (List.mem_append_right _ (List.mem_of_getElem? (i := 1147) (by decide +kernel))) rfl, gtb_mem (List.mem_append_right _ (List.mem_of_getElem? (i := 12) (by decide +kernel))) rfl, by decide +kernel⟩
theorem ov_X10_isAhead : okV yX10_isAhead := ⟨gtb_mem (List.mem_append_right _ (List.mem_of_getElem? (i := 1146) (by decide +kernel))) rfl, gtb_mem (List.mem_append_left _ (List.mem_of_getElem? (i := 41) (by decide +kernel))) rfl⟩
theorem ok_X10_isCell : okC yX10_isCell cX10_isCell 2 (some .boolean) 1 := ⟨gtb_mem (List.mem_append_right _ (List.mem_of_getElem? (i := 1115) (by decide +kernel))) rfl, gtb_mem (List.mem_append_right _ (List.mem_of_getElem? (i := 12) (by decide +kernel))) rfl, by decide +kernel⟩
theorem ov_X10_isCell : okV yX10_isCell := ⟨gtb_mem (List.mem_append_right _ (List.mem_of_getElem? (i := 1114) (by decide +kernel))) rfl, gtb_mem (List.mem_append_left _ (List.mem_of_getElem? (i := 37) (by decide +kernel))) rfl⟩
theorem ok_X10_isIn : okC yX10_isIn cX10_isIn 6 (some .boolean) 3 := ⟨gtb_mem (List.mem_append_right _ (List.mem_of_getElem? (i := 1103) (by decide +kernel))) rfl, gtb_mem (List.mem_append_right _ (List.mem_of_getElem? (i := 12) (by decide +kernel))) rfl, by decide +kernel⟩
theorem ov_X10_isIn : Cond.static yX10_isIn ∈ gtb := gtb_mem (List.mem_append_right _ (List.mem_of_getElem? (i := 1102) (by decide +kernel))) rfl
theorem ok_X10_isJoint : okC yX10_isJoint cX10_isJoint 2 (some .boolean) 1 := ⟨gtb_mem (List.mem_append_right _ (List.mem_of_getElem? (i := 1333) (by decide +kernel))) rfl, gtb_mem (List.mem_append_right _ (List.mem_of_getElem? (i := 12) (by decide +kernel))) rfl, by decide +kernel⟩
theorem ov_X10_isJoint : okV yX10_isJoint := ⟨gtb_mem (List.mem_append_right _ (List.mem_of_getElem? (i := 1332) (by decide +kernel))) rfl, gtb_mem (List.mem_append_left _ (List.mem_of_getElem? (i := 69) (by decide +kernel))) rfl⟩
theorem ok_X10_isOf : okC yX10_isOf cX10_isOf 2 (some .boolean) 1 := ⟨gtb_mem (List.mem_append_right _ (List.mem_of_getElem? (i := 1172) (by decide +kernel))) rfl, gtb_mem (List.mem_append_right _ (List.mem_of_getElem? (i := 12) (by decide +kernel))) rfl, by decide +kernel⟩
theorem ov_X10_isOf : okV yX10_isOf := ⟨gtb_mem (List.mem_append_right _ (List.mem_of_getElem? (i := 1171) (by decide +kernel))) rfl, gtb_mem (List.mem_append_left _ (List.mem_of_getElem? (i := 44) (by decide +kernel))) rfl⟩
theorem ok_X10_isSign : okC yX10_isSign cX10_isSign 2 (some .boolean) 1 := ⟨gtb_mem (List.mem_append_right _ (List.mem_of_getElem? (i := 1107) (by decide +kernel))) rfl, gtb_mem (List.mem_append_right _ (List.mem_of_getElem? (i := 12) (by decide +kernel))) rfl, by decide +kernel⟩
theorem ov_X10_isSign : okV yX10_isSign := ⟨gtb_mem (List.mem_append_right _ (List.mem_of_getElem? (i := 1106) (by decide +kernel))) rfl, gtb_mem (List.mem_append_left _ (List.mem_of_getElem? (i := 36) (by decide +kernel))) rfl⟩
theorem ok_X10_isThing : okC yX10_isThing cX10_isThing 2 (some .boolean) 1 := ⟨gtb_mem (List.mem_append_right _ (List.mem_of_getElem? (i := 1222) (by decide +kernel))) rfl, gtb_mem (List.mem_append_right _ (List.mem_of_getElem? (i := 12) (by decide +kernel))) rfl, by decide +kernel⟩
theorem ov_X10_isThing : okV yX10_isThing := ⟨gtb_mem (List.mem_append_right _ (List.mem_of_getElem? (i := 1221) (by decide +kernel))) rfl, gtb_mem (List.mem_append_left _ (List.mem_of_getElem? (i := 51) (by decide +kernel))) rfl⟩
theorem ok_X10_isTile : okC yX10_isTile cX10_isTile 2 (some .boolean) 1 := ⟨gtb_mem (List.mem_append_right _ (List.mem_of_getElem? (i := 1206) (by decide +kernel))) rfl, gtb_mem (List.mem_append_right _ (List.mem_of_getElem? (i := 12) (by decide +kernel))) rfl, by decide +kernel⟩
theorem ov_X10_isTile : okV yX10_isTile := ⟨gtb_mem (List.mem_append_right _ (List.mem_of_getElem? (i := 1205) (by decide +kernel))) rfl, gtb_mem (List.mem_append_left _ (List.mem_of_getElem? (i := 48) (by decide +kernel))) rfl⟩
theorem ok_X10_joint : okC yX10_joint cX10_joint 2 (some .int) 1 := ⟨gtb_mem (List.mem_append_right _ (List.mem_of_getElem? (i := 1329) (by decide +kernel))) rfl, gtb_mem (List.mem_append_right _ (List.mem_of_getElem? (i := 12) (by decide +kernel))) rfl, by decide +kernel⟩
theorem ov_X10_joint : okV yX10_joint := ⟨gtb_mem (List.mem_append_right _ (List.mem_of_getElem? (i := 1327) (by decide +kernel))) rfl, gtb_mem (List.mem_append_right _ (List.mem_of_getElem? (i := 1328) (by decide +kernel))) rfl⟩
theorem ok_X10_joints : okC yX10_joints cX10_joints 1 (some .int) 0 := ⟨gtb_mem (List.mem_append_right _ (List.mem_of_getElem? (i := 1198) (by decide +kernel))) rfl, gtb_mem (List.mem_append_right _ (List.mem_of_getElem? (i := 12) (by decide +kernel))) rfl, by decide +kernel⟩
theorem ov_X10_joints : okV yX10_joints := ⟨gtb_mem (List.mem_append_right _ (List.mem_of_getElem? (i := 1197) (by decide +kernel))) rfl, gtb_mem (List.mem_append_left _ (List.mem_of_getElem? (i := 47) (by decide +kernel))) rfl⟩
theorem ok_X10_keeper : okC yX10_keeper cX10_keeper 2 (some .int) 1 := ⟨gtb_mem (List.mem_append_right _ (List.mem_of_getElem? (i := 1095) (by decide +kernel))) rfl, gtb_mem (List.mem_append_right _ (List.mem_of_getElem? (i := 12) (by decide +kernel))) rfl, by decide +kernel⟩
theorem ov_X10_keeper : okV yX10_keeper := ⟨gtb_mem (List.mem_append_right _ (List.mem_of_getElem? (i := 1093) (by decide +kernel))) rfl, gtb_mem (List.mem_append_right _ (List.mem_of_getElem? (i := 1094) (by decide +kernel))) rfl⟩
theorem ok_X10_lay : okC yX10_lay cX10_lay 3 (some .int) 1 := ⟨gtb_mem (List.mem_append_right _ (List.mem_of_getElem? (i := 1422) (by decide +kernel))) rfl, gtb_mem (List.mem_append_right _ (List.mem_of_getElem? (i := 12) (by decide +kernel))) rfl, by decide +kernel⟩
theorem ov_X10_lay : okV yX10_lay := ⟨gtb_mem (List.mem_append_right _ (List.mem_of_getElem? (i := 1420) (by decide +kernel))) rfl, gtb_mem (List.mem_append_right _ (List.mem_of_getElem? (i := 1421) (by decide +kernel))) rfl⟩
theorem ok_X10_lead : okC yX10_lead cX10_lead 6 (some .int) 1 := ⟨gtb_mem (List.mem_append_right _ (List.mem_of_getElem? (i := 1291) (by decide +kernel))) rfl, gtb_mem (List.mem_append_right _ (List.mem_of_getElem? (i := 12) (by decide +kernel))) rfl, by decide +kernel⟩
theorem ov_X10_lead : okV yX10_lead := ⟨gtb_mem (List.mem_append_right _ (List.mem_of_getElem? (i := 1289) (by decide +kernel))) rfl, gtb_mem (List.mem_append_right _ (List.mem_of_getElem? (i := 1290) (by decide +kernel))) rfl⟩
theorem ok_X10_leadTo : okC yX10_leadTo cX10_leadTo 6 none 2 := ⟨gtb_mem (List.mem_append_right _ (List.mem_of_getElem? (i := 1304) (by decide +kernel))) rfl, gtb_mem (List.mem_append_right _ (List.mem_of_getElem? (i := 12) (by decide +kernel))) rfl, by decide +kernel⟩
theorem ov_X10_leadTo : okV yX10_leadTo := ⟨gtb_mem (List.mem_append_right _ (List.mem_of_getElem? (i := 1303) (by decide +kernel))) rfl, gtb_mem (List.mem_append_left _ (List.mem_of_getElem? (i := 63) (by decide +kernel))) rfl⟩
theorem ok_X10_leadWire : okC yX10_leadWire cX10_leadWire 5 none 1 := ⟨gtb_mem (List.mem_append_right _ (List.mem_of_getElem? (i := 1296) (by decide +kernel))) rfl, gtb_mem (List.mem_append_right _ (List.mem_of_getElem? (i := 12) (by decide +kernel))) rfl, by decide +kernel⟩
theorem ov_X10_leadWire : okV yX10_leadWire := ⟨gtb_mem (List.mem_append_right _ (List.mem_of_getElem? (i := 1295) (by decide +kernel))) rfl, gtb_mem (List.mem_append_left _ (List.mem_of_getElem? (i := 61) (by decide +kernel))) rfl⟩
theorem ok_X10_lesser : okC yX10_lesser cX10_lesser 3 (some .int) 1 := ⟨gtb_mem (List.mem_append_right _ (List.mem_of_getElem? (i := 1313) (by decide +kernel))) rfl, gtb_mem (List.mem_append_right _ (List.mem_of_getElem? (i := 12) (by decide +kernel))) rfl, by decide +kernel⟩
theorem ov_X10_lesser : okV yX10_lesser := ⟨gtb_mem (List.mem_append_right _ (List.mem_of_getElem? (i := 1312) (by decide +kernel))) rfl, gtb_mem (List.mem_append_left _ (List.mem_of_getElem? (i := 65) (by decide +kernel))) rfl⟩
theorem ok_X10_letter : okC yX10_letter cX10_letter 3 (some .int) 2 := ⟨gtb_mem (List.mem_append_right _ (List.mem_of_getElem? (i := 1266) (by decide +kernel))) rfl, gtb_mem (List.mem_append_right _ (List.mem_of_getElem? (i := 12) (by decide +kernel))) rfl, by decide +kernel⟩
theorem ov_X10_letter : okV yX10_letter := ⟨gtb_mem (List.mem_append_right _ (List.mem_of_getElem? (i := 1265) (by decide +kernel))) rfl, gtb_mem (List.mem_append_left _ (List.mem_of_getElem? (i := 59) (by decide +kernel))) rfl⟩
theorem ok_X10_letterIs : okC yX10_letterIs cX10_letterIs 3 (some .boolean) 2 := ⟨gtb_mem (List.mem_append_right _ (List.mem_of_getElem? (i := 1414) (by decide +kernel))) rfl, gtb_mem (List.mem_append_right _ (List.mem_of_getElem? (i := 12) (by decide +kernel))) rfl, by decide +kernel⟩
theorem ov_X10_letterIs : okV yX10_letterIs := ⟨gtb_mem (List.mem_append_right _ (List.mem_of_getElem? (i := 1413) (by decide +kernel))) rfl, gtb_mem (List.mem_append_left _ (List.mem_of_getElem? (i := 79) (by decide +kernel))) rfl⟩
theorem ok_X10_lettersOf : okC yX10_lettersOf cX10_lettersOf 2 (some .int) 1 := ⟨gtb_mem (List.mem_append_right _ (List.mem_of_getElem? (i := 1262) (by decide +kernel))) rfl, gtb_mem (List.mem_append_right _ (List.mem_of_getElem? (i := 12) (by decide +kernel))) rfl, by decide +kernel⟩
theorem ov_X10_lettersOf : okV yX10_lettersOf := ⟨gtb_mem (List.mem_append_right _ (List.mem_of_getElem? (i := 1261) (by decide +kernel))) rfl, gtb_mem (List.mem_append_left _ (List.mem_of_getElem? (i := 58) (by decide +kernel))) rfl⟩
theorem ok_X10_longest : okC yX10_longest cX10_longest 4 (some .int) 0 := ⟨gtb_mem (List.mem_append_right _ (List.mem_of_getElem? (i := 1345) (by decide +kernel))) rfl, gtb_mem (List.mem_append_right _ (List.mem_of_getElem? (i := 12) (by decide +kernel))) rfl, by decide +kernel⟩
theorem ov_X10_longest : okV yX10_longest := ⟨gtb_mem (List.mem_append_right _ (List.mem_of_getElem? (i := 1343) (by decide +kernel))) rfl, gtb_mem (List.mem_append_right _ (List.mem_of_getElem? (i := 1344) (by decide +kernel))) rfl⟩
theorem ok_X10_longestOf : okC yX10_longestOf cX10_longestOf 8 (some .int) 1 := ⟨gtb_mem (List.mem_append_right _ (List.mem_of_getElem? (i := 1349) (by decide +kernel))) rfl, gtb_mem (List.mem_append_right _ (List.mem_of_getElem? (i := 12) (by decide +kernel))) rfl, by decide +kernel⟩
theorem ov_X10_longestOf : okV yX10_longestOf := ⟨gtb_mem (List.mem_append_right _ (List.mem_of_getElem? (i := 1348) (by decide +kernel))) rfl, gtb_mem (List.mem_append_left _ (List.mem_of_getElem? (i := 70) (by decide +kernel))) rfl⟩
theorem ok_X10_many : okC yX10_many cX10_many 3 (some .int) 1 := ⟨gtb_mem (List.mem_append_right _ (List.mem_of_getElem? (i := 1139) (by decide +kernel))) rfl, gtb_mem (List.mem_append_right _ (List.mem_of_getElem? (i := 12) (by decide +kernel))) rfl, by decide +kernel⟩
theorem ov_X10_many : Cond.static yX10_many ∈ gtb := gtb_mem (List.mem_append_right _ (List.mem_of_getElem? (i := 1138) (by decide +kernel))) rfl
theorem ok_X10_manyTiles : okC yX10_manyTiles cX10_manyTiles 4 (some .int) 1 := ⟨gtb_mem (List.mem_append_right _ (List.mem_of_getElem? (i := 1287) (by decide +kernel))) rfl, gtb_mem (List.mem_append_right _ (List.mem_of_getElem? (i := 12) (by decide +kernel))) rfl, by decide +kernel⟩
theorem ov_X10_manyTiles : Cond.static yX10_manyTiles ∈ gtb := gtb_mem (List.mem_append_right _ (List.mem_of_getElem? (i := 1286) (by decide +kernel))) rfl
theorem ok_X10_move : okC yX10_move cX10_move 5 (some .int) 2 := ⟨gtb_mem (List.mem_append_right _ (List.mem_of_getElem? (i := 1238) (by decide +kernel))) rfl, gtb_mem (List.mem_append_right _ (List.mem_of_getElem? (i := 12) (by decide +kernel))) rfl, by decide +kernel⟩
theorem ov_X10_move : okV yX10_move := ⟨gtb_mem (List.mem_append_right _ (List.mem_of_getElem? (i := 1236) (by decide +kernel))) rfl, gtb_mem (List.mem_append_right _ (List.mem_of_getElem? (i := 1237) (by decide +kernel))) rfl⟩
theorem ok_X10_moved : okC yX10_moved cX10_moved 1 none 0 := ⟨gtb_mem (List.mem_append_right _ (List.mem_of_getElem? (i := 1194) (by decide +kernel))) rfl, gtb_mem (List.mem_append_right _ (List.mem_of_getElem? (i := 12) (by decide +kernel))) rfl, by decide +kernel⟩
theorem ov_X10_moved : okV yX10_moved := ⟨gtb_mem (List.mem_append_right _ (List.mem_of_getElem? (i := 1193) (by decide +kernel))) rfl, gtb_mem (List.mem_append_left _ (List.mem_of_getElem? (i := 46) (by decide +kernel))) rfl⟩
theorem ok_X10_netIs : okC yX10_netIs cX10_netIs 2 (some .boolean) 1 := ⟨gtb_mem (List.mem_append_right _ (List.mem_of_getElem? (i := 1402) (by decide +kernel))) rfl, gtb_mem (List.mem_append_right _ (List.mem_of_getElem? (i := 12) (by decide +kernel))) rfl, by decide +kernel⟩
theorem ov_X10_netIs : okV yX10_netIs := ⟨gtb_mem (List.mem_append_right _ (List.mem_of_getElem? (i := 1401) (by decide +kernel))) rfl, gtb_mem (List.mem_append_left _ (List.mem_of_getElem? (i := 76) (by decide +kernel))) rfl⟩
theorem ok_X10_no : okC yX10_no cX10_no 2 (some .int) 1 := ⟨gtb_mem (List.mem_append_right _ (List.mem_of_getElem? (i := 1079) (by decide +kernel))) rfl, gtb_mem (List.mem_append_right _ (List.mem_of_getElem? (i := 12) (by decide +kernel))) rfl, by decide +kernel⟩
theorem ov_X10_no : okV yX10_no := ⟨gtb_mem (List.mem_append_right _ (List.mem_of_getElem? (i := 1078) (by decide +kernel))) rfl, gtb_mem (List.mem_append_left _ (List.mem_of_getElem? (i := 32) (by decide +kernel))) rfl⟩
theorem ok_X10_octet : okC yX10_octet cX10_octet 4 (some .int) 2 := ⟨gtb_mem (List.mem_append_right _ (List.mem_of_getElem? (i := 1365) (by decide +kernel))) rfl, gtb_mem (List.mem_append_right _ (List.mem_of_getElem? (i := 12) (by decide +kernel))) rfl, by decide +kernel⟩
theorem ov_X10_octet : okV yX10_octet := ⟨gtb_mem (List.mem_append_right _ (List.mem_of_getElem? (i := 1363) (by decide +kernel))) rfl, gtb_mem (List.mem_append_right _ (List.mem_of_getElem? (i := 1364) (by decide +kernel))) rfl⟩
theorem ok_X10_out : okC yX10_out cX10_out 2 (some .int) 1 := ⟨gtb_mem (List.mem_append_right _ (List.mem_of_getElem? (i := 1119) (by decide +kernel))) rfl, gtb_mem (List.mem_append_right _ (List.mem_of_getElem? (i := 12) (by decide +kernel))) rfl, by decide +kernel⟩
theorem ov_X10_out : okV yX10_out := ⟨gtb_mem (List.mem_append_right _ (List.mem_of_getElem? (i := 1117) (by decide +kernel))) rfl, gtb_mem (List.mem_append_right _ (List.mem_of_getElem? (i := 1118) (by decide +kernel))) rfl⟩
theorem ok_X10_outsOf : okC yX10_outsOf cX10_outsOf 4 (some .int) 1 := ⟨gtb_mem (List.mem_append_right _ (List.mem_of_getElem? (i := 1406) (by decide +kernel))) rfl, gtb_mem (List.mem_append_right _ (List.mem_of_getElem? (i := 12) (by decide +kernel))) rfl, by decide +kernel⟩
theorem ov_X10_outsOf : okV yX10_outsOf := ⟨gtb_mem (List.mem_append_right _ (List.mem_of_getElem? (i := 1405) (by decide +kernel))) rfl, gtb_mem (List.mem_append_left _ (List.mem_of_getElem? (i := 77) (by decide +kernel))) rfl⟩
theorem ok_X10_partOf : okC yX10_partOf cX10_partOf 3 (some .int) 2 := ⟨gtb_mem (List.mem_append_right _ (List.mem_of_getElem? (i := 1136) (by decide +kernel))) rfl, gtb_mem (List.mem_append_right _ (List.mem_of_getElem? (i := 12) (by decide +kernel))) rfl, by decide +kernel⟩
theorem ov_X10_partOf : okV yX10_partOf := ⟨gtb_mem (List.mem_append_right _ (List.mem_of_getElem? (i := 1135) (by decide +kernel))) rfl, gtb_mem (List.mem_append_left _ (List.mem_of_getElem? (i := 39) (by decide +kernel))) rfl⟩
theorem ok_X10_price : okC yX10_price cX10_price 3 (some .int) 1 := ⟨gtb_mem (List.mem_append_right _ (List.mem_of_getElem? (i := 1321) (by decide +kernel))) rfl, gtb_mem (List.mem_append_right _ (List.mem_of_getElem? (i := 12) (by decide +kernel))) rfl, by decide +kernel⟩
theorem ov_X10_price : okV yX10_price := ⟨gtb_mem (List.mem_append_right _ (List.mem_of_getElem? (i := 1320) (by decide +kernel))) rfl, gtb_mem (List.mem_append_left _ (List.mem_of_getElem? (i := 67) (by decide +kernel))) rfl⟩
theorem ok_X10_puts : okC yX10_puts cX10_puts 3 none 2 := ⟨gtb_mem (List.mem_append_right _ (List.mem_of_getElem? (i := 1357) (by decide +kernel))) rfl, gtb_mem (List.mem_append_right _ (List.mem_of_getElem? (i := 12) (by decide +kernel))) rfl, by decide +kernel⟩
theorem ov_X10_puts : okV yX10_puts := ⟨gtb_mem (List.mem_append_right _ (List.mem_of_getElem? (i := 1356) (by decide +kernel))) rfl, gtb_mem (List.mem_append_left _ (List.mem_of_getElem? (i := 71) (by decide +kernel))) rfl⟩
theorem ok_X10_roomLeft : okC yX10_roomLeft cX10_roomLeft 5 (some .int) 2 := ⟨gtb_mem (List.mem_append_right _ (List.mem_of_getElem? (i := 1226) (by decide +kernel))) rfl, gtb_mem (List.mem_append_right _ (List.mem_of_getElem? (i := 12) (by decide +kernel))) rfl, by decide +kernel⟩
theorem ov_X10_roomLeft : okV yX10_roomLeft := ⟨gtb_mem (List.mem_append_right _ (List.mem_of_getElem? (i := 1225) (by decide +kernel))) rfl, gtb_mem (List.mem_append_left _ (List.mem_of_getElem? (i := 52) (by decide +kernel))) rfl⟩
theorem ok_X10_row : okC yX10_row cX10_row 2 (some .int) 1 := ⟨gtb_mem (List.mem_append_right _ (List.mem_of_getElem? (i := 1430) (by decide +kernel))) rfl, gtb_mem (List.mem_append_right _ (List.mem_of_getElem? (i := 12) (by decide +kernel))) rfl, by decide +kernel⟩
theorem ov_X10_row : okV yX10_row := ⟨gtb_mem (List.mem_append_right _ (List.mem_of_getElem? (i := 1428) (by decide +kernel))) rfl, gtb_mem (List.mem_append_right _ (List.mem_of_getElem? (i := 1429) (by decide +kernel))) rfl⟩
theorem ok_X10_set : okC yX10_set cX10_set 4 (some .int) 0 := ⟨gtb_mem (List.mem_append_right _ (List.mem_of_getElem? (i := 1214) (by decide +kernel))) rfl, gtb_mem (List.mem_append_right _ (List.mem_of_getElem? (i := 12) (by decide +kernel))) rfl, by decide +kernel⟩
theorem ov_X10_set : okV yX10_set := ⟨gtb_mem (List.mem_append_right _ (List.mem_of_getElem? (i := 1212) (by decide +kernel))) rfl, gtb_mem (List.mem_append_right _ (List.mem_of_getElem? (i := 1213) (by decide +kernel))) rfl⟩
theorem ok_X10_side : okC yX10_side cX10_side 3 (some .int) 2 := ⟨gtb_mem (List.mem_append_right _ (List.mem_of_getElem? (i := 1341) (by decide +kernel))) rfl, gtb_mem (List.mem_append_right _ (List.mem_of_getElem? (i := 12) (by decide +kernel))) rfl, by decide +kernel⟩
theorem ov_X10_side : okV yX10_side := ⟨gtb_mem (List.mem_append_right _ (List.mem_of_getElem? (i := 1339) (by decide +kernel))) rfl, gtb_mem (List.mem_append_right _ (List.mem_of_getElem? (i := 1340) (by decide +kernel))) rfl⟩
theorem ok_X10_smooth : okC yX10_smooth cX10_smooth 13 (some .int) 2 := ⟨gtb_mem (List.mem_append_right _ (List.mem_of_getElem? (i := 1270) (by decide +kernel))) rfl, gtb_mem (List.mem_append_right _ (List.mem_of_getElem? (i := 12) (by decide +kernel))) rfl, by decide +kernel⟩
theorem ov_X10_smooth : okV yX10_smooth := ⟨gtb_mem (List.mem_append_right _ (List.mem_of_getElem? (i := 1268) (by decide +kernel))) rfl, gtb_mem (List.mem_append_right _ (List.mem_of_getElem? (i := 1269) (by decide +kernel))) rfl⟩
theorem ok_X10_source : okC yX10_source cX10_source 4 (some .int) 2 := ⟨gtb_mem (List.mem_append_right _ (List.mem_of_getElem? (i := 1111) (by decide +kernel))) rfl, gtb_mem (List.mem_append_right _ (List.mem_of_getElem? (i := 12) (by decide +kernel))) rfl, by decide +kernel⟩
theorem ov_X10_source : okV yX10_source := ⟨gtb_mem (List.mem_append_right _ (List.mem_of_getElem? (i := 1109) (by decide +kernel))) rfl, gtb_mem (List.mem_append_right _ (List.mem_of_getElem? (i := 1110) (by decide +kernel))) rfl⟩
theorem ok_X10_start : okC yX10_start cX10_start 1 (some .int) 0 := ⟨gtb_mem (List.mem_append_right _ (List.mem_of_getElem? (i := 1390) (by decide +kernel))) rfl, gtb_mem (List.mem_append_right _ (List.mem_of_getElem? (i := 12) (by decide +kernel))) rfl, by decide +kernel⟩
theorem ov_X10_start : okV yX10_start := ⟨gtb_mem (List.mem_append_right _ (List.mem_of_getElem? (i := 1388) (by decide +kernel))) rfl, gtb_mem (List.mem_append_right _ (List.mem_of_getElem? (i := 1389) (by decide +kernel))) rfl⟩
theorem ok_X10_status : okC yX10_status cX10_status 2 (some .int) 1 := ⟨gtb_mem (List.mem_append_right _ (List.mem_of_getElem? (i := 1438) (by decide +kernel))) rfl, gtb_mem (List.mem_append_right _ (List.mem_of_getElem? (i := 12) (by decide +kernel))) rfl, by decide +kernel⟩
theorem ov_X10_status : okV yX10_status := ⟨gtb_mem (List.mem_append_right _ (List.mem_of_getElem? (i := 1436) (by decide +kernel))) rfl, gtb_mem (List.mem_append_right _ (List.mem_of_getElem? (i := 1437) (by decide +kernel))) rfl⟩
theorem ok_X10_sumOf : okC yX10_sumOf cX10_sumOf 4 (some .int) 1 := ⟨gtb_mem (List.mem_append_right _ (List.mem_of_getElem? (i := 1361) (by decide +kernel))) rfl, gtb_mem (List.mem_append_right _ (List.mem_of_getElem? (i := 12) (by decide +kernel))) rfl, by decide +kernel⟩
theorem ov_X10_sumOf : okV yX10_sumOf := ⟨gtb_mem (List.mem_append_right _ (List.mem_of_getElem? (i := 1360) (by decide +kernel))) rfl, gtb_mem (List.mem_append_left _ (List.mem_of_getElem? (i := 72) (by decide +kernel))) rfl⟩
theorem ok_X10_swap : okC yX10_swap cX10_swap 4 (some .int) 2 := ⟨gtb_mem (List.mem_append_right _ (List.mem_of_getElem? (i := 1242) (by decide +kernel))) rfl, gtb_mem (List.mem_append_right _ (List.mem_of_getElem? (i := 12) (by decide +kernel))) rfl, by decide +kernel⟩
theorem ov_X10_swap : okV yX10_swap := ⟨gtb_mem (List.mem_append_right _ (List.mem_of_getElem? (i := 1240) (by decide +kernel))) rfl, gtb_mem (List.mem_append_right _ (List.mem_of_getElem? (i := 1241) (by decide +kernel))) rfl⟩
theorem ok_X10_swaps : okC yX10_swaps cX10_swaps 4 none 2 := ⟨gtb_mem (List.mem_append_right _ (List.mem_of_getElem? (i := 1246) (by decide +kernel))) rfl, gtb_mem (List.mem_append_right _ (List.mem_of_getElem? (i := 12) (by decide +kernel))) rfl, by decide +kernel⟩
theorem ov_X10_swaps : okV yX10_swaps := ⟨gtb_mem (List.mem_append_right _ (List.mem_of_getElem? (i := 1245) (by decide +kernel))) rfl, gtb_mem (List.mem_append_left _ (List.mem_of_getElem? (i := 54) (by decide +kernel))) rfl⟩
theorem ok_X10_table : okC yX10_table cX10_table 3 (some .int) 2 := ⟨gtb_mem (List.mem_append_right _ (List.mem_of_getElem? (i := 1179) (by decide +kernel))) rfl, gtb_mem (List.mem_append_right _ (List.mem_of_getElem? (i := 12) (by decide +kernel))) rfl, by decide +kernel⟩
theorem ov_X10_table : okV yX10_table := ⟨gtb_mem (List.mem_append_right _ (List.mem_of_getElem? (i := 1177) (by decide +kernel))) rfl, gtb_mem (List.mem_append_right _ (List.mem_of_getElem? (i := 1178) (by decide +kernel))) rfl⟩
theorem ok_X10_tables : okC yX10_tables cX10_tables 4 (some .int) 0 := ⟨gtb_mem (List.mem_append_right _ (List.mem_of_getElem? (i := 1164) (by decide +kernel))) rfl, gtb_mem (List.mem_append_right _ (List.mem_of_getElem? (i := 12) (by decide +kernel))) rfl, by decide +kernel⟩
theorem ov_X10_tables : okV yX10_tables := ⟨gtb_mem (List.mem_append_right _ (List.mem_of_getElem? (i := 1162) (by decide +kernel))) rfl, gtb_mem (List.mem_append_right _ (List.mem_of_getElem? (i := 1163) (by decide +kernel))) rfl⟩
theorem ok_X10_takeOff : okC yX10_takeOff cX10_takeOff 3 none 1 := ⟨gtb_mem (List.mem_append_right _ (List.mem_of_getElem? (i := 1300) (by decide +kernel))) rfl, gtb_mem (List.mem_append_right _ (List.mem_of_getElem? (i := 12) (by decide +kernel))) rfl, by decide +kernel⟩
theorem ov_X10_takeOff : okV yX10_takeOff := ⟨gtb_mem (List.mem_append_right _ (List.mem_of_getElem? (i := 1299) (by decide +kernel))) rfl, gtb_mem (List.mem_append_left _ (List.mem_of_getElem? (i := 62) (by decide +kernel))) rfl⟩
theorem ok_X10_tear : okC yX10_tear cX10_tear 2 (some .int) 0 := ⟨gtb_mem (List.mem_append_right _ (List.mem_of_getElem? (i := 1426) (by decide +kernel))) rfl, gtb_mem (List.mem_append_right _ (List.mem_of_getElem? (i := 12) (by decide +kernel))) rfl, by decide +kernel⟩
theorem ov_X10_tear : okV yX10_tear := ⟨gtb_mem (List.mem_append_right _ (List.mem_of_getElem? (i := 1424) (by decide +kernel))) rfl, gtb_mem (List.mem_append_right _ (List.mem_of_getElem? (i := 1425) (by decide +kernel))) rfl⟩
theorem ok_X10_thingAt : okC yX10_thingAt cX10_thingAt 4 (some .int) 1 := ⟨gtb_mem (List.mem_append_right _ (List.mem_of_getElem? (i := 1276) (by decide +kernel))) rfl, gtb_mem (List.mem_append_right _ (List.mem_of_getElem? (i := 12) (by decide +kernel))) rfl, by decide +kernel⟩
theorem ov_X10_thingAt : okV yX10_thingAt := ⟨gtb_mem (List.mem_append_right _ (List.mem_of_getElem? (i := 1275) (by decide +kernel))) rfl, gtb_mem (List.mem_append_left _ (List.mem_of_getElem? (i := 60) (by decide +kernel))) rfl⟩
theorem ok_X10_things : okC yX10_things cX10_things 3 (some .int) 0 := ⟨gtb_mem (List.mem_append_right _ (List.mem_of_getElem? (i := 1218) (by decide +kernel))) rfl, gtb_mem (List.mem_append_right _ (List.mem_of_getElem? (i := 12) (by decide +kernel))) rfl, by decide +kernel⟩
theorem ov_X10_things : okV yX10_things := ⟨gtb_mem (List.mem_append_right _ (List.mem_of_getElem? (i := 1217) (by decide +kernel))) rfl, gtb_mem (List.mem_append_left _ (List.mem_of_getElem? (i := 50) (by decide +kernel))) rfl⟩
theorem ok_X10_tile : okC yX10_tile cX10_tile 3 (some .int) 1 := ⟨gtb_mem (List.mem_append_right _ (List.mem_of_getElem? (i := 1230) (by decide +kernel))) rfl, gtb_mem (List.mem_append_right _ (List.mem_of_getElem? (i := 12) (by decide +kernel))) rfl, by decide +kernel⟩
theorem ov_X10_tile : okV yX10_tile := ⟨gtb_mem (List.mem_append_right _ (List.mem_of_getElem? (i := 1228) (by decide +kernel))) rfl, gtb_mem (List.mem_append_right _ (List.mem_of_getElem? (i := 1229) (by decide +kernel))) rfl⟩
theorem ok_X10_tiles : okC yX10_tiles cX10_tiles 1 (some .int) 0 := ⟨gtb_mem (List.mem_append_right _ (List.mem_of_getElem? (i := 1210) (by decide +kernel))) rfl, gtb_mem (List.mem_append_right _ (List.mem_of_getElem? (i := 12) (by decide +kernel))) rfl, by decide +kernel⟩
theorem ov_X10_tiles : okV yX10_tiles := ⟨gtb_mem (List.mem_append_right _ (List.mem_of_getElem? (i := 1209) (by decide +kernel))) rfl, gtb_mem (List.mem_append_left _ (List.mem_of_getElem? (i := 49) (by decide +kernel))) rfl⟩
theorem ok_X10_told : okC yX10_told cX10_told 2 (some .int) 1 := ⟨gtb_mem (List.mem_append_right _ (List.mem_of_getElem? (i := 1418) (by decide +kernel))) rfl, gtb_mem (List.mem_append_right _ (List.mem_of_getElem? (i := 12) (by decide +kernel))) rfl, by decide +kernel⟩
theorem ov_X10_told : okV yX10_told := ⟨gtb_mem (List.mem_append_right _ (List.mem_of_getElem? (i := 1416) (by decide +kernel))) rfl, gtb_mem (List.mem_append_right _ (List.mem_of_getElem? (i := 1417) (by decide +kernel))) rfl⟩
theorem ok_X10_unset : okC yX10_unset cX10_unset 1 none 0 := ⟨gtb_mem (List.mem_append_right _ (List.mem_of_getElem? (i := 1190) (by decide +kernel))) rfl, gtb_mem (List.mem_append_right _ (List.mem_of_getElem? (i := 12) (by decide +kernel))) rfl, by decide +kernel⟩
theorem ov_X10_unset : okV yX10_unset := ⟨gtb_mem (List.mem_append_right _ (List.mem_of_getElem? (i := 1189) (by decide +kernel))) rfl, gtb_mem (List.mem_append_left _ (List.mem_of_getElem? (i := 45) (by decide +kernel))) rfl⟩
theorem ok_X10_way : okC yX10_way cX10_way 5 (some .int) 2 := ⟨gtb_mem (List.mem_append_right _ (List.mem_of_getElem? (i := 1337) (by decide +kernel))) rfl, gtb_mem (List.mem_append_right _ (List.mem_of_getElem? (i := 12) (by decide +kernel))) rfl, by decide +kernel⟩
theorem ov_X10_way : okV yX10_way := ⟨gtb_mem (List.mem_append_right _ (List.mem_of_getElem? (i := 1335) (by decide +kernel))) rfl, gtb_mem (List.mem_append_right _ (List.mem_of_getElem? (i := 1336) (by decide +kernel))) rfl⟩
theorem ok_X10_whyNo : okC yX10_whyNo cX10_whyNo 2 (some .int) 1 := ⟨gtb_mem (List.mem_append_right _ (List.mem_of_getElem? (i := 1234) (by decide +kernel))) rfl, gtb_mem (List.mem_append_right _ (List.mem_of_getElem? (i := 12) (by decide +kernel))) rfl, by decide +kernel⟩
theorem ov_X10_whyNo : okV yX10_whyNo := ⟨gtb_mem (List.mem_append_right _ (List.mem_of_getElem? (i := 1233) (by decide +kernel))) rfl, gtb_mem (List.mem_append_left _ (List.mem_of_getElem? (i := 53) (by decide +kernel))) rfl⟩
theorem ok_X10_whyNoByte : okC yX10_whyNoByte cX10_whyNoByte 3 (some .int) 2 := ⟨gtb_mem (List.mem_append_right _ (List.mem_of_getElem? (i := 1369) (by decide +kernel))) rfl, gtb_mem (List.mem_append_right _ (List.mem_of_getElem? (i := 12) (by decide +kernel))) rfl, by decide +kernel⟩
theorem ov_X10_whyNoByte : okV yX10_whyNoByte := ⟨gtb_mem (List.mem_append_right _ (List.mem_of_getElem? (i := 1368) (by decide +kernel))) rfl, gtb_mem (List.mem_append_left _ (List.mem_of_getElem? (i := 73) (by decide +kernel))) rfl⟩
theorem ok_X10_wires : okC yX10_wires cX10_wires 5 (some .int) 2 := ⟨gtb_mem (List.mem_append_right _ (List.mem_of_getElem? (i := 1284) (by decide +kernel))) rfl, gtb_mem (List.mem_append_right _ (List.mem_of_getElem? (i := 12) (by decide +kernel))) rfl, by decide +kernel⟩
theorem ov_X10_wires : okV yX10_wires := ⟨gtb_mem (List.mem_append_right _ (List.mem_of_getElem? (i := 1282) (by decide +kernel))) rfl, gtb_mem (List.mem_append_right _ (List.mem_of_getElem? (i := 1283) (by decide +kernel))) rfl⟩
theorem ok_X1_bitsThere : okC yX1_bitsThere cX1_bitsThere 4 (some .int) 2 := ⟨gtb_mem (List.mem_append_right _ (List.mem_of_getElem? (i := 837) (by decide +kernel))) rfl, gtb_mem (List.mem_append_right _ (List.mem_of_getElem? (i := 8) (by decide +kernel))) rfl, by decide +kernel⟩
theorem ov_X1_bitsThere : okV yX1_bitsThere := ⟨gtb_mem (List.mem_append_right _ (List.mem_of_getElem? (i := 835) (by decide +kernel))) rfl, gtb_mem (List.mem_append_right _ (List.mem_of_getElem? (i := 836) (by decide +kernel))) rfl⟩
theorem ok_X1_firstWrongSum : okC yX1_firstWrongSum cX1_firstWrongSum 4 (some .int) 1 := ⟨gtb_mem (List.mem_append_right _ (List.mem_of_getElem? (i := 824) (by decide +kernel))) rfl, gtb_mem (List.mem_append_right _ (List.mem_of_getElem? (i := 8) (by decide +kernel))) rfl, by decide +kernel⟩
theorem ov_X1_firstWrongSum : okV yX1_firstWrongSum := ⟨gtb_mem (List.mem_append_right _ (List.mem_of_getElem? (i := 822) (by decide +kernel))) rfl, gtb_mem (List.mem_append_right _ (List.mem_of_getElem? (i := 823) (by decide +kernel))) rfl⟩
theorem ok_X1_lengthOf : okC yX1_lengthOf cX1_lengthOf 2 (some .int) 1 := ⟨gtb_mem (List.mem_append_right _ (List.mem_of_getElem? (i := 812) (by decide +kernel))) rfl, gtb_mem (List.mem_append_right _ (List.mem_of_getElem? (i := 8) (by decide +kernel))) rfl, by decide +kernel⟩
theorem ov_X1_lengthOf : okV yX1_lengthOf := ⟨gtb_mem (List.mem_append_right _ (List.mem_of_getElem? (i := 810) (by decide +kernel))) rfl, gtb_mem (List.mem_append_right _ (List.mem_of_getElem? (i := 811) (by decide +kernel))) rfl⟩
theorem ok_X1_letterThere : okC yX1_letterThere cX1_letterThere 3 (some .int) 2 := ⟨gtb_mem (List.mem_append_right _ (List.mem_of_getElem? (i := 873) (by decide +kernel))) rfl, gtb_mem (List.mem_append_right _ (List.mem_of_getElem? (i := 8) (by decide +kernel))) rfl, by decide +kernel⟩
theorem ov_X1_letterThere : okV yX1_letterThere := ⟨gtb_mem (List.mem_append_right _ (List.mem_of_getElem? (i := 871) (by decide +kernel))) rfl, gtb_mem (List.mem_append_right _ (List.mem_of_getElem? (i := 872) (by decide +kernel))) rfl⟩
theorem ok_X1_put : okC yX1_put cX1_put 2 none 1 := ⟨gtb_mem (List.mem_append_right _ (List.mem_of_getElem? (i := 795) (by decide +kernel))) rfl, gtb_mem (List.mem_append_right _ (List.mem_of_getElem? (i := 8) (by decide +kernel))) rfl, by decide +kernel⟩
theorem ov_X1_put : okV yX1_put := ⟨gtb_mem (List.mem_append_right _ (List.mem_of_getElem? (i := 794) (by decide +kernel))) rfl, gtb_mem (List.mem_append_left _ (List.mem_of_getElem? (i := 27) (by decide +kernel))) rfl⟩
theorem ok_X1_strangeTables : okC yX1_strangeTables cX1_strangeTables 5 (some .int) 2 := ⟨gtb_mem (List.mem_append_right _ (List.mem_of_getElem? (i := 832) (by decide +kernel))) rfl, gtb_mem (List.mem_append_right _ (List.mem_of_getElem? (i := 8) (by decide +kernel))) rfl, by decide +kernel⟩
theorem ov_X1_strangeTables : okV yX1_strangeTables := ⟨gtb_mem (List.mem_append_right _ (List.mem_of_getElem? (i := 830) (by decide +kernel))) rfl, gtb_mem (List.mem_append_right _ (List.mem_of_getElem? (i := 831) (by decide +kernel))) rfl⟩
theorem ok_X1_sumOf : okC yX1_sumOf cX1_sumOf 5 (some .int) 2 := ⟨gtb_mem (List.mem_append_right _ (List.mem_of_getElem? (i := 800) (by decide +kernel))) rfl, gtb_mem (List.mem_append_right _ (List.mem_of_getElem? (i := 8) (by decide +kernel))) rfl, by decide +kernel⟩
theorem ov_X1_sumOf : okV yX1_sumOf := ⟨gtb_mem (List.mem_append_right _ (List.mem_of_getElem? (i := 799) (by decide +kernel))) rfl, gtb_mem (List.mem_append_left _ (List.mem_of_getElem? (i := 28) (by decide +kernel))) rfl⟩
theorem ok_X1_write : okC yX1_write cX1_write 8 none 4 := ⟨gtb_mem (List.mem_append_right _ (List.mem_of_getElem? (i := 787) (by decide +kernel))) rfl, gtb_mem (List.mem_append_right _ (List.mem_of_getElem? (i := 8) (by decide +kernel))) rfl, by decide +kernel⟩
theorem ov_X1_write : okV yX1_write := ⟨gtb_mem (List.mem_append_right _ (List.mem_of_getElem? (i := 785) (by decide +kernel))) rfl, gtb_mem (List.mem_append_right _ (List.mem_of_getElem? (i := 786) (by decide +kernel))) rfl⟩
theorem ok_X1_writeThing : okC yX1_writeThing cX1_writeThing 6 none 3 := ⟨gtb_mem (List.mem_append_right _ (List.mem_of_getElem? (i := 791) (by decide +kernel))) rfl, gtb_mem (List.mem_append_right _ (List.mem_of_getElem? (i := 8) (by decide +kernel))) rfl, by decide +kernel⟩
theorem ov_X1_writeThing : okV yX1_writeThing := ⟨gtb_mem (List.mem_append_right _ (List.mem_of_getElem? (i := 790) (by decide +kernel))) rfl, gtb_mem (List.mem_append_left _ (List.mem_of_getElem? (i := 26) (by decide +kernel))) rfl⟩
theorem ok_X2_addJoint : okC yX2_addJoint cX2_addJoint 5 none 4 := ⟨gtb_mem (List.mem_append_right _ (List.mem_of_getElem? (i := 344) (by decide +kernel))) rfl, gtb_mem (List.mem_append_right _ (List.mem_of_getElem? (i := 5) (by decide +kernel))) rfl, by decide +kernel⟩
theorem ov_X2_addJoint : okV yX2_addJoint := ⟨gtb_mem (List.mem_append_right _ (List.mem_of_getElem? (i := 343) (by decide +kernel))) rfl, gtb_mem (List.mem_append_left _ (List.mem_of_getElem? (i := 0) (by decide +kernel))) rfl⟩
theorem ok_X2_beyondJoint : okC yX2_beyondJoint cX2_beyondJoint 3 (some .int) 2 := ⟨gtb_mem (List.mem_append_right _ (List.mem_of_getElem? (i := 738) (by decide +kernel))) rfl, gtb_mem (List.mem_append_right _ (List.mem_of_getElem? (i := 5) (by decide +kernel))) rfl, by decide +kernel⟩
theorem ov_X2_beyondJoint : okV yX2_beyondJoint := ⟨gtb_mem (List.mem_append_right _ (List.mem_of_getElem? (i := 736) (by decide +kernel))) rfl, gtb_mem (List.mem_append_right _ (List.mem_of_getElem? (i := 737) (by decide +kernel))) rfl⟩
theorem ok_X2_breakTile : okC yX2_breakTile cX2_breakTile 5 none 2 := ⟨gtb_mem (List.mem_append_right _ (List.mem_of_getElem? (i := 573) (by decide +kernel))) rfl, gtb_mem (List.mem_append_right _ (List.mem_of_getElem? (i := 5) (by decide +kernel))) rfl, by decide +kernel⟩
theorem ov_X2_breakTile : okV yX2_breakTile := ⟨gtb_mem (List.mem_append_right _ (List.mem_of_getElem? (i := 571) (by decide +kernel))) rfl, gtb_mem (List.mem_append_right _ (List.mem_of_getElem? (i := 572) (by decide +kernel))) rfl⟩
theorem ok_X2_hasJoint : okC yX2_hasJoint cX2_hasJoint 2 (some .boolean) 1 := ⟨gtb_mem (List.mem_append_right _ (List.mem_of_getElem? (i := 755) (by decide +kernel))) rfl, gtb_mem (List.mem_append_right _ (List.mem_of_getElem? (i := 5) (by decide +kernel))) rfl, by decide +kernel⟩
theorem ov_X2_hasJoint : okV yX2_hasJoint := ⟨gtb_mem (List.mem_append_right _ (List.mem_of_getElem? (i := 753) (by decide +kernel))) rfl, gtb_mem (List.mem_append_right _ (List.mem_of_getElem? (i := 754) (by decide +kernel))) rfl⟩
theorem ok_X2_hasTile : okC yX2_hasTile cX2_hasTile 2 (some .boolean) 1 := ⟨gtb_mem (List.mem_append_right _ (List.mem_of_getElem? (i := 564) (by decide +kernel))) rfl, gtb_mem (List.mem_append_right _ (List.mem_of_getElem? (i := 5) (by decide +kernel))) rfl, by decide +kernel⟩
theorem ov_X2_hasTile : okV yX2_hasTile := ⟨gtb_mem (List.mem_append_right _ (List.mem_of_getElem? (i := 562) (by decide +kernel))) rfl, gtb_mem (List.mem_append_right _ (List.mem_of_getElem? (i := 563) (by decide +kernel))) rfl⟩
theorem ok_X2_isBroken : okC yX2_isBroken cX2_isBroken 2 (some .boolean) 1 := ⟨gtb_mem (List.mem_append_right _ (List.mem_of_getElem? (i := 568) (by decide +kernel))) rfl, gtb_mem (List.mem_append_right _ (List.mem_of_getElem? (i := 5) (by decide +kernel))) rfl, by decide +kernel⟩
theorem ov_X2_isBroken : okV yX2_isBroken := ⟨gtb_mem (List.mem_append_right _ (List.mem_of_getElem? (i := 566) (by decide +kernel))) rfl, gtb_mem (List.mem_append_right _ (List.mem_of_getElem? (i := 567) (by decide +kernel))) rfl⟩
theorem ok_X2_jointBack : okC yX2_jointBack cX2_jointBack 6 (some .int) 3 := ⟨gtb_mem (List.mem_append_right _ (List.mem_of_getElem? (i := 734) (by decide +kernel))) rfl, gtb_mem (List.mem_append_right _ (List.mem_of_getElem? (i := 5) (by decide +kernel))) rfl, by decide +kernel⟩
theorem ov_X2_jointBack : okV yX2_jointBack := ⟨gtb_mem (List.mem_append_right _ (List.mem_of_getElem? (i := 732) (by decide +kernel))) rfl, gtb_mem (List.mem_append_right _ (List.mem_of_getElem? (i := 733) (by decide +kernel))) rfl⟩
theorem ok_X2_roomInAll : okC yX2_roomInAll cX2_roomInAll 1 (some .int) 0 := ⟨gtb_mem (List.mem_append_right _ (List.mem_of_getElem? (i := 582) (by decide +kernel))) rfl, gtb_mem (List.mem_append_right _ (List.mem_of_getElem? (i := 5) (by decide +kernel))) rfl, by decide +kernel⟩
theorem ov_X2_roomInAll : okV yX2_roomInAll := ⟨gtb_mem (List.mem_append_right _ (List.mem_of_getElem? (i := 580) (by decide +kernel))) rfl, gtb_mem (List.mem_append_right _ (List.mem_of_getElem? (i := 581) (by decide +kernel))) rfl⟩
theorem ok_X2_roomOf : okC yX2_roomOf cX2_roomOf 2 (some .int) 1 := ⟨gtb_mem (List.mem_append_right _ (List.mem_of_getElem? (i := 606) (by decide +kernel))) rfl, gtb_mem (List.mem_append_right _ (List.mem_of_getElem? (i := 5) (by decide +kernel))) rfl, by decide +kernel⟩
theorem ov_X2_roomOf : okV yX2_roomOf := ⟨gtb_mem (List.mem_append_right _ (List.mem_of_getElem? (i := 604) (by decide +kernel))) rfl, gtb_mem (List.mem_append_right _ (List.mem_of_getElem? (i := 605) (by decide +kernel))) rfl⟩
theorem ok_X2_shape : okC yX2_shape cX2_shape 7 none 4 := ⟨gtb_mem (List.mem_append_right _ (List.mem_of_getElem? (i := 337) (by decide +kernel))) rfl, gtb_mem (List.mem_append_right _ (List.mem_of_getElem? (i := 5) (by decide +kernel))) rfl, by decide +kernel⟩
theorem ov_X2_shape : okV yX2_shape := ⟨gtb_mem (List.mem_append_right _ (List.mem_of_getElem? (i := 335) (by decide +kernel))) rfl, gtb_mem (List.mem_append_right _ (List.mem_of_getElem? (i := 336) (by decide +kernel))) rfl⟩
theorem ok_X3_add : okC yX3_add cX3_add 6 (some .int) 4 := ⟨gtb_mem (List.mem_append_right _ (List.mem_of_getElem? (i := 398) (by decide +kernel))) rfl, gtb_mem (List.mem_append_right _ (List.mem_of_getElem? (i := 2) (by decide +kernel))) rfl, by decide +kernel⟩
theorem ov_X3_add : okV yX3_add := ⟨gtb_mem (List.mem_append_right _ (List.mem_of_getElem? (i := 397) (by decide +kernel))) rfl, gtb_mem (List.mem_append_left _ (List.mem_of_getElem? (i := 2) (by decide +kernel))) rfl⟩
theorem ok_X3_addGate : okC yX3_addGate cX3_addGate 4 (some .int) 3 := ⟨gtb_mem (List.mem_append_right _ (List.mem_of_getElem? (i := 434) (by decide +kernel))) rfl, gtb_mem (List.mem_append_right _ (List.mem_of_getElem? (i := 2) (by decide +kernel))) rfl, by decide +kernel⟩
theorem ov_X3_addGate : okV yX3_addGate := ⟨gtb_mem (List.mem_append_right _ (List.mem_of_getElem? (i := 432) (by decide +kernel))) rfl, gtb_mem (List.mem_append_right _ (List.mem_of_getElem? (i := 433) (by decide +kernel))) rfl⟩
theorem ok_X3_addInput : okC yX3_addInput cX3_addInput 1 (some .int) 0 := ⟨gtb_mem (List.mem_append_right _ (List.mem_of_getElem? (i := 394) (by decide +kernel))) rfl, gtb_mem (List.mem_append_right _ (List.mem_of_getElem? (i := 2) (by decide +kernel))) rfl, by decide +kernel⟩
theorem ov_X3_addInput : okV yX3_addInput := ⟨gtb_mem (List.mem_append_right _ (List.mem_of_getElem? (i := 392) (by decide +kernel))) rfl, gtb_mem (List.mem_append_right _ (List.mem_of_getElem? (i := 393) (by decide +kernel))) rfl⟩
theorem ok_X3_addKeeper : okC yX3_addKeeper cX3_addKeeper 2 (some .int) 1 := ⟨gtb_mem (List.mem_append_right _ (List.mem_of_getElem? (i := 422) (by decide +kernel))) rfl, gtb_mem (List.mem_append_right _ (List.mem_of_getElem? (i := 2) (by decide +kernel))) rfl, by decide +kernel⟩
theorem ov_X3_addKeeper : okV yX3_addKeeper := ⟨gtb_mem (List.mem_append_right _ (List.mem_of_getElem? (i := 420) (by decide +kernel))) rfl, gtb_mem (List.mem_append_right _ (List.mem_of_getElem? (i := 421) (by decide +kernel))) rfl⟩
theorem ok_X3_addOut : okC yX3_addOut cX3_addOut 2 none 1 := ⟨gtb_mem (List.mem_append_right _ (List.mem_of_getElem? (i := 482) (by decide +kernel))) rfl, gtb_mem (List.mem_append_right _ (List.mem_of_getElem? (i := 2) (by decide +kernel))) rfl, by decide +kernel⟩
theorem ov_X3_addOut : okV yX3_addOut := ⟨gtb_mem (List.mem_append_right _ (List.mem_of_getElem? (i := 480) (by decide +kernel))) rfl, gtb_mem (List.mem_append_right _ (List.mem_of_getElem? (i := 481) (by decide +kernel))) rfl⟩
theorem ok_X3_has : okC yX3_has cX3_has 2 (some .boolean) 1 := ⟨gtb_mem (List.mem_append_right _ (List.mem_of_getElem? (i := 474) (by decide +kernel))) rfl, gtb_mem (List.mem_append_right _ (List.mem_of_getElem? (i := 2) (by decide +kernel))) rfl, by decide +kernel⟩
theorem ov_X3_has : okV yX3_has := ⟨gtb_mem (List.mem_append_right _ (List.mem_of_getElem? (i := 472) (by decide +kernel))) rfl, gtb_mem (List.mem_append_right _ (List.mem_of_getElem? (i := 473) (by decide +kernel))) rfl⟩
theorem ok_X3_hasSign : okC yX3_hasSign cX3_hasSign 2 (some .boolean) 1 := ⟨gtb_mem (List.mem_append_right _ (List.mem_of_getElem? (i := 430) (by decide +kernel))) rfl, gtb_mem (List.mem_append_right _ (List.mem_of_getElem? (i := 2) (by decide +kernel))) rfl, by decide +kernel⟩
theorem ov_X3_hasSign : okV yX3_hasSign := ⟨gtb_mem (List.mem_append_right _ (List.mem_of_getElem? (i := 428) (by decide +kernel))) rfl, gtb_mem (List.mem_append_right _ (List.mem_of_getElem? (i := 429) (by decide +kernel))) rfl⟩
theorem ok_X3_reckon : okC yX3_reckon cX3_reckon 5 (some .int) 2 := ⟨gtb_mem (List.mem_append_right _ (List.mem_of_getElem? (i := 539) (by decide +kernel))) rfl, gtb_mem (List.mem_append_right _ (List.mem_of_getElem? (i := 2) (by decide +kernel))) rfl, by decide +kernel⟩
theorem ov_X3_reckon : okV yX3_reckon := ⟨gtb_mem (List.mem_append_right _ (List.mem_of_getElem? (i := 537) (by decide +kernel))) rfl, gtb_mem (List.mem_append_right _ (List.mem_of_getElem? (i := 538) (by decide +kernel))) rfl⟩
theorem ok_X3_word : okC yX3_word cX3_word 3 (some .int) 2 := ⟨gtb_mem (List.mem_append_right _ (List.mem_of_getElem? (i := 542) (by decide +kernel))) rfl, gtb_mem (List.mem_append_right _ (List.mem_of_getElem? (i := 2) (by decide +kernel))) rfl, by decide +kernel⟩
theorem ov_X3_word : Cond.static yX3_word ∈ gtb := gtb_mem (List.mem_append_right _ (List.mem_of_getElem? (i := 541) (by decide +kernel))) rfl
theorem ok_X4_hasStretch : okC yX4_hasStretch cX4_hasStretch 3 (some .boolean) 2 := ⟨gtb_mem (List.mem_append_right _ (List.mem_of_getElem? (i := 911) (by decide +kernel))) rfl, gtb_mem (List.mem_append_right _ (List.mem_of_getElem? (i := 10) (by decide +kernel))) rfl, by decide +kernel⟩
theorem ov_X4_hasStretch : okV yX4_hasStretch := ⟨gtb_mem (List.mem_append_right _ (List.mem_of_getElem? (i := 909) (by decide +kernel))) rfl, gtb_mem (List.mem_append_right _ (List.mem_of_getElem? (i := 910) (by decide +kernel))) rfl⟩
theorem ok_X4_take : okC yX4_take cX4_take 4 none 3 := ⟨gtb_mem (List.mem_append_right _ (List.mem_of_getElem? (i := 891) (by decide +kernel))) rfl, gtb_mem (List.mem_append_right _ (List.mem_of_getElem? (i := 10) (by decide +kernel))) rfl, by decide +kernel⟩
theorem ov_X4_take : okV yX4_take := ⟨gtb_mem (List.mem_append_right _ (List.mem_of_getElem? (i := 889) (by decide +kernel))) rfl, gtb_mem (List.mem_append_right _ (List.mem_of_getElem? (i := 890) (by decide +kernel))) rfl⟩
theorem ok_X5_carryOver : okC yX5_carryOver cX5_carryOver 3 none 2 := ⟨gtb_mem (List.mem_append_right _ (List.mem_of_getElem? (i := 627) (by decide +kernel))) rfl, gtb_mem (List.mem_append_right _ (List.mem_of_getElem? (i := 6) (by decide +kernel))) rfl, by decide +kernel⟩
theorem ov_X5_carryOver : okV yX5_carryOver := ⟨gtb_mem (List.mem_append_right _ (List.mem_of_getElem? (i := 625) (by decide +kernel))) rfl, gtb_mem (List.mem_append_right _ (List.mem_of_getElem? (i := 626) (by decide +kernel))) rfl⟩
theorem ok_X5_endsOf : okC yX5_endsOf cX5_endsOf 6 (some .long) 1 := ⟨gtb_mem (List.mem_append_right _ (List.mem_of_getElem? (i := 682) (by decide +kernel))) rfl, gtb_mem (List.mem_append_right _ (List.mem_of_getElem? (i := 6) (by decide +kernel))) rfl, by decide +kernel⟩
theorem ov_X5_endsOf : okV yX5_endsOf := ⟨gtb_mem (List.mem_append_right _ (List.mem_of_getElem? (i := 680) (by decide +kernel))) rfl, gtb_mem (List.mem_append_right _ (List.mem_of_getElem? (i := 681) (by decide +kernel))) rfl⟩
theorem ok_X5_exchange : okC yX5_exchange cX5_exchange 4 none 2 := ⟨gtb_mem (List.mem_append_right _ (List.mem_of_getElem? (i := 635) (by decide +kernel))) rfl, gtb_mem (List.mem_append_right _ (List.mem_of_getElem? (i := 6) (by decide +kernel))) rfl, by decide +kernel⟩
theorem ov_X5_exchange : okV yX5_exchange := ⟨gtb_mem (List.mem_append_right _ (List.mem_of_getElem? (i := 633) (by decide +kernel))) rfl, gtb_mem (List.mem_append_right _ (List.mem_of_getElem? (i := 634) (by decide +kernel))) rfl⟩
theorem ok_X5_exchangeUnlessLonger : okC yX5_exchangeUnlessLonger cX5_exchangeUnlessLonger 6 (some .boolean) 3 := ⟨gtb_mem (List.mem_append_right _ (List.mem_of_getElem? (i := 661) (by decide +kernel))) rfl, gtb_mem (List.mem_append_right _ (List.mem_of_getElem? (i := 6) (by decide +kernel))) rfl, by decide +kernel⟩
theorem ov_X5_exchangeUnlessLonger : okV yX5_exchangeUnlessLonger := ⟨gtb_mem (List.mem_append_right _ (List.mem_of_getElem? (i := 660) (by decide +kernel))) rfl, gtb_mem (List.mem_append_left _ (List.mem_of_getElem? (i := 14) (by decide +kernel))) rfl⟩
theorem ok_X5_feedersOf : okC yX5_feedersOf cX5_feedersOf 5 (some .int) 3 := ⟨gtb_mem (List.mem_append_right _ (List.mem_of_getElem? (i := 591) (by decide +kernel))) rfl, gtb_mem (List.mem_append_right _ (List.mem_of_getElem? (i := 6) (by decide +kernel))) rfl, by decide +kernel⟩
theorem ov_X5_feedersOf : Cond.static yX5_feedersOf ∈ gtb := gtb_mem (List.mem_append_right _ (List.mem_of_getElem? (i := 590) (by decide +kernel))) rfl
theorem ok_X5_gather : okC yX5_gather cX5_gather 4 none 2 := ⟨gtb_mem (List.mem_append_right _ (List.mem_of_getElem? (i := 587) (by decide +kernel))) rfl, gtb_mem (List.mem_append_right _ (List.mem_of_getElem? (i := 6) (by decide +kernel))) rfl, by decide +kernel⟩
theorem ov_X5_gather : okV yX5_gather := ⟨gtb_mem (List.mem_append_right _ (List.mem_of_getElem? (i := 585) (by decide +kernel))) rfl, gtb_mem (List.mem_append_right _ (List.mem_of_getElem? (i := 586) (by decide +kernel))) rfl⟩
theorem ok_X5_hasRoom : okC yX5_hasRoom cX5_hasRoom 3 (some .boolean) 2 := ⟨gtb_mem (List.mem_append_right _ (List.mem_of_getElem? (i := 623) (by decide +kernel))) rfl, gtb_mem (List.mem_append_right _ (List.mem_of_getElem? (i := 6) (by decide +kernel))) rfl, by decide +kernel⟩
theorem ov_X5_hasRoom : okV yX5_hasRoom := ⟨gtb_mem (List.mem_append_right _ (List.mem_of_getElem? (i := 621) (by decide +kernel))) rfl, gtb_mem (List.mem_append_right _ (List.mem_of_getElem? (i := 622) (by decide +kernel))) rfl⟩
theorem ok_X5_holds : okC yX5_holds cX5_holds 2 (some .boolean) 1 := ⟨gtb_mem (List.mem_append_right _ (List.mem_of_getElem? (i := 615) (by decide +kernel))) rfl, gtb_mem (List.mem_append_right _ (List.mem_of_getElem? (i := 6) (by decide +kernel))) rfl, by decide +kernel⟩
theorem ov_X5_holds : okV yX5_holds := ⟨gtb_mem (List.mem_append_right _ (List.mem_of_getElem? (i := 613) (by decide +kernel))) rfl, gtb_mem (List.mem_append_right _ (List.mem_of_getElem? (i := 614) (by decide +kernel))) rfl⟩
theorem ok_X5_linkUser : okC yX5_linkUser cX5_linkUser 4 none 2 := ⟨gtb_mem (List.mem_append_right _ (List.mem_of_getElem? (i := 597) (by decide +kernel))) rfl, gtb_mem (List.mem_append_right _ (List.mem_of_getElem? (i := 6) (by decide +kernel))) rfl, by decide +kernel⟩
theorem ov_X5_linkUser : okV yX5_linkUser := ⟨gtb_mem (List.mem_append_right _ (List.mem_of_getElem? (i := 596) (by decide +kernel))) rfl, gtb_mem (List.mem_append_left _ (List.mem_of_getElem? (i := 12) (by decide +kernel))) rfl⟩
theorem ok_X5_putAll : okC yX5_putAll cX5_putAll 5 none 1 := ⟨gtb_mem (List.mem_append_right _ (List.mem_of_getElem? (i := 602) (by decide +kernel))) rfl, gtb_mem (List.mem_append_right _ (List.mem_of_getElem? (i := 6) (by decide +kernel))) rfl, by decide +kernel⟩
theorem ov_X5_putAll : okV yX5_putAll := ⟨gtb_mem (List.mem_append_right _ (List.mem_of_getElem? (i := 600) (by decide +kernel))) rfl, gtb_mem (List.mem_append_right _ (List.mem_of_getElem? (i := 601) (by decide +kernel))) rfl⟩
theorem ok_X5_spanOf : okC yX5_spanOf cX5_spanOf 11 (some .int) 2 := ⟨gtb_mem (List.mem_append_right _ (List.mem_of_getElem? (i := 643) (by decide +kernel))) rfl, gtb_mem (List.mem_append_right _ (List.mem_of_getElem? (i := 6) (by decide +kernel))) rfl, by decide +kernel⟩
theorem ov_X5_spanOf : okV yX5_spanOf := ⟨gtb_mem (List.mem_append_right _ (List.mem_of_getElem? (i := 642) (by decide +kernel))) rfl, gtb_mem (List.mem_append_left _ (List.mem_of_getElem? (i := 13) (by decide +kernel))) rfl⟩
theorem ok_X5_spanOfAll : okC yX5_spanOfAll cX5_spanOfAll 4 (some .int) 1 := ⟨gtb_mem (List.mem_append_right _ (List.mem_of_getElem? (i := 639) (by decide +kernel))) rfl, gtb_mem (List.mem_append_right _ (List.mem_of_getElem? (i := 6) (by decide +kernel))) rfl, by decide +kernel⟩
theorem ov_X5_spanOfAll : okV yX5_spanOfAll := ⟨gtb_mem (List.mem_append_right _ (List.mem_of_getElem? (i := 637) (by decide +kernel))) rfl, gtb_mem (List.mem_append_right _ (List.mem_of_getElem? (i := 638) (by decide +kernel))) rfl⟩
theorem ok_X5_spanOfSome : okC yX5_spanOfSome cX5_spanOfSome 5 (some .int) 2 := ⟨gtb_mem (List.mem_append_right _ (List.mem_of_getElem? (i := 665) (by decide +kernel))) rfl, gtb_mem (List.mem_append_right _ (List.mem_of_getElem? (i := 6) (by decide +kernel))) rfl, by decide +kernel⟩
theorem ov_X5_spanOfSome : okV yX5_spanOfSome := ⟨gtb_mem (List.mem_append_right _ (List.mem_of_getElem? (i := 664) (by decide +kernel))) rfl, gtb_mem (List.mem_append_left _ (List.mem_of_getElem? (i := 15) (by decide +kernel))) rfl⟩
theorem ok_X5_tryExchanges : okC yX5_tryExchanges cX5_tryExchanges 11 (some .int) 3 := ⟨gtb_mem (List.mem_append_right _ (List.mem_of_getElem? (i := 655) (by decide +kernel))) rfl, gtb_mem (List.mem_append_right _ (List.mem_of_getElem? (i := 6) (by decide +kernel))) rfl, by decide +kernel⟩
theorem ov_X5_tryExchanges : okV yX5_tryExchanges := ⟨gtb_mem (List.mem_append_right _ (List.mem_of_getElem? (i := 653) (by decide +kernel))) rfl, gtb_mem (List.mem_append_right _ (List.mem_of_getElem? (i := 654) (by decide +kernel))) rfl⟩
theorem ok_X5_wireCount : okC yX5_wireCount cX5_wireCount 3 (some .int) 0 := ⟨gtb_mem (List.mem_append_right _ (List.mem_of_getElem? (i := 678) (by decide +kernel))) rfl, gtb_mem (List.mem_append_right _ (List.mem_of_getElem? (i := 6) (by decide +kernel))) rfl, by decide +kernel⟩
theorem ov_X5_wireCount : okV yX5_wireCount := ⟨gtb_mem (List.mem_append_right _ (List.mem_of_getElem? (i := 676) (by decide +kernel))) rfl, gtb_mem (List.mem_append_right _ (List.mem_of_getElem? (i := 677) (by decide +kernel))) rfl⟩
theorem ok_X6_begin : okC yX6_begin cX6_begin 3 none 1 := ⟨gtb_mem (List.mem_append_right _ (List.mem_of_getElem? (i := 348) (by decide +kernel))) rfl, gtb_mem (List.mem_append_right _ (List.mem_of_getElem? (i := 9) (by decide +kernel))) rfl, by decide +kernel⟩
theorem ov_X6_begin : okV yX6_begin := ⟨gtb_mem (List.mem_append_right _ (List.mem_of_getElem? (i := 346) (by decide +kernel))) rfl, gtb_mem (List.mem_append_right _ (List.mem_of_getElem? (i := 347) (by decide +kernel))) rfl⟩
theorem ok_X6_letterValue : okC yX6_letterValue cX6_letterValue 3 (some .int) 2 := ⟨gtb_mem (List.mem_append_right _ (List.mem_of_getElem? (i := 877) (by decide +kernel))) rfl, gtb_mem (List.mem_append_right _ (List.mem_of_getElem? (i := 9) (by decide +kernel))) rfl, by decide +kernel⟩
theorem ov_X6_letterValue : okV yX6_letterValue := ⟨gtb_mem (List.mem_append_right _ (List.mem_of_getElem? (i := 876) (by decide +kernel))) rfl, gtb_mem (List.mem_append_left _ (List.mem_of_getElem? (i := 31) (by decide +kernel))) rfl⟩
theorem ok_X6_outsOf : okC yX6_outsOf cX6_outsOf 4 (some .int) 2 := ⟨gtb_mem (List.mem_append_right _ (List.mem_of_getElem? (i := 856) (by decide +kernel))) rfl, gtb_mem (List.mem_append_right _ (List.mem_of_getElem? (i := 9) (by decide +kernel))) rfl, by decide +kernel⟩
theorem ov_X6_outsOf : Cond.static yX6_outsOf ∈ gtb := gtb_mem (List.mem_append_right _ (List.mem_of_getElem? (i := 855) (by decide +kernel))) rfl
theorem ok_X6_setKeepers : okC yX6_setKeepers cX6_setKeepers 4 none 3 := ⟨gtb_mem (List.mem_append_right _ (List.mem_of_getElem? (i := 860) (by decide +kernel))) rfl, gtb_mem (List.mem_append_right _ (List.mem_of_getElem? (i := 9) (by decide +kernel))) rfl, by decide +kernel⟩
theorem ov_X6_setKeepers : Cond.static yX6_setKeepers ∈ gtb := gtb_mem (List.mem_append_right _ (List.mem_of_getElem? (i := 859) (by decide +kernel))) rfl
theorem ok_X6_stepCloth : okC yX6_stepCloth cX6_stepCloth 7 none 4 := ⟨gtb_mem (List.mem_append_right _ (List.mem_of_getElem? (i := 864) (by decide +kernel))) rfl, gtb_mem (List.mem_append_right _ (List.mem_of_getElem? (i := 9) (by decide +kernel))) rfl, by decide +kernel⟩
theorem ov_X6_stepCloth : okV yX6_stepCloth := ⟨gtb_mem (List.mem_append_right _ (List.mem_of_getElem? (i := 862) (by decide +kernel))) rfl, gtb_mem (List.mem_append_right _ (List.mem_of_getElem? (i := 863) (by decide +kernel))) rfl⟩
theorem ok_X6_stepNet : okC yX6_stepNet cX6_stepNet 5 none 2 := ⟨gtb_mem (List.mem_append_right _ (List.mem_of_getElem? (i := 849) (by decide +kernel))) rfl, gtb_mem (List.mem_append_right _ (List.mem_of_getElem? (i := 9) (by decide +kernel))) rfl, by decide +kernel⟩
theorem ov_X6_stepNet : okV yX6_stepNet := ⟨gtb_mem (List.mem_append_right _ (List.mem_of_getElem? (i := 847) (by decide +kernel))) rfl, gtb_mem (List.mem_append_right _ (List.mem_of_getElem? (i := 848) (by decide +kernel))) rfl⟩
theorem ok_X6_tableValue : okC yX6_tableValue cX6_tableValue 7 (some .int) 4 := ⟨gtb_mem (List.mem_append_right _ (List.mem_of_getElem? (i := 869) (by decide +kernel))) rfl, gtb_mem (List.mem_append_right _ (List.mem_of_getElem? (i := 9) (by decide +kernel))) rfl, by decide +kernel⟩
theorem ov_X6_tableValue : okV yX6_tableValue := ⟨gtb_mem (List.mem_append_right _ (List.mem_of_getElem? (i := 868) (by decide +kernel))) rfl, gtb_mem (List.mem_append_left _ (List.mem_of_getElem? (i := 30) (by decide +kernel))) rfl⟩
theorem ok_X6_takeInputs : okC yX6_takeInputs cX6_takeInputs 5 none 3 := ⟨gtb_mem (List.mem_append_right _ (List.mem_of_getElem? (i := 852) (by decide +kernel))) rfl, gtb_mem (List.mem_append_right _ (List.mem_of_getElem? (i := 9) (by decide +kernel))) rfl, by decide +kernel⟩
theorem ov_X6_takeInputs : Cond.static yX6_takeInputs ∈ gtb := gtb_mem (List.mem_append_right _ (List.mem_of_getElem? (i := 851) (by decide +kernel))) rfl
theorem ok_X7_askedFor : okC yX7_askedFor cX7_askedFor 3 (some .int) 1 := ⟨gtb_mem (List.mem_append_right _ (List.mem_of_getElem? (i := 517) (by decide +kernel))) rfl, gtb_mem (List.mem_append_right _ (List.mem_of_getElem? (i := 4) (by decide +kernel))) rfl, by decide +kernel⟩
theorem ov_X7_askedFor : Cond.static yX7_askedFor ∈ gtb := gtb_mem (List.mem_append_right _ (List.mem_of_getElem? (i := 516) (by decide +kernel))) rfl
theorem ok_X7_find : okC yX7_find cX7_find 5 none 2 := ⟨gtb_mem (List.mem_append_right _ (List.mem_of_getElem? (i := 514) (by decide +kernel))) rfl, gtb_mem (List.mem_append_right _ (List.mem_of_getElem? (i := 4) (by decide +kernel))) rfl, by decide +kernel⟩
theorem ov_X7_find : okV yX7_find := ⟨gtb_mem (List.mem_append_right _ (List.mem_of_getElem? (i := 512) (by decide +kernel))) rfl, gtb_mem (List.mem_append_right _ (List.mem_of_getElem? (i := 513) (by decide +kernel))) rfl⟩
theorem ok_X7_isTable : okC yX7_isTable cX7_isTable 2 (some .boolean) 1 := ⟨gtb_mem (List.mem_append_right _ (List.mem_of_getElem? (i := 521) (by decide +kernel))) rfl, gtb_mem (List.mem_append_right _ (List.mem_of_getElem? (i := 4) (by decide +kernel))) rfl, by decide +kernel⟩
theorem ov_X7_isTable : okV yX7_isTable := ⟨gtb_mem (List.mem_append_right _ (List.mem_of_getElem? (i := 519) (by decide +kernel))) rfl, gtb_mem (List.mem_append_right _ (List.mem_of_getElem? (i := 520) (by decide +kernel))) rfl⟩
theorem ok_X7_letter : okC yX7_letter cX7_letter 3 (some .int) 2 := ⟨gtb_mem (List.mem_append_right _ (List.mem_of_getElem? (i := 552) (by decide +kernel))) rfl, gtb_mem (List.mem_append_right _ (List.mem_of_getElem? (i := 4) (by decide +kernel))) rfl, by decide +kernel⟩
theorem ov_X7_letter : okV yX7_letter := ⟨gtb_mem (List.mem_append_right _ (List.mem_of_getElem? (i := 550) (by decide +kernel))) rfl, gtb_mem (List.mem_append_right _ (List.mem_of_getElem? (i := 551) (by decide +kernel))) rfl⟩
theorem ok_X7_reckonBits : okC yX7_reckonBits cX7_reckonBits 6 (some .int) 3 := ⟨gtb_mem (List.mem_append_right _ (List.mem_of_getElem? (i := 533) (by decide +kernel))) rfl, gtb_mem (List.mem_append_right _ (List.mem_of_getElem? (i := 4) (by decide +kernel))) rfl, by decide +kernel⟩
theorem ov_X7_reckonBits : okV yX7_reckonBits := ⟨gtb_mem (List.mem_append_right _ (List.mem_of_getElem? (i := 532) (by decide +kernel))) rfl, gtb_mem (List.mem_append_left _ (List.mem_of_getElem? (i := 11) (by decide +kernel))) rfl⟩
theorem ok_X7_takeLetters : okC yX7_takeLetters cX7_takeLetters 5 none 2 := ⟨gtb_mem (List.mem_append_right _ (List.mem_of_getElem? (i := 529) (by decide +kernel))) rfl, gtb_mem (List.mem_append_right _ (List.mem_of_getElem? (i := 4) (by decide +kernel))) rfl, by decide +kernel⟩
theorem ov_X7_takeLetters : okV yX7_takeLetters := ⟨gtb_mem (List.mem_append_right _ (List.mem_of_getElem? (i := 528) (by decide +kernel))) rfl, gtb_mem (List.mem_append_left _ (List.mem_of_getElem? (i := 10) (by decide +kernel))) rfl⟩
theorem ok_X8_addPasts : okC yX8_addPasts cX8_addPasts 4 (some .boolean) 1 := ⟨gtb_mem (List.mem_append_right _ (List.mem_of_getElem? (i := 747) (by decide +kernel))) rfl, gtb_mem (List.mem_append_right _ (List.mem_of_getElem? (i := 7) (by decide +kernel))) rfl, by decide +kernel⟩
theorem ov_X8_addPasts : okV yX8_addPasts := ⟨gtb_mem (List.mem_append_right _ (List.mem_of_getElem? (i := 746) (by decide +kernel))) rfl, gtb_mem (List.mem_append_left _ (List.mem_of_getElem? (i := 24) (by decide +kernel))) rfl⟩
theorem ok_X8_goBack : okC yX8_goBack cX8_goBack 9 none 3 := ⟨gtb_mem (List.mem_append_right _ (List.mem_of_getElem? (i := 730) (by decide +kernel))) rfl, gtb_mem (List.mem_append_right _ (List.mem_of_getElem? (i := 7) (by decide +kernel))) rfl, by decide +kernel⟩
theorem ov_X8_goBack : okV yX8_goBack := ⟨gtb_mem (List.mem_append_right _ (List.mem_of_getElem? (i := 729) (by decide +kernel))) rfl, gtb_mem (List.mem_append_left _ (List.mem_of_getElem? (i := 22) (by decide +kernel))) rfl⟩
theorem ok_X8_joinTree : okC yX8_joinTree cX8_joinTree 5 none 2 := ⟨gtb_mem (List.mem_append_right _ (List.mem_of_getElem? (i := 743) (by decide +kernel))) rfl, gtb_mem (List.mem_append_right _ (List.mem_of_getElem? (i := 7) (by decide +kernel))) rfl, by decide +kernel⟩
theorem ov_X8_joinTree : okV yX8_joinTree := ⟨gtb_mem (List.mem_append_right _ (List.mem_of_getElem? (i := 742) (by decide +kernel))) rfl, gtb_mem (List.mem_append_left _ (List.mem_of_getElem? (i := 23) (by decide +kernel))) rfl⟩
theorem ok_X8_jointOf : okC yX8_jointOf cX8_jointOf 6 (some .int) 3 := ⟨gtb_mem (List.mem_append_right _ (List.mem_of_getElem? (i := 763) (by decide +kernel))) rfl, gtb_mem (List.mem_append_right _ (List.mem_of_getElem? (i := 7) (by decide +kernel))) rfl, by decide +kernel⟩
theorem ov_X8_jointOf : okV yX8_jointOf := ⟨gtb_mem (List.mem_append_right _ (List.mem_of_getElem? (i := 761) (by decide +kernel))) rfl, gtb_mem (List.mem_append_right _ (List.mem_of_getElem? (i := 762) (by decide +kernel))) rfl⟩
theorem ok_X8_leadAll : okC yX8_leadAll cX8_leadAll 6 (some .int) 3 := ⟨gtb_mem (List.mem_append_right _ (List.mem_of_getElem? (i := 693) (by decide +kernel))) rfl, gtb_mem (List.mem_append_right _ (List.mem_of_getElem? (i := 7) (by decide +kernel))) rfl, by decide +kernel⟩
theorem ov_X8_leadAll : okV yX8_leadAll := ⟨gtb_mem (List.mem_append_right _ (List.mem_of_getElem? (i := 691) (by decide +kernel))) rfl, gtb_mem (List.mem_append_right _ (List.mem_of_getElem? (i := 692) (by decide +kernel))) rfl⟩
theorem ok_X8_leadWire : okC yX8_leadWire cX8_leadWire 7 none 3 := ⟨gtb_mem (List.mem_append_right _ (List.mem_of_getElem? (i := 701) (by decide +kernel))) rfl, gtb_mem (List.mem_append_right _ (List.mem_of_getElem? (i := 7) (by decide +kernel))) rfl, by decide +kernel⟩
theorem ov_X8_leadWire : okV yX8_leadWire := ⟨gtb_mem (List.mem_append_right _ (List.mem_of_getElem? (i := 700) (by decide +kernel))) rfl, gtb_mem (List.mem_append_left _ (List.mem_of_getElem? (i := 16) (by decide +kernel))) rfl⟩
theorem ok_X8_longestOf : okC yX8_longestOf cX8_longestOf 8 (some .int) 3 := ⟨gtb_mem (List.mem_append_right _ (List.mem_of_getElem? (i := 779) (by decide +kernel))) rfl, gtb_mem (List.mem_append_right _ (List.mem_of_getElem? (i := 7) (by decide +kernel))) rfl, by decide +kernel⟩
theorem ov_X8_longestOf : okV yX8_longestOf := ⟨gtb_mem (List.mem_append_right _ (List.mem_of_getElem? (i := 778) (by decide +kernel))) rfl, gtb_mem (List.mem_append_left _ (List.mem_of_getElem? (i := 25) (by decide +kernel))) rfl⟩
theorem ok_X8_longestOfAll : okC yX8_longestOfAll cX8_longestOfAll 5 (some .int) 2 := ⟨gtb_mem (List.mem_append_right _ (List.mem_of_getElem? (i := 775) (by decide +kernel))) rfl, gtb_mem (List.mem_append_right _ (List.mem_of_getElem? (i := 7) (by decide +kernel))) rfl, by decide +kernel⟩
theorem ov_X8_longestOfAll : okV yX8_longestOfAll := ⟨gtb_mem (List.mem_append_right _ (List.mem_of_getElem? (i := 773) (by decide +kernel))) rfl, gtb_mem (List.mem_append_right _ (List.mem_of_getElem? (i := 774) (by decide +kernel))) rfl⟩
theorem ok_X8_measure : okC yX8_measure cX8_measure 7 none 2 := ⟨gtb_mem (List.mem_append_right _ (List.mem_of_getElem? (i := 722) (by decide +kernel))) rfl, gtb_mem (List.mem_append_right _ (List.mem_of_getElem? (i := 7) (by decide +kernel))) rfl, by decide +kernel⟩
theorem ov_X8_measure : okV yX8_measure := ⟨gtb_mem (List.mem_append_right _ (List.mem_of_getElem? (i := 721) (by decide +kernel))) rfl, gtb_mem (List.mem_append_left _ (List.mem_of_getElem? (i := 20) (by decide +kernel))) rfl⟩
theorem ok_X8_plantTree : okC yX8_plantTree cX8_plantTree 2 none 1 := ⟨gtb_mem (List.mem_append_right _ (List.mem_of_getElem? (i := 716) (by decide +kernel))) rfl, gtb_mem (List.mem_append_right _ (List.mem_of_getElem? (i := 7) (by decide +kernel))) rfl, by decide +kernel⟩
theorem ov_X8_plantTree : okV yX8_plantTree := ⟨gtb_mem (List.mem_append_right _ (List.mem_of_getElem? (i := 715) (by decide +kernel))) rfl, gtb_mem (List.mem_append_left _ (List.mem_of_getElem? (i := 19) (by decide +kernel))) rfl⟩
theorem ok_X8_relax : okC yX8_relax cX8_relax 6 (some .boolean) 2 := ⟨gtb_mem (List.mem_append_right _ (List.mem_of_getElem? (i := 726) (by decide +kernel))) rfl, gtb_mem (List.mem_append_right _ (List.mem_of_getElem? (i := 7) (by decide +kernel))) rfl, by decide +kernel⟩
theorem ov_X8_relax : okV yX8_relax := ⟨gtb_mem (List.mem_append_right _ (List.mem_of_getElem? (i := 725) (by decide +kernel))) rfl, gtb_mem (List.mem_append_left _ (List.mem_of_getElem? (i := 21) (by decide +kernel))) rfl⟩
theorem ok_X8_setPrices : okC yX8_setPrices cX8_setPrices 3 none 1 := ⟨gtb_mem (List.mem_append_right _ (List.mem_of_getElem? (i := 711) (by decide +kernel))) rfl, gtb_mem (List.mem_append_right _ (List.mem_of_getElem? (i := 7) (by decide +kernel))) rfl, by decide +kernel⟩
theorem ov_X8_setPrices : okV yX8_setPrices := ⟨gtb_mem (List.mem_append_right _ (List.mem_of_getElem? (i := 710) (by decide +kernel))) rfl, gtb_mem (List.mem_append_left _ (List.mem_of_getElem? (i := 18) (by decide +kernel))) rfl⟩
theorem ok_X8_takeOff : okC yX8_takeOff cX8_takeOff 4 none 2 := ⟨gtb_mem (List.mem_append_right _ (List.mem_of_getElem? (i := 705) (by decide +kernel))) rfl, gtb_mem (List.mem_append_right _ (List.mem_of_getElem? (i := 7) (by decide +kernel))) rfl, by decide +kernel⟩
theorem ov_X8_takeOff : okV yX8_takeOff := ⟨gtb_mem (List.mem_append_right _ (List.mem_of_getElem? (i := 704) (by decide +kernel))) rfl, gtb_mem (List.mem_append_left _ (List.mem_of_getElem? (i := 17) (by decide +kernel))) rfl⟩
theorem ok_X9_back : okC yX9_back cX9_back 1 (some .int) 0 := ⟨gtb_mem (List.mem_append_right _ (List.mem_of_getElem? (i := 828) (by decide +kernel))) rfl, gtb_mem (List.mem_append_right _ (List.mem_of_getElem? (i := 1) (by decide +kernel))) rfl, by decide +kernel⟩
theorem ov_X9_back : okV yX9_back := ⟨gtb_mem (List.mem_append_right _ (List.mem_of_getElem? (i := 826) (by decide +kernel))) rfl, gtb_mem (List.mem_append_right _ (List.mem_of_getElem? (i := 827) (by decide +kernel))) rfl⟩
theorem ok_X9_bend : okC yX9_bend cX9_bend 6 (some .int) 3 := ⟨gtb_mem (List.mem_append_right _ (List.mem_of_getElem? (i := 816) (by decide +kernel))) rfl, gtb_mem (List.mem_append_right _ (List.mem_of_getElem? (i := 1) (by decide +kernel))) rfl, by decide +kernel⟩
theorem ov_X9_bend : okV yX9_bend := ⟨gtb_mem (List.mem_append_right _ (List.mem_of_getElem? (i := 814) (by decide +kernel))) rfl, gtb_mem (List.mem_append_right _ (List.mem_of_getElem? (i := 815) (by decide +kernel))) rfl⟩
theorem ok_X9_broken : okC yX9_broken cX9_broken 4 (some .int) 2 := ⟨gtb_mem (List.mem_append_right _ (List.mem_of_getElem? (i := 560) (by decide +kernel))) rfl, gtb_mem (List.mem_append_right _ (List.mem_of_getElem? (i := 1) (by decide +kernel))) rfl, by decide +kernel⟩
theorem ov_X9_broken : okV yX9_broken := ⟨gtb_mem (List.mem_append_right _ (List.mem_of_getElem? (i := 558) (by decide +kernel))) rfl, gtb_mem (List.mem_append_right _ (List.mem_of_getElem? (i := 559) (by decide +kernel))) rfl⟩
theorem ok_X9_cell : okC yX9_cell cX9_cell 3 (some .int) 2 := ⟨gtb_mem (List.mem_append_right _ (List.mem_of_getElem? (i := 486) (by decide +kernel))) rfl, gtb_mem (List.mem_append_right _ (List.mem_of_getElem? (i := 1) (by decide +kernel))) rfl, by decide +kernel⟩
theorem ov_X9_cell : okV yX9_cell := ⟨gtb_mem (List.mem_append_right _ (List.mem_of_getElem? (i := 484) (by decide +kernel))) rfl, gtb_mem (List.mem_append_right _ (List.mem_of_getElem? (i := 485) (by decide +kernel))) rfl⟩
theorem ok_X9_check : okC yX9_check cX9_check 1 (some .int) 0 := ⟨gtb_mem (List.mem_append_right _ (List.mem_of_getElem? (i := 820) (by decide +kernel))) rfl, gtb_mem (List.mem_append_right _ (List.mem_of_getElem? (i := 1) (by decide +kernel))) rfl, by decide +kernel⟩
theorem ov_X9_check : okV yX9_check := ⟨gtb_mem (List.mem_append_right _ (List.mem_of_getElem? (i := 818) (by decide +kernel))) rfl, gtb_mem (List.mem_append_right _ (List.mem_of_getElem? (i := 819) (by decide +kernel))) rfl⟩
theorem ok_X9_clock : okC yX9_clock cX9_clock 2 (some .int) 1 := ⟨gtb_mem (List.mem_append_right _ (List.mem_of_getElem? (i := 845) (by decide +kernel))) rfl, gtb_mem (List.mem_append_right _ (List.mem_of_getElem? (i := 1) (by decide +kernel))) rfl, by decide +kernel⟩
theorem ov_X9_clock : okV yX9_clock := ⟨gtb_mem (List.mem_append_right _ (List.mem_of_getElem? (i := 843) (by decide +kernel))) rfl, gtb_mem (List.mem_append_right _ (List.mem_of_getElem? (i := 844) (by decide +kernel))) rfl⟩
theorem ok_X9_cloth : okC yX9_cloth cX9_cloth 5 (some .int) 4 := ⟨gtb_mem (List.mem_append_right _ (List.mem_of_getElem? (i := 556) (by decide +kernel))) rfl, gtb_mem (List.mem_append_right _ (List.mem_of_getElem? (i := 1) (by decide +kernel))) rfl, by decide +kernel⟩
theorem ov_X9_cloth : okV yX9_cloth := ⟨gtb_mem (List.mem_append_right _ (List.mem_of_getElem? (i := 554) (by decide +kernel))) rfl, gtb_mem (List.mem_append_right _ (List.mem_of_getElem? (i := 555) (by decide +kernel))) rfl⟩
theorem ok_X9_copy : okC yX9_copy cX9_copy 4 (some .int) 3 := ⟨gtb_mem (List.mem_append_right _ (List.mem_of_getElem? (i := 907) (by decide +kernel))) rfl, gtb_mem (List.mem_append_right _ (List.mem_of_getElem? (i := 1) (by decide +kernel))) rfl, by decide +kernel⟩
theorem ov_X9_copy : okV yX9_copy := ⟨gtb_mem (List.mem_append_right _ (List.mem_of_getElem? (i := 905) (by decide +kernel))) rfl, gtb_mem (List.mem_append_right _ (List.mem_of_getElem? (i := 906) (by decide +kernel))) rfl⟩
theorem ok_X9_cost : okC yX9_cost cX9_cost 1 (some .int) 0 := ⟨gtb_mem (List.mem_append_right _ (List.mem_of_getElem? (i := 670) (by decide +kernel))) rfl, gtb_mem (List.mem_append_right _ (List.mem_of_getElem? (i := 1) (by decide +kernel))) rfl, by decide +kernel⟩
theorem ov_X9_cost : okV yX9_cost := ⟨gtb_mem (List.mem_append_right _ (List.mem_of_getElem? (i := 668) (by decide +kernel))) rfl, gtb_mem (List.mem_append_right _ (List.mem_of_getElem? (i := 669) (by decide +kernel))) rfl⟩
theorem ok_X9_cut : okC yX9_cut cX9_cut 4 (some .int) 2 := ⟨gtb_mem (List.mem_append_right _ (List.mem_of_getElem? (i := 498) (by decide +kernel))) rfl, gtb_mem (List.mem_append_right _ (List.mem_of_getElem? (i := 1) (by decide +kernel))) rfl, by decide +kernel⟩
theorem ov_X9_cut : okV yX9_cut := ⟨gtb_mem (List.mem_append_right _ (List.mem_of_getElem? (i := 496) (by decide +kernel))) rfl, gtb_mem (List.mem_append_right _ (List.mem_of_getElem? (i := 497) (by decide +kernel))) rfl⟩
theorem ok_X9_cuts : okC yX9_cuts cX9_cuts 3 (some .int) 1 := ⟨gtb_mem (List.mem_append_right _ (List.mem_of_getElem? (i := 490) (by decide +kernel))) rfl, gtb_mem (List.mem_append_right _ (List.mem_of_getElem? (i := 1) (by decide +kernel))) rfl, by decide +kernel⟩
theorem ov_X9_cuts : okV yX9_cuts := ⟨gtb_mem (List.mem_append_right _ (List.mem_of_getElem? (i := 488) (by decide +kernel))) rfl, gtb_mem (List.mem_append_right _ (List.mem_of_getElem? (i := 489) (by decide +kernel))) rfl⟩
theorem ok_X9_depth : okC yX9_depth cX9_depth 2 (some .int) 1 := ⟨gtb_mem (List.mem_append_right _ (List.mem_of_getElem? (i := 506) (by decide +kernel))) rfl, gtb_mem (List.mem_append_right _ (List.mem_of_getElem? (i := 1) (by decide +kernel))) rfl, by decide +kernel⟩
theorem ov_X9_depth : okV yX9_depth := ⟨gtb_mem (List.mem_append_right _ (List.mem_of_getElem? (i := 504) (by decide +kernel))) rfl, gtb_mem (List.mem_append_right _ (List.mem_of_getElem? (i := 505) (by decide +kernel))) rfl⟩
theorem ok_X9_forgetPlaces : okC yX9_forgetPlaces cX9_forgetPlaces 1 none 0 := ⟨gtb_mem (List.mem_append_right _ (List.mem_of_getElem? (i := 410) (by decide +kernel))) rfl, gtb_mem (List.mem_append_right _ (List.mem_of_getElem? (i := 1) (by decide +kernel))) rfl, by decide +kernel⟩
theorem ov_X9_forgetPlaces : okV yX9_forgetPlaces := ⟨gtb_mem (List.mem_append_right _ (List.mem_of_getElem? (i := 409) (by decide +kernel))) rfl, gtb_mem (List.mem_append_left _ (List.mem_of_getElem? (i := 4) (by decide +kernel))) rfl⟩
theorem ok_X9_forgetTables : okC yX9_forgetTables cX9_forgetTables 1 none 0 := ⟨gtb_mem (List.mem_append_right _ (List.mem_of_getElem? (i := 406) (by decide +kernel))) rfl, gtb_mem (List.mem_append_right _ (List.mem_of_getElem? (i := 1) (by decide +kernel))) rfl, by decide +kernel⟩
theorem ov_X9_forgetTables : okV yX9_forgetTables := ⟨gtb_mem (List.mem_append_right _ (List.mem_of_getElem? (i := 405) (by decide +kernel))) rfl, gtb_mem (List.mem_append_left _ (List.mem_of_getElem? (i := 3) (by decide +kernel))) rfl⟩
theorem ok_X9_forgetWays : okC yX9_forgetWays cX9_forgetWays 1 none 0 := ⟨gtb_mem (List.mem_append_right _ (List.mem_of_getElem? (i := 414) (by decide +kernel))) rfl, gtb_mem (List.mem_append_right _ (List.mem_of_getElem? (i := 1) (by decide +kernel))) rfl, by decide +kernel⟩
theorem ov_X9_forgetWays : okV yX9_forgetWays := ⟨gtb_mem (List.mem_append_right _ (List.mem_of_getElem? (i := 413) (by decide +kernel))) rfl, gtb_mem (List.mem_append_left _ (List.mem_of_getElem? (i := 5) (by decide +kernel))) rfl⟩
theorem ok_X9_frames : okC yX9_frames cX9_frames 1 (some .int) 0 := ⟨gtb_mem (List.mem_append_right _ (List.mem_of_getElem? (i := 783) (by decide +kernel))) rfl, gtb_mem (List.mem_append_right _ (List.mem_of_getElem? (i := 1) (by decide +kernel))) rfl, by decide +kernel⟩
theorem ov_X9_frames : okV yX9_frames := ⟨gtb_mem (List.mem_append_right _ (List.mem_of_getElem? (i := 781) (by decide +kernel))) rfl, gtb_mem (List.mem_append_right _ (List.mem_of_getElem? (i := 782) (by decide +kernel))) rfl⟩
theorem ok_X9_gate : okC yX9_gate cX9_gate 5 (some .int) 3 := ⟨gtb_mem (List.mem_append_right _ (List.mem_of_getElem? (i := 426) (by decide +kernel))) rfl, gtb_mem (List.mem_append_right _ (List.mem_of_getElem? (i := 1) (by decide +kernel))) rfl, by decide +kernel⟩
theorem ov_X9_gate : okV yX9_gate := ⟨gtb_mem (List.mem_append_right _ (List.mem_of_getElem? (i := 424) (by decide +kernel))) rfl, gtb_mem (List.mem_append_right _ (List.mem_of_getElem? (i := 425) (by decide +kernel))) rfl⟩
theorem ok_X9_hasBit : okC yX9_hasBit cX9_hasBit 3 (some .boolean) 2 := ⟨gtb_mem (List.mem_append_right _ (List.mem_of_getElem? (i := 524) (by decide +kernel))) rfl, gtb_mem (List.mem_append_right _ (List.mem_of_getElem? (i := 1) (by decide +kernel))) rfl, by decide +kernel⟩
theorem ov_X9_hasBit : Cond.static yX9_hasBit ∈ gtb := gtb_mem (List.mem_append_right _ (List.mem_of_getElem? (i := 523) (by decide +kernel))) rfl
theorem ok_X9_input : okC yX9_input cX9_input 2 (some .int) 0 := ⟨gtb_mem (List.mem_append_right _ (List.mem_of_getElem? (i := 383) (by decide +kernel))) rfl, gtb_mem (List.mem_append_right _ (List.mem_of_getElem? (i := 1) (by decide +kernel))) rfl, by decide +kernel⟩
theorem ov_X9_input : okV yX9_input := ⟨gtb_mem (List.mem_append_right _ (List.mem_of_getElem? (i := 381) (by decide +kernel))) rfl, gtb_mem (List.mem_append_right _ (List.mem_of_getElem? (i := 382) (by decide +kernel))) rfl⟩
theorem ok_X9_joint : okC yX9_joint cX9_joint 2 (some .int) 1 := ⟨gtb_mem (List.mem_append_right _ (List.mem_of_getElem? (i := 751) (by decide +kernel))) rfl, gtb_mem (List.mem_append_right _ (List.mem_of_getElem? (i := 1) (by decide +kernel))) rfl, by decide +kernel⟩
theorem ov_X9_joint : okV yX9_joint := ⟨gtb_mem (List.mem_append_right _ (List.mem_of_getElem? (i := 749) (by decide +kernel))) rfl, gtb_mem (List.mem_append_right _ (List.mem_of_getElem? (i := 750) (by decide +kernel))) rfl⟩
theorem ok_X9_keeper : okC yX9_keeper cX9_keeper 3 (some .int) 1 := ⟨gtb_mem (List.mem_append_right _ (List.mem_of_getElem? (i := 418) (by decide +kernel))) rfl, gtb_mem (List.mem_append_right _ (List.mem_of_getElem? (i := 1) (by decide +kernel))) rfl, by decide +kernel⟩
theorem ov_X9_keeper : okV yX9_keeper := ⟨gtb_mem (List.mem_append_right _ (List.mem_of_getElem? (i := 416) (by decide +kernel))) rfl, gtb_mem (List.mem_append_right _ (List.mem_of_getElem? (i := 417) (by decide +kernel))) rfl⟩
theorem ok_X9_lay : okC yX9_lay cX9_lay 2 (some .int) 1 := ⟨gtb_mem (List.mem_append_right _ (List.mem_of_getElem? (i := 887) (by decide +kernel))) rfl, gtb_mem (List.mem_append_right _ (List.mem_of_getElem? (i := 1) (by decide +kernel))) rfl, by decide +kernel⟩
theorem ov_X9_lay : okV yX9_lay := ⟨gtb_mem (List.mem_append_right _ (List.mem_of_getElem? (i := 885) (by decide +kernel))) rfl, gtb_mem (List.mem_append_right _ (List.mem_of_getElem? (i := 886) (by decide +kernel))) rfl⟩
theorem ok_X9_lead : okC yX9_lead cX9_lead 2 (some .int) 1 := ⟨gtb_mem (List.mem_append_right _ (List.mem_of_getElem? (i := 689) (by decide +kernel))) rfl, gtb_mem (List.mem_append_right _ (List.mem_of_getElem? (i := 1) (by decide +kernel))) rfl, by decide +kernel⟩
theorem ov_X9_lead : okV yX9_lead := ⟨gtb_mem (List.mem_append_right _ (List.mem_of_getElem? (i := 687) (by decide +kernel))) rfl, gtb_mem (List.mem_append_right _ (List.mem_of_getElem? (i := 688) (by decide +kernel))) rfl⟩
theorem ok_X9_longest : okC yX9_longest cX9_longest 1 (some .int) 0 := ⟨gtb_mem (List.mem_append_right _ (List.mem_of_getElem? (i := 771) (by decide +kernel))) rfl, gtb_mem (List.mem_append_right _ (List.mem_of_getElem? (i := 1) (by decide +kernel))) rfl, by decide +kernel⟩
theorem ov_X9_longest : okV yX9_longest := ⟨gtb_mem (List.mem_append_right _ (List.mem_of_getElem? (i := 769) (by decide +kernel))) rfl, gtb_mem (List.mem_append_right _ (List.mem_of_getElem? (i := 770) (by decide +kernel))) rfl⟩
theorem ok_X9_move : okC yX9_move cX9_move 4 (some .int) 2 := ⟨gtb_mem (List.mem_append_right _ (List.mem_of_getElem? (i := 619) (by decide +kernel))) rfl, gtb_mem (List.mem_append_right _ (List.mem_of_getElem? (i := 1) (by decide +kernel))) rfl, by decide +kernel⟩
theorem ov_X9_move : okV yX9_move := ⟨gtb_mem (List.mem_append_right _ (List.mem_of_getElem? (i := 617) (by decide +kernel))) rfl, gtb_mem (List.mem_append_right _ (List.mem_of_getElem? (i := 618) (by decide +kernel))) rfl⟩
theorem ok_X9_octet : okC yX9_octet cX9_octet 4 (some .int) 2 := ⟨gtb_mem (List.mem_append_right _ (List.mem_of_getElem? (i := 804) (by decide +kernel))) rfl, gtb_mem (List.mem_append_right _ (List.mem_of_getElem? (i := 1) (by decide +kernel))) rfl, by decide +kernel⟩
theorem ov_X9_octet : okV yX9_octet := ⟨gtb_mem (List.mem_append_right _ (List.mem_of_getElem? (i := 802) (by decide +kernel))) rfl, gtb_mem (List.mem_append_right _ (List.mem_of_getElem? (i := 803) (by decide +kernel))) rfl⟩
theorem ok_X9_out : okC yX9_out cX9_out 2 (some .int) 1 := ⟨gtb_mem (List.mem_append_right _ (List.mem_of_getElem? (i := 478) (by decide +kernel))) rfl, gtb_mem (List.mem_append_right _ (List.mem_of_getElem? (i := 1) (by decide +kernel))) rfl, by decide +kernel⟩
theorem ov_X9_out : okV yX9_out := ⟨gtb_mem (List.mem_append_right _ (List.mem_of_getElem? (i := 476) (by decide +kernel))) rfl, gtb_mem (List.mem_append_right _ (List.mem_of_getElem? (i := 477) (by decide +kernel))) rfl⟩
theorem ok_X9_refuse : okC yX9_refuse cX9_refuse 2 (some .int) 1 := ⟨gtb_mem (List.mem_append_right _ (List.mem_of_getElem? (i := 387) (by decide +kernel))) rfl, gtb_mem (List.mem_append_right _ (List.mem_of_getElem? (i := 1) (by decide +kernel))) rfl, by decide +kernel⟩
theorem ov_X9_refuse : okV yX9_refuse := ⟨gtb_mem (List.mem_append_right _ (List.mem_of_getElem? (i := 386) (by decide +kernel))) rfl, gtb_mem (List.mem_append_left _ (List.mem_of_getElem? (i := 1) (by decide +kernel))) rfl⟩
theorem ok_X9_row : okC yX9_row cX9_row 2 (some .int) 1 := ⟨gtb_mem (List.mem_append_right _ (List.mem_of_getElem? (i := 903) (by decide +kernel))) rfl, gtb_mem (List.mem_append_right _ (List.mem_of_getElem? (i := 1) (by decide +kernel))) rfl, by decide +kernel⟩
theorem ov_X9_row : okV yX9_row := ⟨gtb_mem (List.mem_append_right _ (List.mem_of_getElem? (i := 901) (by decide +kernel))) rfl, gtb_mem (List.mem_append_right _ (List.mem_of_getElem? (i := 902) (by decide +kernel))) rfl⟩
theorem ok_X9_set : okC yX9_set cX9_set 1 (some .int) 0 := ⟨gtb_mem (List.mem_append_right _ (List.mem_of_getElem? (i := 578) (by decide +kernel))) rfl, gtb_mem (List.mem_append_right _ (List.mem_of_getElem? (i := 1) (by decide +kernel))) rfl, by decide +kernel⟩
theorem ov_X9_set : okV yX9_set := ⟨gtb_mem (List.mem_append_right _ (List.mem_of_getElem? (i := 576) (by decide +kernel))) rfl, gtb_mem (List.mem_append_right _ (List.mem_of_getElem? (i := 577) (by decide +kernel))) rfl⟩
theorem ok_X9_side : okC yX9_side cX9_side 3 (some .int) 2 := ⟨gtb_mem (List.mem_append_right _ (List.mem_of_getElem? (i := 767) (by decide +kernel))) rfl, gtb_mem (List.mem_append_right _ (List.mem_of_getElem? (i := 1) (by decide +kernel))) rfl, by decide +kernel⟩
theorem ov_X9_side : okV yX9_side := ⟨gtb_mem (List.mem_append_right _ (List.mem_of_getElem? (i := 765) (by decide +kernel))) rfl, gtb_mem (List.mem_append_right _ (List.mem_of_getElem? (i := 766) (by decide +kernel))) rfl⟩
theorem ok_X9_smooth : okC yX9_smooth cX9_smooth 4 (some .int) 2 := ⟨gtb_mem (List.mem_append_right _ (List.mem_of_getElem? (i := 651) (by decide +kernel))) rfl, gtb_mem (List.mem_append_right _ (List.mem_of_getElem? (i := 1) (by decide +kernel))) rfl, by decide +kernel⟩
theorem ov_X9_smooth : okV yX9_smooth := ⟨gtb_mem (List.mem_append_right _ (List.mem_of_getElem? (i := 649) (by decide +kernel))) rfl, gtb_mem (List.mem_append_right _ (List.mem_of_getElem? (i := 650) (by decide +kernel))) rfl⟩
theorem ok_X9_source : okC yX9_source cX9_source 4 (some .int) 2 := ⟨gtb_mem (List.mem_append_right _ (List.mem_of_getElem? (i := 470) (by decide +kernel))) rfl, gtb_mem (List.mem_append_right _ (List.mem_of_getElem? (i := 1) (by decide +kernel))) rfl, by decide +kernel⟩
theorem ov_X9_source : okV yX9_source := ⟨gtb_mem (List.mem_append_right _ (List.mem_of_getElem? (i := 468) (by decide +kernel))) rfl, gtb_mem (List.mem_append_right _ (List.mem_of_getElem? (i := 469) (by decide +kernel))) rfl⟩
theorem ok_X9_start : okC yX9_start cX9_start 1 (some .int) 0 := ⟨gtb_mem (List.mem_append_right _ (List.mem_of_getElem? (i := 841) (by decide +kernel))) rfl, gtb_mem (List.mem_append_right _ (List.mem_of_getElem? (i := 1) (by decide +kernel))) rfl, by decide +kernel⟩
theorem ov_X9_start : okV yX9_start := ⟨gtb_mem (List.mem_append_right _ (List.mem_of_getElem? (i := 839) (by decide +kernel))) rfl, gtb_mem (List.mem_append_right _ (List.mem_of_getElem? (i := 840) (by decide +kernel))) rfl⟩
theorem ok_X9_status : okC yX9_status cX9_status 2 (some .int) 1 := ⟨gtb_mem (List.mem_append_right _ (List.mem_of_getElem? (i := 916) (by decide +kernel))) rfl, gtb_mem (List.mem_append_right _ (List.mem_of_getElem? (i := 1) (by decide +kernel))) rfl, by decide +kernel⟩
theorem ov_X9_status : okV yX9_status := ⟨gtb_mem (List.mem_append_right _ (List.mem_of_getElem? (i := 914) (by decide +kernel))) rfl, gtb_mem (List.mem_append_right _ (List.mem_of_getElem? (i := 915) (by decide +kernel))) rfl⟩
theorem ok_X9_swap : okC yX9_swap cX9_swap 3 (some .int) 2 := ⟨gtb_mem (List.mem_append_right _ (List.mem_of_getElem? (i := 631) (by decide +kernel))) rfl, gtb_mem (List.mem_append_right _ (List.mem_of_getElem? (i := 1) (by decide +kernel))) rfl, by decide +kernel⟩
theorem ov_X9_swap : okV yX9_swap := ⟨gtb_mem (List.mem_append_right _ (List.mem_of_getElem? (i := 629) (by decide +kernel))) rfl, gtb_mem (List.mem_append_right _ (List.mem_of_getElem? (i := 630) (by decide +kernel))) rfl⟩
theorem ok_X9_table : okC yX9_table cX9_table 4 (some .int) 2 := ⟨gtb_mem (List.mem_append_right _ (List.mem_of_getElem? (i := 547) (by decide +kernel))) rfl, gtb_mem (List.mem_append_right _ (List.mem_of_getElem? (i := 1) (by decide +kernel))) rfl, by decide +kernel⟩
theorem ov_X9_table : okV yX9_table := ⟨gtb_mem (List.mem_append_right _ (List.mem_of_getElem? (i := 545) (by decide +kernel))) rfl, gtb_mem (List.mem_append_right _ (List.mem_of_getElem? (i := 546) (by decide +kernel))) rfl⟩
theorem ok_X9_tables : okC yX9_tables cX9_tables 1 (some .int) 0 := ⟨gtb_mem (List.mem_append_right _ (List.mem_of_getElem? (i := 510) (by decide +kernel))) rfl, gtb_mem (List.mem_append_right _ (List.mem_of_getElem? (i := 1) (by decide +kernel))) rfl, by decide +kernel⟩
theorem ov_X9_tables : okV yX9_tables := ⟨gtb_mem (List.mem_append_right _ (List.mem_of_getElem? (i := 508) (by decide +kernel))) rfl, gtb_mem (List.mem_append_right _ (List.mem_of_getElem? (i := 509) (by decide +kernel))) rfl⟩
theorem ok_X9_tear : okC yX9_tear cX9_tear 2 (some .int) 0 := ⟨gtb_mem (List.mem_append_right _ (List.mem_of_getElem? (i := 899) (by decide +kernel))) rfl, gtb_mem (List.mem_append_right _ (List.mem_of_getElem? (i := 1) (by decide +kernel))) rfl, by decide +kernel⟩
theorem ov_X9_tear : okV yX9_tear := ⟨gtb_mem (List.mem_append_right _ (List.mem_of_getElem? (i := 897) (by decide +kernel))) rfl, gtb_mem (List.mem_append_right _ (List.mem_of_getElem? (i := 898) (by decide +kernel))) rfl⟩
theorem ok_X9_tile : okC yX9_tile cX9_tile 2 (some .int) 1 := ⟨gtb_mem (List.mem_append_right _ (List.mem_of_getElem? (i := 611) (by decide +kernel))) rfl, gtb_mem (List.mem_append_right _ (List.mem_of_getElem? (i := 1) (by decide +kernel))) rfl, by decide +kernel⟩
theorem ov_X9_tile : okV yX9_tile := ⟨gtb_mem (List.mem_append_right _ (List.mem_of_getElem? (i := 609) (by decide +kernel))) rfl, gtb_mem (List.mem_append_right _ (List.mem_of_getElem? (i := 610) (by decide +kernel))) rfl⟩
theorem ok_X9_told : okC yX9_told cX9_told 4 (some .int) 1 := ⟨gtb_mem (List.mem_append_right _ (List.mem_of_getElem? (i := 883) (by decide +kernel))) rfl, gtb_mem (List.mem_append_right _ (List.mem_of_getElem? (i := 1) (by decide +kernel))) rfl, by decide +kernel⟩
theorem ov_X9_told : okV yX9_told := ⟨gtb_mem (List.mem_append_right _ (List.mem_of_getElem? (i := 881) (by decide +kernel))) rfl, gtb_mem (List.mem_append_right _ (List.mem_of_getElem? (i := 882) (by decide +kernel))) rfl⟩
theorem ok_X9_way : okC yX9_way cX9_way 3 (some .int) 2 := ⟨gtb_mem (List.mem_append_right _ (List.mem_of_getElem? (i := 759) (by decide +kernel))) rfl, gtb_mem (List.mem_append_right _ (List.mem_of_getElem? (i := 1) (by decide +kernel))) rfl, by decide +kernel⟩
theorem ov_X9_way : okV yX9_way := ⟨gtb_mem (List.mem_append_right _ (List.mem_of_getElem? (i := 757) (by decide +kernel))) rfl, gtb_mem (List.mem_append_right _ (List.mem_of_getElem? (i := 758) (by decide +kernel))) rfl⟩
theorem ok_X9_wires : okC yX9_wires cX9_wires 3 (some .int) 2 := ⟨gtb_mem (List.mem_append_right _ (List.mem_of_getElem? (i := 674) (by decide +kernel))) rfl, gtb_mem (List.mem_append_right _ (List.mem_of_getElem? (i := 1) (by decide +kernel))) rfl, by decide +kernel⟩
theorem ov_X9_wires : okV yX9_wires := ⟨gtb_mem (List.mem_append_right _ (List.mem_of_getElem? (i := 672) (by decide +kernel))) rfl, gtb_mem (List.mem_append_right _ (List.mem_of_getElem? (i := 673) (by decide +kernel))) rfl⟩
theorem ok_X9_within : okC yX9_within cX9_within 3 (some .boolean) 3 := ⟨gtb_mem (List.mem_append_right _ (List.mem_of_getElem? (i := 390) (by decide +kernel))) rfl, gtb_mem (List.mem_append_right _ (List.mem_of_getElem? (i := 1) (by decide +kernel))) rfl, by decide +kernel⟩
theorem ov_X9_within : Cond.static yX9_within ∈ gtb := gtb_mem (List.mem_append_right _ (List.mem_of_getElem? (i := 389) (by decide +kernel))) rfl
theorem ok_X9_wrongByte : okC yX9_wrongByte cX9_wrongByte 3 (some .int) 2 := ⟨gtb_mem (List.mem_append_right _ (List.mem_of_getElem? (i := 808) (by decide +kernel))) rfl, gtb_mem (List.mem_append_right _ (List.mem_of_getElem? (i := 1) (by decide +kernel))) rfl, by decide +kernel⟩
theorem ov_X9_wrongByte : okV yX9_wrongByte := ⟨gtb_mem (List.mem_append_right _ (List.mem_of_getElem? (i := 807) (by decide +kernel))) rfl, gtb_mem (List.mem_append_left _ (List.mem_of_getElem? (i := 29) (by decide +kernel))) rfl⟩
theorem ok_X9_wrongGate : okC yX9_wrongGate cX9_wrongGate 2 (some .int) 1 := ⟨gtb_mem (List.mem_append_right _ (List.mem_of_getElem? (i := 494) (by decide +kernel))) rfl, gtb_mem (List.mem_append_right _ (List.mem_of_getElem? (i := 1) (by decide +kernel))) rfl, by decide +kernel⟩
theorem ov_X9_wrongGate : okV yX9_wrongGate := ⟨gtb_mem (List.mem_append_right _ (List.mem_of_getElem? (i := 493) (by decide +kernel))) rfl, gtb_mem (List.mem_append_left _ (List.mem_of_getElem? (i := 9) (by decide +kernel))) rfl⟩
theorem okF_0_0 : okF 0 9 0 10 2 44 = true := by decide +kernel
theorem okF_0_1 : okF 0 9 1 10 2 44 = true := by decide +kernel
theorem okF_0_2 : okF 0 9 2 10 2 44 = true := by decide +kernel
theorem okF_0_3 : okF 0 9 3 10 2 44 = true := by decide +kernel
theorem okF_0_4 : okF 0 9 4 10 2 44 = true := by decide +kernel
theorem okF_0_5 : okF 0 9 5 10 2 44 = true := by decide +kernel
theorem okF_0_6 : okF 0 9 6 10 2 44 = true := by decide +kernel
theorem okF_0_7 : okF 0 9 7 10 2 44 = true := by decide +kernel
theorem okF_0_8 : okF 0 9 8 10 2 44 = true := by decide +kernel
theorem okF_0_9 : okF 0 9 9 10 2 44 = true := by decide +kernel
theorem okF_1_0 : okF 1 3 0 11 2 44 = true := by decide +kernel
theorem okF_1_1 : okF 1 3 1 11 2 44 = true := by decide +kernel
theorem okF_1_2 : okF 1 3 2 11 2 44 = true := by decide +kernel
theorem okF_1_3 : okF 1 3 3 11 2 44 = true := by decide +kernel
theorem okF_1_4 : okF 1 3 4 11 2 44 = true := by decide +kernel
theorem okF_1_5 : okF 1 3 5 11 0 44 = true := by decide +kernel
theorem okF_1_6 : okF 1 3 6 11 0 44 = true := by decide +kernel
theorem okF_1_7 : okF 1 3 7 11 0 44 = true := by decide +kernel
theorem okF_1_8 : okF 1 3 8 11 0 44 = true := by decide +kernel
theorem okF_1_9 : okF 1 3 9 11 0 44 = true := by decide +kernel
theorem okF_1_10 : okF 1 3 10 11 0 44 = true := by decide +kernel
theorem okF_7_0 : okF 7 0 0 3 2 44 = true := by decide +kernel
theorem okF_7_1 : okF 7 0 1 3 2 44 = true := by decide +kernel
theorem okF_7_2 : okF 7 0 2 3 2 44 = true := by decide +kernel
theorem okF_11_0 : okF 11 7 0 7 0 44 = true := by decide +kernel
theorem okF_11_1 : okF 11 7 1 7 0 44 = true := by decide +kernel
theorem okF_11_2 : okF 11 7 2 7 2 44 = true := by decide +kernel
theorem okF_11_3 : okF 11 7 3 7 2 44 = true := by decide +kernel
theorem okF_11_4 : okF 11 7 4 7 2 44 = true := by decide +kernel
theorem okF_11_5 : okF 11 7 5 7 2 44 = true := by decide +kernel
theorem okF_11_6 : okF 11 7 6 7 0 44 = true := by decide +kernel
theorem okF_16_0 : okF 16 2 0 10 0 44 = true := by decide +kernel
theorem okF_16_1 : okF 16 2 1 10 0 44 = true := by decide +kernel
theorem okF_16_2 : okF 16 2 2 10 0 44 = true := by decide +kernel
theorem okF_16_3 : okF 16 2 3 10 2 44 = true := by decide +kernel
theorem okF_16_4 : okF 16 2 4 10 2 44 = true := by decide +kernel
theorem okF_16_5 : okF 16 2 5 10 2 44 = true := by decide +kernel
theorem okF_16_6 : okF 16 2 6 10 2 44 = true := by decide +kernel
theorem okF_16_7 : okF 16 2 7 10 2 44 = true := by decide +kernel
theorem okF_16_8 : okF 16 2 8 10 0 44 = true := by decide +kernel
theorem okF_16_9 : okF 16 2 9 10 1 44 = true := by decide +kernel
theorem okF_22_0 : okF 22 5 0 7 0 44 = true := by decide +kernel
theorem okF_22_1 : okF 22 5 1 7 0 44 = true := by decide +kernel
theorem okF_22_2 : okF 22 5 2 7 2 44 = true := by decide +kernel
theorem okF_22_3 : okF 22 5 3 7 2 44 = true := by decide +kernel
theorem okF_22_4 : okF 22 5 4 7 2 44 = true := by decide +kernel
theorem okF_22_5 : okF 22 5 5 7 2 44 = true := by decide +kernel
theorem okF_22_6 : okF 22 5 6 7 2 44 = true := by decide +kernel
theorem okF_28_0 : okF 28 8 0 6 0 44 = true := by decide +kernel
theorem okF_28_1 : okF 28 8 1 6 2 44 = true := by decide +kernel
theorem okF_28_2 : okF 28 8 2 6 2 44 = true := by decide +kernel
theorem okF_28_3 : okF 28 8 3 6 2 44 = true := by decide +kernel
theorem okF_28_4 : okF 28 8 4 6 2 44 = true := by decide +kernel
theorem okF_28_5 : okF 28 8 5 6 2 44 = true := by decide +kernel
theorem okF_34_0 : okF 34 1 0 5 0 44 = true := by decide +kernel
theorem okF_34_1 : okF 34 1 1 5 0 44 = true := by decide +kernel
theorem okF_34_2 : okF 34 1 2 5 2 44 = true := by decide +kernel
theorem okF_34_3 : okF 34 1 3 5 2 44 = true := by decide +kernel
theorem okF_34_4 : okF 34 1 4 5 2 44 = true := by decide +kernel
theorem okF_38_0 : okF 38 6 0 6 0 44 = true := by decide +kernel
theorem okF_38_1 : okF 38 6 1 6 0 44 = true := by decide +kernel
theorem okF_38_2 : okF 38 6 2 6 0 44 = true := by decide +kernel
theorem okF_38_3 : okF 38 6 3 6 0 44 = true := by decide +kernel
theorem okF_38_4 : okF 38 6 4 6 2 44 = true := by decide +kernel
theorem okF_38_5 : okF 38 6 5 6 2 44 = true := by decide +kernel
theorem okF_41_0 : okF 41 4 0 3 0 44 = true := by decide +kernel
theorem okF_41_1 : okF 41 4 1 3 0 44 = true := by decide +kernel
theorem okF_41_2 : okF 41 4 2 3 2 44 = true := by decide +kernel
theorem okF_44_0 : okF 44 10 0 49 2 76 = true := by decide +kernel
theorem okF_44_1 : okF 44 10 1 49 2 76 = true := by decide +kernel
theorem okF_44_2 : okF 44 10 2 49 2 76 = true := by decide +kernel
theorem okF_44_3 : okF 44 10 3 49 2 76 = true := by decide +kernel
theorem okF_44_4 : okF 44 10 4 49 2 76 = true := by decide +kernel
theorem okF_44_5 : okF 44 10 5 49 2 76 = true := by decide +kernel
theorem okF_44_6 : okF 44 10 6 49 0 76 = true := by decide +kernel
theorem okF_44_7 : okF 44 10 7 49 0 76 = true := by decide +kernel
theorem okF_44_8 : okF 44 10 8 49 0 76 = true := by decide +kernel
theorem okF_44_9 : okF 44 10 9 49 0 76 = true := by decide +kernel
theorem okF_44_10 : okF 44 10 10 49 2 76 = true := by decide +kernel
theorem okF_44_11 : okF 44 10 11 49 0 76 = true := by decide +kernel
theorem okF_44_12 : okF 44 10 12 49 0 76 = true := by decide +kernel
theorem okF_44_13 : okF 44 10 13 49 0 76 = true := by decide +kernel
theorem okF_44_14 : okF 44 10 14 49 0 76 = true := by decide +kernel
theorem okF_44_15 : okF 44 10 15 49 0 76 = true := by decide +kernel
theorem okF_44_16 : okF 44 10 16 49 2 76 = true := by decide +kernel
theorem okF_44_17 : okF 44 10 17 49 2 76 = true := by decide +kernel
theorem okF_44_18 : okF 44 10 18 49 2 76 = true := by decide +kernel
theorem okF_44_19 : okF 44 10 19 49 2 76 = true := by decide +kernel
theorem okF_44_20 : okF 44 10 20 49 2 76 = true := by decide +kernel
theorem okF_44_21 : okF 44 10 21 49 2 76 = true := by decide +kernel
theorem okF_44_22 : okF 44 10 22 49 2 76 = true := by decide +kernel
theorem okF_44_23 : okF 44 10 23 49 2 76 = true := by decide +kernel
theorem okF_44_24 : okF 44 10 24 49 0 76 = true := by decide +kernel
theorem okF_44_25 : okF 44 10 25 49 0 76 = true := by decide +kernel
theorem okF_44_26 : okF 44 10 26 49 0 76 = true := by decide +kernel
theorem okF_44_27 : okF 44 10 27 49 0 76 = true := by decide +kernel
theorem okF_44_28 : okF 44 10 28 49 2 76 = true := by decide +kernel
theorem okF_44_29 : okF 44 10 29 49 2 76 = true := by decide +kernel
theorem okF_44_30 : okF 44 10 30 49 2 76 = true := by decide +kernel
theorem okF_44_31 : okF 44 10 31 49 2 76 = true := by decide +kernel
theorem okF_44_32 : okF 44 10 32 49 2 76 = true := by decide +kernel
theorem okF_44_33 : okF 44 10 33 49 2 76 = true := by decide +kernel
theorem okF_44_34 : okF 44 10 34 49 2 76 = true := by decide +kernel
theorem okF_44_35 : okF 44 10 35 49 2 76 = true := by decide +kernel
theorem okF_44_36 : okF 44 10 36 49 2 76 = true := by decide +kernel
theorem okF_44_37 : okF 44 10 37 49 2 76 = true := by decide +kernel
theorem okF_44_38 : okF 44 10 38 49 2 76 = true := by decide +kernel
theorem okF_44_39 : okF 44 10 39 49 2 76 = true := by decide +kernel
theorem okF_44_40 : okF 44 10 40 49 2 76 = true := by decide +kernel
theorem okF_44_41 : okF 44 10 41 49 2 76 = true := by decide +kernel
theorem okF_44_42 : okF 44 10 42 49 0 76 = true := by decide +kernel
theorem okF_44_43 : okF 44 10 43 49 0 76 = true := by decide +kernel
theorem okF_44_44 : okF 44 10 44 49 0 76 = true := by decide +kernel
theorem okF_44_45 : okF 44 10 45 49 0 76 = true := by decide +kernel
theorem okF_44_46 : okF 44 10 46 49 2 76 = true := by decide +kernel
theorem okF_44_47 : okF 44 10 47 49 2 76 = true := by decide +kernel
theorem okF_44_48 : okF 44 10 48 49 0 76 = true := by decide +kernel
theorem rfc_0_0 : rfc 0 0 = 1 := by decide +kernel
theorem rfc_0_1 : rfc 0 1 = 7 := by decide +kernel
theorem rfc_0_2 : rfc 0 2 = 11 := by decide +kernel
theorem rfc_0_3 : rfc 0 3 = 16 := by decide +kernel
theorem rfc_0_4 : rfc 0 4 = 22 := by decide +kernel
theorem rfc_0_5 : rfc 0 5 = 28 := by decide +kernel
theorem rfc_0_6 : rfc 0 6 = 34 := by decide +kernel
theorem rfc_0_7 : rfc 0 7 = 38 := by decide +kernel
theorem rfc_0_8 : rfc 0 8 = 41 := by decide +kernel
theorem rfc_0_9 : rfc 0 9 = 43 := by decide +kernel
theorem rfc_1_0 : rfc 1 0 = 2 := by decide +kernel
theorem rfc_1_1 : rfc 1 1 = 3 := by decide +kernel
theorem rfc_1_2 : rfc 1 2 = 4 := by decide +kernel
theorem rfc_1_3 : rfc 1 3 = 5 := by decide +kernel
theorem rfc_1_4 : rfc 1 4 = 6 := by decide +kernel
theorem rfc_7_0 : rfc 7 0 = 8 := by decide +kernel
theorem rfc_7_1 : rfc 7 1 = 9 := by decide +kernel
theorem rfc_7_2 : rfc 7 2 = 10 := by decide +kernel
theorem rfc_11_2 : rfc 11 2 = 12 := by decide +kernel
theorem rfc_11_3 : rfc 11 3 = 13 := by decide +kernel
theorem rfc_11_4 : rfc 11 4 = 14 := by decide +kernel
theorem rfc_11_5 : rfc 11 5 = 15 := by decide +kernel
theorem rfc_16_3 : rfc 16 3 = 17 := by decide +kernel
theorem rfc_16_4 : rfc 16 4 = 18 := by decide +kernel
theorem rfc_16_5 : rfc 16 5 = 19 := by decide +kernel
theorem rfc_16_6 : rfc 16 6 = 20 := by decide +kernel
theorem rfc_16_7 : rfc 16 7 = 21 := by decide +kernel
theorem rfc_22_2 : rfc 22 2 = 23 := by decide +kernel
theorem rfc_22_3 : rfc 22 3 = 24 := by decide +kernel
theorem rfc_22_4 : rfc 22 4 = 25 := by decide +kernel
theorem rfc_22_5 : rfc 22 5 = 26 := by decide +kernel
theorem rfc_22_6 : rfc 22 6 = 27 := by decide +kernel
theorem rfc_28_1 : rfc 28 1 = 29 := by decide +kernel
theorem rfc_28_2 : rfc 28 2 = 30 := by decide +kernel
theorem rfc_28_3 : rfc 28 3 = 31 := by decide +kernel
theorem rfc_28_4 : rfc 28 4 = 32 := by decide +kernel
theorem rfc_28_5 : rfc 28 5 = 33 := by decide +kernel
theorem rfc_34_2 : rfc 34 2 = 35 := by decide +kernel
theorem rfc_34_3 : rfc 34 3 = 36 := by decide +kernel
theorem rfc_34_4 : rfc 34 4 = 37 := by decide +kernel
theorem rfc_38_4 : rfc 38 4 = 39 := by decide +kernel
theorem rfc_38_5 : rfc 38 5 = 40 := by decide +kernel
theorem rfc_41_2 : rfc 41 2 = 42 := by decide +kernel
theorem rfc_44_0 : rfc 44 0 = 45 := by decide +kernel
theorem rfc_44_1 : rfc 44 1 = 46 := by decide +kernel
theorem rfc_44_2 : rfc 44 2 = 47 := by decide +kernel
theorem rfc_44_3 : rfc 44 3 = 48 := by decide +kernel
theorem rfc_44_4 : rfc 44 4 = 49 := by decide +kernel
theorem rfc_44_5 : rfc 44 5 = 50 := by decide +kernel
theorem rfc_44_10 : rfc 44 10 = 51 := by decide +kernel
theorem rfc_44_16 : rfc 44 16 = 52 := by decide +kernel
theorem rfc_44_17 : rfc 44 17 = 53 := by decide +kernel
theorem rfc_44_18 : rfc 44 18 = 54 := by decide +kernel
theorem rfc_44_19 : rfc 44 19 = 55 := by decide +kernel
theorem rfc_44_20 : rfc 44 20 = 56 := by decide +kernel
theorem rfc_44_21 : rfc 44 21 = 57 := by decide +kernel
theorem rfc_44_22 : rfc 44 22 = 58 := by decide +kernel
theorem rfc_44_23 : rfc 44 23 = 59 := by decide +kernel
theorem rfc_44_28 : rfc 44 28 = 60 := by decide +kernel
theorem rfc_44_29 : rfc 44 29 = 61 := by decide +kernel
theorem rfc_44_30 : rfc 44 30 = 62 := by decide +kernel
theorem rfc_44_31 : rfc 44 31 = 63 := by decide +kernel
theorem rfc_44_32 : rfc 44 32 = 64 := by decide +kernel
theorem rfc_44_33 : rfc 44 33 = 65 := by decide +kernel
theorem rfc_44_34 : rfc 44 34 = 66 := by decide +kernel
theorem rfc_44_35 : rfc 44 35 = 67 := by decide +kernel
theorem rfc_44_36 : rfc 44 36 = 68 := by decide +kernel
theorem rfc_44_37 : rfc 44 37 = 69 := by decide +kernel
theorem rfc_44_38 : rfc 44 38 = 70 := by decide +kernel
theorem rfc_44_39 : rfc 44 39 = 71 := by decide +kernel
theorem rfc_44_40 : rfc 44 40 = 72 := by decide +kernel
theorem rfc_44_41 : rfc 44 41 = 73 := by decide +kernel
theorem rfc_44_46 : rfc 44 46 = 74 := by decide +kernel
theorem rfc_44_47 : rfc 44 47 = 75 := by decide +kernel
theorem alJ_10 : albJ 44 10 = 1280 := by decide +kernel
theorem alJ_31 : albJ 44 31 = 32 := by decide +kernel
theorem alZ_49 : albZ 76 49 = 32 := by decide +kernel
theorem alZ_55 : albZ 76 55 = 32 := by decide +kernel
theorem alZ_59 : albZ 76 59 = 32 := by decide +kernel
theorem alZ_60 : albZ 76 60 = 36 := by decide +kernel
theorem alZ_62 : albZ 76 62 = 1920 := by decide +kernel
theorem alZ_66 : albZ 76 66 = 36 := by decide +kernel
theorem alZ_71 : albZ 76 71 = 32 := by decide +kernel
theorem alZ_72 : albZ 76 72 = 32 := by decide +kernel
theorem alZ_73 : albZ 76 73 = 32 := by decide +kernel
theorem aln_2 : alb 44 2 = 32 := by decide +kernel
theorem aln_3 : alb 44 3 = 32 := by decide +kernel
theorem aln_4 : alb 44 4 = 32 := by decide +kernel
theorem aln_5 : alb 44 5 = 32 := by decide +kernel
theorem aln_6 : alb 44 6 = 8 := by decide +kernel
theorem aln_8 : alb 44 8 = 32 := by decide +kernel
theorem aln_9 : alb 44 9 = 32 := by decide +kernel
theorem aln_12 : alb 44 12 = 32 := by decide +kernel
theorem aln_13 : alb 44 13 = 32 := by decide +kernel
theorem aln_14 : alb 44 14 = 128 := by decide +kernel
theorem aln_15 : alb 44 15 = 32 := by decide +kernel
theorem aln_17 : alb 44 17 = 36 := by decide +kernel
theorem aln_18 : alb 44 18 = 36 := by decide +kernel
theorem aln_19 : alb 44 19 = 60 := by decide +kernel
theorem aln_20 : alb 44 20 = 60 := by decide +kernel
theorem aln_21 : alb 44 21 = 144 := by decide +kernel
theorem aln_23 : alb 44 23 = 32 := by decide +kernel
theorem aln_24 : alb 44 24 = 32 := by decide +kernel
theorem aln_25 : alb 44 25 = 36 := by decide +kernel
theorem aln_26 : alb 44 26 = 32 := by decide +kernel
theorem aln_27 : alb 44 27 = 32 := by decide +kernel
theorem aln_29 : alb 44 29 = 60 := by decide +kernel
theorem aln_30 : alb 44 30 = 60 := by decide +kernel
theorem aln_32 : alb 44 32 = 60 := by decide +kernel
theorem aln_33 : alb 44 33 = 36 := by decide +kernel
theorem aln_35 : alb 44 35 = 324 := by decide +kernel
theorem aln_36 : alb 44 36 = 37 := by decide +kernel
theorem aln_37 : alb 44 37 = 32 := by decide +kernel
theorem aln_39 : alb 44 39 = 32 := by decide +kernel
theorem aln_40 : alb 44 40 = 32 := by decide +kernel
theorem aln_42 : alb 44 42 = 37 := by decide +kernel
theorem aln_43 : alb 44 43 = 7 := by decide +kernel
theorem aln_45 : alb 76 45 = 32 := by decide +kernel
theorem aln_46 : alb 76 46 = 32 := by decide +kernel
theorem aln_47 : alb 76 47 = 32 := by decide +kernel
theorem aln_48 : alb 76 48 = 32 := by decide +kernel
theorem aln_50 : alb 76 50 = 8 := by decide +kernel
theorem aln_51 : alb 76 51 = 9 := by decide +kernel
theorem aln_52 : alb 76 52 = 1280 := by decide +kernel
theorem aln_53 : alb 76 53 = 32 := by decide +kernel
theorem aln_54 : alb 76 54 = 32 := by decide +kernel
theorem aln_56 : alb 76 56 = 128 := by decide +kernel
theorem aln_57 : alb 76 57 = 32 := by decide +kernel
theorem aln_58 : alb 76 58 = 32 := by decide +kernel
theorem aln_61 : alb 76 61 = 32 := by decide +kernel
theorem aln_63 : alb 76 63 = 60 := by decide +kernel
theorem aln_64 : alb 76 64 = 60 := by decide +kernel
theorem aln_65 : alb 76 65 = 36 := by decide +kernel
theorem aln_67 : alb 76 67 = 60 := by decide +kernel
theorem aln_68 : alb 76 68 = 1440 := by decide +kernel
theorem aln_69 : alb 76 69 = 36 := by decide +kernel
theorem aln_70 : alb 76 70 = 32 := by decide +kernel
theorem aln_74 : alb 76 74 = 40 := by decide +kernel
theorem aln_75 : alb 76 75 = 40 := by decide +kernel
theorem kd_0 : kd 0 = (0, 9) ∧ 0 < 44 := by decide +kernel
theorem kd_1 : kd 1 = (0, 3) ∧ 1 < 44 := by decide +kernel
theorem kd_7 : kd 7 = (0, 0) ∧ 7 < 44 := by decide +kernel
theorem kd_11 : kd 11 = (0, 7) ∧ 11 < 44 := by decide +kernel
theorem kd_16 : kd 16 = (0, 2) ∧ 16 < 44 := by decide +kernel
theorem kd_22 : kd 22 = (0, 5) ∧ 22 < 44 := by decide +kernel
theorem kd_28 : kd 28 = (0, 8) ∧ 28 < 44 := by decide +kernel
theorem kd_34 : kd 34 = (0, 1) ∧ 34 < 44 := by decide +kernel
theorem kd_38 : kd 38 = (0, 6) ∧ 38 < 44 := by decide +kernel
theorem kd_41 : kd 41 = (0, 4) ∧ 41 < 44 := by decide +kernel
theorem kd_44 : kd 44 = (0, 10) ∧ 44 < 76 := by decide +kernel
