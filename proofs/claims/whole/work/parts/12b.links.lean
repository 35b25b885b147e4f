theorem fl_J0_38 : Cond.fieldLink RJ0 38 "java/lang/String" "COMPACT_STRINGS" "Z" ∈ TG := tg_mem (i := 603) (by decide +kernel) rfl
theorem fl_J0_15 : Cond.fieldLink RJ0 15 "java/lang/String" "coder" "B" ∈ TG := tg_mem (i := 1317) (by decide +kernel) rfl
theorem fl_J0_9 : Cond.fieldLink RJ0 9 "java/lang/String" "value" "[B" ∈ TG := tg_mem (i := 1316) (by decide +kernel) rfl
theorem fl_J0_1053 : Cond.fieldLink RJ0 1053 "jdk/internal/util/Preconditions" "SIOOBE_FORMATTER" "Ljava/util/function/BiFunction;" ∈ TG := tg_mem (i := 619) (by decide +kernel) rfl
theorem ml_J0_335 : Cond.methodLink RJ0 335 yJ0_coder_7d493 ∈ TG := tg_mem (i := 599) (by decide +kernel) rfl
theorem ml_J0_492 : Cond.methodLink RJ0 492 yJ0_isLatin1_aae02 ∈ TG := tg_mem (i := 609) (by decide +kernel) rfl
theorem ml_J0_495 : Cond.methodLink RJ0 495 yJ1_charAt_3b067 ∈ TG := tg_mem (i := 613) (by decide +kernel) rfl
theorem ml_J0_1059 : Cond.methodLink RJ0 1059 yJ3_checkIndex_8e157 ∈ TG := tg_mem (i := 621) (by decide +kernel) rfl
theorem ml_J1_9 : Cond.methodLink RJ1 9 yJ0_checkIndex_df160 ∈ TG := tg_mem (i := 616) (by decide +kernel) rfl
theorem kv_J0_coder_7d493 : KV RJ0 yJ0_coder_7d493 cJ0_coder_7d493 1 (some .byte) 0 := ⟨⟨tg_mem (i := 600) (by decide +kernel) rfl, tg_mem (i := 601) (by decide +kernel) rfl, tg_mem (i := 74) (by decide +kernel) rfl, tg_mem (i := 602) (by decide +kernel) rfl⟩, rfl, by decide +kernel, by decide +kernel, by decide +kernel⟩
theorem kv_J0_isLatin1_aae02 : KV RJ0 yJ0_isLatin1_aae02 cJ0_isLatin1_aae02 1 (some .boolean) 0 := ⟨⟨tg_mem (i := 610) (by decide +kernel) rfl, tg_mem (i := 611) (by decide +kernel) rfl, tg_mem (i := 74) (by decide +kernel) rfl, tg_mem (i := 612) (by decide +kernel) rfl⟩, rfl, by decide +kernel, by decide +kernel, by decide +kernel⟩
theorem ks_J1_charAt_3b067 : KS yJ1_charAt_3b067 cJ1_charAt_3b067 2 (some .char) 2 := ⟨⟨tg_mem (i := 614) (by decide +kernel) rfl, tg_mem (i := 75) (by decide +kernel) rfl, tg_mem (i := 615) (by decide +kernel) rfl⟩, by decide +kernel, by decide +kernel, by decide +kernel⟩
theorem ks_J0_checkIndex_df160 : KS yJ0_checkIndex_df160 cJ0_checkIndex_df160 2 none 2 := ⟨⟨tg_mem (i := 617) (by decide +kernel) rfl, tg_mem (i := 74) (by decide +kernel) rfl, tg_mem (i := 618) (by decide +kernel) rfl⟩, by decide +kernel, by decide +kernel, by decide +kernel⟩
theorem ks_J3_checkIndex_8e157 : KS yJ3_checkIndex_8e157 cJ3_checkIndex_8e157 3 (some .int) 3 := ⟨⟨tg_mem (i := 622) (by decide +kernel) rfl, tg_mem (i := 76) (by decide +kernel) rfl, tg_mem (i := 623) (by decide +kernel) rfl⟩, by decide +kernel, by decide +kernel, by decide +kernel⟩
theorem fl_X3_31 : Cond.fieldLink RX3 31 "DownhillWhispers" "sheets" "[LDownhillWhispers$Sheet;" ∈ TG := tg_mem (i := 186) (by decide +kernel) rfl
theorem fl_X2_9 : Cond.fieldLink RX2 9 "DownhillWhispers$Town" "traits" "[I" ∈ TG := tg_mem (i := 102) (by decide +kernel) rfl
theorem ks_X3_put : KS yX3_put cX3_put 3 none 3 := ⟨⟨tg_mem (i := 97) (by decide +kernel) rfl, tg_mem (i := 66) (by decide +kernel) rfl, tg_mem (i := 98) (by decide +kernel) rfl⟩, by decide +kernel, by decide +kernel, by decide +kernel⟩
theorem fl_X2_15 : Cond.fieldLink RX2 15 "DownhillWhispers$Town" "qualities" "[I" ∈ TG := tg_mem (i := 103) (by decide +kernel) rfl
theorem fl_X2_18 : Cond.fieldLink RX2 18 "DownhillWhispers$Town" "spots" "[I" ∈ TG := tg_mem (i := 104) (by decide +kernel) rfl
theorem fl_X2_21 : Cond.fieldLink RX2 21 "DownhillWhispers$Town" "z" "I" ∈ TG := tg_mem (i := 115) (by decide +kernel) rfl
theorem ml_X2_25 : Cond.methodLink RX2 25 yX2_setTrait ∈ TG := tg_mem (i := 92) (by decide +kernel) rfl
theorem kv_X2_setTrait : KV RX2 yX2_setTrait cX2_setTrait 4 none 3 := ⟨⟨tg_mem (i := 93) (by decide +kernel) rfl, tg_mem (i := 94) (by decide +kernel) rfl, tg_mem (i := 67) (by decide +kernel) rfl, tg_mem (i := 95) (by decide +kernel) rfl⟩, rfl, by decide +kernel, by decide +kernel, by decide +kernel⟩
theorem ml_X2_29 : Cond.methodLink RX2 29 Lib.Math.min.name ∈ TG := tg_mem (i := 99) (by decide +kernel) rfl
theorem fl_X1_9 : Cond.fieldLink RX1 9 "DownhillWhispers$Tape" "bytes" "[I" ∈ TG := tg_mem (i := 141) (by decide +kernel) rfl
theorem fl_X0_9 : Cond.fieldLink RX0 9 "DownhillWhispers$Sheet" "numbers" "[I" ∈ TG := tg_mem (i := 168) (by decide +kernel) rfl
theorem ki_X2_init : Cond.code yX2_init cX2_init 2 none ∈ TG ∧ Cond.initialized yX2_init.cls ∈ TG ∧ Cond.instanceMethod yX2_init ∈ TG ∧ yX2_init.name = "<init>" ∧ hd0 yX2_init 0 := ⟨tg_mem (i := 90) (by decide +kernel) rfl, tg_mem (i := 67) (by decide +kernel) rfl, tg_mem (i := 89) (by decide +kernel) rfl, rfl, by decide +kernel, by decide +kernel, by decide +kernel⟩
theorem ml_X3_9 : Cond.methodLink RX3 9 yX2_init ∈ TG := tg_mem (i := 88) (by decide +kernel) rfl
theorem fl_X3_10 : Cond.fieldLink RX3 10 "DownhillWhispers" "town" "LDownhillWhispers$Town;" ∈ TG := tg_mem (i := 181) (by decide +kernel) rfl
theorem fl_X3_16 : Cond.fieldLink RX3 16 "DownhillWhispers" "kept" "LDownhillWhispers$Town;" ∈ TG := tg_mem (i := 182) (by decide +kernel) rfl
theorem fl_X3_19 : Cond.fieldLink RX3 19 "DownhillWhispers" "trial" "LDownhillWhispers$Town;" ∈ TG := tg_mem (i := 183) (by decide +kernel) rfl
theorem ki_X1_init : Cond.code yX1_init cX1_init 1 none ∈ TG ∧ Cond.initialized yX1_init.cls ∈ TG ∧ Cond.instanceMethod yX1_init ∈ TG ∧ yX1_init.name = "<init>" ∧ hd0 yX1_init 0 := ⟨tg_mem (i := 139) (by decide +kernel) rfl, tg_mem (i := 69) (by decide +kernel) rfl, tg_mem (i := 138) (by decide +kernel) rfl, rfl, by decide +kernel, by decide +kernel, by decide +kernel⟩
theorem ml_X3_24 : Cond.methodLink RX3 24 yX1_init ∈ TG := tg_mem (i := 137) (by decide +kernel) rfl
theorem fl_X3_25 : Cond.fieldLink RX3 25 "DownhillWhispers" "tape" "LDownhillWhispers$Tape;" ∈ TG := tg_mem (i := 185) (by decide +kernel) rfl
theorem ki_X0_init : Cond.code yX0_init cX0_init 1 none ∈ TG ∧ Cond.initialized yX0_init.cls ∈ TG ∧ Cond.instanceMethod yX0_init ∈ TG ∧ yX0_init.name = "<init>" ∧ hd0 yX0_init 0 := ⟨tg_mem (i := 166) (by decide +kernel) rfl, tg_mem (i := 70) (by decide +kernel) rfl, tg_mem (i := 165) (by decide +kernel) rfl, rfl, by decide +kernel, by decide +kernel, by decide +kernel⟩
theorem ml_X3_35 : Cond.methodLink RX3 35 yX0_init ∈ TG := tg_mem (i := 164) (by decide +kernel) rfl
theorem fl_X3_36 : Cond.fieldLink RX3 36 "DownhillWhispers" "findings" "[I" ∈ TG := tg_mem (i := 187) (by decide +kernel) rfl
theorem fl_X4_9 : Cond.fieldLink RX4 9 "DownhillWhispersModel" "s" "[I" ∈ TG := tg_mem (i := 778) (by decide +kernel) rfl
theorem fl_X4_13 : Cond.fieldLink RX4 13 "DownhillWhispersModel" "kept" "[I" ∈ TG := tg_mem (i := 779) (by decide +kernel) rfl
theorem fl_X4_16 : Cond.fieldLink RX4 16 "DownhillWhispersModel" "aside" "[I" ∈ TG := tg_mem (i := 780) (by decide +kernel) rfl
theorem fl_X4_19 : Cond.fieldLink RX4 19 "DownhillWhispersModel" "found" "[I" ∈ TG := tg_mem (i := 782) (by decide +kernel) rfl
theorem fl_X4_22 : Cond.fieldLink RX4 22 "DownhillWhispersModel" "sandWas" "[I" ∈ TG := tg_mem (i := 789) (by decide +kernel) rfl
theorem fl_X4_25 : Cond.fieldLink RX4 25 "DownhillWhispersModel" "tape" "[I" ∈ TG := tg_mem (i := 792) (by decide +kernel) rfl
theorem fl_X4_28 : Cond.fieldLink RX4 28 "DownhillWhispersModel" "bitsOf" "[I" ∈ TG := tg_mem (i := 797) (by decide +kernel) rfl
theorem fl_X4_31 : Cond.fieldLink RX4 31 "DownhillWhispersModel" "sizeOf" "[I" ∈ TG := tg_mem (i := 798) (by decide +kernel) rfl
theorem fl_X4_34 : Cond.fieldLink RX4 34 "DownhillWhispersModel" "number" "[I" ∈ TG := tg_mem (i := 799) (by decide +kernel) rfl
theorem fl_X4_37 : Cond.fieldLink RX4 37 "DownhillWhispersModel" "moved" "[I" ∈ TG := tg_mem (i := 800) (by decide +kernel) rfl
theorem ml_X4_40 : Cond.methodLink RX4 40 yX4_builds ∈ TG := tg_mem (i := 773) (by decide +kernel) rfl
theorem kv_X4_builds : KV RX4 yX4_builds cX4_builds 4 none 3 := ⟨⟨tg_mem (i := 775) (by decide +kernel) rfl, tg_mem (i := 15) (by decide +kernel) rfl, tg_mem (i := 71) (by decide +kernel) rfl, tg_mem (i := 776) (by decide +kernel) rfl⟩, rfl, by decide +kernel, by decide +kernel, by decide +kernel⟩
theorem ml_X4_44 : Cond.methodLink RX4 44 Lib.Math.min.name ∈ TG := tg_mem (i := 777) (by decide +kernel) rfl
theorem kc_X4_50 : Cond.constant RX4 50 (-1000001 : Int32) ∈ TG := tg_mem (i := 864) (by decide +kernel) rfl
theorem ml_X4_51 : Cond.methodLink RX4 51 yX4_become ∈ TG := tg_mem (i := 1000) (by decide +kernel) rfl
theorem ks_X4_become : KS yX4_become cX4_become 3 none 2 := ⟨⟨tg_mem (i := 1001) (by decide +kernel) rfl, tg_mem (i := 71) (by decide +kernel) rfl, tg_mem (i := 1002) (by decide +kernel) rfl⟩, by decide +kernel, by decide +kernel, by decide +kernel⟩
theorem kl_X4_55 : Cond.constantLong RX4 55 (15 : Int64) ∈ TG := tg_mem (i := 855) (by decide +kernel) rfl
theorem ml_X4_57 : Cond.methodLink RX4 57 yX4_in ∈ TG := tg_mem (i := 856) (by decide +kernel) rfl
theorem ks_X4_in : KS yX4_in cX4_in 6 (some .boolean) 3 := ⟨⟨tg_mem (i := 857) (by decide +kernel) rfl, tg_mem (i := 71) (by decide +kernel) rfl, tg_mem (i := 858) (by decide +kernel) rfl⟩, by decide +kernel, by decide +kernel, by decide +kernel⟩
theorem kl_X4_61 : Cond.constantLong RX4 61 (65535 : Int64) ∈ TG := tg_mem (i := 949) (by decide +kernel) rfl
theorem ml_X4_63 : Cond.methodLink RX4 63 yX4_part ∈ TG := tg_mem (i := 869) (by decide +kernel) rfl
theorem kv_X4_part : KV RX4 yX4_part cX4_part 3 (some .int) 2 := ⟨⟨tg_mem (i := 871) (by decide +kernel) rfl, tg_mem (i := 18) (by decide +kernel) rfl, tg_mem (i := 71) (by decide +kernel) rfl, tg_mem (i := 872) (by decide +kernel) rfl⟩, rfl, by decide +kernel, by decide +kernel, by decide +kernel⟩
theorem ml_X4_66 : Cond.methodLink RX4 66 Lib.Math.max.name ∈ TG := tg_mem (i := 873) (by decide +kernel) rfl
theorem ml_X4_69 : Cond.methodLink RX4 69 yX4_its ∈ TG := tg_mem (i := 878) (by decide +kernel) rfl
theorem kv_X4_its : KV RX4 yX4_its cX4_its 3 (some .int) 2 := ⟨⟨tg_mem (i := 880) (by decide +kernel) rfl, tg_mem (i := 20) (by decide +kernel) rfl, tg_mem (i := 71) (by decide +kernel) rfl, tg_mem (i := 881) (by decide +kernel) rfl⟩, rfl, by decide +kernel, by decide +kernel, by decide +kernel⟩
theorem ml_X4_72 : Cond.methodLink RX4 72 yX4_loudAt ∈ TG := tg_mem (i := 874) (by decide +kernel) rfl
theorem kv_X4_loudAt : KV RX4 yX4_loudAt cX4_loudAt 4 (some .int) 1 := ⟨⟨tg_mem (i := 876) (by decide +kernel) rfl, tg_mem (i := 19) (by decide +kernel) rfl, tg_mem (i := 71) (by decide +kernel) rfl, tg_mem (i := 877) (by decide +kernel) rfl⟩, rfl, by decide +kernel, by decide +kernel, by decide +kernel⟩
theorem ml_X4_76 : Cond.methodLink RX4 76 yX4_isCorner ∈ TG := tg_mem (i := 852) (by decide +kernel) rfl
theorem ks_X4_isCorner : KS yX4_isCorner cX4_isCorner 1 (some .boolean) 1 := ⟨⟨tg_mem (i := 853) (by decide +kernel) rfl, tg_mem (i := 71) (by decide +kernel) rfl, tg_mem (i := 854) (by decide +kernel) rfl⟩, by decide +kernel, by decide +kernel, by decide +kernel⟩
theorem kl_X4_80 : Cond.constantLong RX4 80 (8 : Int64) ∈ TG := tg_mem (i := 859) (by decide +kernel) rfl
theorem ml_X4_85 : Cond.methodLink RX4 85 yX4_steep ∈ TG := tg_mem (i := 865) (by decide +kernel) rfl
theorem kv_X4_steep : KV RX4 yX4_steep cX4_steep 2 (some .int) 1 := ⟨⟨tg_mem (i := 867) (by decide +kernel) rfl, tg_mem (i := 17) (by decide +kernel) rfl, tg_mem (i := 71) (by decide +kernel) rfl, tg_mem (i := 868) (by decide +kernel) rfl⟩, rfl, by decide +kernel, by decide +kernel, by decide +kernel⟩
theorem ml_X4_88 : Cond.methodLink RX4 88 yX4_isHeard ∈ TG := tg_mem (i := 882) (by decide +kernel) rfl
theorem kv_X4_isHeard : KV RX4 yX4_isHeard cX4_isHeard 2 (some .boolean) 1 := ⟨⟨tg_mem (i := 884) (by decide +kernel) rfl, tg_mem (i := 21) (by decide +kernel) rfl, tg_mem (i := 71) (by decide +kernel) rfl, tg_mem (i := 885) (by decide +kernel) rfl⟩, rfl, by decide +kernel, by decide +kernel, by decide +kernel⟩
theorem ml_X4_91 : Cond.methodLink RX4 91 yX4_rent ∈ TG := tg_mem (i := 886) (by decide +kernel) rfl
theorem kv_X4_rent : KV RX4 yX4_rent cX4_rent 2 (some .int) 1 := ⟨⟨tg_mem (i := 888) (by decide +kernel) rfl, tg_mem (i := 22) (by decide +kernel) rfl, tg_mem (i := 71) (by decide +kernel) rfl, tg_mem (i := 889) (by decide +kernel) rfl⟩, rfl, by decide +kernel, by decide +kernel, by decide +kernel⟩
theorem ml_X4_82 : Cond.methodLink RX4 82 yX4_finds ∈ TG := tg_mem (i := 860) (by decide +kernel) rfl
theorem kv_X4_finds : KV RX4 yX4_finds cX4_finds 2 (some .int) 1 := ⟨⟨tg_mem (i := 862) (by decide +kernel) rfl, tg_mem (i := 16) (by decide +kernel) rfl, tg_mem (i := 71) (by decide +kernel) rfl, tg_mem (i := 863) (by decide +kernel) rfl⟩, rfl, by decide +kernel, by decide +kernel, by decide +kernel⟩
theorem kl_X4_94 : Cond.constantLong RX4 94 (4 : Int64) ∈ TG := tg_mem (i := 894) (by decide +kernel) rfl
theorem ml_X4_96 : Cond.methodLink RX4 96 yX4_mostOf ∈ TG := tg_mem (i := 895) (by decide +kernel) rfl
theorem ks_X4_mostOf : KS yX4_mostOf cX4_mostOf 1 (some .int) 1 := ⟨⟨tg_mem (i := 896) (by decide +kernel) rfl, tg_mem (i := 71) (by decide +kernel) rfl, tg_mem (i := 897) (by decide +kernel) rfl⟩, by decide +kernel, by decide +kernel, by decide +kernel⟩
theorem ml_X4_99 : Cond.methodLink RX4 99 yX4_becomes ∈ TG := tg_mem (i := 898) (by decide +kernel) rfl
theorem kv_X4_becomes : KV RX4 yX4_becomes cX4_becomes 4 (some .int) 2 := ⟨⟨tg_mem (i := 900) (by decide +kernel) rfl, tg_mem (i := 23) (by decide +kernel) rfl, tg_mem (i := 71) (by decide +kernel) rfl, tg_mem (i := 901) (by decide +kernel) rfl⟩, rfl, by decide +kernel, by decide +kernel, by decide +kernel⟩
theorem ml_X4_102 : Cond.methodLink RX4 102 yX4_aboveOf ∈ TG := tg_mem (i := 1259) (by decide +kernel) rfl
theorem ks_X4_aboveOf : KS yX4_aboveOf cX4_aboveOf 1 (some .int) 1 := ⟨⟨tg_mem (i := 1260) (by decide +kernel) rfl, tg_mem (i := 71) (by decide +kernel) rfl, tg_mem (i := 1261) (by decide +kernel) rfl⟩, by decide +kernel, by decide +kernel, by decide +kernel⟩
theorem kl_X4_105 : Cond.constantLong RX4 105 (6 : Int64) ∈ TG := tg_mem (i := 909) (by decide +kernel) rfl
theorem ml_X4_107 : Cond.methodLink RX4 107 yX4_sets ∈ TG := tg_mem (i := 914) (by decide +kernel) rfl
theorem kv_X4_sets : KV RX4 yX4_sets cX4_sets 4 none 3 := ⟨⟨tg_mem (i := 916) (by decide +kernel) rfl, tg_mem (i := 25) (by decide +kernel) rfl, tg_mem (i := 71) (by decide +kernel) rfl, tg_mem (i := 917) (by decide +kernel) rfl⟩, rfl, by decide +kernel, by decide +kernel, by decide +kernel⟩
theorem ml_X4_110 : Cond.methodLink RX4 110 yX4_isKind ∈ TG := tg_mem (i := 906) (by decide +kernel) rfl
theorem ks_X4_isKind : KS yX4_isKind cX4_isKind 1 (some .boolean) 1 := ⟨⟨tg_mem (i := 907) (by decide +kernel) rfl, tg_mem (i := 71) (by decide +kernel) rfl, tg_mem (i := 908) (by decide +kernel) rfl⟩, by decide +kernel, by decide +kernel, by decide +kernel⟩
theorem ml_X4_113 : Cond.methodLink RX4 113 yX4_adds ∈ TG := tg_mem (i := 910) (by decide +kernel) rfl
theorem kv_X4_adds : KV RX4 yX4_adds cX4_adds 5 (some .int) 3 := ⟨⟨tg_mem (i := 912) (by decide +kernel) rfl, tg_mem (i := 24) (by decide +kernel) rfl, tg_mem (i := 71) (by decide +kernel) rfl, tg_mem (i := 913) (by decide +kernel) rfl⟩, rfl, by decide +kernel, by decide +kernel, by decide +kernel⟩
theorem ml_X4_117 : Cond.methodLink RX4 117 yX4_isWhisper ∈ TG := tg_mem (i := 922) (by decide +kernel) rfl
theorem kv_X4_isWhisper : KV RX4 yX4_isWhisper cX4_isWhisper 2 (some .boolean) 1 := ⟨⟨tg_mem (i := 924) (by decide +kernel) rfl, tg_mem (i := 26) (by decide +kernel) rfl, tg_mem (i := 71) (by decide +kernel) rfl, tg_mem (i := 925) (by decide +kernel) rfl⟩, rfl, by decide +kernel, by decide +kernel, by decide +kernel⟩
theorem ml_X4_123 : Cond.methodLink RX4 123 yX4_gathers ∈ TG := tg_mem (i := 930) (by decide +kernel) rfl
theorem kv_X4_gathers : KV RX4 yX4_gathers cX4_gathers 2 (some .int) 1 := ⟨⟨tg_mem (i := 932) (by decide +kernel) rfl, tg_mem (i := 28) (by decide +kernel) rfl, tg_mem (i := 71) (by decide +kernel) rfl, tg_mem (i := 933) (by decide +kernel) rfl⟩, rfl, by decide +kernel, by decide +kernel, by decide +kernel⟩
theorem ml_X4_120 : Cond.methodLink RX4 120 yX4_speed ∈ TG := tg_mem (i := 926) (by decide +kernel) rfl
theorem kv_X4_speed : KV RX4 yX4_speed cX4_speed 7 (some .int) 1 := ⟨⟨tg_mem (i := 928) (by decide +kernel) rfl, tg_mem (i := 27) (by decide +kernel) rfl, tg_mem (i := 71) (by decide +kernel) rfl, tg_mem (i := 929) (by decide +kernel) rfl⟩, rfl, by decide +kernel, by decide +kernel, by decide +kernel⟩
theorem kl_X4_126 : Cond.constantLong RX4 126 (999 : Int64) ∈ TG := tg_mem (i := 941) (by decide +kernel) rfl
theorem ml_X4_128 : Cond.methodLink RX4 128 yX4_mayBe ∈ TG := tg_mem (i := 938) (by decide +kernel) rfl
theorem ks_X4_mayBe : KS yX4_mayBe cX4_mayBe 2 (some .boolean) 2 := ⟨⟨tg_mem (i := 939) (by decide +kernel) rfl, tg_mem (i := 71) (by decide +kernel) rfl, tg_mem (i := 940) (by decide +kernel) rfl⟩, by decide +kernel, by decide +kernel, by decide +kernel⟩
theorem ml_X4_132 : Cond.methodLink RX4 132 yX4_isSet ∈ TG := tg_mem (i := 946) (by decide +kernel) rfl
theorem ks_X4_isSet : KS yX4_isSet cX4_isSet 1 (some .boolean) 1 := ⟨⟨tg_mem (i := 947) (by decide +kernel) rfl, tg_mem (i := 71) (by decide +kernel) rfl, tg_mem (i := 948) (by decide +kernel) rfl⟩, by decide +kernel, by decide +kernel, by decide +kernel⟩
theorem fl_X4_135 : Cond.fieldLink RX4 135 "DownhillWhispersModel" "by" "I" ∈ TG := tg_mem (i := 783) (by decide +kernel) rfl
theorem fl_X4_139 : Cond.fieldLink RX4 139 "DownhillWhispersModel" "watched" "I" ∈ TG := tg_mem (i := 784) (by decide +kernel) rfl
theorem ml_X4_142 : Cond.methodLink RX4 142 yX4_rolls ∈ TG := tg_mem (i := 968) (by decide +kernel) rfl
theorem kv_X4_rolls : KV RX4 yX4_rolls cX4_rolls 4 none 1 := ⟨⟨tg_mem (i := 970) (by decide +kernel) rfl, tg_mem (i := 31) (by decide +kernel) rfl, tg_mem (i := 71) (by decide +kernel) rfl, tg_mem (i := 971) (by decide +kernel) rfl⟩, rfl, by decide +kernel, by decide +kernel, by decide +kernel⟩
theorem ml_X4_146 : Cond.methodLink RX4 146 yX4_aMinute ∈ TG := tg_mem (i := 964) (by decide +kernel) rfl
theorem kv_X4_aMinute : KV RX4 yX4_aMinute cX4_aMinute 2 none 0 := ⟨⟨tg_mem (i := 966) (by decide +kernel) rfl, tg_mem (i := 30) (by decide +kernel) rfl, tg_mem (i := 71) (by decide +kernel) rfl, tg_mem (i := 967) (by decide +kernel) rfl⟩, rfl, by decide +kernel, by decide +kernel, by decide +kernel⟩
theorem kl_X4_149 : Cond.constantLong RX4 149 (60 : Int64) ∈ TG := tg_mem (i := 958) (by decide +kernel) rfl
theorem kc_X4_151 : Cond.constant RX4 151 (99999 : Int32) ∈ TG := tg_mem (i := 959) (by decide +kernel) rfl
theorem ml_X4_152 : Cond.methodLink RX4 152 yX4_minutes ∈ TG := tg_mem (i := 960) (by decide +kernel) rfl
theorem kv_X4_minutes : KV RX4 yX4_minutes cX4_minutes 3 none 1 := ⟨⟨tg_mem (i := 962) (by decide +kernel) rfl, tg_mem (i := 29) (by decide +kernel) rfl, tg_mem (i := 71) (by decide +kernel) rfl, tg_mem (i := 963) (by decide +kernel) rfl⟩, rfl, by decide +kernel, by decide +kernel, by decide +kernel⟩
theorem ml_X4_155 : Cond.methodLink RX4 155 yX4_cornersThat ∈ TG := tg_mem (i := 976) (by decide +kernel) rfl
theorem kv_X4_cornersThat : KV RX4 yX4_cornersThat cX4_cornersThat 4 (some .int) 1 := ⟨⟨tg_mem (i := 978) (by decide +kernel) rfl, tg_mem (i := 32) (by decide +kernel) rfl, tg_mem (i := 71) (by decide +kernel) rfl, tg_mem (i := 979) (by decide +kernel) rfl⟩, rfl, by decide +kernel, by decide +kernel, by decide +kernel⟩
theorem ml_X4_159 : Cond.methodLink RX4 159 yX4_allWeight ∈ TG := tg_mem (i := 980) (by decide +kernel) rfl
theorem kv_X4_allWeight : KV RX4 yX4_allWeight cX4_allWeight 3 (some .int) 0 := ⟨⟨tg_mem (i := 982) (by decide +kernel) rfl, tg_mem (i := 33) (by decide +kernel) rfl, tg_mem (i := 71) (by decide +kernel) rfl, tg_mem (i := 983) (by decide +kernel) rfl⟩, rfl, by decide +kernel, by decide +kernel, by decide +kernel⟩
theorem kl_X4_163 : Cond.constantLong RX4 163 (100 : Int64) ∈ TG := tg_mem (i := 995) (by decide +kernel) rfl
theorem ml_X4_165 : Cond.methodLink RX4 165 yX4_isAhead ∈ TG := tg_mem (i := 992) (by decide +kernel) rfl
theorem ks_X4_isAhead : KS yX4_isAhead cX4_isAhead 1 (some .boolean) 1 := ⟨⟨tg_mem (i := 993) (by decide +kernel) rfl, tg_mem (i := 71) (by decide +kernel) rfl, tg_mem (i := 994) (by decide +kernel) rfl⟩, by decide +kernel, by decide +kernel, by decide +kernel⟩
theorem ml_X4_168 : Cond.methodLink RX4 168 yX4_lends ∈ TG := tg_mem (i := 996) (by decide +kernel) rfl
theorem kv_X4_lends : KV RX4 yX4_lends cX4_lends 1 none 0 := ⟨⟨tg_mem (i := 998) (by decide +kernel) rfl, tg_mem (i := 34) (by decide +kernel) rfl, tg_mem (i := 71) (by decide +kernel) rfl, tg_mem (i := 999) (by decide +kernel) rfl⟩, rfl, by decide +kernel, by decide +kernel, by decide +kernel⟩
theorem ml_X4_171 : Cond.methodLink RX4 171 yX4_laysBack ∈ TG := tg_mem (i := 1003) (by decide +kernel) rfl
theorem kv_X4_laysBack : KV RX4 yX4_laysBack cX4_laysBack 1 none 0 := ⟨⟨tg_mem (i := 1005) (by decide +kernel) rfl, tg_mem (i := 35) (by decide +kernel) rfl, tg_mem (i := 71) (by decide +kernel) rfl, tg_mem (i := 1006) (by decide +kernel) rfl⟩, rfl, by decide +kernel, by decide +kernel, by decide +kernel⟩
theorem ml_X4_174 : Cond.methodLink RX4 174 yX4_loudBy ∈ TG := tg_mem (i := 1011) (by decide +kernel) rfl
theorem kv_X4_loudBy : KV RX4 yX4_loudBy cX4_loudBy 4 (some .int) 2 := ⟨⟨tg_mem (i := 1013) (by decide +kernel) rfl, tg_mem (i := 36) (by decide +kernel) rfl, tg_mem (i := 71) (by decide +kernel) rfl, tg_mem (i := 1014) (by decide +kernel) rfl⟩, rfl, by decide +kernel, by decide +kernel, by decide +kernel⟩
theorem ml_X4_177 : Cond.methodLink RX4 177 yX4_moves ∈ TG := tg_mem (i := 1027) (by decide +kernel) rfl
theorem kv_X4_moves : KV RX4 yX4_moves cX4_moves 2 (some .boolean) 1 := ⟨⟨tg_mem (i := 1029) (by decide +kernel) rfl, tg_mem (i := 38) (by decide +kernel) rfl, tg_mem (i := 71) (by decide +kernel) rfl, tg_mem (i := 1030) (by decide +kernel) rfl⟩, rfl, by decide +kernel, by decide +kernel, by decide +kernel⟩
theorem ml_X4_180 : Cond.methodLink RX4 180 yX4_isStill ∈ TG := tg_mem (i := 1023) (by decide +kernel) rfl
theorem kv_X4_isStill : KV RX4 yX4_isStill cX4_isStill 3 (some .boolean) 0 := ⟨⟨tg_mem (i := 1025) (by decide +kernel) rfl, tg_mem (i := 37) (by decide +kernel) rfl, tg_mem (i := 71) (by decide +kernel) rfl, tg_mem (i := 1026) (by decide +kernel) rfl⟩, rfl, by decide +kernel, by decide +kernel, by decide +kernel⟩
theorem ml_X4_184 : Cond.methodLink RX4 184 yX4_comesHome ∈ TG := tg_mem (i := 1035) (by decide +kernel) rfl
theorem kv_X4_comesHome : KV RX4 yX4_comesHome cX4_comesHome 3 (some .int) 1 := ⟨⟨tg_mem (i := 1037) (by decide +kernel) rfl, tg_mem (i := 39) (by decide +kernel) rfl, tg_mem (i := 71) (by decide +kernel) rfl, tg_mem (i := 1038) (by decide +kernel) rfl⟩, rfl, by decide +kernel, by decide +kernel, by decide +kernel⟩
theorem ml_X4_187 : Cond.methodLink RX4 187 yX4_heightOf ∈ TG := tg_mem (i := 1047) (by decide +kernel) rfl
theorem kv_X4_heightOf : KV RX4 yX4_heightOf cX4_heightOf 2 (some .int) 1 := ⟨⟨tg_mem (i := 1049) (by decide +kernel) rfl, tg_mem (i := 40) (by decide +kernel) rfl, tg_mem (i := 71) (by decide +kernel) rfl, tg_mem (i := 1050) (by decide +kernel) rfl⟩, rfl, by decide +kernel, by decide +kernel, by decide +kernel⟩
theorem ml_X4_190 : Cond.methodLink RX4 190 yX4_goesFrom ∈ TG := tg_mem (i := 1059) (by decide +kernel) rfl
theorem kv_X4_goesFrom : KV RX4 yX4_goesFrom cX4_goesFrom 3 (some .int) 2 := ⟨⟨tg_mem (i := 1061) (by decide +kernel) rfl, tg_mem (i := 41) (by decide +kernel) rfl, tg_mem (i := 71) (by decide +kernel) rfl, tg_mem (i := 1062) (by decide +kernel) rfl⟩, rfl, by decide +kernel, by decide +kernel, by decide +kernel⟩
theorem fl_X4_193 : Cond.fieldLink RX4 193 "DownhillWhispersModel" "bestPlace" "I" ∈ TG := tg_mem (i := 785) (by decide +kernel) rfl
theorem fl_X4_196 : Cond.fieldLink RX4 196 "DownhillWhispersModel" "placeMany" "I" ∈ TG := tg_mem (i := 786) (by decide +kernel) rfl
theorem ml_X4_199 : Cond.methodLink RX4 199 yX4_arePlaces ∈ TG := tg_mem (i := 1067) (by decide +kernel) rfl
theorem kv_X4_arePlaces : KV RX4 yX4_arePlaces cX4_arePlaces 4 (some .boolean) 3 := ⟨⟨tg_mem (i := 1069) (by decide +kernel) rfl, tg_mem (i := 42) (by decide +kernel) rfl, tg_mem (i := 71) (by decide +kernel) rfl, tg_mem (i := 1070) (by decide +kernel) rfl⟩, rfl, by decide +kernel, by decide +kernel, by decide +kernel⟩
theorem ml_X4_203 : Cond.methodLink RX4 203 yX4_findPlaces ∈ TG := tg_mem (i := 1071) (by decide +kernel) rfl
theorem kv_X4_findPlaces : KV RX4 yX4_findPlaces cX4_findPlaces 6 none 3 := ⟨⟨tg_mem (i := 1073) (by decide +kernel) rfl, tg_mem (i := 43) (by decide +kernel) rfl, tg_mem (i := 71) (by decide +kernel) rfl, tg_mem (i := 1074) (by decide +kernel) rfl⟩, rfl, by decide +kernel, by decide +kernel, by decide +kernel⟩
theorem kl_X4_206 : Cond.constantLong RX4 206 (40 : Int64) ∈ TG := tg_mem (i := 1086) (by decide +kernel) rfl
theorem ml_X4_208 : Cond.methodLink RX4 208 yX4_isShort ∈ TG := tg_mem (i := 1083) (by decide +kernel) rfl
theorem ks_X4_isShort : KS yX4_isShort cX4_isShort 1 (some .boolean) 1 := ⟨⟨tg_mem (i := 1084) (by decide +kernel) rfl, tg_mem (i := 71) (by decide +kernel) rfl, tg_mem (i := 1085) (by decide +kernel) rfl⟩, by decide +kernel, by decide +kernel, by decide +kernel⟩
theorem fl_X4_211 : Cond.fieldLink RX4 211 "DownhillWhispersModel" "bestSand" "I" ∈ TG := tg_mem (i := 787) (by decide +kernel) rfl
theorem ml_X4_214 : Cond.methodLink RX4 214 yX4_costOf ∈ TG := tg_mem (i := 1099) (by decide +kernel) rfl
theorem kv_X4_costOf : KV RX4 yX4_costOf cX4_costOf 4 (some .int) 1 := ⟨⟨tg_mem (i := 1101) (by decide +kernel) rfl, tg_mem (i := 45) (by decide +kernel) rfl, tg_mem (i := 71) (by decide +kernel) rfl, tg_mem (i := 1102) (by decide +kernel) rfl⟩, rfl, by decide +kernel, by decide +kernel, by decide +kernel⟩
theorem fl_X4_217 : Cond.fieldLink RX4 217 "DownhillWhispersModel" "leastCost" "I" ∈ TG := tg_mem (i := 788) (by decide +kernel) rfl
theorem ml_X4_220 : Cond.methodLink RX4 220 yX4_loudWith ∈ TG := tg_mem (i := 1103) (by decide +kernel) rfl
theorem kv_X4_loudWith : KV RX4 yX4_loudWith cX4_loudWith 7 (some .int) 3 := ⟨⟨tg_mem (i := 1105) (by decide +kernel) rfl, tg_mem (i := 46) (by decide +kernel) rfl, tg_mem (i := 71) (by decide +kernel) rfl, tg_mem (i := 1106) (by decide +kernel) rfl⟩, rfl, by decide +kernel, by decide +kernel, by decide +kernel⟩
theorem kl_X4_223 : Cond.constantLong RX4 223 (9999 : Int64) ∈ TG := tg_mem (i := 1094) (by decide +kernel) rfl
theorem ml_X4_225 : Cond.methodLink RX4 225 yX4_isQuiet ∈ TG := tg_mem (i := 1091) (by decide +kernel) rfl
theorem ks_X4_isQuiet : KS yX4_isQuiet cX4_isQuiet 3 (some .boolean) 3 := ⟨⟨tg_mem (i := 1092) (by decide +kernel) rfl, tg_mem (i := 71) (by decide +kernel) rfl, tg_mem (i := 1093) (by decide +kernel) rfl⟩, by decide +kernel, by decide +kernel, by decide +kernel⟩
theorem ml_X4_228 : Cond.methodLink RX4 228 yX4_findSand ∈ TG := tg_mem (i := 1095) (by decide +kernel) rfl
theorem kv_X4_findSand : KV RX4 yX4_findSand cX4_findSand 5 none 3 := ⟨⟨tg_mem (i := 1097) (by decide +kernel) rfl, tg_mem (i := 44) (by decide +kernel) rfl, tg_mem (i := 71) (by decide +kernel) rfl, tg_mem (i := 1098) (by decide +kernel) rfl⟩, rfl, by decide +kernel, by decide +kernel, by decide +kernel⟩
theorem fl_X4_231 : Cond.fieldLink RX4 231 "DownhillWhispersModel" "fitMany" "I" ∈ TG := tg_mem (i := 790) (by decide +kernel) rfl
theorem fl_X4_234 : Cond.fieldLink RX4 234 "DownhillWhispersModel" "firstFit" "I" ∈ TG := tg_mem (i := 791) (by decide +kernel) rfl
theorem ml_X4_237 : Cond.methodLink RX4 237 yX4_isAsTold ∈ TG := tg_mem (i := 1135) (by decide +kernel) rfl
theorem kv_X4_isAsTold : KV RX4 yX4_isAsTold cX4_isAsTold 5 (some .boolean) 1 := ⟨⟨tg_mem (i := 1137) (by decide +kernel) rfl, tg_mem (i := 50) (by decide +kernel) rfl, tg_mem (i := 71) (by decide +kernel) rfl, tg_mem (i := 1138) (by decide +kernel) rfl⟩, rfl, by decide +kernel, by decide +kernel, by decide +kernel⟩
theorem kl_X4_360 : Cond.constantLong RX4 360 (3 : Int64) ∈ TG := tg_mem (i := 1130) (by decide +kernel) rfl
theorem ml_X4_362 : Cond.methodLink RX4 362 yX4_isSheet ∈ TG := tg_mem (i := 1127) (by decide +kernel) rfl
theorem ks_X4_isSheet : KS yX4_isSheet cX4_isSheet 1 (some .boolean) 1 := ⟨⟨tg_mem (i := 1128) (by decide +kernel) rfl, tg_mem (i := 71) (by decide +kernel) rfl, tg_mem (i := 1129) (by decide +kernel) rfl⟩, by decide +kernel, by decide +kernel, by decide +kernel⟩
theorem ml_X4_240 : Cond.methodLink RX4 240 yX4_lacks ∈ TG := tg_mem (i := 1123) (by decide +kernel) rfl
theorem kv_X4_lacks : KV RX4 yX4_lacks cX4_lacks 2 (some .int) 1 := ⟨⟨tg_mem (i := 1125) (by decide +kernel) rfl, tg_mem (i := 48) (by decide +kernel) rfl, tg_mem (i := 71) (by decide +kernel) rfl, tg_mem (i := 1126) (by decide +kernel) rfl⟩, rfl, by decide +kernel, by decide +kernel, by decide +kernel⟩
theorem ml_X4_243 : Cond.methodLink RX4 243 yX4_lacksFits ∈ TG := tg_mem (i := 1119) (by decide +kernel) rfl
theorem kv_X4_lacksFits : KV RX4 yX4_lacksFits cX4_lacksFits 4 (some .int) 2 := ⟨⟨tg_mem (i := 1121) (by decide +kernel) rfl, tg_mem (i := 47) (by decide +kernel) rfl, tg_mem (i := 71) (by decide +kernel) rfl, tg_mem (i := 1122) (by decide +kernel) rfl⟩, rfl, by decide +kernel, by decide +kernel, by decide +kernel⟩
theorem ml_X4_246 : Cond.methodLink RX4 246 yX4_findFits ∈ TG := tg_mem (i := 1131) (by decide +kernel) rfl
theorem kv_X4_findFits : KV RX4 yX4_findFits cX4_findFits 7 none 2 := ⟨⟨tg_mem (i := 1133) (by decide +kernel) rfl, tg_mem (i := 49) (by decide +kernel) rfl, tg_mem (i := 71) (by decide +kernel) rfl, tg_mem (i := 1134) (by decide +kernel) rfl⟩, rfl, by decide +kernel, by decide +kernel, by decide +kernel⟩
theorem kc_X4_250 : Cond.constant RX4 250 (1103515245 : Int32) ∈ TG := tg_mem (i := 1160) (by decide +kernel) rfl
theorem kl_X4_251 : Cond.constantLong RX4 251 (20 : Int64) ∈ TG := tg_mem (i := 1155) (by decide +kernel) rfl
theorem ml_X4_253 : Cond.methodLink RX4 253 yX4_draw ∈ TG := tg_mem (i := 1156) (by decide +kernel) rfl
theorem kv_X4_draw : KV RX4 yX4_draw cX4_draw 1 (some .int) 0 := ⟨⟨tg_mem (i := 1158) (by decide +kernel) rfl, tg_mem (i := 51) (by decide +kernel) rfl, tg_mem (i := 71) (by decide +kernel) rfl, tg_mem (i := 1159) (by decide +kernel) rfl⟩, rfl, by decide +kernel, by decide +kernel, by decide +kernel⟩
theorem kl_X4_256 : Cond.constantLong RX4 256 (18 : Int64) ∈ TG := tg_mem (i := 1165) (by decide +kernel) rfl
theorem kl_X4_258 : Cond.constantLong RX4 258 (10 : Int64) ∈ TG := tg_mem (i := 1166) (by decide +kernel) rfl
theorem fl_X4_260 : Cond.fieldLink RX4 260 "DownhillWhispersModel" "taped" "I" ∈ TG := tg_mem (i := 793) (by decide +kernel) rfl
theorem fl_X4_263 : Cond.fieldLink RX4 263 "DownhillWhispersModel" "to" "I" ∈ TG := tg_mem (i := 795) (by decide +kernel) rfl
theorem fl_X4_266 : Cond.fieldLink RX4 266 "DownhillWhispersModel" "from" "I" ∈ TG := tg_mem (i := 794) (by decide +kernel) rfl
theorem ml_X4_269 : Cond.methodLink RX4 269 yX4_isByte ∈ TG := tg_mem (i := 1187) (by decide +kernel) rfl
theorem kv_X4_isByte : KV RX4 yX4_isByte cX4_isByte 4 (some .boolean) 3 := ⟨⟨tg_mem (i := 1189) (by decide +kernel) rfl, tg_mem (i := 53) (by decide +kernel) rfl, tg_mem (i := 71) (by decide +kernel) rfl, tg_mem (i := 1190) (by decide +kernel) rfl⟩, rfl, by decide +kernel, by decide +kernel, by decide +kernel⟩
theorem fl_X4_272 : Cond.fieldLink RX4 272 "DownhillWhispersModel" "isWrong" "Z" ∈ TG := tg_mem (i := 796) (by decide +kernel) rfl
theorem kv_J0_length_8abf5 : KV RJ0 yJ0_length_8abf5 cJ0_length_8abf5 1 (some .int) 0 := ⟨⟨tg_mem (i := 596) (by decide +kernel) rfl, tg_mem (i := 597) (by decide +kernel) rfl, tg_mem (i := 74) (by decide +kernel) rfl, tg_mem (i := 598) (by decide +kernel) rfl⟩, rfl, by decide +kernel, by decide +kernel, by decide +kernel⟩
theorem ml_X4_276 : Cond.methodLink RX4 276 yJ0_length_8abf5 ∈ TG := tg_mem (i := 1204) (by decide +kernel) rfl
theorem kv_J0_charAt_5068e : KV RJ0 yJ0_charAt_5068e cJ0_charAt_5068e 2 (some .char) 1 := ⟨⟨tg_mem (i := 606) (by decide +kernel) rfl, tg_mem (i := 607) (by decide +kernel) rfl, tg_mem (i := 74) (by decide +kernel) rfl, tg_mem (i := 608) (by decide +kernel) rfl⟩, rfl, by decide +kernel, by decide +kernel, by decide +kernel⟩
theorem ml_X4_281 : Cond.methodLink RX4 281 yJ0_charAt_5068e ∈ TG := tg_mem (i := 1205) (by decide +kernel) rfl
theorem ml_X4_285 : Cond.methodLink RX4 285 yX4_next ∈ TG := tg_mem (i := 1183) (by decide +kernel) rfl
theorem kv_X4_next : KV RX4 yX4_next cX4_next 3 none 0 := ⟨⟨tg_mem (i := 1185) (by decide +kernel) rfl, tg_mem (i := 52) (by decide +kernel) rfl, tg_mem (i := 71) (by decide +kernel) rfl, tg_mem (i := 1186) (by decide +kernel) rfl⟩, rfl, by decide +kernel, by decide +kernel, by decide +kernel⟩
theorem ml_X4_288 : Cond.methodLink RX4 288 yX4_isWord ∈ TG := tg_mem (i := 1200) (by decide +kernel) rfl
theorem kv_X4_isWord : KV RX4 yX4_isWord cX4_isWord 4 (some .boolean) 1 := ⟨⟨tg_mem (i := 1202) (by decide +kernel) rfl, tg_mem (i := 56) (by decide +kernel) rfl, tg_mem (i := 71) (by decide +kernel) rfl, tg_mem (i := 1203) (by decide +kernel) rfl⟩, rfl, by decide +kernel, by decide +kernel, by decide +kernel⟩
theorem ml_X4_292 : Cond.methodLink RX4 292 yX4_must ∈ TG := tg_mem (i := 1216) (by decide +kernel) rfl
theorem kv_X4_must : KV RX4 yX4_must cX4_must 2 none 1 := ⟨⟨tg_mem (i := 1218) (by decide +kernel) rfl, tg_mem (i := 58) (by decide +kernel) rfl, tg_mem (i := 71) (by decide +kernel) rfl, tg_mem (i := 1219) (by decide +kernel) rfl⟩, rfl, by decide +kernel, by decide +kernel, by decide +kernel⟩
theorem ml_X4_312 : Cond.methodLink RX4 312 yX4_takes ∈ TG := tg_mem (i := 1221) (by decide +kernel) rfl
theorem kv_X4_takes : KV RX4 yX4_takes cX4_takes 3 (some .boolean) 1 := ⟨⟨tg_mem (i := 1223) (by decide +kernel) rfl, tg_mem (i := 59) (by decide +kernel) rfl, tg_mem (i := 71) (by decide +kernel) rfl, tg_mem (i := 1224) (by decide +kernel) rfl⟩, rfl, by decide +kernel, by decide +kernel, by decide +kernel⟩
theorem ml_X4_315 : Cond.methodLink RX4 315 yX4_numberRead ∈ TG := tg_mem (i := 1225) (by decide +kernel) rfl
theorem kv_X4_numberRead : KV RX4 yX4_numberRead cX4_numberRead 5 (some .int) 2 := ⟨⟨tg_mem (i := 1227) (by decide +kernel) rfl, tg_mem (i := 60) (by decide +kernel) rfl, tg_mem (i := 71) (by decide +kernel) rfl, tg_mem (i := 1228) (by decide +kernel) rfl⟩, rfl, by decide +kernel, by decide +kernel, by decide +kernel⟩
theorem ml_X4_320 : Cond.methodLink RX4 320 yX4_kindHere ∈ TG := tg_mem (i := 1195) (by decide +kernel) rfl
theorem kv_X4_kindHere : KV RX4 yX4_kindHere cX4_kindHere 3 (some .int) 0 := ⟨⟨tg_mem (i := 1197) (by decide +kernel) rfl, tg_mem (i := 55) (by decide +kernel) rfl, tg_mem (i := 71) (by decide +kernel) rfl, tg_mem (i := 1198) (by decide +kernel) rfl⟩, rfl, by decide +kernel, by decide +kernel, by decide +kernel⟩
theorem kc_X4_342 : Cond.constant RX4 342 (65535 : Int32) ∈ TG := tg_mem (i := 1240) (by decide +kernel) rfl
theorem ml_X4_330 : Cond.methodLink RX4 330 yX4_partTold ∈ TG := tg_mem (i := 1232) (by decide +kernel) rfl
theorem kv_X4_partTold : KV RX4 yX4_partTold cX4_partTold 5 none 3 := ⟨⟨tg_mem (i := 1234) (by decide +kernel) rfl, tg_mem (i := 61) (by decide +kernel) rfl, tg_mem (i := 71) (by decide +kernel) rfl, tg_mem (i := 1235) (by decide +kernel) rfl⟩, rfl, by decide +kernel, by decide +kernel, by decide +kernel⟩
theorem ml_X4_323 : Cond.methodLink RX4 323 yX4_whisperTold ∈ TG := tg_mem (i := 1212) (by decide +kernel) rfl
theorem kv_X4_whisperTold : KV RX4 yX4_whisperTold cX4_whisperTold 3 none 1 := ⟨⟨tg_mem (i := 1214) (by decide +kernel) rfl, tg_mem (i := 57) (by decide +kernel) rfl, tg_mem (i := 71) (by decide +kernel) rfl, tg_mem (i := 1215) (by decide +kernel) rfl⟩, rfl, by decide +kernel, by decide +kernel, by decide +kernel⟩
theorem ml_X4_347 : Cond.methodLink RX4 347 yX4_item ∈ TG := tg_mem (i := 1191) (by decide +kernel) rfl
theorem kv_X4_item : KV RX4 yX4_item cX4_item 3 none 0 := ⟨⟨tg_mem (i := 1193) (by decide +kernel) rfl, tg_mem (i := 54) (by decide +kernel) rfl, tg_mem (i := 71) (by decide +kernel) rfl, tg_mem (i := 1194) (by decide +kernel) rfl⟩, rfl, by decide +kernel, by decide +kernel, by decide +kernel⟩
theorem kl_X4_352 : Cond.constantLong RX4 352 (9 : Int64) ∈ TG := tg_mem (i := 1251) (by decide +kernel) rfl
theorem ml_X4_354 : Cond.methodLink RX4 354 yX4_isSpot ∈ TG := tg_mem (i := 1248) (by decide +kernel) rfl
theorem ks_X4_isSpot : KS yX4_isSpot cX4_isSpot 1 (some .boolean) 1 := ⟨⟨tg_mem (i := 1249) (by decide +kernel) rfl, tg_mem (i := 71) (by decide +kernel) rfl, tg_mem (i := 1250) (by decide +kernel) rfl⟩, by decide +kernel, by decide +kernel, by decide +kernel⟩
theorem ml_X4_357 : Cond.methodLink RX4 357 yX4_isUnder ∈ TG := tg_mem (i := 1256) (by decide +kernel) rfl
theorem ks_X4_isUnder : KS yX4_isUnder cX4_isUnder 3 (some .boolean) 2 := ⟨⟨tg_mem (i := 1257) (by decide +kernel) rfl, tg_mem (i := 71) (by decide +kernel) rfl, tg_mem (i := 1258) (by decide +kernel) rfl⟩, by decide +kernel, by decide +kernel, by decide +kernel⟩
theorem kl_X4_365 : Cond.constantLong RX4 365 (99 : Int64) ∈ TG := tg_mem (i := 1278) (by decide +kernel) rfl
theorem fl_X4_367 : Cond.fieldLink RX4 367 "DownhillWhispersModel" "isKept" "Z" ∈ TG := tg_mem (i := 781) (by decide +kernel) rfl
theorem ml_X4_370 : Cond.methodLink RX4 370 yX4_atHarbour ∈ TG := tg_mem (i := 1299) (by decide +kernel) rfl
theorem kv_X4_atHarbour : KV RX4 yX4_atHarbour cX4_atHarbour 3 (some .int) 0 := ⟨⟨tg_mem (i := 1301) (by decide +kernel) rfl, tg_mem (i := 62) (by decide +kernel) rfl, tg_mem (i := 71) (by decide +kernel) rfl, tg_mem (i := 1302) (by decide +kernel) rfl⟩, rfl, by decide +kernel, by decide +kernel, by decide +kernel⟩
theorem ml_X4_373 : Cond.methodLink RX4 373 yX4_allSand ∈ TG := tg_mem (i := 1303) (by decide +kernel) rfl
theorem kv_X4_allSand : KV RX4 yX4_allSand cX4_allSand 3 (some .int) 0 := ⟨⟨tg_mem (i := 1305) (by decide +kernel) rfl, tg_mem (i := 63) (by decide +kernel) rfl, tg_mem (i := 71) (by decide +kernel) rfl, tg_mem (i := 1306) (by decide +kernel) rfl⟩, rfl, by decide +kernel, by decide +kernel, by decide +kernel⟩
theorem ml_X4_376 : Cond.methodLink RX4 376 yX4_held ∈ TG := tg_mem (i := 1307) (by decide +kernel) rfl
theorem kv_X4_held : KV RX4 yX4_held cX4_held 3 (some .int) 0 := ⟨⟨tg_mem (i := 1309) (by decide +kernel) rfl, tg_mem (i := 64) (by decide +kernel) rfl, tg_mem (i := 71) (by decide +kernel) rfl, tg_mem (i := 1310) (by decide +kernel) rfl⟩, rfl, by decide +kernel, by decide +kernel, by decide +kernel⟩
theorem kl_X4_379 : Cond.constantLong RX4 379 (-1 : Int64) ∈ TG := tg_mem (i := 1315) (by decide +kernel) rfl
theorem fl_X0_15 : Cond.fieldLink RX0 15 "DownhillWhispers$Sheet" "bits" "I" ∈ TG := tg_mem (i := 170) (by decide +kernel) rfl
theorem fl_X0_19 : Cond.fieldLink RX0 19 "DownhillWhispers$Sheet" "length" "I" ∈ TG := tg_mem (i := 172) (by decide +kernel) rfl
theorem ml_X0_26 : Cond.methodLink RX0 26 Lib.Math.min.name ∈ TG := tg_mem (i := 730) (by decide +kernel) rfl
theorem fl_X1_15 : Cond.fieldLink RX1 15 "DownhillWhispers$Tape" "length" "I" ∈ TG := tg_mem (i := 142) (by decide +kernel) rfl
theorem fl_X1_29 : Cond.fieldLink RX1 29 "DownhillWhispers$Tape" "token" "I" ∈ TG := tg_mem (i := 144) (by decide +kernel) rfl
theorem fl_X1_59 : Cond.fieldLink RX1 59 "DownhillWhispers$Tape" "value" "I" ∈ TG := tg_mem (i := 147) (by decide +kernel) rfl
theorem ks_X3_isWithin : KS yX3_isWithin cX3_isWithin 3 (some .boolean) 3 := ⟨⟨tg_mem (i := 211) (by decide +kernel) rfl, tg_mem (i := 66) (by decide +kernel) rfl, tg_mem (i := 212) (by decide +kernel) rfl⟩, by decide +kernel, by decide +kernel, by decide +kernel⟩
theorem fl_X1_19 : Cond.fieldLink RX1 19 "DownhillWhispers$Tape" "stop" "I" ∈ TG := tg_mem (i := 146) (by decide +kernel) rfl
theorem fl_X1_32 : Cond.fieldLink RX1 32 "DownhillWhispers$Tape" "start" "I" ∈ TG := tg_mem (i := 145) (by decide +kernel) rfl
theorem ml_X1_116 : Cond.methodLink RX1 116 yJ0_length_8abf5 ∈ TG := tg_mem (i := 595) (by decide +kernel) rfl
theorem ml_X1_121 : Cond.methodLink RX1 121 yX1_byteAt ∈ TG := tg_mem (i := 568) (by decide +kernel) rfl
theorem kv_X1_byteAt : KV RX1 yX1_byteAt cX1_byteAt 2 (some .int) 1 := ⟨⟨tg_mem (i := 570) (by decide +kernel) rfl, tg_mem (i := 7) (by decide +kernel) rfl, tg_mem (i := 69) (by decide +kernel) rfl, tg_mem (i := 571) (by decide +kernel) rfl⟩, rfl, by decide +kernel, by decide +kernel, by decide +kernel⟩
theorem ml_X1_125 : Cond.methodLink RX1 125 yJ0_charAt_5068e ∈ TG := tg_mem (i := 605) (by decide +kernel) rfl
theorem ml_X1_143 : Cond.methodLink RX1 143 yX1_sortOf ∈ TG := tg_mem (i := 572) (by decide +kernel) rfl
theorem ks_X1_sortOf : KS yX1_sortOf cX1_sortOf 1 (some .int) 1 := ⟨⟨tg_mem (i := 573) (by decide +kernel) rfl, tg_mem (i := 69) (by decide +kernel) rfl, tg_mem (i := 574) (by decide +kernel) rfl⟩, by decide +kernel, by decide +kernel, by decide +kernel⟩
theorem kc_X1_146 : Cond.constant RX1 146 (100000 : Int32) ∈ TG := tg_mem (i := 575) (by decide +kernel) rfl
theorem ml_X1_147 : Cond.methodLink RX1 147 Lib.Math.min.name ∈ TG := tg_mem (i := 576) (by decide +kernel) rfl
theorem fl_X3_272 : Cond.fieldLink RX3 272 "DownhillWhispers" "MOST_OF_TRAIT" "[I" ∈ TG := tg_mem (i := 258) (by decide +kernel) rfl
theorem ml_X3_44 : Cond.methodLink RX3 44 yX3_isWithin ∈ TG := tg_mem (i := 210) (by decide +kernel) rfl
theorem ml_X1_39 : Cond.methodLink RX1 39 yX1_isWord ∈ TG := tg_mem (i := 591) (by decide +kernel) rfl
theorem kv_X1_isWord : KV RX1 yX1_isWord cX1_isWord 3 (some .boolean) 1 := ⟨⟨tg_mem (i := 593) (by decide +kernel) rfl, tg_mem (i := 9) (by decide +kernel) rfl, tg_mem (i := 69) (by decide +kernel) rfl, tg_mem (i := 594) (by decide +kernel) rfl⟩, rfl, by decide +kernel, by decide +kernel, by decide +kernel⟩
theorem ml_X1_22 : Cond.methodLink RX1 22 yX1_step ∈ TG := tg_mem (i := 564) (by decide +kernel) rfl
theorem kv_X1_step : KV RX1 yX1_step cX1_step 3 none 0 := ⟨⟨tg_mem (i := 566) (by decide +kernel) rfl, tg_mem (i := 6) (by decide +kernel) rfl, tg_mem (i := 69) (by decide +kernel) rfl, tg_mem (i := 567) (by decide +kernel) rfl⟩, rfl, by decide +kernel, by decide +kernel, by decide +kernel⟩
theorem ks_X3_isTrait : KS yX3_isTrait cX3_isTrait 2 (some .boolean) 2 := ⟨⟨tg_mem (i := 256) (by decide +kernel) rfl, tg_mem (i := 66) (by decide +kernel) rfl, tg_mem (i := 257) (by decide +kernel) rfl⟩, by decide +kernel, by decide +kernel, by decide +kernel⟩
theorem ml_X1_109 : Cond.methodLink RX1 109 yX2_setTrait ∈ TG := tg_mem (i := 673) (by decide +kernel) rfl
theorem ml_X1_55 : Cond.methodLink RX1 55 yX1_isNumber ∈ TG := tg_mem (i := 662) (by decide +kernel) rfl
theorem kv_X1_isNumber : KV RX1 yX1_isNumber cX1_isNumber 3 (some .boolean) 2 := ⟨⟨tg_mem (i := 664) (by decide +kernel) rfl, tg_mem (i := 13) (by decide +kernel) rfl, tg_mem (i := 69) (by decide +kernel) rfl, tg_mem (i := 665) (by decide +kernel) rfl⟩, rfl, by decide +kernel, by decide +kernel, by decide +kernel⟩
theorem ml_X1_97 : Cond.methodLink RX1 97 yX1_readTrait ∈ TG := tg_mem (i := 668) (by decide +kernel) rfl
theorem kv_X1_readTrait : KV RX1 yX1_readTrait cX1_readTrait 5 (some .boolean) 4 := ⟨⟨tg_mem (i := 670) (by decide +kernel) rfl, tg_mem (i := 14) (by decide +kernel) rfl, tg_mem (i := 69) (by decide +kernel) rfl, tg_mem (i := 671) (by decide +kernel) rfl⟩, rfl, by decide +kernel, by decide +kernel, by decide +kernel⟩
theorem fl_X3_275 : Cond.fieldLink RX3 275 "DownhillWhispers" "LEAST_OF_QUALITY" "[I" ∈ TG := tg_mem (i := 307) (by decide +kernel) rfl
theorem fl_X3_278 : Cond.fieldLink RX3 278 "DownhillWhispers" "MOST_OF_QUALITY" "[I" ∈ TG := tg_mem (i := 309) (by decide +kernel) rfl
theorem ks_X3_isQuality : KS yX3_isQuality cX3_isQuality 2 (some .boolean) 2 := ⟨⟨tg_mem (i := 305) (by decide +kernel) rfl, tg_mem (i := 66) (by decide +kernel) rfl, tg_mem (i := 306) (by decide +kernel) rfl⟩, by decide +kernel, by decide +kernel, by decide +kernel⟩
theorem ml_X1_91 : Cond.methodLink RX1 91 yX2_setQuality ∈ TG := tg_mem (i := 655) (by decide +kernel) rfl
theorem kv_X2_setQuality : KV RX2 yX2_setQuality cX2_setQuality 4 none 3 := ⟨⟨tg_mem (i := 279) (by decide +kernel) rfl, tg_mem (i := 280) (by decide +kernel) rfl, tg_mem (i := 67) (by decide +kernel) rfl, tg_mem (i := 281) (by decide +kernel) rfl⟩, rfl, by decide +kernel, by decide +kernel, by decide +kernel⟩
theorem fl_X2_39 : Cond.fieldLink RX2 39 "DownhillWhispers$Town" "whispers" "I" ∈ TG := tg_mem (i := 105) (by decide +kernel) rfl
theorem ml_X2_55 : Cond.methodLink RX2 55 yX2_isFull ∈ TG := tg_mem (i := 277) (by decide +kernel) rfl
theorem kv_X2_isFull : KV RX2 yX2_isFull cX2_isFull 1 (some .boolean) 0 := ⟨⟨tg_mem (i := 269) (by decide +kernel) rfl, tg_mem (i := 270) (by decide +kernel) rfl, tg_mem (i := 67) (by decide +kernel) rfl, tg_mem (i := 271) (by decide +kernel) rfl⟩, rfl, by decide +kernel, by decide +kernel, by decide +kernel⟩
theorem ml_X2_59 : Cond.methodLink RX2 59 yX2_setQuality ∈ TG := tg_mem (i := 278) (by decide +kernel) rfl
theorem ml_X1_72 : Cond.methodLink RX1 72 yX2_isFull ∈ TG := tg_mem (i := 647) (by decide +kernel) rfl
theorem ml_X1_76 : Cond.methodLink RX1 76 yX2_addWhisper ∈ TG := tg_mem (i := 648) (by decide +kernel) rfl
theorem kv_X2_addWhisper : KV RX2 yX2_addWhisper cX2_addWhisper 5 (some .int) 3 := ⟨⟨tg_mem (i := 274) (by decide +kernel) rfl, tg_mem (i := 275) (by decide +kernel) rfl, tg_mem (i := 67) (by decide +kernel) rfl, tg_mem (i := 276) (by decide +kernel) rfl⟩, rfl, by decide +kernel, by decide +kernel, by decide +kernel⟩
theorem ml_X1_82 : Cond.methodLink RX1 82 yX1_readQuality ∈ TG := tg_mem (i := 650) (by decide +kernel) rfl
theorem kv_X1_readQuality : KV RX1 yX1_readQuality cX1_readQuality 5 (some .boolean) 4 := ⟨⟨tg_mem (i := 652) (by decide +kernel) rfl, tg_mem (i := 11) (by decide +kernel) rfl, tg_mem (i := 69) (by decide +kernel) rfl, tg_mem (i := 653) (by decide +kernel) rfl⟩, rfl, by decide +kernel, by decide +kernel, by decide +kernel⟩
theorem kc_X1_54 : Cond.constant RX1 54 (65535 : Int32) ∈ TG := tg_mem (i := 678) (by decide +kernel) rfl
theorem ml_X1_49 : Cond.methodLink RX1 49 yX1_readCorner ∈ TG := tg_mem (i := 658) (by decide +kernel) rfl
theorem kv_X1_readCorner : KV RX1 yX1_readCorner cX1_readCorner 3 (some .boolean) 1 := ⟨⟨tg_mem (i := 660) (by decide +kernel) rfl, tg_mem (i := 12) (by decide +kernel) rfl, tg_mem (i := 69) (by decide +kernel) rfl, tg_mem (i := 661) (by decide +kernel) rfl⟩, rfl, by decide +kernel, by decide +kernel, by decide +kernel⟩
theorem ml_X1_35 : Cond.methodLink RX1 35 yX1_kindName ∈ TG := tg_mem (i := 581) (by decide +kernel) rfl
theorem ks_X1_kindName : KS yX1_kindName cX1_kindName 1 (some (.object "java/lang/String")) 1 := ⟨⟨tg_mem (i := 582) (by decide +kernel) rfl, tg_mem (i := 69) (by decide +kernel) rfl, tg_mem (i := 583) (by decide +kernel) rfl⟩, by decide +kernel, by decide +kernel, by decide +kernel⟩
theorem ml_X1_43 : Cond.methodLink RX1 43 yX1_readWhisper ∈ TG := tg_mem (i := 643) (by decide +kernel) rfl
theorem kv_X1_readWhisper : KV RX1 yX1_readWhisper cX1_readWhisper 4 (some .boolean) 2 := ⟨⟨tg_mem (i := 645) (by decide +kernel) rfl, tg_mem (i := 10) (by decide +kernel) rfl, tg_mem (i := 69) (by decide +kernel) rfl, tg_mem (i := 646) (by decide +kernel) rfl⟩, rfl, by decide +kernel, by decide +kernel, by decide +kernel⟩
theorem ml_X1_25 : Cond.methodLink RX1 25 yX1_readItem ∈ TG := tg_mem (i := 577) (by decide +kernel) rfl
theorem kv_X1_readItem : KV RX1 yX1_readItem cX1_readItem 3 (some .boolean) 1 := ⟨⟨tg_mem (i := 579) (by decide +kernel) rfl, tg_mem (i := 8) (by decide +kernel) rfl, tg_mem (i := 69) (by decide +kernel) rfl, tg_mem (i := 580) (by decide +kernel) rfl⟩, rfl, by decide +kernel, by decide +kernel, by decide +kernel⟩
theorem ml_X3_284 : Cond.methodLink RX3 284 Lib.Math.min.name ∈ TG := tg_mem (i := 385) (by decide +kernel) rfl
theorem ml_X3_252 : Cond.methodLink RX3 252 arraycopyName ∈ TG := tg_mem (i := 386) (by decide +kernel) rfl
theorem ks_X3_copyRow : KS yX3_copyRow cX3_copyRow 2 none 2 := ⟨⟨tg_mem (i := 383) (by decide +kernel) rfl, tg_mem (i := 66) (by decide +kernel) rfl, tg_mem (i := 384) (by decide +kernel) rfl⟩, by decide +kernel, by decide +kernel, by decide +kernel⟩
theorem fl_X2_42 : Cond.fieldLink RX2 42 "DownhillWhispers$Town" "aunts" "I" ∈ TG := tg_mem (i := 107) (by decide +kernel) rfl
theorem fl_X2_45 : Cond.fieldLink RX2 45 "DownhillWhispers$Town" "frost" "I" ∈ TG := tg_mem (i := 110) (by decide +kernel) rfl
theorem fl_X2_48 : Cond.fieldLink RX2 48 "DownhillWhispers$Town" "minute" "I" ∈ TG := tg_mem (i := 113) (by decide +kernel) rfl
theorem ml_X2_62 : Cond.methodLink RX2 62 yX2_trait ∈ TG := tg_mem (i := 222) (by decide +kernel) rfl
theorem kv_X2_trait : KV RX2 yX2_trait cX2_trait 4 (some .int) 2 := ⟨⟨tg_mem (i := 223) (by decide +kernel) rfl, tg_mem (i := 224) (by decide +kernel) rfl, tg_mem (i := 67) (by decide +kernel) rfl, tg_mem (i := 225) (by decide +kernel) rfl⟩, rfl, by decide +kernel, by decide +kernel, by decide +kernel⟩
theorem ml_X2_65 : Cond.methodLink RX2 65 Lib.Math.max.name ∈ TG := tg_mem (i := 226) (by decide +kernel) rfl
theorem ml_X2_68 : Cond.methodLink RX2 68 yX2_steepAt ∈ TG := tg_mem (i := 294) (by decide +kernel) rfl
theorem kv_X2_steepAt : KV RX2 yX2_steepAt cX2_steepAt 2 (some .int) 1 := ⟨⟨tg_mem (i := 219) (by decide +kernel) rfl, tg_mem (i := 220) (by decide +kernel) rfl, tg_mem (i := 67) (by decide +kernel) rfl, tg_mem (i := 221) (by decide +kernel) rfl⟩, rfl, by decide +kernel, by decide +kernel, by decide +kernel⟩
theorem ml_X2_72 : Cond.methodLink RX2 72 yX2_quality ∈ TG := tg_mem (i := 237) (by decide +kernel) rfl
theorem kv_X2_quality : KV RX2 yX2_quality cX2_quality 4 (some .int) 2 := ⟨⟨tg_mem (i := 238) (by decide +kernel) rfl, tg_mem (i := 239) (by decide +kernel) rfl, tg_mem (i := 67) (by decide +kernel) rfl, tg_mem (i := 240) (by decide +kernel) rfl⟩, rfl, by decide +kernel, by decide +kernel, by decide +kernel⟩
theorem ml_X2_75 : Cond.methodLink RX2 75 yX2_weightAt ∈ TG := tg_mem (i := 233) (by decide +kernel) rfl
theorem kv_X2_weightAt : KV RX2 yX2_weightAt cX2_weightAt 3 (some .int) 2 := ⟨⟨tg_mem (i := 234) (by decide +kernel) rfl, tg_mem (i := 235) (by decide +kernel) rfl, tg_mem (i := 67) (by decide +kernel) rfl, tg_mem (i := 236) (by decide +kernel) rfl⟩, rfl, by decide +kernel, by decide +kernel, by decide +kernel⟩
theorem ml_X2_78 : Cond.methodLink RX2 78 yX2_loudAt ∈ TG := tg_mem (i := 245) (by decide +kernel) rfl
theorem kv_X2_loudAt : KV RX2 yX2_loudAt cX2_loudAt 4 (some .int) 1 := ⟨⟨tg_mem (i := 230) (by decide +kernel) rfl, tg_mem (i := 231) (by decide +kernel) rfl, tg_mem (i := 67) (by decide +kernel) rfl, tg_mem (i := 232) (by decide +kernel) rfl⟩, rfl, by decide +kernel, by decide +kernel, by decide +kernel⟩
theorem ml_X2_81 : Cond.methodLink RX2 81 yX2_isHeardAt ∈ TG := tg_mem (i := 352) (by decide +kernel) rfl
theorem kv_X2_isHeardAt : KV RX2 yX2_isHeardAt cX2_isHeardAt 2 (some .boolean) 1 := ⟨⟨tg_mem (i := 242) (by decide +kernel) rfl, tg_mem (i := 243) (by decide +kernel) rfl, tg_mem (i := 67) (by decide +kernel) rfl, tg_mem (i := 244) (by decide +kernel) rfl⟩, rfl, by decide +kernel, by decide +kernel, by decide +kernel⟩
theorem ks_X3_isIn : KS yX3_isIn cX3_isIn 2 (some .boolean) 2 := ⟨⟨tg_mem (i := 342) (by decide +kernel) rfl, tg_mem (i := 66) (by decide +kernel) rfl, tg_mem (i := 343) (by decide +kernel) rfl⟩, by decide +kernel, by decide +kernel, by decide +kernel⟩
theorem ml_X2_89 : Cond.methodLink RX2 89 yX2_speedOf ∈ TG := tg_mem (i := 339) (by decide +kernel) rfl
theorem kv_X2_speedOf : KV RX2 yX2_speedOf cX2_speedOf 8 (some .int) 1 := ⟨⟨tg_mem (i := 291) (by decide +kernel) rfl, tg_mem (i := 292) (by decide +kernel) rfl, tg_mem (i := 67) (by decide +kernel) rfl, tg_mem (i := 293) (by decide +kernel) rfl⟩, rfl, by decide +kernel, by decide +kernel, by decide +kernel⟩
theorem ml_X2_92 : Cond.methodLink RX2 92 yX2_gathersOf ∈ TG := tg_mem (i := 340) (by decide +kernel) rfl
theorem kv_X2_gathersOf : KV RX2 yX2_gathersOf cX2_gathersOf 2 (some .int) 1 := ⟨⟨tg_mem (i := 296) (by decide +kernel) rfl, tg_mem (i := 297) (by decide +kernel) rfl, tg_mem (i := 67) (by decide +kernel) rfl, tg_mem (i := 298) (by decide +kernel) rfl⟩, rfl, by decide +kernel, by decide +kernel, by decide +kernel⟩
theorem ml_X2_95 : Cond.methodLink RX2 95 yX2_roll ∈ TG := tg_mem (i := 335) (by decide +kernel) rfl
theorem kv_X2_roll : KV RX2 yX2_roll cX2_roll 8 (some .int) 1 := ⟨⟨tg_mem (i := 336) (by decide +kernel) rfl, tg_mem (i := 337) (by decide +kernel) rfl, tg_mem (i := 67) (by decide +kernel) rfl, tg_mem (i := 338) (by decide +kernel) rfl⟩, rfl, by decide +kernel, by decide +kernel, by decide +kernel⟩
theorem kc_X2_98 : Cond.constant RX2 98 (99999 : Int32) ∈ TG := tg_mem (i := 334) (by decide +kernel) rfl
theorem kc_X2_99 : Cond.constant RX2 99 (1103515245 : Int32) ∈ TG := tg_mem (i := 528) (by decide +kernel) rfl
theorem kc_X3_48 : Cond.constant RX3 48 (-1000001 : Int32) ∈ TG := tg_mem (i := 213) (by decide +kernel) rfl
theorem ml_X3_40 : Cond.methodLink RX3 40 yX3_isCorner ∈ TG := tg_mem (i := 207) (by decide +kernel) rfl
theorem ks_X3_isCorner : KS yX3_isCorner cX3_isCorner 1 (some .boolean) 1 := ⟨⟨tg_mem (i := 208) (by decide +kernel) rfl, tg_mem (i := 66) (by decide +kernel) rfl, tg_mem (i := 209) (by decide +kernel) rfl⟩, by decide +kernel, by decide +kernel, by decide +kernel⟩
theorem ml_X3_53 : Cond.methodLink RX3 53 yX2_steepAt ∈ TG := tg_mem (i := 218) (by decide +kernel) rfl
theorem ml_X3_56 : Cond.methodLink RX3 56 yX2_loudAt ∈ TG := tg_mem (i := 229) (by decide +kernel) rfl
theorem ml_X3_59 : Cond.methodLink RX3 59 yX2_isHeardAt ∈ TG := tg_mem (i := 241) (by decide +kernel) rfl
theorem ml_X3_62 : Cond.methodLink RX3 62 yX2_rentOf ∈ TG := tg_mem (i := 246) (by decide +kernel) rfl
theorem kv_X2_rentOf : KV RX2 yX2_rentOf cX2_rentOf 2 (some .int) 1 := ⟨⟨tg_mem (i := 247) (by decide +kernel) rfl, tg_mem (i := 248) (by decide +kernel) rfl, tg_mem (i := 67) (by decide +kernel) rfl, tg_mem (i := 249) (by decide +kernel) rfl⟩, rfl, by decide +kernel, by decide +kernel, by decide +kernel⟩
theorem ml_X3_65 : Cond.methodLink RX3 65 yX2_trait ∈ TG := tg_mem (i := 250) (by decide +kernel) rfl
theorem ml_X3_49 : Cond.methodLink RX3 49 yX3_finding ∈ TG := tg_mem (i := 214) (by decide +kernel) rfl
theorem kv_X3_finding : KV RX3 yX3_finding cX3_finding 3 (some .int) 1 := ⟨⟨tg_mem (i := 216) (by decide +kernel) rfl, tg_mem (i := 0) (by decide +kernel) rfl, tg_mem (i := 66) (by decide +kernel) rfl, tg_mem (i := 217) (by decide +kernel) rfl⟩, rfl, by decide +kernel, by decide +kernel, by decide +kernel⟩
theorem ml_X3_69 : Cond.methodLink RX3 69 yX3_isTrait ∈ TG := tg_mem (i := 255) (by decide +kernel) rfl
theorem ml_X3_73 : Cond.methodLink RX3 73 yX2_setTrait ∈ TG := tg_mem (i := 260) (by decide +kernel) rfl
theorem ml_X3_77 : Cond.methodLink RX3 77 yX3_isKind ∈ TG := tg_mem (i := 265) (by decide +kernel) rfl
theorem ks_X3_isKind : KS yX3_isKind cX3_isKind 1 (some .boolean) 1 := ⟨⟨tg_mem (i := 266) (by decide +kernel) rfl, tg_mem (i := 66) (by decide +kernel) rfl, tg_mem (i := 267) (by decide +kernel) rfl⟩, by decide +kernel, by decide +kernel, by decide +kernel⟩
theorem ml_X3_80 : Cond.methodLink RX3 80 yX2_isFull ∈ TG := tg_mem (i := 268) (by decide +kernel) rfl
theorem ml_X3_85 : Cond.methodLink RX3 85 yX2_addWhisper ∈ TG := tg_mem (i := 273) (by decide +kernel) rfl
theorem kc_X3_84 : Cond.constant RX3 84 (-1000002 : Int32) ∈ TG := tg_mem (i := 272) (by decide +kernel) rfl
theorem ml_X3_89 : Cond.methodLink RX3 89 yX2_hasWhisper ∈ TG := tg_mem (i := 286) (by decide +kernel) rfl
theorem kv_X2_hasWhisper : KV RX2 yX2_hasWhisper cX2_hasWhisper 2 (some .boolean) 1 := ⟨⟨tg_mem (i := 287) (by decide +kernel) rfl, tg_mem (i := 288) (by decide +kernel) rfl, tg_mem (i := 67) (by decide +kernel) rfl, tg_mem (i := 289) (by decide +kernel) rfl⟩, rfl, by decide +kernel, by decide +kernel, by decide +kernel⟩
theorem ml_X3_92 : Cond.methodLink RX3 92 yX2_speedOf ∈ TG := tg_mem (i := 290) (by decide +kernel) rfl
theorem ml_X3_95 : Cond.methodLink RX3 95 yX2_gathersOf ∈ TG := tg_mem (i := 295) (by decide +kernel) rfl
theorem ml_X3_98 : Cond.methodLink RX3 98 yX2_quality ∈ TG := tg_mem (i := 299) (by decide +kernel) rfl
theorem ml_X3_101 : Cond.methodLink RX3 101 yX3_isQuality ∈ TG := tg_mem (i := 304) (by decide +kernel) rfl
theorem ml_X3_104 : Cond.methodLink RX3 104 yX2_setQuality ∈ TG := tg_mem (i := 311) (by decide +kernel) rfl
theorem kc_X3_271 : Cond.constant RX3 271 (65535 : Int32) ∈ TG := tg_mem (i := 319) (by decide +kernel) rfl
theorem ml_X3_107 : Cond.methodLink RX3 107 yX3_isSet ∈ TG := tg_mem (i := 316) (by decide +kernel) rfl
theorem ks_X3_isSet : KS yX3_isSet cX3_isSet 1 (some .boolean) 1 := ⟨⟨tg_mem (i := 317) (by decide +kernel) rfl, tg_mem (i := 66) (by decide +kernel) rfl, tg_mem (i := 318) (by decide +kernel) rfl⟩, by decide +kernel, by decide +kernel, by decide +kernel⟩
theorem kc_X3_120 : Cond.constant RX3 120 (99999 : Int32) ∈ TG := tg_mem (i := 328) (by decide +kernel) rfl
theorem ml_X3_122 : Cond.methodLink RX3 122 yX2_pass ∈ TG := tg_mem (i := 330) (by decide +kernel) rfl
theorem kv_X2_pass : KV RX2 yX2_pass cX2_pass 5 (some .int) 1 := ⟨⟨tg_mem (i := 331) (by decide +kernel) rfl, tg_mem (i := 332) (by decide +kernel) rfl, tg_mem (i := 67) (by decide +kernel) rfl, tg_mem (i := 333) (by decide +kernel) rfl⟩, rfl, by decide +kernel, by decide +kernel, by decide +kernel⟩
theorem kc_X3_121 : Cond.constant RX3 121 (-1000005 : Int32) ∈ TG := tg_mem (i := 329) (by decide +kernel) rfl
theorem ml_X3_125 : Cond.methodLink RX3 125 yX2_heardCorners ∈ TG := tg_mem (i := 348) (by decide +kernel) rfl
theorem kv_X2_heardCorners : KV RX2 yX2_heardCorners cX2_heardCorners 3 (some .int) 0 := ⟨⟨tg_mem (i := 349) (by decide +kernel) rfl, tg_mem (i := 350) (by decide +kernel) rfl, tg_mem (i := 67) (by decide +kernel) rfl, tg_mem (i := 351) (by decide +kernel) rfl⟩, rfl, by decide +kernel, by decide +kernel, by decide +kernel⟩
theorem ml_X3_129 : Cond.methodLink RX3 129 yX2_weightOfAll ∈ TG := tg_mem (i := 353) (by decide +kernel) rfl
theorem kv_X2_weightOfAll : KV RX2 yX2_weightOfAll cX2_weightOfAll 3 (some .int) 0 := ⟨⟨tg_mem (i := 354) (by decide +kernel) rfl, tg_mem (i := 355) (by decide +kernel) rfl, tg_mem (i := 67) (by decide +kernel) rfl, tg_mem (i := 356) (by decide +kernel) rfl⟩, rfl, by decide +kernel, by decide +kernel, by decide +kernel⟩
theorem ml_X3_132 : Cond.methodLink RX3 132 yX2_runningCorners ∈ TG := tg_mem (i := 357) (by decide +kernel) rfl
theorem kv_X2_runningCorners : KV RX2 yX2_runningCorners cX2_runningCorners 3 (some .int) 0 := ⟨⟨tg_mem (i := 358) (by decide +kernel) rfl, tg_mem (i := 359) (by decide +kernel) rfl, tg_mem (i := 67) (by decide +kernel) rfl, tg_mem (i := 360) (by decide +kernel) rfl⟩, rfl, by decide +kernel, by decide +kernel, by decide +kernel⟩
theorem ml_X3_135 : Cond.methodLink RX3 135 yX2_whispersAt ∈ TG := tg_mem (i := 365) (by decide +kernel) rfl
theorem kv_X2_whispersAt : KV RX2 yX2_whispersAt cX2_whispersAt 4 (some .int) 1 := ⟨⟨tg_mem (i := 366) (by decide +kernel) rfl, tg_mem (i := 367) (by decide +kernel) rfl, tg_mem (i := 67) (by decide +kernel) rfl, tg_mem (i := 368) (by decide +kernel) rfl⟩, rfl, by decide +kernel, by decide +kernel, by decide +kernel⟩
theorem ml_X3_139 : Cond.methodLink RX3 139 yX2_mergeAt ∈ TG := tg_mem (i := 370) (by decide +kernel) rfl
theorem kv_X2_mergeAt : KV RX2 yX2_mergeAt cX2_mergeAt 5 none 1 := ⟨⟨tg_mem (i := 371) (by decide +kernel) rfl, tg_mem (i := 372) (by decide +kernel) rfl, tg_mem (i := 67) (by decide +kernel) rfl, tg_mem (i := 373) (by decide +kernel) rfl⟩, rfl, by decide +kernel, by decide +kernel, by decide +kernel⟩
theorem kc_X3_138 : Cond.constant RX3 138 (-1000004 : Int32) ∈ TG := tg_mem (i := 369) (by decide +kernel) rfl
theorem ml_X3_143 : Cond.methodLink RX3 143 yX2_become ∈ TG := tg_mem (i := 378) (by decide +kernel) rfl
theorem kv_X2_become : KV RX2 yX2_become cX2_become 2 none 1 := ⟨⟨tg_mem (i := 379) (by decide +kernel) rfl, tg_mem (i := 380) (by decide +kernel) rfl, tg_mem (i := 67) (by decide +kernel) rfl, tg_mem (i := 381) (by decide +kernel) rfl⟩, rfl, by decide +kernel, by decide +kernel, by decide +kernel⟩
theorem ml_X3_147 : Cond.methodLink RX3 147 yX2_minutesToHarbour ∈ TG := tg_mem (i := 405) (by decide +kernel) rfl
theorem kv_X2_minutesToHarbour : KV RX2 yX2_minutesToHarbour cX2_minutesToHarbour 3 (some .int) 1 := ⟨⟨tg_mem (i := 406) (by decide +kernel) rfl, tg_mem (i := 407) (by decide +kernel) rfl, tg_mem (i := 67) (by decide +kernel) rfl, tg_mem (i := 408) (by decide +kernel) rfl⟩, rfl, by decide +kernel, by decide +kernel, by decide +kernel⟩
theorem ml_X3_150 : Cond.methodLink RX3 150 Lib.Math.max.name ∈ TG := tg_mem (i := 413) (by decide +kernel) rfl
theorem ml_X3_155 : Cond.methodLink RX3 155 yX2_heightOf ∈ TG := tg_mem (i := 418) (by decide +kernel) rfl
theorem kv_X2_heightOf : KV RX2 yX2_heightOf cX2_heightOf 2 (some .int) 1 := ⟨⟨tg_mem (i := 419) (by decide +kernel) rfl, tg_mem (i := 420) (by decide +kernel) rfl, tg_mem (i := 67) (by decide +kernel) rfl, tg_mem (i := 421) (by decide +kernel) rfl⟩, rfl, by decide +kernel, by decide +kernel, by decide +kernel⟩
theorem ml_X3_158 : Cond.methodLink RX3 158 yX2_wayOf ∈ TG := tg_mem (i := 430) (by decide +kernel) rfl
theorem kv_X2_wayOf : KV RX2 yX2_wayOf cX2_wayOf 6 (some .int) 2 := ⟨⟨tg_mem (i := 431) (by decide +kernel) rfl, tg_mem (i := 432) (by decide +kernel) rfl, tg_mem (i := 67) (by decide +kernel) rfl, tg_mem (i := 433) (by decide +kernel) rfl⟩, rfl, by decide +kernel, by decide +kernel, by decide +kernel⟩
theorem ml_X3_161 : Cond.methodLink RX3 161 yX3_goodPlaces ∈ TG := tg_mem (i := 438) (by decide +kernel) rfl
theorem kv_X3_goodPlaces : KV RX3 yX3_goodPlaces cX3_goodPlaces 7 (some .int) 3 := ⟨⟨tg_mem (i := 440) (by decide +kernel) rfl, tg_mem (i := 1) (by decide +kernel) rfl, tg_mem (i := 66) (by decide +kernel) rfl, tg_mem (i := 441) (by decide +kernel) rfl⟩, rfl, by decide +kernel, by decide +kernel, by decide +kernel⟩
theorem ml_X3_164 : Cond.methodLink RX3 164 yX3_isIn ∈ TG := tg_mem (i := 442) (by decide +kernel) rfl
theorem kc_J6_265 : Cond.constant RJ6 265 (1431655765 : Int32) ∈ TG := tg_mem (i := 450) (by decide +kernel) rfl
theorem kc_J6_266 : Cond.constant RJ6 266 (858993459 : Int32) ∈ TG := tg_mem (i := 451) (by decide +kernel) rfl
theorem kc_J6_267 : Cond.constant RJ6 267 (252645135 : Int32) ∈ TG := tg_mem (i := 452) (by decide +kernel) rfl
theorem ml_X3_167 : Cond.methodLink RX3 167 yJ6_bitCount_0f7a4 ∈ TG := tg_mem (i := 447) (by decide +kernel) rfl
theorem ks_J6_bitCount_0f7a4 : KS yJ6_bitCount_0f7a4 cJ6_bitCount_0f7a4 1 (some .int) 1 := ⟨⟨tg_mem (i := 448) (by decide +kernel) rfl, tg_mem (i := 73) (by decide +kernel) rfl, tg_mem (i := 449) (by decide +kernel) rfl⟩, by decide +kernel, by decide +kernel, by decide +kernel⟩
theorem ml_X3_172 : Cond.methodLink RX3 172 yX2_weightAt ∈ TG := tg_mem (i := 457) (by decide +kernel) rfl
theorem kc_X3_181 : Cond.constant RX3 181 (1000000 : Int32) ∈ TG := tg_mem (i := 466) (by decide +kernel) rfl
theorem ml_X3_178 : Cond.methodLink RX3 178 yX2_costOf ∈ TG := tg_mem (i := 467) (by decide +kernel) rfl
theorem kv_X2_costOf : KV RX2 yX2_costOf cX2_costOf 4 (some .int) 1 := ⟨⟨tg_mem (i := 468) (by decide +kernel) rfl, tg_mem (i := 469) (by decide +kernel) rfl, tg_mem (i := 67) (by decide +kernel) rfl, tg_mem (i := 470) (by decide +kernel) rfl⟩, rfl, by decide +kernel, by decide +kernel, by decide +kernel⟩
theorem ml_X3_182 : Cond.methodLink RX3 182 yX2_sandAll ∈ TG := tg_mem (i := 471) (by decide +kernel) rfl
theorem kv_X2_sandAll : KV RX2 yX2_sandAll cX2_sandAll 3 none 1 := ⟨⟨tg_mem (i := 472) (by decide +kernel) rfl, tg_mem (i := 473) (by decide +kernel) rfl, tg_mem (i := 67) (by decide +kernel) rfl, tg_mem (i := 474) (by decide +kernel) rfl⟩, rfl, by decide +kernel, by decide +kernel, by decide +kernel⟩
theorem ml_X3_175 : Cond.methodLink RX3 175 yX3_cheapestSand ∈ TG := tg_mem (i := 462) (by decide +kernel) rfl
theorem kv_X3_cheapestSand : KV RX3 yX3_cheapestSand cX3_cheapestSand 8 (some .int) 3 := ⟨⟨tg_mem (i := 464) (by decide +kernel) rfl, tg_mem (i := 2) (by decide +kernel) rfl, tg_mem (i := 66) (by decide +kernel) rfl, tg_mem (i := 465) (by decide +kernel) rfl⟩, rfl, by decide +kernel, by decide +kernel, by decide +kernel⟩
theorem ml_X3_191 : Cond.methodLink RX3 191 yX3_sheetAt ∈ TG := tg_mem (i := 491) (by decide +kernel) rfl
theorem kv_X3_sheetAt : KV RX3 yX3_sheetAt cX3_sheetAt 2 (some (.object "DownhillWhispers$Sheet")) 1 := ⟨⟨tg_mem (i := 493) (by decide +kernel) rfl, tg_mem (i := 4) (by decide +kernel) rfl, tg_mem (i := 66) (by decide +kernel) rfl, tg_mem (i := 494) (by decide +kernel) rfl⟩, rfl, by decide +kernel, by decide +kernel, by decide +kernel⟩
theorem ml_X3_202 : Cond.methodLink RX3 202 yX0_number ∈ TG := tg_mem (i := 504) (by decide +kernel) rfl
theorem kv_X0_number : KV RX0 yX0_number cX0_number 2 (some .int) 1 := ⟨⟨tg_mem (i := 505) (by decide +kernel) rfl, tg_mem (i := 506) (by decide +kernel) rfl, tg_mem (i := 70) (by decide +kernel) rfl, tg_mem (i := 507) (by decide +kernel) rfl⟩, rfl, by decide +kernel, by decide +kernel, by decide +kernel⟩
theorem ml_X3_195 : Cond.methodLink RX3 195 yX0_isMissing ∈ TG := tg_mem (i := 495) (by decide +kernel) rfl
theorem kv_X0_isMissing : KV RX0 yX0_isMissing cX0_isMissing 1 (some .boolean) 0 := ⟨⟨tg_mem (i := 496) (by decide +kernel) rfl, tg_mem (i := 497) (by decide +kernel) rfl, tg_mem (i := 70) (by decide +kernel) rfl, tg_mem (i := 498) (by decide +kernel) rfl⟩, rfl, by decide +kernel, by decide +kernel, by decide +kernel⟩
theorem kc_X3_198 : Cond.constant RX3 198 (-1000006 : Int32) ∈ TG := tg_mem (i := 499) (by decide +kernel) rfl
theorem ml_X3_185 : Cond.methodLink RX3 185 yX3_whyNotHeard ∈ TG := tg_mem (i := 487) (by decide +kernel) rfl
theorem kv_X3_whyNotHeard : KV RX3 yX3_whyNotHeard cX3_whyNotHeard 4 (some .int) 2 := ⟨⟨tg_mem (i := 489) (by decide +kernel) rfl, tg_mem (i := 3) (by decide +kernel) rfl, tg_mem (i := 66) (by decide +kernel) rfl, tg_mem (i := 490) (by decide +kernel) rfl⟩, rfl, by decide +kernel, by decide +kernel, by decide +kernel⟩
theorem ml_X3_188 : Cond.methodLink RX3 188 yX3_pairFits ∈ TG := tg_mem (i := 500) (by decide +kernel) rfl
theorem kv_X3_pairFits : KV RX3 yX3_pairFits cX3_pairFits 7 (some .boolean) 3 := ⟨⟨tg_mem (i := 502) (by decide +kernel) rfl, tg_mem (i := 5) (by decide +kernel) rfl, tg_mem (i := 66) (by decide +kernel) rfl, tg_mem (i := 503) (by decide +kernel) rfl⟩, rfl, by decide +kernel, by decide +kernel, by decide +kernel⟩
theorem ml_X3_205 : Cond.methodLink RX3 205 yX2_draw ∈ TG := tg_mem (i := 524) (by decide +kernel) rfl
theorem kv_X2_draw : KV RX2 yX2_draw cX2_draw 1 (some .int) 0 := ⟨⟨tg_mem (i := 525) (by decide +kernel) rfl, tg_mem (i := 526) (by decide +kernel) rfl, tg_mem (i := 67) (by decide +kernel) rfl, tg_mem (i := 527) (by decide +kernel) rfl⟩, rfl, by decide +kernel, by decide +kernel, by decide +kernel⟩
theorem ml_X3_208 : Cond.methodLink RX3 208 yX3_commonWithTen ∈ TG := tg_mem (i := 533) (by decide +kernel) rfl
theorem ks_X3_commonWithTen : KS yX3_commonWithTen cX3_commonWithTen 2 (some .int) 1 := ⟨⟨tg_mem (i := 534) (by decide +kernel) rfl, tg_mem (i := 66) (by decide +kernel) rfl, tg_mem (i := 535) (by decide +kernel) rfl⟩, by decide +kernel, by decide +kernel, by decide +kernel⟩
theorem ml_X3_215 : Cond.methodLink RX3 215 yX1_append ∈ TG := tg_mem (i := 544) (by decide +kernel) rfl
theorem kv_X1_append : KV RX1 yX1_append cX1_append 2 none 1 := ⟨⟨tg_mem (i := 545) (by decide +kernel) rfl, tg_mem (i := 546) (by decide +kernel) rfl, tg_mem (i := 69) (by decide +kernel) rfl, tg_mem (i := 547) (by decide +kernel) rfl⟩, rfl, by decide +kernel, by decide +kernel, by decide +kernel⟩
theorem ml_X3_218 : Cond.methodLink RX3 218 yX1_clear ∈ TG := tg_mem (i := 552) (by decide +kernel) rfl
theorem kv_X1_clear : KV RX1 yX1_clear cX1_clear 1 none 0 := ⟨⟨tg_mem (i := 553) (by decide +kernel) rfl, tg_mem (i := 554) (by decide +kernel) rfl, tg_mem (i := 69) (by decide +kernel) rfl, tg_mem (i := 555) (by decide +kernel) rfl⟩, rfl, by decide +kernel, by decide +kernel, by decide +kernel⟩
theorem ml_X3_221 : Cond.methodLink RX3 221 yX1_readItems ∈ TG := tg_mem (i := 560) (by decide +kernel) rfl
theorem kv_X1_readItems : KV RX1 yX1_readItems cX1_readItems 3 (some .int) 1 := ⟨⟨tg_mem (i := 561) (by decide +kernel) rfl, tg_mem (i := 562) (by decide +kernel) rfl, tg_mem (i := 69) (by decide +kernel) rfl, tg_mem (i := 563) (by decide +kernel) rfl⟩, rfl, by decide +kernel, by decide +kernel, by decide +kernel⟩
theorem ml_X3_225 : Cond.methodLink RX3 225 yX2_setSpot ∈ TG := tg_mem (i := 686) (by decide +kernel) rfl
theorem kv_X2_setSpot : KV RX2 yX2_setSpot cX2_setSpot 3 none 2 := ⟨⟨tg_mem (i := 687) (by decide +kernel) rfl, tg_mem (i := 688) (by decide +kernel) rfl, tg_mem (i := 67) (by decide +kernel) rfl, tg_mem (i := 689) (by decide +kernel) rfl⟩, rfl, by decide +kernel, by decide +kernel, by decide +kernel⟩
theorem fl_X3_281 : Cond.fieldLink RX3 281 "DownhillWhispers" "KIND_ABOVE" "[I" ∈ TG := tg_mem (i := 701) (by decide +kernel) rfl
theorem ml_X3_229 : Cond.methodLink RX3 229 yX2_heldIn ∈ TG := tg_mem (i := 694) (by decide +kernel) rfl
theorem kv_X2_heldIn : KV RX2 yX2_heldIn cX2_heldIn 2 (some .int) 1 := ⟨⟨tg_mem (i := 695) (by decide +kernel) rfl, tg_mem (i := 696) (by decide +kernel) rfl, tg_mem (i := 67) (by decide +kernel) rfl, tg_mem (i := 697) (by decide +kernel) rfl⟩, rfl, by decide +kernel, by decide +kernel, by decide +kernel⟩
theorem ml_X3_232 : Cond.methodLink RX3 232 yX3_isUnder ∈ TG := tg_mem (i := 698) (by decide +kernel) rfl
theorem ks_X3_isUnder : KS yX3_isUnder cX3_isUnder 4 (some .boolean) 2 := ⟨⟨tg_mem (i := 699) (by decide +kernel) rfl, tg_mem (i := 66) (by decide +kernel) rfl, tg_mem (i := 700) (by decide +kernel) rfl⟩, by decide +kernel, by decide +kernel, by decide +kernel⟩
theorem kc_X3_235 : Cond.constant RX3 235 (-1000003 : Int32) ∈ TG := tg_mem (i := 703) (by decide +kernel) rfl
theorem kc_X3_236 : Cond.constant RX3 236 (-1000007 : Int32) ∈ TG := tg_mem (i := 708) (by decide +kernel) rfl
theorem ml_X3_237 : Cond.methodLink RX3 237 yX0_begin ∈ TG := tg_mem (i := 709) (by decide +kernel) rfl
theorem kv_X0_begin : KV RX0 yX0_begin cX0_begin 4 none 2 := ⟨⟨tg_mem (i := 710) (by decide +kernel) rfl, tg_mem (i := 711) (by decide +kernel) rfl, tg_mem (i := 70) (by decide +kernel) rfl, tg_mem (i := 712) (by decide +kernel) rfl⟩, rfl, by decide +kernel, by decide +kernel, by decide +kernel⟩
theorem ml_X3_240 : Cond.methodLink RX3 240 yX0_setNumber ∈ TG := tg_mem (i := 717) (by decide +kernel) rfl
theorem kv_X0_setNumber : KV RX0 yX0_setNumber cX0_setNumber 3 none 2 := ⟨⟨tg_mem (i := 718) (by decide +kernel) rfl, tg_mem (i := 719) (by decide +kernel) rfl, tg_mem (i := 70) (by decide +kernel) rfl, tg_mem (i := 720) (by decide +kernel) rfl⟩, rfl, by decide +kernel, by decide +kernel, by decide +kernel⟩
theorem ml_X3_246 : Cond.methodLink RX3 246 yX0_hasNumbers ∈ TG := tg_mem (i := 726) (by decide +kernel) rfl
theorem kv_X0_hasNumbers : KV RX0 yX0_hasNumbers cX0_hasNumbers 4 (some .boolean) 2 := ⟨⟨tg_mem (i := 727) (by decide +kernel) rfl, tg_mem (i := 728) (by decide +kernel) rfl, tg_mem (i := 70) (by decide +kernel) rfl, tg_mem (i := 729) (by decide +kernel) rfl⟩, rfl, by decide +kernel, by decide +kernel, by decide +kernel⟩
theorem fl_X3_258 : Cond.fieldLink RX3 258 "DownhillWhispers" "isKept" "Z" ∈ TG := tg_mem (i := 184) (by decide +kernel) rfl
theorem ml_X3_265 : Cond.methodLink RX3 265 yX2_sandOfAll ∈ TG := tg_mem (i := 755) (by decide +kernel) rfl
theorem kv_X2_sandOfAll : KV RX2 yX2_sandOfAll cX2_sandOfAll 3 (some .int) 0 := ⟨⟨tg_mem (i := 756) (by decide +kernel) rfl, tg_mem (i := 757) (by decide +kernel) rfl, tg_mem (i := 67) (by decide +kernel) rfl, tg_mem (i := 758) (by decide +kernel) rfl⟩, rfl, by decide +kernel, by decide +kernel, by decide +kernel⟩
theorem ml_X3_268 : Cond.methodLink RX3 268 yX2_spotsInUse ∈ TG := tg_mem (i := 759) (by decide +kernel) rfl
theorem kv_X2_spotsInUse : KV RX2 yX2_spotsInUse cX2_spotsInUse 3 (some .int) 0 := ⟨⟨tg_mem (i := 760) (by decide +kernel) rfl, tg_mem (i := 761) (by decide +kernel) rfl, tg_mem (i := 67) (by decide +kernel) rfl, tg_mem (i := 762) (by decide +kernel) rfl⟩, rfl, by decide +kernel, by decide +kernel, by decide +kernel⟩
