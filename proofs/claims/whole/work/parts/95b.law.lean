theorem ki_X3_init : Cond.code yX3_init cX3_init 2 none ∈ TG ∧ Cond.initialized yX3_init.cls ∈ TG ∧ Cond.instanceMethod yX3_init ∈ TG ∧ yX3_init.name = "<init>" ∧ hd0 yX3_init 0 := ⟨tg_mem (i := 82) (by decide +kernel) rfl, tg_mem (i := 66) (by decide +kernel) rfl, tg_mem (i := 81) (by decide +kernel) rfl, rfl, by decide +kernel, by decide +kernel, by decide +kernel⟩
theorem ki_X4_init : Cond.code yX4_init cX4_init 2 none ∈ TG ∧ Cond.initialized yX4_init.cls ∈ TG ∧ Cond.instanceMethod yX4_init ∈ TG ∧ yX4_init.name = "<init>" ∧ hd0 yX4_init 0 := ⟨tg_mem (i := 771) (by decide +kernel) rfl, tg_mem (i := 71) (by decide +kernel) rfl, tg_mem (i := 770) (by decide +kernel) rfl, rfl, by decide +kernel, by decide +kernel, by decide +kernel⟩
theorem ml_L_9 : Cond.methodLink RL 9 yX3_init ∈ TG := tg_mem (i := 80) (by decide +kernel) rfl
theorem ml_L_12 : Cond.methodLink RL 12 yX4_init ∈ TG := tg_mem (i := 769) (by decide +kernel) rfl
theorem ml_L_13 : Cond.methodLink RL 13 yX3_corner ∈ TG := tg_mem (i := 203) (by decide +kernel) rfl
theorem kv_X3_corner : KV RX3 yX3_corner cX3_corner 3 (some .int) 2 := ⟨⟨tg_mem (i := 204) (by decide +kernel) rfl, tg_mem (i := 205) (by decide +kernel) rfl, tg_mem (i := 66) (by decide +kernel) rfl, tg_mem (i := 206) (by decide +kernel) rfl⟩, rfl, by decide +kernel, by decide +kernel, by decide +kernel⟩
theorem ml_L_17 : Cond.methodLink RL 17 yX4_corner ∈ TG := tg_mem (i := 848) (by decide +kernel) rfl
theorem kv_X4_corner : KV RX4 yX4_corner cX4_corner 3 (some .int) 2 := ⟨⟨tg_mem (i := 849) (by decide +kernel) rfl, tg_mem (i := 850) (by decide +kernel) rfl, tg_mem (i := 71) (by decide +kernel) rfl, tg_mem (i := 851) (by decide +kernel) rfl⟩, rfl, by decide +kernel, by decide +kernel, by decide +kernel⟩
theorem ml_L_18 : Cond.methodLink RL 18 yX3_build ∈ TG := tg_mem (i := 251) (by decide +kernel) rfl
theorem kv_X3_build : KV RX3 yX3_build cX3_build 5 (some .int) 3 := ⟨⟨tg_mem (i := 252) (by decide +kernel) rfl, tg_mem (i := 253) (by decide +kernel) rfl, tg_mem (i := 66) (by decide +kernel) rfl, tg_mem (i := 254) (by decide +kernel) rfl⟩, rfl, by decide +kernel, by decide +kernel, by decide +kernel⟩
theorem ml_L_22 : Cond.methodLink RL 22 yX4_build ∈ TG := tg_mem (i := 890) (by decide +kernel) rfl
theorem kv_X4_build : KV RX4 yX4_build cX4_build 5 (some .int) 3 := ⟨⟨tg_mem (i := 891) (by decide +kernel) rfl, tg_mem (i := 892) (by decide +kernel) rfl, tg_mem (i := 71) (by decide +kernel) rfl, tg_mem (i := 893) (by decide +kernel) rfl⟩, rfl, by decide +kernel, by decide +kernel, by decide +kernel⟩
theorem ml_L_23 : Cond.methodLink RL 23 yX3_says ∈ TG := tg_mem (i := 261) (by decide +kernel) rfl
theorem kv_X3_says : KV RX3 yX3_says cX3_says 3 (some .int) 2 := ⟨⟨tg_mem (i := 262) (by decide +kernel) rfl, tg_mem (i := 263) (by decide +kernel) rfl, tg_mem (i := 66) (by decide +kernel) rfl, tg_mem (i := 264) (by decide +kernel) rfl⟩, rfl, by decide +kernel, by decide +kernel, by decide +kernel⟩
theorem ml_L_26 : Cond.methodLink RL 26 yX4_says ∈ TG := tg_mem (i := 902) (by decide +kernel) rfl
theorem kv_X4_says : KV RX4 yX4_says cX4_says 3 (some .int) 2 := ⟨⟨tg_mem (i := 903) (by decide +kernel) rfl, tg_mem (i := 904) (by decide +kernel) rfl, tg_mem (i := 71) (by decide +kernel) rfl, tg_mem (i := 905) (by decide +kernel) rfl⟩, rfl, by decide +kernel, by decide +kernel, by decide +kernel⟩
theorem ml_L_27 : Cond.methodLink RL 27 yX3_of ∈ TG := tg_mem (i := 282) (by decide +kernel) rfl
theorem kv_X3_of : KV RX3 yX3_of cX3_of 3 (some .int) 2 := ⟨⟨tg_mem (i := 283) (by decide +kernel) rfl, tg_mem (i := 284) (by decide +kernel) rfl, tg_mem (i := 66) (by decide +kernel) rfl, tg_mem (i := 285) (by decide +kernel) rfl⟩, rfl, by decide +kernel, by decide +kernel, by decide +kernel⟩
theorem ml_L_30 : Cond.methodLink RL 30 yX4_of ∈ TG := tg_mem (i := 918) (by decide +kernel) rfl
theorem kv_X4_of : KV RX4 yX4_of cX4_of 3 (some .int) 2 := ⟨⟨tg_mem (i := 919) (by decide +kernel) rfl, tg_mem (i := 920) (by decide +kernel) rfl, tg_mem (i := 71) (by decide +kernel) rfl, tg_mem (i := 921) (by decide +kernel) rfl⟩, rfl, by decide +kernel, by decide +kernel, by decide +kernel⟩
theorem ml_L_31 : Cond.methodLink RL 31 yX3_change ∈ TG := tg_mem (i := 300) (by decide +kernel) rfl
theorem kv_X3_change : KV RX3 yX3_change cX3_change 5 (some .int) 3 := ⟨⟨tg_mem (i := 301) (by decide +kernel) rfl, tg_mem (i := 302) (by decide +kernel) rfl, tg_mem (i := 66) (by decide +kernel) rfl, tg_mem (i := 303) (by decide +kernel) rfl⟩, rfl, by decide +kernel, by decide +kernel, by decide +kernel⟩
theorem ml_L_34 : Cond.methodLink RL 34 yX4_change ∈ TG := tg_mem (i := 934) (by decide +kernel) rfl
theorem kv_X4_change : KV RX4 yX4_change cX4_change 4 (some .int) 3 := ⟨⟨tg_mem (i := 935) (by decide +kernel) rfl, tg_mem (i := 936) (by decide +kernel) rfl, tg_mem (i := 71) (by decide +kernel) rfl, tg_mem (i := 937) (by decide +kernel) rfl⟩, rfl, by decide +kernel, by decide +kernel, by decide +kernel⟩
theorem ml_L_35 : Cond.methodLink RL 35 yX3_aunts ∈ TG := tg_mem (i := 312) (by decide +kernel) rfl
theorem kv_X3_aunts : KV RX3 yX3_aunts cX3_aunts 3 (some .int) 1 := ⟨⟨tg_mem (i := 313) (by decide +kernel) rfl, tg_mem (i := 314) (by decide +kernel) rfl, tg_mem (i := 66) (by decide +kernel) rfl, tg_mem (i := 315) (by decide +kernel) rfl⟩, rfl, by decide +kernel, by decide +kernel, by decide +kernel⟩
theorem ml_L_39 : Cond.methodLink RL 39 yX4_aunts ∈ TG := tg_mem (i := 942) (by decide +kernel) rfl
theorem kv_X4_aunts : KV RX4 yX4_aunts cX4_aunts 2 (some .int) 1 := ⟨⟨tg_mem (i := 943) (by decide +kernel) rfl, tg_mem (i := 944) (by decide +kernel) rfl, tg_mem (i := 71) (by decide +kernel) rfl, tg_mem (i := 945) (by decide +kernel) rfl⟩, rfl, by decide +kernel, by decide +kernel, by decide +kernel⟩
theorem ml_L_40 : Cond.methodLink RL 40 yX3_frost ∈ TG := tg_mem (i := 320) (by decide +kernel) rfl
theorem kv_X3_frost : KV RX3 yX3_frost cX3_frost 3 (some .int) 1 := ⟨⟨tg_mem (i := 321) (by decide +kernel) rfl, tg_mem (i := 322) (by decide +kernel) rfl, tg_mem (i := 66) (by decide +kernel) rfl, tg_mem (i := 323) (by decide +kernel) rfl⟩, rfl, by decide +kernel, by decide +kernel, by decide +kernel⟩
theorem ml_L_43 : Cond.methodLink RL 43 yX4_frost ∈ TG := tg_mem (i := 950) (by decide +kernel) rfl
theorem kv_X4_frost : KV RX4 yX4_frost cX4_frost 2 (some .int) 1 := ⟨⟨tg_mem (i := 951) (by decide +kernel) rfl, tg_mem (i := 952) (by decide +kernel) rfl, tg_mem (i := 71) (by decide +kernel) rfl, tg_mem (i := 953) (by decide +kernel) rfl⟩, rfl, by decide +kernel, by decide +kernel, by decide +kernel⟩
theorem ml_L_44 : Cond.methodLink RL 44 yX3_go ∈ TG := tg_mem (i := 324) (by decide +kernel) rfl
theorem kv_X3_go : KV RX3 yX3_go cX3_go 2 (some .int) 1 := ⟨⟨tg_mem (i := 325) (by decide +kernel) rfl, tg_mem (i := 326) (by decide +kernel) rfl, tg_mem (i := 66) (by decide +kernel) rfl, tg_mem (i := 327) (by decide +kernel) rfl⟩, rfl, by decide +kernel, by decide +kernel, by decide +kernel⟩
theorem ml_L_47 : Cond.methodLink RL 47 yX4_go ∈ TG := tg_mem (i := 954) (by decide +kernel) rfl
theorem kv_X4_go : KV RX4 yX4_go cX4_go 2 (some .int) 1 := ⟨⟨tg_mem (i := 955) (by decide +kernel) rfl, tg_mem (i := 956) (by decide +kernel) rfl, tg_mem (i := 71) (by decide +kernel) rfl, tg_mem (i := 957) (by decide +kernel) rfl⟩, rfl, by decide +kernel, by decide +kernel, by decide +kernel⟩
theorem ml_L_48 : Cond.methodLink RL 48 yX3_now ∈ TG := tg_mem (i := 344) (by decide +kernel) rfl
theorem kv_X3_now : KV RX3 yX3_now cX3_now 2 (some .int) 1 := ⟨⟨tg_mem (i := 345) (by decide +kernel) rfl, tg_mem (i := 346) (by decide +kernel) rfl, tg_mem (i := 66) (by decide +kernel) rfl, tg_mem (i := 347) (by decide +kernel) rfl⟩, rfl, by decide +kernel, by decide +kernel, by decide +kernel⟩
theorem ml_L_51 : Cond.methodLink RL 51 yX4_now ∈ TG := tg_mem (i := 972) (by decide +kernel) rfl
theorem kv_X4_now : KV RX4 yX4_now cX4_now 2 (some .int) 1 := ⟨⟨tg_mem (i := 973) (by decide +kernel) rfl, tg_mem (i := 974) (by decide +kernel) rfl, tg_mem (i := 71) (by decide +kernel) rfl, tg_mem (i := 975) (by decide +kernel) rfl⟩, rfl, by decide +kernel, by decide +kernel, by decide +kernel⟩
theorem ml_L_52 : Cond.methodLink RL 52 yX3_merge ∈ TG := tg_mem (i := 361) (by decide +kernel) rfl
theorem kv_X3_merge : KV RX3 yX3_merge cX3_merge 3 (some .int) 1 := ⟨⟨tg_mem (i := 362) (by decide +kernel) rfl, tg_mem (i := 363) (by decide +kernel) rfl, tg_mem (i := 66) (by decide +kernel) rfl, tg_mem (i := 364) (by decide +kernel) rfl⟩, rfl, by decide +kernel, by decide +kernel, by decide +kernel⟩
theorem ml_L_55 : Cond.methodLink RL 55 yX4_merge ∈ TG := tg_mem (i := 984) (by decide +kernel) rfl
theorem kv_X4_merge : KV RX4 yX4_merge cX4_merge 6 (some .int) 1 := ⟨⟨tg_mem (i := 985) (by decide +kernel) rfl, tg_mem (i := 986) (by decide +kernel) rfl, tg_mem (i := 71) (by decide +kernel) rfl, tg_mem (i := 987) (by decide +kernel) rfl⟩, rfl, by decide +kernel, by decide +kernel, by decide +kernel⟩
theorem ml_L_56 : Cond.methodLink RL 56 yX3_ahead ∈ TG := tg_mem (i := 374) (by decide +kernel) rfl
theorem kv_X3_ahead : KV RX3 yX3_ahead cX3_ahead 3 (some .int) 2 := ⟨⟨tg_mem (i := 375) (by decide +kernel) rfl, tg_mem (i := 376) (by decide +kernel) rfl, tg_mem (i := 66) (by decide +kernel) rfl, tg_mem (i := 377) (by decide +kernel) rfl⟩, rfl, by decide +kernel, by decide +kernel, by decide +kernel⟩
theorem ml_L_59 : Cond.methodLink RL 59 yX4_ahead ∈ TG := tg_mem (i := 988) (by decide +kernel) rfl
theorem kv_X4_ahead : KV RX4 yX4_ahead cX4_ahead 4 (some .int) 2 := ⟨⟨tg_mem (i := 989) (by decide +kernel) rfl, tg_mem (i := 990) (by decide +kernel) rfl, tg_mem (i := 71) (by decide +kernel) rfl, tg_mem (i := 991) (by decide +kernel) rfl⟩, rfl, by decide +kernel, by decide +kernel, by decide +kernel⟩
theorem ml_L_60 : Cond.methodLink RL 60 yX3_loud ∈ TG := tg_mem (i := 389) (by decide +kernel) rfl
theorem kv_X3_loud : KV RX3 yX3_loud cX3_loud 3 (some .int) 2 := ⟨⟨tg_mem (i := 390) (by decide +kernel) rfl, tg_mem (i := 391) (by decide +kernel) rfl, tg_mem (i := 66) (by decide +kernel) rfl, tg_mem (i := 392) (by decide +kernel) rfl⟩, rfl, by decide +kernel, by decide +kernel, by decide +kernel⟩
theorem ml_L_63 : Cond.methodLink RL 63 yX4_loud ∈ TG := tg_mem (i := 1007) (by decide +kernel) rfl
theorem kv_X4_loud : KV RX4 yX4_loud cX4_loud 3 (some .int) 2 := ⟨⟨tg_mem (i := 1008) (by decide +kernel) rfl, tg_mem (i := 1009) (by decide +kernel) rfl, tg_mem (i := 71) (by decide +kernel) rfl, tg_mem (i := 1010) (by decide +kernel) rfl⟩, rfl, by decide +kernel, by decide +kernel, by decide +kernel⟩
theorem ml_L_64 : Cond.methodLink RL 64 yX3_heard ∈ TG := tg_mem (i := 393) (by decide +kernel) rfl
theorem kv_X3_heard : KV RX3 yX3_heard cX3_heard 3 (some .int) 1 := ⟨⟨tg_mem (i := 394) (by decide +kernel) rfl, tg_mem (i := 395) (by decide +kernel) rfl, tg_mem (i := 66) (by decide +kernel) rfl, tg_mem (i := 396) (by decide +kernel) rfl⟩, rfl, by decide +kernel, by decide +kernel, by decide +kernel⟩
theorem ml_L_67 : Cond.methodLink RL 67 yX4_heard ∈ TG := tg_mem (i := 1015) (by decide +kernel) rfl
theorem kv_X4_heard : KV RX4 yX4_heard cX4_heard 3 (some .int) 1 := ⟨⟨tg_mem (i := 1016) (by decide +kernel) rfl, tg_mem (i := 1017) (by decide +kernel) rfl, tg_mem (i := 71) (by decide +kernel) rfl, tg_mem (i := 1018) (by decide +kernel) rfl⟩, rfl, by decide +kernel, by decide +kernel, by decide +kernel⟩
theorem ml_L_68 : Cond.methodLink RL 68 yX3_still ∈ TG := tg_mem (i := 397) (by decide +kernel) rfl
theorem kv_X3_still : KV RX3 yX3_still cX3_still 2 (some .int) 0 := ⟨⟨tg_mem (i := 398) (by decide +kernel) rfl, tg_mem (i := 399) (by decide +kernel) rfl, tg_mem (i := 66) (by decide +kernel) rfl, tg_mem (i := 400) (by decide +kernel) rfl⟩, rfl, by decide +kernel, by decide +kernel, by decide +kernel⟩
theorem ml_L_72 : Cond.methodLink RL 72 yX4_still ∈ TG := tg_mem (i := 1019) (by decide +kernel) rfl
theorem kv_X4_still : KV RX4 yX4_still cX4_still 2 (some .int) 0 := ⟨⟨tg_mem (i := 1020) (by decide +kernel) rfl, tg_mem (i := 1021) (by decide +kernel) rfl, tg_mem (i := 71) (by decide +kernel) rfl, tg_mem (i := 1022) (by decide +kernel) rfl⟩, rfl, by decide +kernel, by decide +kernel, by decide +kernel⟩
theorem ml_L_73 : Cond.methodLink RL 73 yX3_harbour ∈ TG := tg_mem (i := 401) (by decide +kernel) rfl
theorem kv_X3_harbour : KV RX3 yX3_harbour cX3_harbour 3 (some .int) 1 := ⟨⟨tg_mem (i := 402) (by decide +kernel) rfl, tg_mem (i := 403) (by decide +kernel) rfl, tg_mem (i := 66) (by decide +kernel) rfl, tg_mem (i := 404) (by decide +kernel) rfl⟩, rfl, by decide +kernel, by decide +kernel, by decide +kernel⟩
theorem ml_L_76 : Cond.methodLink RL 76 yX4_harbour ∈ TG := tg_mem (i := 1031) (by decide +kernel) rfl
theorem kv_X4_harbour : KV RX4 yX4_harbour cX4_harbour 3 (some .int) 1 := ⟨⟨tg_mem (i := 1032) (by decide +kernel) rfl, tg_mem (i := 1033) (by decide +kernel) rfl, tg_mem (i := 71) (by decide +kernel) rfl, tg_mem (i := 1034) (by decide +kernel) rfl⟩, rfl, by decide +kernel, by decide +kernel, by decide +kernel⟩
theorem ml_L_77 : Cond.methodLink RL 77 yX3_loudest ∈ TG := tg_mem (i := 409) (by decide +kernel) rfl
theorem kv_X3_loudest : KV RX3 yX3_loudest cX3_loudest 5 (some .int) 2 := ⟨⟨tg_mem (i := 410) (by decide +kernel) rfl, tg_mem (i := 411) (by decide +kernel) rfl, tg_mem (i := 66) (by decide +kernel) rfl, tg_mem (i := 412) (by decide +kernel) rfl⟩, rfl, by decide +kernel, by decide +kernel, by decide +kernel⟩
theorem ml_L_80 : Cond.methodLink RL 80 yX4_loudest ∈ TG := tg_mem (i := 1039) (by decide +kernel) rfl
theorem kv_X4_loudest : KV RX4 yX4_loudest cX4_loudest 5 (some .int) 2 := ⟨⟨tg_mem (i := 1040) (by decide +kernel) rfl, tg_mem (i := 1041) (by decide +kernel) rfl, tg_mem (i := 71) (by decide +kernel) rfl, tg_mem (i := 1042) (by decide +kernel) rfl⟩, rfl, by decide +kernel, by decide +kernel, by decide +kernel⟩
theorem ml_L_81 : Cond.methodLink RL 81 yX3_overtakes ∈ TG := tg_mem (i := 414) (by decide +kernel) rfl
theorem kv_X3_overtakes : KV RX3 yX3_overtakes cX3_overtakes 4 (some .int) 2 := ⟨⟨tg_mem (i := 415) (by decide +kernel) rfl, tg_mem (i := 416) (by decide +kernel) rfl, tg_mem (i := 66) (by decide +kernel) rfl, tg_mem (i := 417) (by decide +kernel) rfl⟩, rfl, by decide +kernel, by decide +kernel, by decide +kernel⟩
theorem ml_L_84 : Cond.methodLink RL 84 yX4_overtakes ∈ TG := tg_mem (i := 1043) (by decide +kernel) rfl
theorem kv_X4_overtakes : KV RX4 yX4_overtakes cX4_overtakes 4 (some .int) 2 := ⟨⟨tg_mem (i := 1044) (by decide +kernel) rfl, tg_mem (i := 1045) (by decide +kernel) rfl, tg_mem (i := 71) (by decide +kernel) rfl, tg_mem (i := 1046) (by decide +kernel) rfl⟩, rfl, by decide +kernel, by decide +kernel, by decide +kernel⟩
theorem ml_L_85 : Cond.methodLink RL 85 yX3_kindFor ∈ TG := tg_mem (i := 422) (by decide +kernel) rfl
theorem kv_X3_kindFor : KV RX3 yX3_kindFor cX3_kindFor 6 (some .int) 1 := ⟨⟨tg_mem (i := 423) (by decide +kernel) rfl, tg_mem (i := 424) (by decide +kernel) rfl, tg_mem (i := 66) (by decide +kernel) rfl, tg_mem (i := 425) (by decide +kernel) rfl⟩, rfl, by decide +kernel, by decide +kernel, by decide +kernel⟩
theorem ml_L_88 : Cond.methodLink RL 88 yX4_kindFor ∈ TG := tg_mem (i := 1051) (by decide +kernel) rfl
theorem kv_X4_kindFor : KV RX4 yX4_kindFor cX4_kindFor 7 (some .int) 1 := ⟨⟨tg_mem (i := 1052) (by decide +kernel) rfl, tg_mem (i := 1053) (by decide +kernel) rfl, tg_mem (i := 71) (by decide +kernel) rfl, tg_mem (i := 1054) (by decide +kernel) rfl⟩, rfl, by decide +kernel, by decide +kernel, by decide +kernel⟩
theorem ml_L_89 : Cond.methodLink RL 89 yX3_goesBy ∈ TG := tg_mem (i := 426) (by decide +kernel) rfl
theorem kv_X3_goesBy : KV RX3 yX3_goesBy cX3_goesBy 2 (some .int) 1 := ⟨⟨tg_mem (i := 427) (by decide +kernel) rfl, tg_mem (i := 428) (by decide +kernel) rfl, tg_mem (i := 66) (by decide +kernel) rfl, tg_mem (i := 429) (by decide +kernel) rfl⟩, rfl, by decide +kernel, by decide +kernel, by decide +kernel⟩
theorem ml_L_92 : Cond.methodLink RL 92 yX4_goesBy ∈ TG := tg_mem (i := 1055) (by decide +kernel) rfl
theorem kv_X4_goesBy : KV RX4 yX4_goesBy cX4_goesBy 2 (some .int) 1 := ⟨⟨tg_mem (i := 1056) (by decide +kernel) rfl, tg_mem (i := 1057) (by decide +kernel) rfl, tg_mem (i := 71) (by decide +kernel) rfl, tg_mem (i := 1058) (by decide +kernel) rfl⟩, rfl, by decide +kernel, by decide +kernel, by decide +kernel⟩
theorem ml_L_93 : Cond.methodLink RL 93 yX3_where ∈ TG := tg_mem (i := 434) (by decide +kernel) rfl
theorem kv_X3_where : KV RX3 yX3_where cX3_where 8 (some .int) 3 := ⟨⟨tg_mem (i := 435) (by decide +kernel) rfl, tg_mem (i := 436) (by decide +kernel) rfl, tg_mem (i := 66) (by decide +kernel) rfl, tg_mem (i := 437) (by decide +kernel) rfl⟩, rfl, by decide +kernel, by decide +kernel, by decide +kernel⟩
theorem ml_L_96 : Cond.methodLink RL 96 yX4_where ∈ TG := tg_mem (i := 1063) (by decide +kernel) rfl
theorem kv_X4_where : KV RX4 yX4_where cX4_where 4 (some .int) 3 := ⟨⟨tg_mem (i := 1064) (by decide +kernel) rfl, tg_mem (i := 1065) (by decide +kernel) rfl, tg_mem (i := 71) (by decide +kernel) rfl, tg_mem (i := 1066) (by decide +kernel) rfl⟩, rfl, by decide +kernel, by decide +kernel, by decide +kernel⟩
theorem ml_L_97 : Cond.methodLink RL 97 yX3_places ∈ TG := tg_mem (i := 443) (by decide +kernel) rfl
theorem kv_X3_places : KV RX3 yX3_places cX3_places 4 (some .int) 3 := ⟨⟨tg_mem (i := 444) (by decide +kernel) rfl, tg_mem (i := 445) (by decide +kernel) rfl, tg_mem (i := 66) (by decide +kernel) rfl, tg_mem (i := 446) (by decide +kernel) rfl⟩, rfl, by decide +kernel, by decide +kernel, by decide +kernel⟩
theorem ml_L_100 : Cond.methodLink RL 100 yX4_places ∈ TG := tg_mem (i := 1075) (by decide +kernel) rfl
theorem kv_X4_places : KV RX4 yX4_places cX4_places 4 (some .int) 3 := ⟨⟨tg_mem (i := 1076) (by decide +kernel) rfl, tg_mem (i := 1077) (by decide +kernel) rfl, tg_mem (i := 71) (by decide +kernel) rfl, tg_mem (i := 1078) (by decide +kernel) rfl⟩, rfl, by decide +kernel, by decide +kernel, by decide +kernel⟩
theorem ml_L_101 : Cond.methodLink RL 101 yX3_weightFor ∈ TG := tg_mem (i := 453) (by decide +kernel) rfl
theorem kv_X3_weightFor : KV RX3 yX3_weightFor cX3_weightFor 7 (some .int) 3 := ⟨⟨tg_mem (i := 454) (by decide +kernel) rfl, tg_mem (i := 455) (by decide +kernel) rfl, tg_mem (i := 66) (by decide +kernel) rfl, tg_mem (i := 456) (by decide +kernel) rfl⟩, rfl, by decide +kernel, by decide +kernel, by decide +kernel⟩
theorem ml_L_104 : Cond.methodLink RL 104 yX4_weightFor ∈ TG := tg_mem (i := 1079) (by decide +kernel) rfl
theorem kv_X4_weightFor : KV RX4 yX4_weightFor cX4_weightFor 7 (some .int) 3 := ⟨⟨tg_mem (i := 1080) (by decide +kernel) rfl, tg_mem (i := 1081) (by decide +kernel) rfl, tg_mem (i := 71) (by decide +kernel) rfl, tg_mem (i := 1082) (by decide +kernel) rfl⟩, rfl, by decide +kernel, by decide +kernel, by decide +kernel⟩
theorem ml_L_105 : Cond.methodLink RL 105 yX3_sand ∈ TG := tg_mem (i := 458) (by decide +kernel) rfl
theorem kv_X3_sand : KV RX3 yX3_sand cX3_sand 5 (some .int) 3 := ⟨⟨tg_mem (i := 459) (by decide +kernel) rfl, tg_mem (i := 460) (by decide +kernel) rfl, tg_mem (i := 66) (by decide +kernel) rfl, tg_mem (i := 461) (by decide +kernel) rfl⟩, rfl, by decide +kernel, by decide +kernel, by decide +kernel⟩
theorem ml_L_108 : Cond.methodLink RL 108 yX4_sand ∈ TG := tg_mem (i := 1087) (by decide +kernel) rfl
theorem kv_X4_sand : KV RX4 yX4_sand cX4_sand 4 (some .int) 3 := ⟨⟨tg_mem (i := 1088) (by decide +kernel) rfl, tg_mem (i := 1089) (by decide +kernel) rfl, tg_mem (i := 71) (by decide +kernel) rfl, tg_mem (i := 1090) (by decide +kernel) rfl⟩, rfl, by decide +kernel, by decide +kernel, by decide +kernel⟩
theorem ml_L_109 : Cond.methodLink RL 109 yX3_costs ∈ TG := tg_mem (i := 475) (by decide +kernel) rfl
theorem kv_X3_costs : KV RX3 yX3_costs cX3_costs 5 (some .int) 3 := ⟨⟨tg_mem (i := 476) (by decide +kernel) rfl, tg_mem (i := 477) (by decide +kernel) rfl, tg_mem (i := 66) (by decide +kernel) rfl, tg_mem (i := 478) (by decide +kernel) rfl⟩, rfl, by decide +kernel, by decide +kernel, by decide +kernel⟩
theorem ml_L_112 : Cond.methodLink RL 112 yX4_costs ∈ TG := tg_mem (i := 1107) (by decide +kernel) rfl
theorem kv_X4_costs : KV RX4 yX4_costs cX4_costs 4 (some .int) 3 := ⟨⟨tg_mem (i := 1108) (by decide +kernel) rfl, tg_mem (i := 1109) (by decide +kernel) rfl, tg_mem (i := 71) (by decide +kernel) rfl, tg_mem (i := 1110) (by decide +kernel) rfl⟩, rfl, by decide +kernel, by decide +kernel, by decide +kernel⟩
theorem ml_L_113 : Cond.methodLink RL 113 yX3_aunt ∈ TG := tg_mem (i := 479) (by decide +kernel) rfl
theorem kv_X3_aunt : KV RX3 yX3_aunt cX3_aunt 6 (some .int) 1 := ⟨⟨tg_mem (i := 480) (by decide +kernel) rfl, tg_mem (i := 481) (by decide +kernel) rfl, tg_mem (i := 66) (by decide +kernel) rfl, tg_mem (i := 482) (by decide +kernel) rfl⟩, rfl, by decide +kernel, by decide +kernel, by decide +kernel⟩
theorem ml_L_116 : Cond.methodLink RL 116 yX4_aunt ∈ TG := tg_mem (i := 1111) (by decide +kernel) rfl
theorem kv_X4_aunt : KV RX4 yX4_aunt cX4_aunt 7 (some .int) 1 := ⟨⟨tg_mem (i := 1112) (by decide +kernel) rfl, tg_mem (i := 1113) (by decide +kernel) rfl, tg_mem (i := 71) (by decide +kernel) rfl, tg_mem (i := 1114) (by decide +kernel) rfl⟩, rfl, by decide +kernel, by decide +kernel, by decide +kernel⟩
theorem ml_L_117 : Cond.methodLink RL 117 yX3_fits ∈ TG := tg_mem (i := 483) (by decide +kernel) rfl
theorem kv_X3_fits : KV RX3 yX3_fits cX3_fits 6 (some .int) 2 := ⟨⟨tg_mem (i := 484) (by decide +kernel) rfl, tg_mem (i := 485) (by decide +kernel) rfl, tg_mem (i := 66) (by decide +kernel) rfl, tg_mem (i := 486) (by decide +kernel) rfl⟩, rfl, by decide +kernel, by decide +kernel, by decide +kernel⟩
theorem ml_L_120 : Cond.methodLink RL 120 yX4_fits ∈ TG := tg_mem (i := 1115) (by decide +kernel) rfl
theorem kv_X4_fits : KV RX4 yX4_fits cX4_fits 4 (some .int) 2 := ⟨⟨tg_mem (i := 1116) (by decide +kernel) rfl, tg_mem (i := 1117) (by decide +kernel) rfl, tg_mem (i := 71) (by decide +kernel) rfl, tg_mem (i := 1118) (by decide +kernel) rfl⟩, rfl, by decide +kernel, by decide +kernel, by decide +kernel⟩
theorem ml_L_121 : Cond.methodLink RL 121 yX3_said ∈ TG := tg_mem (i := 508) (by decide +kernel) rfl
theorem kv_X3_said : KV RX3 yX3_said cX3_said 5 (some .int) 2 := ⟨⟨tg_mem (i := 509) (by decide +kernel) rfl, tg_mem (i := 510) (by decide +kernel) rfl, tg_mem (i := 66) (by decide +kernel) rfl, tg_mem (i := 511) (by decide +kernel) rfl⟩, rfl, by decide +kernel, by decide +kernel, by decide +kernel⟩
theorem ml_L_124 : Cond.methodLink RL 124 yX4_said ∈ TG := tg_mem (i := 1139) (by decide +kernel) rfl
theorem kv_X4_said : KV RX4 yX4_said cX4_said 4 (some .int) 2 := ⟨⟨tg_mem (i := 1140) (by decide +kernel) rfl, tg_mem (i := 1141) (by decide +kernel) rfl, tg_mem (i := 71) (by decide +kernel) rfl, tg_mem (i := 1142) (by decide +kernel) rfl⟩, rfl, by decide +kernel, by decide +kernel, by decide +kernel⟩
theorem ml_L_125 : Cond.methodLink RL 125 yX3_dearest ∈ TG := tg_mem (i := 512) (by decide +kernel) rfl
theorem kv_X3_dearest : KV RX3 yX3_dearest cX3_dearest 3 (some .int) 0 := ⟨⟨tg_mem (i := 513) (by decide +kernel) rfl, tg_mem (i := 514) (by decide +kernel) rfl, tg_mem (i := 66) (by decide +kernel) rfl, tg_mem (i := 515) (by decide +kernel) rfl⟩, rfl, by decide +kernel, by decide +kernel, by decide +kernel⟩
theorem ml_L_128 : Cond.methodLink RL 128 yX4_dearest ∈ TG := tg_mem (i := 1143) (by decide +kernel) rfl
theorem kv_X4_dearest : KV RX4 yX4_dearest cX4_dearest 3 (some .int) 0 := ⟨⟨tg_mem (i := 1144) (by decide +kernel) rfl, tg_mem (i := 1145) (by decide +kernel) rfl, tg_mem (i := 71) (by decide +kernel) rfl, tg_mem (i := 1146) (by decide +kernel) rfl⟩, rfl, by decide +kernel, by decide +kernel, by decide +kernel⟩
theorem ml_L_129 : Cond.methodLink RL 129 yX3_rents ∈ TG := tg_mem (i := 516) (by decide +kernel) rfl
theorem kv_X3_rents : KV RX3 yX3_rents cX3_rents 3 (some .int) 0 := ⟨⟨tg_mem (i := 517) (by decide +kernel) rfl, tg_mem (i := 518) (by decide +kernel) rfl, tg_mem (i := 66) (by decide +kernel) rfl, tg_mem (i := 519) (by decide +kernel) rfl⟩, rfl, by decide +kernel, by decide +kernel, by decide +kernel⟩
theorem ml_L_132 : Cond.methodLink RL 132 yX4_rents ∈ TG := tg_mem (i := 1147) (by decide +kernel) rfl
theorem kv_X4_rents : KV RX4 yX4_rents cX4_rents 3 (some .int) 0 := ⟨⟨tg_mem (i := 1148) (by decide +kernel) rfl, tg_mem (i := 1149) (by decide +kernel) rfl, tg_mem (i := 71) (by decide +kernel) rfl, tg_mem (i := 1150) (by decide +kernel) rfl⟩, rfl, by decide +kernel, by decide +kernel, by decide +kernel⟩
theorem ml_L_133 : Cond.methodLink RL 133 yX3_frosts ∈ TG := tg_mem (i := 520) (by decide +kernel) rfl
theorem kv_X3_frosts : KV RX3 yX3_frosts cX3_frosts 4 (some .int) 1 := ⟨⟨tg_mem (i := 521) (by decide +kernel) rfl, tg_mem (i := 522) (by decide +kernel) rfl, tg_mem (i := 66) (by decide +kernel) rfl, tg_mem (i := 523) (by decide +kernel) rfl⟩, rfl, by decide +kernel, by decide +kernel, by decide +kernel⟩
theorem ml_L_136 : Cond.methodLink RL 136 yX4_frosts ∈ TG := tg_mem (i := 1151) (by decide +kernel) rfl
theorem kv_X4_frosts : KV RX4 yX4_frosts cX4_frosts 4 (some .int) 1 := ⟨⟨tg_mem (i := 1152) (by decide +kernel) rfl, tg_mem (i := 1153) (by decide +kernel) rfl, tg_mem (i := 71) (by decide +kernel) rfl, tg_mem (i := 1154) (by decide +kernel) rfl⟩, rfl, by decide +kernel, by decide +kernel, by decide +kernel⟩
theorem ml_L_137 : Cond.methodLink RL 137 yX3_odds ∈ TG := tg_mem (i := 529) (by decide +kernel) rfl
theorem kv_X3_odds : KV RX3 yX3_odds cX3_odds 10 (some .long) 3 := ⟨⟨tg_mem (i := 530) (by decide +kernel) rfl, tg_mem (i := 531) (by decide +kernel) rfl, tg_mem (i := 66) (by decide +kernel) rfl, tg_mem (i := 532) (by decide +kernel) rfl⟩, rfl, by decide +kernel, by decide +kernel, by decide +kernel⟩
theorem ml_L_141 : Cond.methodLink RL 141 yX4_odds ∈ TG := tg_mem (i := 1161) (by decide +kernel) rfl
theorem kv_X4_odds : KV RX4 yX4_odds cX4_odds 14 (some .long) 3 := ⟨⟨tg_mem (i := 1162) (by decide +kernel) rfl, tg_mem (i := 1163) (by decide +kernel) rfl, tg_mem (i := 71) (by decide +kernel) rfl, tg_mem (i := 1164) (by decide +kernel) rfl⟩, rfl, by decide +kernel, by decide +kernel, by decide +kernel⟩
theorem ml_L_142 : Cond.methodLink RL 142 yX3_seed ∈ TG := tg_mem (i := 536) (by decide +kernel) rfl
theorem kv_X3_seed : KV RX3 yX3_seed cX3_seed 3 (some .int) 1 := ⟨⟨tg_mem (i := 537) (by decide +kernel) rfl, tg_mem (i := 538) (by decide +kernel) rfl, tg_mem (i := 66) (by decide +kernel) rfl, tg_mem (i := 539) (by decide +kernel) rfl⟩, rfl, by decide +kernel, by decide +kernel, by decide +kernel⟩
theorem ml_L_145 : Cond.methodLink RL 145 yX4_seed ∈ TG := tg_mem (i := 1167) (by decide +kernel) rfl
theorem kv_X4_seed : KV RX4 yX4_seed cX4_seed 2 (some .int) 1 := ⟨⟨tg_mem (i := 1168) (by decide +kernel) rfl, tg_mem (i := 1169) (by decide +kernel) rfl, tg_mem (i := 71) (by decide +kernel) rfl, tg_mem (i := 1170) (by decide +kernel) rfl⟩, rfl, by decide +kernel, by decide +kernel, by decide +kernel⟩
theorem ml_L_146 : Cond.methodLink RL 146 yX3_feed ∈ TG := tg_mem (i := 540) (by decide +kernel) rfl
theorem kv_X3_feed : KV RX3 yX3_feed cX3_feed 4 (some .int) 2 := ⟨⟨tg_mem (i := 541) (by decide +kernel) rfl, tg_mem (i := 542) (by decide +kernel) rfl, tg_mem (i := 66) (by decide +kernel) rfl, tg_mem (i := 543) (by decide +kernel) rfl⟩, rfl, by decide +kernel, by decide +kernel, by decide +kernel⟩
theorem ml_L_149 : Cond.methodLink RL 149 yX4_feed ∈ TG := tg_mem (i := 1171) (by decide +kernel) rfl
theorem kv_X4_feed : KV RX4 yX4_feed cX4_feed 4 (some .int) 2 := ⟨⟨tg_mem (i := 1172) (by decide +kernel) rfl, tg_mem (i := 1173) (by decide +kernel) rfl, tg_mem (i := 71) (by decide +kernel) rfl, tg_mem (i := 1174) (by decide +kernel) rfl⟩, rfl, by decide +kernel, by decide +kernel, by decide +kernel⟩
theorem ml_L_150 : Cond.methodLink RL 150 yX3_wipe ∈ TG := tg_mem (i := 548) (by decide +kernel) rfl
theorem kv_X3_wipe : KV RX3 yX3_wipe cX3_wipe 2 (some .int) 0 := ⟨⟨tg_mem (i := 549) (by decide +kernel) rfl, tg_mem (i := 550) (by decide +kernel) rfl, tg_mem (i := 66) (by decide +kernel) rfl, tg_mem (i := 551) (by decide +kernel) rfl⟩, rfl, by decide +kernel, by decide +kernel, by decide +kernel⟩
theorem ml_L_153 : Cond.methodLink RL 153 yX4_wipe ∈ TG := tg_mem (i := 1175) (by decide +kernel) rfl
theorem kv_X4_wipe : KV RX4 yX4_wipe cX4_wipe 2 (some .int) 0 := ⟨⟨tg_mem (i := 1176) (by decide +kernel) rfl, tg_mem (i := 1177) (by decide +kernel) rfl, tg_mem (i := 71) (by decide +kernel) rfl, tg_mem (i := 1178) (by decide +kernel) rfl⟩, rfl, by decide +kernel, by decide +kernel, by decide +kernel⟩
theorem ml_L_154 : Cond.methodLink RL 154 yX3_text ∈ TG := tg_mem (i := 556) (by decide +kernel) rfl
theorem kv_X3_text : KV RX3 yX3_text cX3_text 2 (some .int) 0 := ⟨⟨tg_mem (i := 557) (by decide +kernel) rfl, tg_mem (i := 558) (by decide +kernel) rfl, tg_mem (i := 66) (by decide +kernel) rfl, tg_mem (i := 559) (by decide +kernel) rfl⟩, rfl, by decide +kernel, by decide +kernel, by decide +kernel⟩
theorem ml_L_157 : Cond.methodLink RL 157 yX4_text ∈ TG := tg_mem (i := 1179) (by decide +kernel) rfl
theorem kv_X4_text : KV RX4 yX4_text cX4_text 2 (some .int) 0 := ⟨⟨tg_mem (i := 1180) (by decide +kernel) rfl, tg_mem (i := 1181) (by decide +kernel) rfl, tg_mem (i := 71) (by decide +kernel) rfl, tg_mem (i := 1182) (by decide +kernel) rfl⟩, rfl, by decide +kernel, by decide +kernel, by decide +kernel⟩
theorem ml_L_158 : Cond.methodLink RL 158 yX3_hold ∈ TG := tg_mem (i := 682) (by decide +kernel) rfl
theorem kv_X3_hold : KV RX3 yX3_hold cX3_hold 3 (some .int) 2 := ⟨⟨tg_mem (i := 683) (by decide +kernel) rfl, tg_mem (i := 684) (by decide +kernel) rfl, tg_mem (i := 66) (by decide +kernel) rfl, tg_mem (i := 685) (by decide +kernel) rfl⟩, rfl, by decide +kernel, by decide +kernel, by decide +kernel⟩
theorem ml_L_161 : Cond.methodLink RL 161 yX4_hold ∈ TG := tg_mem (i := 1244) (by decide +kernel) rfl
theorem kv_X4_hold : KV RX4 yX4_hold cX4_hold 3 (some .int) 2 := ⟨⟨tg_mem (i := 1245) (by decide +kernel) rfl, tg_mem (i := 1246) (by decide +kernel) rfl, tg_mem (i := 71) (by decide +kernel) rfl, tg_mem (i := 1247) (by decide +kernel) rfl⟩, rfl, by decide +kernel, by decide +kernel, by decide +kernel⟩
theorem ml_L_162 : Cond.methodLink RL 162 yX3_as ∈ TG := tg_mem (i := 690) (by decide +kernel) rfl
theorem kv_X3_as : KV RX3 yX3_as cX3_as 4 (some .int) 2 := ⟨⟨tg_mem (i := 691) (by decide +kernel) rfl, tg_mem (i := 692) (by decide +kernel) rfl, tg_mem (i := 66) (by decide +kernel) rfl, tg_mem (i := 693) (by decide +kernel) rfl⟩, rfl, by decide +kernel, by decide +kernel, by decide +kernel⟩
theorem ml_L_165 : Cond.methodLink RL 165 yX4_as ∈ TG := tg_mem (i := 1252) (by decide +kernel) rfl
theorem kv_X4_as : KV RX4 yX4_as cX4_as 4 (some .int) 2 := ⟨⟨tg_mem (i := 1253) (by decide +kernel) rfl, tg_mem (i := 1254) (by decide +kernel) rfl, tg_mem (i := 71) (by decide +kernel) rfl, tg_mem (i := 1255) (by decide +kernel) rfl⟩, rfl, by decide +kernel, by decide +kernel, by decide +kernel⟩
theorem ml_L_166 : Cond.methodLink RL 166 yX3_sheet ∈ TG := tg_mem (i := 704) (by decide +kernel) rfl
theorem kv_X3_sheet : KV RX3 yX3_sheet cX3_sheet 5 (some .int) 3 := ⟨⟨tg_mem (i := 705) (by decide +kernel) rfl, tg_mem (i := 706) (by decide +kernel) rfl, tg_mem (i := 66) (by decide +kernel) rfl, tg_mem (i := 707) (by decide +kernel) rfl⟩, rfl, by decide +kernel, by decide +kernel, by decide +kernel⟩
theorem ml_L_169 : Cond.methodLink RL 169 yX4_sheet ∈ TG := tg_mem (i := 1262) (by decide +kernel) rfl
theorem kv_X4_sheet : KV RX4 yX4_sheet cX4_sheet 6 (some .int) 3 := ⟨⟨tg_mem (i := 1263) (by decide +kernel) rfl, tg_mem (i := 1264) (by decide +kernel) rfl, tg_mem (i := 71) (by decide +kernel) rfl, tg_mem (i := 1265) (by decide +kernel) rfl⟩, rfl, by decide +kernel, by decide +kernel, by decide +kernel⟩
theorem ml_L_170 : Cond.methodLink RL 170 yX3_write ∈ TG := tg_mem (i := 713) (by decide +kernel) rfl
theorem kv_X3_write : KV RX3 yX3_write cX3_write 5 (some .int) 3 := ⟨⟨tg_mem (i := 714) (by decide +kernel) rfl, tg_mem (i := 715) (by decide +kernel) rfl, tg_mem (i := 66) (by decide +kernel) rfl, tg_mem (i := 716) (by decide +kernel) rfl⟩, rfl, by decide +kernel, by decide +kernel, by decide +kernel⟩
theorem ml_L_173 : Cond.methodLink RL 173 yX4_write ∈ TG := tg_mem (i := 1266) (by decide +kernel) rfl
theorem kv_X4_write : KV RX4 yX4_write cX4_write 5 (some .int) 3 := ⟨⟨tg_mem (i := 1267) (by decide +kernel) rfl, tg_mem (i := 1268) (by decide +kernel) rfl, tg_mem (i := 71) (by decide +kernel) rfl, tg_mem (i := 1269) (by decide +kernel) rfl⟩, rfl, by decide +kernel, by decide +kernel, by decide +kernel⟩
theorem ml_L_174 : Cond.methodLink RL 174 yX3_copy ∈ TG := tg_mem (i := 722) (by decide +kernel) rfl
theorem kv_X3_copy : KV RX3 yX3_copy cX3_copy 8 (some .int) 5 := ⟨⟨tg_mem (i := 723) (by decide +kernel) rfl, tg_mem (i := 724) (by decide +kernel) rfl, tg_mem (i := 66) (by decide +kernel) rfl, tg_mem (i := 725) (by decide +kernel) rfl⟩, rfl, by decide +kernel, by decide +kernel, by decide +kernel⟩
theorem ml_L_178 : Cond.methodLink RL 178 yX4_copy ∈ TG := tg_mem (i := 1270) (by decide +kernel) rfl
theorem kv_X4_copy : KV RX4 yX4_copy cX4_copy 8 (some .int) 5 := ⟨⟨tg_mem (i := 1271) (by decide +kernel) rfl, tg_mem (i := 1272) (by decide +kernel) rfl, tg_mem (i := 71) (by decide +kernel) rfl, tg_mem (i := 1273) (by decide +kernel) rfl⟩, rfl, by decide +kernel, by decide +kernel, by decide +kernel⟩
theorem ml_L_179 : Cond.methodLink RL 179 yX3_load ∈ TG := tg_mem (i := 731) (by decide +kernel) rfl
theorem kv_X3_load : KV RX3 yX3_load cX3_load 5 (some .int) 1 := ⟨⟨tg_mem (i := 732) (by decide +kernel) rfl, tg_mem (i := 733) (by decide +kernel) rfl, tg_mem (i := 66) (by decide +kernel) rfl, tg_mem (i := 734) (by decide +kernel) rfl⟩, rfl, by decide +kernel, by decide +kernel, by decide +kernel⟩
theorem ml_L_182 : Cond.methodLink RL 182 yX4_load ∈ TG := tg_mem (i := 1274) (by decide +kernel) rfl
theorem kv_X4_load : KV RX4 yX4_load cX4_load 4 (some .int) 1 := ⟨⟨tg_mem (i := 1275) (by decide +kernel) rfl, tg_mem (i := 1276) (by decide +kernel) rfl, tg_mem (i := 71) (by decide +kernel) rfl, tg_mem (i := 1277) (by decide +kernel) rfl⟩, rfl, by decide +kernel, by decide +kernel, by decide +kernel⟩
theorem ml_L_183 : Cond.methodLink RL 183 yX3_judge ∈ TG := tg_mem (i := 735) (by decide +kernel) rfl
theorem kv_X3_judge : KV RX3 yX3_judge cX3_judge 4 (some .int) 1 := ⟨⟨tg_mem (i := 736) (by decide +kernel) rfl, tg_mem (i := 737) (by decide +kernel) rfl, tg_mem (i := 66) (by decide +kernel) rfl, tg_mem (i := 738) (by decide +kernel) rfl⟩, rfl, by decide +kernel, by decide +kernel, by decide +kernel⟩
theorem ml_L_186 : Cond.methodLink RL 186 yX4_judge ∈ TG := tg_mem (i := 1279) (by decide +kernel) rfl
theorem kv_X4_judge : KV RX4 yX4_judge cX4_judge 4 (some .int) 1 := ⟨⟨tg_mem (i := 1280) (by decide +kernel) rfl, tg_mem (i := 1281) (by decide +kernel) rfl, tg_mem (i := 71) (by decide +kernel) rfl, tg_mem (i := 1282) (by decide +kernel) rfl⟩, rfl, by decide +kernel, by decide +kernel, by decide +kernel⟩
theorem ml_L_187 : Cond.methodLink RL 187 yX3_image ∈ TG := tg_mem (i := 739) (by decide +kernel) rfl
theorem kv_X3_image : KV RX3 yX3_image cX3_image 1 (some .int) 0 := ⟨⟨tg_mem (i := 740) (by decide +kernel) rfl, tg_mem (i := 741) (by decide +kernel) rfl, tg_mem (i := 66) (by decide +kernel) rfl, tg_mem (i := 742) (by decide +kernel) rfl⟩, rfl, by decide +kernel, by decide +kernel, by decide +kernel⟩
theorem ml_L_190 : Cond.methodLink RL 190 yX4_image ∈ TG := tg_mem (i := 1283) (by decide +kernel) rfl
theorem kv_X4_image : KV RX4 yX4_image cX4_image 1 (some .int) 0 := ⟨⟨tg_mem (i := 1284) (by decide +kernel) rfl, tg_mem (i := 1285) (by decide +kernel) rfl, tg_mem (i := 71) (by decide +kernel) rfl, tg_mem (i := 1286) (by decide +kernel) rfl⟩, rfl, by decide +kernel, by decide +kernel, by decide +kernel⟩
theorem ml_L_191 : Cond.methodLink RL 191 yX3_undo ∈ TG := tg_mem (i := 743) (by decide +kernel) rfl
theorem kv_X3_undo : KV RX3 yX3_undo cX3_undo 1 (some .int) 0 := ⟨⟨tg_mem (i := 744) (by decide +kernel) rfl, tg_mem (i := 745) (by decide +kernel) rfl, tg_mem (i := 66) (by decide +kernel) rfl, tg_mem (i := 746) (by decide +kernel) rfl⟩, rfl, by decide +kernel, by decide +kernel, by decide +kernel⟩
theorem ml_L_194 : Cond.methodLink RL 194 yX4_undo ∈ TG := tg_mem (i := 1287) (by decide +kernel) rfl
theorem kv_X4_undo : KV RX4 yX4_undo cX4_undo 1 (some .int) 0 := ⟨⟨tg_mem (i := 1288) (by decide +kernel) rfl, tg_mem (i := 1289) (by decide +kernel) rfl, tg_mem (i := 71) (by decide +kernel) rfl, tg_mem (i := 1290) (by decide +kernel) rfl⟩, rfl, by decide +kernel, by decide +kernel, by decide +kernel⟩
theorem ml_L_195 : Cond.methodLink RL 195 yX3_tear ∈ TG := tg_mem (i := 747) (by decide +kernel) rfl
theorem kv_X3_tear : KV RX3 yX3_tear cX3_tear 2 (some .int) 0 := ⟨⟨tg_mem (i := 748) (by decide +kernel) rfl, tg_mem (i := 749) (by decide +kernel) rfl, tg_mem (i := 66) (by decide +kernel) rfl, tg_mem (i := 750) (by decide +kernel) rfl⟩, rfl, by decide +kernel, by decide +kernel, by decide +kernel⟩
theorem ml_L_198 : Cond.methodLink RL 198 yX4_tear ∈ TG := tg_mem (i := 1291) (by decide +kernel) rfl
theorem kv_X4_tear : KV RX4 yX4_tear cX4_tear 2 (some .int) 0 := ⟨⟨tg_mem (i := 1292) (by decide +kernel) rfl, tg_mem (i := 1293) (by decide +kernel) rfl, tg_mem (i := 71) (by decide +kernel) rfl, tg_mem (i := 1294) (by decide +kernel) rfl⟩, rfl, by decide +kernel, by decide +kernel, by decide +kernel⟩
theorem ml_L_199 : Cond.methodLink RL 199 yX3_count ∈ TG := tg_mem (i := 751) (by decide +kernel) rfl
theorem kv_X3_count : KV RX3 yX3_count cX3_count 2 (some .int) 1 := ⟨⟨tg_mem (i := 752) (by decide +kernel) rfl, tg_mem (i := 753) (by decide +kernel) rfl, tg_mem (i := 66) (by decide +kernel) rfl, tg_mem (i := 754) (by decide +kernel) rfl⟩, rfl, by decide +kernel, by decide +kernel, by decide +kernel⟩
theorem ml_L_202 : Cond.methodLink RL 202 yX4_count ∈ TG := tg_mem (i := 1295) (by decide +kernel) rfl
theorem kv_X4_count : KV RX4 yX4_count cX4_count 2 (some .int) 1 := ⟨⟨tg_mem (i := 1296) (by decide +kernel) rfl, tg_mem (i := 1297) (by decide +kernel) rfl, tg_mem (i := 71) (by decide +kernel) rfl, tg_mem (i := 1298) (by decide +kernel) rfl⟩, rfl, by decide +kernel, by decide +kernel, by decide +kernel⟩
theorem ml_L_203 : Cond.methodLink RL 203 yX3_status ∈ TG := tg_mem (i := 763) (by decide +kernel) rfl
theorem kv_X3_status : KV RX3 yX3_status cX3_status 4 (some .int) 1 := ⟨⟨tg_mem (i := 764) (by decide +kernel) rfl, tg_mem (i := 765) (by decide +kernel) rfl, tg_mem (i := 66) (by decide +kernel) rfl, tg_mem (i := 766) (by decide +kernel) rfl⟩, rfl, by decide +kernel, by decide +kernel, by decide +kernel⟩
theorem ml_L_206 : Cond.methodLink RL 206 yX4_status ∈ TG := tg_mem (i := 1311) (by decide +kernel) rfl
theorem kv_X4_status : KV RX4 yX4_status cX4_status 4 (some .int) 1 := ⟨⟨tg_mem (i := 1312) (by decide +kernel) rfl, tg_mem (i := 1313) (by decide +kernel) rfl, tg_mem (i := 71) (by decide +kernel) rfl, tg_mem (i := 1314) (by decide +kernel) rfl⟩, rfl, by decide +kernel, by decide +kernel, by decide +kernel⟩
def fL_law_b1598 (xs : Nat → Int32) (L : Nat) (k18 : Int32 → St → St → Option (Int32)) (b3 : Int32) (x : St) (m : St) : Option (Int32) :=
  k18 (b3 + (6 : Int32)) x m
def fL_law_b1575 (xs : Nat → Int32) (L : Nat) (k18 : Int32 → St → St → Option (Int32)) (b3 : Int32) (x : St) (m : St) : Option (Int32) :=
  if (b3 + (1 : Int32)) < 0 ∨ L ≤ (b3 + (1 : Int32)).toNatClampNeg then none else
  (f3_status (xs (b3 + (1 : Int32)).toNatClampNeg) x).bind fun q => match q with
  | (v172, z171) =>
    if (b3 + (1 : Int32)) < 0 ∨ L ≤ (b3 + (1 : Int32)).toNatClampNeg then none else
    (f4_status (xs (b3 + (1 : Int32)).toNatClampNeg) m).bind fun q => match q with
    | (v174, z173) =>
      if v172 = v174 then
        fL_law_b1598 xs L k18 b3 z171 z173
      else
        some (0 : Int32)
def fL_law_b1552 (xs : Nat → Int32) (L : Nat) (k18 : Int32 → St → St → Option (Int32)) (b3 : Int32) (x : St) (m : St) : Option (Int32) :=
  if (b3 + (1 : Int32)) < 0 ∨ L ≤ (b3 + (1 : Int32)).toNatClampNeg then none else
  (f3_count (xs (b3 + (1 : Int32)).toNatClampNeg) x).bind fun q => match q with
  | (v168, z167) =>
    if (b3 + (1 : Int32)) < 0 ∨ L ≤ (b3 + (1 : Int32)).toNatClampNeg then none else
    (f4_count (xs (b3 + (1 : Int32)).toNatClampNeg) m).bind fun q => match q with
    | (v170, z169) =>
      if v168 = v170 then
        fL_law_b1598 xs L k18 b3 z167 z169
      else
        some (0 : Int32)
def fL_law_b1539 (xs : Nat → Int32) (L : Nat) (k18 : Int32 → St → St → Option (Int32)) (b3 : Int32) (x : St) (m : St) : Option (Int32) :=
  if (f3_tear x).1 = (f4_tear m).1 then
    fL_law_b1598 xs L k18 b3 (f3_tear x).2 (f4_tear m).2
  else
    some (0 : Int32)
def fL_law_b1526 (xs : Nat → Int32) (L : Nat) (k18 : Int32 → St → St → Option (Int32)) (b3 : Int32) (x : St) (m : St) : Option (Int32) :=
  (f3_undo x).bind fun q => match q with
  | (v164, z163) =>
    (f4_undo m).bind fun q => match q with
    | (v166, z165) =>
      if v164 = v166 then
        fL_law_b1598 xs L k18 b3 z163 z165
      else
        some (0 : Int32)
def fL_law_b1513 (xs : Nat → Int32) (L : Nat) (k18 : Int32 → St → St → Option (Int32)) (b3 : Int32) (x : St) (m : St) : Option (Int32) :=
  (f3_image x).bind fun q => match q with
  | (v160, z159) =>
    (f4_image m).bind fun q => match q with
    | (v162, z161) =>
      if v160 = v162 then
        fL_law_b1598 xs L k18 b3 z159 z161
      else
        some (0 : Int32)
def fL_law_b1490 (xs : Nat → Int32) (L : Nat) (k18 : Int32 → St → St → Option (Int32)) (b3 : Int32) (x : St) (m : St) : Option (Int32) :=
  if (b3 + (1 : Int32)) < 0 ∨ L ≤ (b3 + (1 : Int32)).toNatClampNeg then none else
  (f3_judge (xs (b3 + (1 : Int32)).toNatClampNeg) x).bind fun q => match q with
  | (v156, z155) =>
    if (b3 + (1 : Int32)) < 0 ∨ L ≤ (b3 + (1 : Int32)).toNatClampNeg then none else
    (f4_judge (xs (b3 + (1 : Int32)).toNatClampNeg) m).bind fun q => match q with
    | (v158, z157) =>
      if v156 = v158 then
        fL_law_b1598 xs L k18 b3 z155 z157
      else
        some (0 : Int32)
def fL_law_b1467 (xs : Nat → Int32) (L : Nat) (k18 : Int32 → St → St → Option (Int32)) (b3 : Int32) (x : St) (m : St) : Option (Int32) :=
  if (b3 + (1 : Int32)) < 0 ∨ L ≤ (b3 + (1 : Int32)).toNatClampNeg then none else
  (f3_load (xs (b3 + (1 : Int32)).toNatClampNeg) x).bind fun q => match q with
  | (v152, z151) =>
    if (b3 + (1 : Int32)) < 0 ∨ L ≤ (b3 + (1 : Int32)).toNatClampNeg then none else
    (f4_load (xs (b3 + (1 : Int32)).toNatClampNeg) m).bind fun q => match q with
    | (v154, z153) =>
      if v152 = v154 then
        fL_law_b1598 xs L k18 b3 z151 z153
      else
        some (0 : Int32)
def fL_law_b1404 (xs : Nat → Int32) (L : Nat) (k18 : Int32 → St → St → Option (Int32)) (b3 : Int32) (x : St) (m : St) : Option (Int32) :=
  if (b3 + (1 : Int32)) < 0 ∨ L ≤ (b3 + (1 : Int32)).toNatClampNeg then none else
  if (b3 + (2 : Int32)) < 0 ∨ L ≤ (b3 + (2 : Int32)).toNatClampNeg then none else
  if (b3 + (3 : Int32)) < 0 ∨ L ≤ (b3 + (3 : Int32)).toNatClampNeg then none else
  if (b3 + (4 : Int32)) < 0 ∨ L ≤ (b3 + (4 : Int32)).toNatClampNeg then none else
  if (b3 + (5 : Int32)) < 0 ∨ L ≤ (b3 + (5 : Int32)).toNatClampNeg then none else
  (f3_copy (xs (b3 + (1 : Int32)).toNatClampNeg) (xs (b3 + (2 : Int32)).toNatClampNeg) (xs (b3 + (3 : Int32)).toNatClampNeg) (xs (b3 + (4 : Int32)).toNatClampNeg) (xs (b3 + (5 : Int32)).toNatClampNeg) x).bind fun q => match q with
  | (v148, z147) =>
    if (b3 + (1 : Int32)) < 0 ∨ L ≤ (b3 + (1 : Int32)).toNatClampNeg then none else
    if (b3 + (2 : Int32)) < 0 ∨ L ≤ (b3 + (2 : Int32)).toNatClampNeg then none else
    if (b3 + (3 : Int32)) < 0 ∨ L ≤ (b3 + (3 : Int32)).toNatClampNeg then none else
    if (b3 + (4 : Int32)) < 0 ∨ L ≤ (b3 + (4 : Int32)).toNatClampNeg then none else
    if (b3 + (5 : Int32)) < 0 ∨ L ≤ (b3 + (5 : Int32)).toNatClampNeg then none else
    (f4_copy (xs (b3 + (1 : Int32)).toNatClampNeg) (xs (b3 + (2 : Int32)).toNatClampNeg) (xs (b3 + (3 : Int32)).toNatClampNeg) (xs (b3 + (4 : Int32)).toNatClampNeg) (xs (b3 + (5 : Int32)).toNatClampNeg) m).bind fun q => match q with
    | (v150, z149) =>
      if v148 = v150 then
        fL_law_b1598 xs L k18 b3 z147 z149
      else
        some (0 : Int32)
def fL_law_b1361 (xs : Nat → Int32) (L : Nat) (k18 : Int32 → St → St → Option (Int32)) (b3 : Int32) (x : St) (m : St) : Option (Int32) :=
  if (b3 + (1 : Int32)) < 0 ∨ L ≤ (b3 + (1 : Int32)).toNatClampNeg then none else
  if (b3 + (2 : Int32)) < 0 ∨ L ≤ (b3 + (2 : Int32)).toNatClampNeg then none else
  if (b3 + (3 : Int32)) < 0 ∨ L ≤ (b3 + (3 : Int32)).toNatClampNeg then none else
  (f3_write (xs (b3 + (1 : Int32)).toNatClampNeg) (xs (b3 + (2 : Int32)).toNatClampNeg) (xs (b3 + (3 : Int32)).toNatClampNeg) x).bind fun q => match q with
  | (v144, z143) =>
    if (b3 + (1 : Int32)) < 0 ∨ L ≤ (b3 + (1 : Int32)).toNatClampNeg then none else
    if (b3 + (2 : Int32)) < 0 ∨ L ≤ (b3 + (2 : Int32)).toNatClampNeg then none else
    if (b3 + (3 : Int32)) < 0 ∨ L ≤ (b3 + (3 : Int32)).toNatClampNeg then none else
    (f4_write (xs (b3 + (1 : Int32)).toNatClampNeg) (xs (b3 + (2 : Int32)).toNatClampNeg) (xs (b3 + (3 : Int32)).toNatClampNeg) m).bind fun q => match q with
    | (v146, z145) =>
      if v144 = v146 then
        fL_law_b1598 xs L k18 b3 z143 z145
      else
        some (0 : Int32)
def fL_law_b1318 (xs : Nat → Int32) (L : Nat) (k18 : Int32 → St → St → Option (Int32)) (b3 : Int32) (x : St) (m : St) : Option (Int32) :=
  if (b3 + (1 : Int32)) < 0 ∨ L ≤ (b3 + (1 : Int32)).toNatClampNeg then none else
  if (b3 + (2 : Int32)) < 0 ∨ L ≤ (b3 + (2 : Int32)).toNatClampNeg then none else
  if (b3 + (3 : Int32)) < 0 ∨ L ≤ (b3 + (3 : Int32)).toNatClampNeg then none else
  (f3_sheet (xs (b3 + (1 : Int32)).toNatClampNeg) (xs (b3 + (2 : Int32)).toNatClampNeg) (xs (b3 + (3 : Int32)).toNatClampNeg) x).bind fun q => match q with
  | (v140, z139) =>
    if (b3 + (1 : Int32)) < 0 ∨ L ≤ (b3 + (1 : Int32)).toNatClampNeg then none else
    if (b3 + (2 : Int32)) < 0 ∨ L ≤ (b3 + (2 : Int32)).toNatClampNeg then none else
    if (b3 + (3 : Int32)) < 0 ∨ L ≤ (b3 + (3 : Int32)).toNatClampNeg then none else
    (f4_sheet (xs (b3 + (1 : Int32)).toNatClampNeg) (xs (b3 + (2 : Int32)).toNatClampNeg) (xs (b3 + (3 : Int32)).toNatClampNeg) m).bind fun q => match q with
    | (v142, z141) =>
      if v140 = v142 then
        fL_law_b1598 xs L k18 b3 z139 z141
      else
        some (0 : Int32)
def fL_law_b1285 (xs : Nat → Int32) (L : Nat) (k18 : Int32 → St → St → Option (Int32)) (b3 : Int32) (x : St) (m : St) : Option (Int32) :=
  if (b3 + (1 : Int32)) < 0 ∨ L ≤ (b3 + (1 : Int32)).toNatClampNeg then none else
  if (b3 + (2 : Int32)) < 0 ∨ L ≤ (b3 + (2 : Int32)).toNatClampNeg then none else
  (f3_as (xs (b3 + (1 : Int32)).toNatClampNeg) (xs (b3 + (2 : Int32)).toNatClampNeg) x).bind fun q => match q with
  | (v136, z135) =>
    if (b3 + (1 : Int32)) < 0 ∨ L ≤ (b3 + (1 : Int32)).toNatClampNeg then none else
    if (b3 + (2 : Int32)) < 0 ∨ L ≤ (b3 + (2 : Int32)).toNatClampNeg then none else
    (f4_as (xs (b3 + (1 : Int32)).toNatClampNeg) (xs (b3 + (2 : Int32)).toNatClampNeg) m).bind fun q => match q with
    | (v138, z137) =>
      if v136 = v138 then
        fL_law_b1598 xs L k18 b3 z135 z137
      else
        some (0 : Int32)
def fL_law_b1252 (xs : Nat → Int32) (L : Nat) (k18 : Int32 → St → St → Option (Int32)) (b3 : Int32) (x : St) (m : St) : Option (Int32) :=
  if (b3 + (1 : Int32)) < 0 ∨ L ≤ (b3 + (1 : Int32)).toNatClampNeg then none else
  if (b3 + (2 : Int32)) < 0 ∨ L ≤ (b3 + (2 : Int32)).toNatClampNeg then none else
  (f3_hold (xs (b3 + (1 : Int32)).toNatClampNeg) (xs (b3 + (2 : Int32)).toNatClampNeg) x).bind fun q => match q with
  | (v132, z131) =>
    if (b3 + (1 : Int32)) < 0 ∨ L ≤ (b3 + (1 : Int32)).toNatClampNeg then none else
    if (b3 + (2 : Int32)) < 0 ∨ L ≤ (b3 + (2 : Int32)).toNatClampNeg then none else
    (f4_hold (xs (b3 + (1 : Int32)).toNatClampNeg) (xs (b3 + (2 : Int32)).toNatClampNeg) m).bind fun q => match q with
    | (v134, z133) =>
      if v132 = v134 then
        fL_law_b1598 xs L k18 b3 z131 z133
      else
        some (0 : Int32)
def fL_law_b1239 (xs : Nat → Int32) (L : Nat) (k18 : Int32 → St → St → Option (Int32)) (b3 : Int32) (x : St) (m : St) : Option (Int32) :=
  (f3_text x).bind fun q => match q with
  | (v128, z127) =>
    (f4_text m).bind fun q => match q with
    | (v130, z129) =>
      if v128 = v130 then
        fL_law_b1598 xs L k18 b3 z127 z129
      else
        some (0 : Int32)
def fL_law_b1226 (xs : Nat → Int32) (L : Nat) (k18 : Int32 → St → St → Option (Int32)) (b3 : Int32) (x : St) (m : St) : Option (Int32) :=
  if (f3_wipe x).1 = (f4_wipe m).1 then
    fL_law_b1598 xs L k18 b3 (f3_wipe x).2 (f4_wipe m).2
  else
    some (0 : Int32)
def fL_law_b1193 (xs : Nat → Int32) (L : Nat) (k18 : Int32 → St → St → Option (Int32)) (b3 : Int32) (x : St) (m : St) : Option (Int32) :=
  if (b3 + (1 : Int32)) < 0 ∨ L ≤ (b3 + (1 : Int32)).toNatClampNeg then none else
  if (b3 + (2 : Int32)) < 0 ∨ L ≤ (b3 + (2 : Int32)).toNatClampNeg then none else
  (f3_feed (xs (b3 + (1 : Int32)).toNatClampNeg) (xs (b3 + (2 : Int32)).toNatClampNeg) x).bind fun q => match q with
  | (v124, z123) =>
    if (b3 + (1 : Int32)) < 0 ∨ L ≤ (b3 + (1 : Int32)).toNatClampNeg then none else
    if (b3 + (2 : Int32)) < 0 ∨ L ≤ (b3 + (2 : Int32)).toNatClampNeg then none else
    (f4_feed (xs (b3 + (1 : Int32)).toNatClampNeg) (xs (b3 + (2 : Int32)).toNatClampNeg) m).bind fun q => match q with
    | (v126, z125) =>
      if v124 = v126 then
        fL_law_b1598 xs L k18 b3 z123 z125
      else
        some (0 : Int32)
def fL_law_b1170 (xs : Nat → Int32) (L : Nat) (k18 : Int32 → St → St → Option (Int32)) (b3 : Int32) (x : St) (m : St) : Option (Int32) :=
  if (b3 + (1 : Int32)) < 0 ∨ L ≤ (b3 + (1 : Int32)).toNatClampNeg then none else
  if (b3 + (1 : Int32)) < 0 ∨ L ≤ (b3 + (1 : Int32)).toNatClampNeg then none else
  (f4_seed (xs (b3 + (1 : Int32)).toNatClampNeg) m).bind fun q => match q with
  | (v122, z121) =>
    if (f3_seed (xs (b3 + (1 : Int32)).toNatClampNeg) x).1 = v122 then
      fL_law_b1598 xs L k18 b3 (f3_seed (xs (b3 + (1 : Int32)).toNatClampNeg) x).2 z121
    else
      some (0 : Int32)
def fL_law_b1126 (xs : Nat → Int32) (L : Nat) (k18 : Int32 → St → St → Option (Int32)) (b3 : Int32) (x : St) (m : St) : Option (Int32) :=
  if (b3 + (1 : Int32)) < 0 ∨ L ≤ (b3 + (1 : Int32)).toNatClampNeg then none else
  if (b3 + (2 : Int32)) < 0 ∨ L ≤ (b3 + (2 : Int32)).toNatClampNeg then none else
  if (b3 + (3 : Int32)) < 0 ∨ L ≤ (b3 + (3 : Int32)).toNatClampNeg then none else
  (f3_odds (xs (b3 + (1 : Int32)).toNatClampNeg) (xs (b3 + (2 : Int32)).toNatClampNeg) (xs (b3 + (3 : Int32)).toNatClampNeg) x).bind fun q => match q with
  | (v118, z117) =>
    if (b3 + (1 : Int32)) < 0 ∨ L ≤ (b3 + (1 : Int32)).toNatClampNeg then none else
    if (b3 + (2 : Int32)) < 0 ∨ L ≤ (b3 + (2 : Int32)).toNatClampNeg then none else
    if (b3 + (3 : Int32)) < 0 ∨ L ≤ (b3 + (3 : Int32)).toNatClampNeg then none else
    (f4_odds (xs (b3 + (1 : Int32)).toNatClampNeg) (xs (b3 + (2 : Int32)).toNatClampNeg) (xs (b3 + (3 : Int32)).toNatClampNeg) m).bind fun q => match q with
    | (v120, z119) =>
      if (lg_cmp v118 v120) = 0 then
        fL_law_b1598 xs L k18 b3 z117 z119
      else
        some (0 : Int32)
def fL_law_b1103 (xs : Nat → Int32) (L : Nat) (k18 : Int32 → St → St → Option (Int32)) (b3 : Int32) (x : St) (m : St) : Option (Int32) :=
  if (b3 + (1 : Int32)) < 0 ∨ L ≤ (b3 + (1 : Int32)).toNatClampNeg then none else
  (f3_frosts (xs (b3 + (1 : Int32)).toNatClampNeg) x).bind fun q => match q with
  | (v114, z113) =>
    if (b3 + (1 : Int32)) < 0 ∨ L ≤ (b3 + (1 : Int32)).toNatClampNeg then none else
    (f4_frosts (xs (b3 + (1 : Int32)).toNatClampNeg) m).bind fun q => match q with
    | (v116, z115) =>
      if v114 = v116 then
        fL_law_b1598 xs L k18 b3 z113 z115
      else
        some (0 : Int32)
def fL_law_b1090 (xs : Nat → Int32) (L : Nat) (k18 : Int32 → St → St → Option (Int32)) (b3 : Int32) (x : St) (m : St) : Option (Int32) :=
  (f3_rents x).bind fun v111 =>
  (f4_rents m).bind fun v112 =>
  if v111 = v112 then
    fL_law_b1598 xs L k18 b3 x m
  else
    some (0 : Int32)
def fL_law_b1077 (xs : Nat → Int32) (L : Nat) (k18 : Int32 → St → St → Option (Int32)) (b3 : Int32) (x : St) (m : St) : Option (Int32) :=
  (f3_dearest x).bind fun v109 =>
  (f4_dearest m).bind fun v110 =>
  if v109 = v110 then
    fL_law_b1598 xs L k18 b3 x m
  else
    some (0 : Int32)
def fL_law_b1044 (xs : Nat → Int32) (L : Nat) (k18 : Int32 → St → St → Option (Int32)) (b3 : Int32) (x : St) (m : St) : Option (Int32) :=
  if (b3 + (1 : Int32)) < 0 ∨ L ≤ (b3 + (1 : Int32)).toNatClampNeg then none else
  if (b3 + (2 : Int32)) < 0 ∨ L ≤ (b3 + (2 : Int32)).toNatClampNeg then none else
  (f3_said (xs (b3 + (1 : Int32)).toNatClampNeg) (xs (b3 + (2 : Int32)).toNatClampNeg) x).bind fun q => match q with
  | (v106, z105) =>
    if (b3 + (1 : Int32)) < 0 ∨ L ≤ (b3 + (1 : Int32)).toNatClampNeg then none else
    if (b3 + (2 : Int32)) < 0 ∨ L ≤ (b3 + (2 : Int32)).toNatClampNeg then none else
    (f4_said (xs (b3 + (1 : Int32)).toNatClampNeg) (xs (b3 + (2 : Int32)).toNatClampNeg) m).bind fun q => match q with
    | (v108, z107) =>
      if v106 = v108 then
        fL_law_b1598 xs L k18 b3 z105 z107
      else
        some (0 : Int32)
def fL_law_b1011 (xs : Nat → Int32) (L : Nat) (k18 : Int32 → St → St → Option (Int32)) (b3 : Int32) (x : St) (m : St) : Option (Int32) :=
  if (b3 + (1 : Int32)) < 0 ∨ L ≤ (b3 + (1 : Int32)).toNatClampNeg then none else
  if (b3 + (2 : Int32)) < 0 ∨ L ≤ (b3 + (2 : Int32)).toNatClampNeg then none else
  (f3_fits (xs (b3 + (1 : Int32)).toNatClampNeg) (xs (b3 + (2 : Int32)).toNatClampNeg) x).bind fun q => match q with
  | (v102, z101) =>
    if (b3 + (1 : Int32)) < 0 ∨ L ≤ (b3 + (1 : Int32)).toNatClampNeg then none else
    if (b3 + (2 : Int32)) < 0 ∨ L ≤ (b3 + (2 : Int32)).toNatClampNeg then none else
    (f4_fits (xs (b3 + (1 : Int32)).toNatClampNeg) (xs (b3 + (2 : Int32)).toNatClampNeg) m).bind fun q => match q with
    | (v104, z103) =>
      if v102 = v104 then
        fL_law_b1598 xs L k18 b3 z101 z103
      else
        some (0 : Int32)
def fL_law_b988 (xs : Nat → Int32) (L : Nat) (k18 : Int32 → St → St → Option (Int32)) (b3 : Int32) (x : St) (m : St) : Option (Int32) :=
  if (b3 + (1 : Int32)) < 0 ∨ L ≤ (b3 + (1 : Int32)).toNatClampNeg then none else
  (f3_aunt (xs (b3 + (1 : Int32)).toNatClampNeg) x).bind fun q => match q with
  | (v98, z97) =>
    if (b3 + (1 : Int32)) < 0 ∨ L ≤ (b3 + (1 : Int32)).toNatClampNeg then none else
    (f4_aunt (xs (b3 + (1 : Int32)).toNatClampNeg) m).bind fun q => match q with
    | (v100, z99) =>
      if v98 = v100 then
        fL_law_b1598 xs L k18 b3 z97 z99
      else
        some (0 : Int32)
def fL_law_b945 (xs : Nat → Int32) (L : Nat) (k18 : Int32 → St → St → Option (Int32)) (b3 : Int32) (x : St) (m : St) : Option (Int32) :=
  if (b3 + (1 : Int32)) < 0 ∨ L ≤ (b3 + (1 : Int32)).toNatClampNeg then none else
  if (b3 + (2 : Int32)) < 0 ∨ L ≤ (b3 + (2 : Int32)).toNatClampNeg then none else
  if (b3 + (3 : Int32)) < 0 ∨ L ≤ (b3 + (3 : Int32)).toNatClampNeg then none else
  (f3_costs (xs (b3 + (1 : Int32)).toNatClampNeg) (xs (b3 + (2 : Int32)).toNatClampNeg) (xs (b3 + (3 : Int32)).toNatClampNeg) x).bind fun q => match q with
  | (v94, z93) =>
    if (b3 + (1 : Int32)) < 0 ∨ L ≤ (b3 + (1 : Int32)).toNatClampNeg then none else
    if (b3 + (2 : Int32)) < 0 ∨ L ≤ (b3 + (2 : Int32)).toNatClampNeg then none else
    if (b3 + (3 : Int32)) < 0 ∨ L ≤ (b3 + (3 : Int32)).toNatClampNeg then none else
    (f4_costs (xs (b3 + (1 : Int32)).toNatClampNeg) (xs (b3 + (2 : Int32)).toNatClampNeg) (xs (b3 + (3 : Int32)).toNatClampNeg) m).bind fun q => match q with
    | (v96, z95) =>
      if v94 = v96 then
        fL_law_b1598 xs L k18 b3 z93 z95
      else
        some (0 : Int32)
def fL_law_b902 (xs : Nat → Int32) (L : Nat) (k18 : Int32 → St → St → Option (Int32)) (b3 : Int32) (x : St) (m : St) : Option (Int32) :=
  if (b3 + (1 : Int32)) < 0 ∨ L ≤ (b3 + (1 : Int32)).toNatClampNeg then none else
  if (b3 + (2 : Int32)) < 0 ∨ L ≤ (b3 + (2 : Int32)).toNatClampNeg then none else
  if (b3 + (3 : Int32)) < 0 ∨ L ≤ (b3 + (3 : Int32)).toNatClampNeg then none else
  (f3_sand (xs (b3 + (1 : Int32)).toNatClampNeg) (xs (b3 + (2 : Int32)).toNatClampNeg) (xs (b3 + (3 : Int32)).toNatClampNeg) x).bind fun q => match q with
  | (v90, z89) =>
    if (b3 + (1 : Int32)) < 0 ∨ L ≤ (b3 + (1 : Int32)).toNatClampNeg then none else
    if (b3 + (2 : Int32)) < 0 ∨ L ≤ (b3 + (2 : Int32)).toNatClampNeg then none else
    if (b3 + (3 : Int32)) < 0 ∨ L ≤ (b3 + (3 : Int32)).toNatClampNeg then none else
    (f4_sand (xs (b3 + (1 : Int32)).toNatClampNeg) (xs (b3 + (2 : Int32)).toNatClampNeg) (xs (b3 + (3 : Int32)).toNatClampNeg) m).bind fun q => match q with
    | (v92, z91) =>
      if v90 = v92 then
        fL_law_b1598 xs L k18 b3 z89 z91
      else
        some (0 : Int32)
def fL_law_b859 (xs : Nat → Int32) (L : Nat) (k18 : Int32 → St → St → Option (Int32)) (b3 : Int32) (x : St) (m : St) : Option (Int32) :=
  if (b3 + (1 : Int32)) < 0 ∨ L ≤ (b3 + (1 : Int32)).toNatClampNeg then none else
  if (b3 + (2 : Int32)) < 0 ∨ L ≤ (b3 + (2 : Int32)).toNatClampNeg then none else
  if (b3 + (3 : Int32)) < 0 ∨ L ≤ (b3 + (3 : Int32)).toNatClampNeg then none else
  (f3_weightFor (xs (b3 + (1 : Int32)).toNatClampNeg) (xs (b3 + (2 : Int32)).toNatClampNeg) (xs (b3 + (3 : Int32)).toNatClampNeg) x).bind fun q => match q with
  | (v86, z85) =>
    if (b3 + (1 : Int32)) < 0 ∨ L ≤ (b3 + (1 : Int32)).toNatClampNeg then none else
    if (b3 + (2 : Int32)) < 0 ∨ L ≤ (b3 + (2 : Int32)).toNatClampNeg then none else
    if (b3 + (3 : Int32)) < 0 ∨ L ≤ (b3 + (3 : Int32)).toNatClampNeg then none else
    (f4_weightFor (xs (b3 + (1 : Int32)).toNatClampNeg) (xs (b3 + (2 : Int32)).toNatClampNeg) (xs (b3 + (3 : Int32)).toNatClampNeg) m).bind fun q => match q with
    | (v88, z87) =>
      if v86 = v88 then
        fL_law_b1598 xs L k18 b3 z85 z87
      else
        some (0 : Int32)
def fL_law_b816 (xs : Nat → Int32) (L : Nat) (k18 : Int32 → St → St → Option (Int32)) (b3 : Int32) (x : St) (m : St) : Option (Int32) :=
  if (b3 + (1 : Int32)) < 0 ∨ L ≤ (b3 + (1 : Int32)).toNatClampNeg then none else
  if (b3 + (2 : Int32)) < 0 ∨ L ≤ (b3 + (2 : Int32)).toNatClampNeg then none else
  if (b3 + (3 : Int32)) < 0 ∨ L ≤ (b3 + (3 : Int32)).toNatClampNeg then none else
  (f3_places (xs (b3 + (1 : Int32)).toNatClampNeg) (xs (b3 + (2 : Int32)).toNatClampNeg) (xs (b3 + (3 : Int32)).toNatClampNeg) x).bind fun q => match q with
  | (v82, z81) =>
    if (b3 + (1 : Int32)) < 0 ∨ L ≤ (b3 + (1 : Int32)).toNatClampNeg then none else
    if (b3 + (2 : Int32)) < 0 ∨ L ≤ (b3 + (2 : Int32)).toNatClampNeg then none else
    if (b3 + (3 : Int32)) < 0 ∨ L ≤ (b3 + (3 : Int32)).toNatClampNeg then none else
    (f4_places (xs (b3 + (1 : Int32)).toNatClampNeg) (xs (b3 + (2 : Int32)).toNatClampNeg) (xs (b3 + (3 : Int32)).toNatClampNeg) m).bind fun q => match q with
    | (v84, z83) =>
      if v82 = v84 then
        fL_law_b1598 xs L k18 b3 z81 z83
      else
        some (0 : Int32)
def fL_law_b773 (xs : Nat → Int32) (L : Nat) (k18 : Int32 → St → St → Option (Int32)) (b3 : Int32) (x : St) (m : St) : Option (Int32) :=
  if (b3 + (1 : Int32)) < 0 ∨ L ≤ (b3 + (1 : Int32)).toNatClampNeg then none else
  if (b3 + (2 : Int32)) < 0 ∨ L ≤ (b3 + (2 : Int32)).toNatClampNeg then none else
  if (b3 + (3 : Int32)) < 0 ∨ L ≤ (b3 + (3 : Int32)).toNatClampNeg then none else
  (f3_where (xs (b3 + (1 : Int32)).toNatClampNeg) (xs (b3 + (2 : Int32)).toNatClampNeg) (xs (b3 + (3 : Int32)).toNatClampNeg) x).bind fun q => match q with
  | (v78, z77) =>
    if (b3 + (1 : Int32)) < 0 ∨ L ≤ (b3 + (1 : Int32)).toNatClampNeg then none else
    if (b3 + (2 : Int32)) < 0 ∨ L ≤ (b3 + (2 : Int32)).toNatClampNeg then none else
    if (b3 + (3 : Int32)) < 0 ∨ L ≤ (b3 + (3 : Int32)).toNatClampNeg then none else
    (f4_where (xs (b3 + (1 : Int32)).toNatClampNeg) (xs (b3 + (2 : Int32)).toNatClampNeg) (xs (b3 + (3 : Int32)).toNatClampNeg) m).bind fun q => match q with
    | (v80, z79) =>
      if v78 = v80 then
        fL_law_b1598 xs L k18 b3 z77 z79
      else
        some (0 : Int32)
def fL_law_b750 (xs : Nat → Int32) (L : Nat) (k18 : Int32 → St → St → Option (Int32)) (b3 : Int32) (x : St) (m : St) : Option (Int32) :=
  if (b3 + (1 : Int32)) < 0 ∨ L ≤ (b3 + (1 : Int32)).toNatClampNeg then none else
  (f3_goesBy (xs (b3 + (1 : Int32)).toNatClampNeg) x).bind fun q => match q with
  | (v74, z73) =>
    if (b3 + (1 : Int32)) < 0 ∨ L ≤ (b3 + (1 : Int32)).toNatClampNeg then none else
    (f4_goesBy (xs (b3 + (1 : Int32)).toNatClampNeg) m).bind fun q => match q with
    | (v76, z75) =>
      if v74 = v76 then
        fL_law_b1598 xs L k18 b3 z73 z75
      else
        some (0 : Int32)
def fL_law_b727 (xs : Nat → Int32) (L : Nat) (k18 : Int32 → St → St → Option (Int32)) (b3 : Int32) (x : St) (m : St) : Option (Int32) :=
  if (b3 + (1 : Int32)) < 0 ∨ L ≤ (b3 + (1 : Int32)).toNatClampNeg then none else
  (f3_kindFor (xs (b3 + (1 : Int32)).toNatClampNeg) x).bind fun q => match q with
  | (v70, z69) =>
    if (b3 + (1 : Int32)) < 0 ∨ L ≤ (b3 + (1 : Int32)).toNatClampNeg then none else
    (f4_kindFor (xs (b3 + (1 : Int32)).toNatClampNeg) m).bind fun q => match q with
    | (v72, z71) =>
      if v70 = v72 then
        fL_law_b1598 xs L k18 b3 z69 z71
      else
        some (0 : Int32)
def fL_law_b694 (xs : Nat → Int32) (L : Nat) (k18 : Int32 → St → St → Option (Int32)) (b3 : Int32) (x : St) (m : St) : Option (Int32) :=
  if (b3 + (1 : Int32)) < 0 ∨ L ≤ (b3 + (1 : Int32)).toNatClampNeg then none else
  if (b3 + (2 : Int32)) < 0 ∨ L ≤ (b3 + (2 : Int32)).toNatClampNeg then none else
  (f3_overtakes (xs (b3 + (1 : Int32)).toNatClampNeg) (xs (b3 + (2 : Int32)).toNatClampNeg) x).bind fun q => match q with
  | (v66, z65) =>
    if (b3 + (1 : Int32)) < 0 ∨ L ≤ (b3 + (1 : Int32)).toNatClampNeg then none else
    if (b3 + (2 : Int32)) < 0 ∨ L ≤ (b3 + (2 : Int32)).toNatClampNeg then none else
    (f4_overtakes (xs (b3 + (1 : Int32)).toNatClampNeg) (xs (b3 + (2 : Int32)).toNatClampNeg) m).bind fun q => match q with
    | (v68, z67) =>
      if v66 = v68 then
        fL_law_b1598 xs L k18 b3 z65 z67
      else
        some (0 : Int32)
def fL_law_b661 (xs : Nat → Int32) (L : Nat) (k18 : Int32 → St → St → Option (Int32)) (b3 : Int32) (x : St) (m : St) : Option (Int32) :=
  if (b3 + (1 : Int32)) < 0 ∨ L ≤ (b3 + (1 : Int32)).toNatClampNeg then none else
  if (b3 + (2 : Int32)) < 0 ∨ L ≤ (b3 + (2 : Int32)).toNatClampNeg then none else
  (f3_loudest (xs (b3 + (1 : Int32)).toNatClampNeg) (xs (b3 + (2 : Int32)).toNatClampNeg) x).bind fun q => match q with
  | (v62, z61) =>
    if (b3 + (1 : Int32)) < 0 ∨ L ≤ (b3 + (1 : Int32)).toNatClampNeg then none else
    if (b3 + (2 : Int32)) < 0 ∨ L ≤ (b3 + (2 : Int32)).toNatClampNeg then none else
    (f4_loudest (xs (b3 + (1 : Int32)).toNatClampNeg) (xs (b3 + (2 : Int32)).toNatClampNeg) m).bind fun q => match q with
    | (v64, z63) =>
      if v62 = v64 then
        fL_law_b1598 xs L k18 b3 z61 z63
      else
        some (0 : Int32)
def fL_law_b638 (xs : Nat → Int32) (L : Nat) (k18 : Int32 → St → St → Option (Int32)) (b3 : Int32) (x : St) (m : St) : Option (Int32) :=
  if (b3 + (1 : Int32)) < 0 ∨ L ≤ (b3 + (1 : Int32)).toNatClampNeg then none else
  (f3_harbour (xs (b3 + (1 : Int32)).toNatClampNeg) x).bind fun q => match q with
  | (v58, z57) =>
    if (b3 + (1 : Int32)) < 0 ∨ L ≤ (b3 + (1 : Int32)).toNatClampNeg then none else
    (f4_harbour (xs (b3 + (1 : Int32)).toNatClampNeg) m).bind fun q => match q with
    | (v60, z59) =>
      if v58 = v60 then
        fL_law_b1598 xs L k18 b3 z57 z59
      else
        some (0 : Int32)
def fL_law_b625 (xs : Nat → Int32) (L : Nat) (k18 : Int32 → St → St → Option (Int32)) (b3 : Int32) (x : St) (m : St) : Option (Int32) :=
  (f3_still x).bind fun q => match q with
  | (v54, z53) =>
    (f4_still m).bind fun q => match q with
    | (v56, z55) =>
      if v54 = v56 then
        fL_law_b1598 xs L k18 b3 z53 z55
      else
        some (0 : Int32)
def fL_law_b602 (xs : Nat → Int32) (L : Nat) (k18 : Int32 → St → St → Option (Int32)) (b3 : Int32) (x : St) (m : St) : Option (Int32) :=
  if (b3 + (1 : Int32)) < 0 ∨ L ≤ (b3 + (1 : Int32)).toNatClampNeg then none else
  (f3_heard (xs (b3 + (1 : Int32)).toNatClampNeg) x).bind fun q => match q with
  | (v50, z49) =>
    if (b3 + (1 : Int32)) < 0 ∨ L ≤ (b3 + (1 : Int32)).toNatClampNeg then none else
    (f4_heard (xs (b3 + (1 : Int32)).toNatClampNeg) m).bind fun q => match q with
    | (v52, z51) =>
      if v50 = v52 then
        fL_law_b1598 xs L k18 b3 z49 z51
      else
        some (0 : Int32)
def fL_law_b569 (xs : Nat → Int32) (L : Nat) (k18 : Int32 → St → St → Option (Int32)) (b3 : Int32) (x : St) (m : St) : Option (Int32) :=
  if (b3 + (1 : Int32)) < 0 ∨ L ≤ (b3 + (1 : Int32)).toNatClampNeg then none else
  if (b3 + (2 : Int32)) < 0 ∨ L ≤ (b3 + (2 : Int32)).toNatClampNeg then none else
  (f3_loud (xs (b3 + (1 : Int32)).toNatClampNeg) (xs (b3 + (2 : Int32)).toNatClampNeg) x).bind fun q => match q with
  | (v46, z45) =>
    if (b3 + (1 : Int32)) < 0 ∨ L ≤ (b3 + (1 : Int32)).toNatClampNeg then none else
    if (b3 + (2 : Int32)) < 0 ∨ L ≤ (b3 + (2 : Int32)).toNatClampNeg then none else
    (f4_loud (xs (b3 + (1 : Int32)).toNatClampNeg) (xs (b3 + (2 : Int32)).toNatClampNeg) m).bind fun q => match q with
    | (v48, z47) =>
      if v46 = v48 then
        fL_law_b1598 xs L k18 b3 z45 z47
      else
        some (0 : Int32)
def fL_law_b536 (xs : Nat → Int32) (L : Nat) (k18 : Int32 → St → St → Option (Int32)) (b3 : Int32) (x : St) (m : St) : Option (Int32) :=
  if (b3 + (1 : Int32)) < 0 ∨ L ≤ (b3 + (1 : Int32)).toNatClampNeg then none else
  if (b3 + (2 : Int32)) < 0 ∨ L ≤ (b3 + (2 : Int32)).toNatClampNeg then none else
  (f3_ahead (xs (b3 + (1 : Int32)).toNatClampNeg) (xs (b3 + (2 : Int32)).toNatClampNeg) x).bind fun q => match q with
  | (v42, z41) =>
    if (b3 + (1 : Int32)) < 0 ∨ L ≤ (b3 + (1 : Int32)).toNatClampNeg then none else
    if (b3 + (2 : Int32)) < 0 ∨ L ≤ (b3 + (2 : Int32)).toNatClampNeg then none else
    (f4_ahead (xs (b3 + (1 : Int32)).toNatClampNeg) (xs (b3 + (2 : Int32)).toNatClampNeg) m).bind fun q => match q with
    | (v44, z43) =>
      if v42 = v44 then
        fL_law_b1598 xs L k18 b3 z41 z43
      else
        some (0 : Int32)
def fL_law_b513 (xs : Nat → Int32) (L : Nat) (k18 : Int32 → St → St → Option (Int32)) (b3 : Int32) (x : St) (m : St) : Option (Int32) :=
  if (b3 + (1 : Int32)) < 0 ∨ L ≤ (b3 + (1 : Int32)).toNatClampNeg then none else
  (f3_merge (xs (b3 + (1 : Int32)).toNatClampNeg) x).bind fun q => match q with
  | (v38, z37) =>
    if (b3 + (1 : Int32)) < 0 ∨ L ≤ (b3 + (1 : Int32)).toNatClampNeg then none else
    (f4_merge (xs (b3 + (1 : Int32)).toNatClampNeg) m).bind fun q => match q with
    | (v40, z39) =>
      if v38 = v40 then
        fL_law_b1598 xs L k18 b3 z37 z39
      else
        some (0 : Int32)
def fL_law_b490 (xs : Nat → Int32) (L : Nat) (k18 : Int32 → St → St → Option (Int32)) (b3 : Int32) (x : St) (m : St) : Option (Int32) :=
  if (b3 + (1 : Int32)) < 0 ∨ L ≤ (b3 + (1 : Int32)).toNatClampNeg then none else
  (f3_now (xs (b3 + (1 : Int32)).toNatClampNeg) x).bind fun q => match q with
  | (v34, z33) =>
    if (b3 + (1 : Int32)) < 0 ∨ L ≤ (b3 + (1 : Int32)).toNatClampNeg then none else
    (f4_now (xs (b3 + (1 : Int32)).toNatClampNeg) m).bind fun q => match q with
    | (v36, z35) =>
      if v34 = v36 then
        fL_law_b1598 xs L k18 b3 z33 z35
      else
        some (0 : Int32)
def fL_law_b467 (xs : Nat → Int32) (L : Nat) (k18 : Int32 → St → St → Option (Int32)) (b3 : Int32) (x : St) (m : St) : Option (Int32) :=
  if (b3 + (1 : Int32)) < 0 ∨ L ≤ (b3 + (1 : Int32)).toNatClampNeg then none else
  (f3_go (xs (b3 + (1 : Int32)).toNatClampNeg) x).bind fun q => match q with
  | (v30, z29) =>
    if (b3 + (1 : Int32)) < 0 ∨ L ≤ (b3 + (1 : Int32)).toNatClampNeg then none else
    (f4_go (xs (b3 + (1 : Int32)).toNatClampNeg) m).bind fun q => match q with
    | (v32, z31) =>
      if v30 = v32 then
        fL_law_b1598 xs L k18 b3 z29 z31
      else
        some (0 : Int32)
def fL_law_b444 (xs : Nat → Int32) (L : Nat) (k18 : Int32 → St → St → Option (Int32)) (b3 : Int32) (x : St) (m : St) : Option (Int32) :=
  if (b3 + (1 : Int32)) < 0 ∨ L ≤ (b3 + (1 : Int32)).toNatClampNeg then none else
  (f3_frost (xs (b3 + (1 : Int32)).toNatClampNeg) x).bind fun q => match q with
  | (v26, z25) =>
    if (b3 + (1 : Int32)) < 0 ∨ L ≤ (b3 + (1 : Int32)).toNatClampNeg then none else
    (f4_frost (xs (b3 + (1 : Int32)).toNatClampNeg) m).bind fun q => match q with
    | (v28, z27) =>
      if v26 = v28 then
        fL_law_b1598 xs L k18 b3 z25 z27
      else
        some (0 : Int32)
def fL_law_b421 (xs : Nat → Int32) (L : Nat) (k18 : Int32 → St → St → Option (Int32)) (b3 : Int32) (x : St) (m : St) : Option (Int32) :=
  if (b3 + (1 : Int32)) < 0 ∨ L ≤ (b3 + (1 : Int32)).toNatClampNeg then none else
  (f3_aunts (xs (b3 + (1 : Int32)).toNatClampNeg) x).bind fun q => match q with
  | (v22, z21) =>
    if (b3 + (1 : Int32)) < 0 ∨ L ≤ (b3 + (1 : Int32)).toNatClampNeg then none else
    (f4_aunts (xs (b3 + (1 : Int32)).toNatClampNeg) m).bind fun q => match q with
    | (v24, z23) =>
      if v22 = v24 then
        fL_law_b1598 xs L k18 b3 z21 z23
      else
        some (0 : Int32)
def fL_law_b378 (xs : Nat → Int32) (L : Nat) (k18 : Int32 → St → St → Option (Int32)) (b3 : Int32) (x : St) (m : St) : Option (Int32) :=
  if (b3 + (1 : Int32)) < 0 ∨ L ≤ (b3 + (1 : Int32)).toNatClampNeg then none else
  if (b3 + (2 : Int32)) < 0 ∨ L ≤ (b3 + (2 : Int32)).toNatClampNeg then none else
  if (b3 + (3 : Int32)) < 0 ∨ L ≤ (b3 + (3 : Int32)).toNatClampNeg then none else
  (f3_change (xs (b3 + (1 : Int32)).toNatClampNeg) (xs (b3 + (2 : Int32)).toNatClampNeg) (xs (b3 + (3 : Int32)).toNatClampNeg) x).bind fun q => match q with
  | (v18, z17) =>
    if (b3 + (1 : Int32)) < 0 ∨ L ≤ (b3 + (1 : Int32)).toNatClampNeg then none else
    if (b3 + (2 : Int32)) < 0 ∨ L ≤ (b3 + (2 : Int32)).toNatClampNeg then none else
    if (b3 + (3 : Int32)) < 0 ∨ L ≤ (b3 + (3 : Int32)).toNatClampNeg then none else
    (f4_change (xs (b3 + (1 : Int32)).toNatClampNeg) (xs (b3 + (2 : Int32)).toNatClampNeg) (xs (b3 + (3 : Int32)).toNatClampNeg) m).bind fun q => match q with
    | (v20, z19) =>
      if v18 = v20 then
        fL_law_b1598 xs L k18 b3 z17 z19
      else
        some (0 : Int32)
def fL_law_b345 (xs : Nat → Int32) (L : Nat) (k18 : Int32 → St → St → Option (Int32)) (b3 : Int32) (x : St) (m : St) : Option (Int32) :=
  if (b3 + (1 : Int32)) < 0 ∨ L ≤ (b3 + (1 : Int32)).toNatClampNeg then none else
  if (b3 + (2 : Int32)) < 0 ∨ L ≤ (b3 + (2 : Int32)).toNatClampNeg then none else
  (f3_of (xs (b3 + (1 : Int32)).toNatClampNeg) (xs (b3 + (2 : Int32)).toNatClampNeg) x).bind fun q => match q with
  | (v14, z13) =>
    if (b3 + (1 : Int32)) < 0 ∨ L ≤ (b3 + (1 : Int32)).toNatClampNeg then none else
    if (b3 + (2 : Int32)) < 0 ∨ L ≤ (b3 + (2 : Int32)).toNatClampNeg then none else
    (f4_of (xs (b3 + (1 : Int32)).toNatClampNeg) (xs (b3 + (2 : Int32)).toNatClampNeg) m).bind fun q => match q with
    | (v16, z15) =>
      if v14 = v16 then
        fL_law_b1598 xs L k18 b3 z13 z15
      else
        some (0 : Int32)
def fL_law_b312 (xs : Nat → Int32) (L : Nat) (k18 : Int32 → St → St → Option (Int32)) (b3 : Int32) (x : St) (m : St) : Option (Int32) :=
  if (b3 + (1 : Int32)) < 0 ∨ L ≤ (b3 + (1 : Int32)).toNatClampNeg then none else
  if (b3 + (2 : Int32)) < 0 ∨ L ≤ (b3 + (2 : Int32)).toNatClampNeg then none else
  (f3_says (xs (b3 + (1 : Int32)).toNatClampNeg) (xs (b3 + (2 : Int32)).toNatClampNeg) x).bind fun q => match q with
  | (v10, z9) =>
    if (b3 + (1 : Int32)) < 0 ∨ L ≤ (b3 + (1 : Int32)).toNatClampNeg then none else
    if (b3 + (2 : Int32)) < 0 ∨ L ≤ (b3 + (2 : Int32)).toNatClampNeg then none else
    (f4_says (xs (b3 + (1 : Int32)).toNatClampNeg) (xs (b3 + (2 : Int32)).toNatClampNeg) m).bind fun q => match q with
    | (v12, z11) =>
      if v10 = v12 then
        fL_law_b1598 xs L k18 b3 z9 z11
      else
        some (0 : Int32)
def fL_law_b269 (xs : Nat → Int32) (L : Nat) (k18 : Int32 → St → St → Option (Int32)) (b3 : Int32) (x : St) (m : St) : Option (Int32) :=
  if (b3 + (1 : Int32)) < 0 ∨ L ≤ (b3 + (1 : Int32)).toNatClampNeg then none else
  if (b3 + (2 : Int32)) < 0 ∨ L ≤ (b3 + (2 : Int32)).toNatClampNeg then none else
  if (b3 + (3 : Int32)) < 0 ∨ L ≤ (b3 + (3 : Int32)).toNatClampNeg then none else
  (f3_build (xs (b3 + (1 : Int32)).toNatClampNeg) (xs (b3 + (2 : Int32)).toNatClampNeg) (xs (b3 + (3 : Int32)).toNatClampNeg) x).bind fun q => match q with
  | (v6, z5) =>
    if (b3 + (1 : Int32)) < 0 ∨ L ≤ (b3 + (1 : Int32)).toNatClampNeg then none else
    if (b3 + (2 : Int32)) < 0 ∨ L ≤ (b3 + (2 : Int32)).toNatClampNeg then none else
    if (b3 + (3 : Int32)) < 0 ∨ L ≤ (b3 + (3 : Int32)).toNatClampNeg then none else
    (f4_build (xs (b3 + (1 : Int32)).toNatClampNeg) (xs (b3 + (2 : Int32)).toNatClampNeg) (xs (b3 + (3 : Int32)).toNatClampNeg) m).bind fun q => match q with
    | (v8, z7) =>
      if v6 = v8 then
        fL_law_b1598 xs L k18 b3 z5 z7
      else
        some (0 : Int32)
def fL_law_b236 (xs : Nat → Int32) (L : Nat) (k18 : Int32 → St → St → Option (Int32)) (b3 : Int32) (x : St) (m : St) : Option (Int32) :=
  if (b3 + (1 : Int32)) < 0 ∨ L ≤ (b3 + (1 : Int32)).toNatClampNeg then none else
  if (b3 + (2 : Int32)) < 0 ∨ L ≤ (b3 + (2 : Int32)).toNatClampNeg then none else
  (f3_corner (xs (b3 + (1 : Int32)).toNatClampNeg) (xs (b3 + (2 : Int32)).toNatClampNeg) x).bind fun q => match q with
  | (v2, z1) =>
    if (b3 + (1 : Int32)) < 0 ∨ L ≤ (b3 + (1 : Int32)).toNatClampNeg then none else
    if (b3 + (2 : Int32)) < 0 ∨ L ≤ (b3 + (2 : Int32)).toNatClampNeg then none else
    (f4_corner (xs (b3 + (1 : Int32)).toNatClampNeg) (xs (b3 + (2 : Int32)).toNatClampNeg) m).bind fun q => match q with
    | (v4, z3) =>
      if v2 = v4 then
        fL_law_b1598 xs L k18 b3 z1 z3
      else
        some (0 : Int32)
def fL_law_L18 (xs : Nat → Int32) (L : Nat)  : Nat → Int32 → St → St → Option (Int32)
  | 0, _, _, _ => none
  | n + 1, b3, x, m =>
    if ((Int32.ofNat L) - (6 : Int32)) < b3 then
      some (1 : Int32)
    else
      if b3 < 0 ∨ L ≤ b3.toNatClampNeg then none else
      if ((xs b3.toNatClampNeg) &&& (63 : Int32)) = (0 : Int32) then
        fL_law_b236 xs L (fL_law_L18 xs L n) b3 x m
      else
      if ((xs b3.toNatClampNeg) &&& (63 : Int32)) = (1 : Int32) then
        fL_law_b269 xs L (fL_law_L18 xs L n) b3 x m
      else
      if ((xs b3.toNatClampNeg) &&& (63 : Int32)) = (2 : Int32) then
        fL_law_b312 xs L (fL_law_L18 xs L n) b3 x m
      else
      if ((xs b3.toNatClampNeg) &&& (63 : Int32)) = (3 : Int32) then
        fL_law_b345 xs L (fL_law_L18 xs L n) b3 x m
      else
      if ((xs b3.toNatClampNeg) &&& (63 : Int32)) = (4 : Int32) then
        fL_law_b378 xs L (fL_law_L18 xs L n) b3 x m
      else
      if ((xs b3.toNatClampNeg) &&& (63 : Int32)) = (5 : Int32) then
        fL_law_b421 xs L (fL_law_L18 xs L n) b3 x m
      else
      if ((xs b3.toNatClampNeg) &&& (63 : Int32)) = (6 : Int32) then
        fL_law_b444 xs L (fL_law_L18 xs L n) b3 x m
      else
      if ((xs b3.toNatClampNeg) &&& (63 : Int32)) = (7 : Int32) then
        fL_law_b467 xs L (fL_law_L18 xs L n) b3 x m
      else
      if ((xs b3.toNatClampNeg) &&& (63 : Int32)) = (8 : Int32) then
        fL_law_b490 xs L (fL_law_L18 xs L n) b3 x m
      else
      if ((xs b3.toNatClampNeg) &&& (63 : Int32)) = (9 : Int32) then
        fL_law_b513 xs L (fL_law_L18 xs L n) b3 x m
      else
      if ((xs b3.toNatClampNeg) &&& (63 : Int32)) = (10 : Int32) then
        fL_law_b536 xs L (fL_law_L18 xs L n) b3 x m
      else
      if ((xs b3.toNatClampNeg) &&& (63 : Int32)) = (11 : Int32) then
        fL_law_b569 xs L (fL_law_L18 xs L n) b3 x m
      else
      if ((xs b3.toNatClampNeg) &&& (63 : Int32)) = (12 : Int32) then
        fL_law_b602 xs L (fL_law_L18 xs L n) b3 x m
      else
      if ((xs b3.toNatClampNeg) &&& (63 : Int32)) = (13 : Int32) then
        fL_law_b625 xs L (fL_law_L18 xs L n) b3 x m
      else
      if ((xs b3.toNatClampNeg) &&& (63 : Int32)) = (14 : Int32) then
        fL_law_b638 xs L (fL_law_L18 xs L n) b3 x m
      else
      if ((xs b3.toNatClampNeg) &&& (63 : Int32)) = (15 : Int32) then
        fL_law_b661 xs L (fL_law_L18 xs L n) b3 x m
      else
      if ((xs b3.toNatClampNeg) &&& (63 : Int32)) = (16 : Int32) then
        fL_law_b694 xs L (fL_law_L18 xs L n) b3 x m
      else
      if ((xs b3.toNatClampNeg) &&& (63 : Int32)) = (17 : Int32) then
        fL_law_b727 xs L (fL_law_L18 xs L n) b3 x m
      else
      if ((xs b3.toNatClampNeg) &&& (63 : Int32)) = (18 : Int32) then
        fL_law_b750 xs L (fL_law_L18 xs L n) b3 x m
      else
      if ((xs b3.toNatClampNeg) &&& (63 : Int32)) = (19 : Int32) then
        fL_law_b773 xs L (fL_law_L18 xs L n) b3 x m
      else
      if ((xs b3.toNatClampNeg) &&& (63 : Int32)) = (20 : Int32) then
        fL_law_b816 xs L (fL_law_L18 xs L n) b3 x m
      else
      if ((xs b3.toNatClampNeg) &&& (63 : Int32)) = (21 : Int32) then
        fL_law_b859 xs L (fL_law_L18 xs L n) b3 x m
      else
      if ((xs b3.toNatClampNeg) &&& (63 : Int32)) = (22 : Int32) then
        fL_law_b902 xs L (fL_law_L18 xs L n) b3 x m
      else
      if ((xs b3.toNatClampNeg) &&& (63 : Int32)) = (23 : Int32) then
        fL_law_b945 xs L (fL_law_L18 xs L n) b3 x m
      else
      if ((xs b3.toNatClampNeg) &&& (63 : Int32)) = (24 : Int32) then
        fL_law_b988 xs L (fL_law_L18 xs L n) b3 x m
      else
      if ((xs b3.toNatClampNeg) &&& (63 : Int32)) = (25 : Int32) then
        fL_law_b1011 xs L (fL_law_L18 xs L n) b3 x m
      else
      if ((xs b3.toNatClampNeg) &&& (63 : Int32)) = (26 : Int32) then
        fL_law_b1044 xs L (fL_law_L18 xs L n) b3 x m
      else
      if ((xs b3.toNatClampNeg) &&& (63 : Int32)) = (27 : Int32) then
        fL_law_b1077 xs L (fL_law_L18 xs L n) b3 x m
      else
      if ((xs b3.toNatClampNeg) &&& (63 : Int32)) = (28 : Int32) then
        fL_law_b1090 xs L (fL_law_L18 xs L n) b3 x m
      else
      if ((xs b3.toNatClampNeg) &&& (63 : Int32)) = (29 : Int32) then
        fL_law_b1103 xs L (fL_law_L18 xs L n) b3 x m
      else
      if ((xs b3.toNatClampNeg) &&& (63 : Int32)) = (30 : Int32) then
        fL_law_b1126 xs L (fL_law_L18 xs L n) b3 x m
      else
      if ((xs b3.toNatClampNeg) &&& (63 : Int32)) = (31 : Int32) then
        fL_law_b1170 xs L (fL_law_L18 xs L n) b3 x m
      else
      if ((xs b3.toNatClampNeg) &&& (63 : Int32)) = (32 : Int32) then
        fL_law_b1193 xs L (fL_law_L18 xs L n) b3 x m
      else
      if ((xs b3.toNatClampNeg) &&& (63 : Int32)) = (33 : Int32) then
        fL_law_b1226 xs L (fL_law_L18 xs L n) b3 x m
      else
      if ((xs b3.toNatClampNeg) &&& (63 : Int32)) = (34 : Int32) then
        fL_law_b1239 xs L (fL_law_L18 xs L n) b3 x m
      else
      if ((xs b3.toNatClampNeg) &&& (63 : Int32)) = (35 : Int32) then
        fL_law_b1252 xs L (fL_law_L18 xs L n) b3 x m
      else
      if ((xs b3.toNatClampNeg) &&& (63 : Int32)) = (36 : Int32) then
        fL_law_b1285 xs L (fL_law_L18 xs L n) b3 x m
      else
      if ((xs b3.toNatClampNeg) &&& (63 : Int32)) = (37 : Int32) then
        fL_law_b1318 xs L (fL_law_L18 xs L n) b3 x m
      else
      if ((xs b3.toNatClampNeg) &&& (63 : Int32)) = (38 : Int32) then
        fL_law_b1361 xs L (fL_law_L18 xs L n) b3 x m
      else
      if ((xs b3.toNatClampNeg) &&& (63 : Int32)) = (39 : Int32) then
        fL_law_b1404 xs L (fL_law_L18 xs L n) b3 x m
      else
      if ((xs b3.toNatClampNeg) &&& (63 : Int32)) = (40 : Int32) then
        fL_law_b1467 xs L (fL_law_L18 xs L n) b3 x m
      else
      if ((xs b3.toNatClampNeg) &&& (63 : Int32)) = (41 : Int32) then
        fL_law_b1490 xs L (fL_law_L18 xs L n) b3 x m
      else
      if ((xs b3.toNatClampNeg) &&& (63 : Int32)) = (42 : Int32) then
        fL_law_b1513 xs L (fL_law_L18 xs L n) b3 x m
      else
      if ((xs b3.toNatClampNeg) &&& (63 : Int32)) = (43 : Int32) then
        fL_law_b1526 xs L (fL_law_L18 xs L n) b3 x m
      else
      if ((xs b3.toNatClampNeg) &&& (63 : Int32)) = (44 : Int32) then
        fL_law_b1539 xs L (fL_law_L18 xs L n) b3 x m
      else
      if ((xs b3.toNatClampNeg) &&& (63 : Int32)) = (45 : Int32) then
        fL_law_b1552 xs L (fL_law_L18 xs L n) b3 x m
      else
      if ((xs b3.toNatClampNeg) &&& (63 : Int32)) = (46 : Int32) then
        fL_law_b1575 xs L (fL_law_L18 xs L n) b3 x m
      else
        fL_law_b1598 xs L (fL_law_L18 xs L n) b3 x m
theorem fL_law_L18_0 (xs : Nat → Int32) (L : Nat)  (b3 : Int32) (x : St) (m : St) : fL_law_L18 xs L 0 b3 x m = none := rfl
theorem fL_law_L18_s (xs : Nat → Int32) (L : Nat)  (n : Nat) (b3 : Int32) (x : St) (m : St) : fL_law_L18 xs L (n + 1) b3 x m =
    if ((Int32.ofNat L) - (6 : Int32)) < b3 then
      some (1 : Int32)
    else
      if b3 < 0 ∨ L ≤ b3.toNatClampNeg then none else
      if ((xs b3.toNatClampNeg) &&& (63 : Int32)) = (0 : Int32) then
        fL_law_b236 xs L (fL_law_L18 xs L n) b3 x m
      else
      if ((xs b3.toNatClampNeg) &&& (63 : Int32)) = (1 : Int32) then
        fL_law_b269 xs L (fL_law_L18 xs L n) b3 x m
      else
      if ((xs b3.toNatClampNeg) &&& (63 : Int32)) = (2 : Int32) then
        fL_law_b312 xs L (fL_law_L18 xs L n) b3 x m
      else
      if ((xs b3.toNatClampNeg) &&& (63 : Int32)) = (3 : Int32) then
        fL_law_b345 xs L (fL_law_L18 xs L n) b3 x m
      else
      if ((xs b3.toNatClampNeg) &&& (63 : Int32)) = (4 : Int32) then
        fL_law_b378 xs L (fL_law_L18 xs L n) b3 x m
      else
      if ((xs b3.toNatClampNeg) &&& (63 : Int32)) = (5 : Int32) then
        fL_law_b421 xs L (fL_law_L18 xs L n) b3 x m
      else
      if ((xs b3.toNatClampNeg) &&& (63 : Int32)) = (6 : Int32) then
        fL_law_b444 xs L (fL_law_L18 xs L n) b3 x m
      else
      if ((xs b3.toNatClampNeg) &&& (63 : Int32)) = (7 : Int32) then
        fL_law_b467 xs L (fL_law_L18 xs L n) b3 x m
      else
      if ((xs b3.toNatClampNeg) &&& (63 : Int32)) = (8 : Int32) then
        fL_law_b490 xs L (fL_law_L18 xs L n) b3 x m
      else
      if ((xs b3.toNatClampNeg) &&& (63 : Int32)) = (9 : Int32) then
        fL_law_b513 xs L (fL_law_L18 xs L n) b3 x m
      else
      if ((xs b3.toNatClampNeg) &&& (63 : Int32)) = (10 : Int32) then
        fL_law_b536 xs L (fL_law_L18 xs L n) b3 x m
      else
      if ((xs b3.toNatClampNeg) &&& (63 : Int32)) = (11 : Int32) then
        fL_law_b569 xs L (fL_law_L18 xs L n) b3 x m
      else
      if ((xs b3.toNatClampNeg) &&& (63 : Int32)) = (12 : Int32) then
        fL_law_b602 xs L (fL_law_L18 xs L n) b3 x m
      else
      if ((xs b3.toNatClampNeg) &&& (63 : Int32)) = (13 : Int32) then
        fL_law_b625 xs L (fL_law_L18 xs L n) b3 x m
      else
      if ((xs b3.toNatClampNeg) &&& (63 : Int32)) = (14 : Int32) then
        fL_law_b638 xs L (fL_law_L18 xs L n) b3 x m
      else
      if ((xs b3.toNatClampNeg) &&& (63 : Int32)) = (15 : Int32) then
        fL_law_b661 xs L (fL_law_L18 xs L n) b3 x m
      else
      if ((xs b3.toNatClampNeg) &&& (63 : Int32)) = (16 : Int32) then
        fL_law_b694 xs L (fL_law_L18 xs L n) b3 x m
      else
      if ((xs b3.toNatClampNeg) &&& (63 : Int32)) = (17 : Int32) then
        fL_law_b727 xs L (fL_law_L18 xs L n) b3 x m
      else
      if ((xs b3.toNatClampNeg) &&& (63 : Int32)) = (18 : Int32) then
        fL_law_b750 xs L (fL_law_L18 xs L n) b3 x m
      else
      if ((xs b3.toNatClampNeg) &&& (63 : Int32)) = (19 : Int32) then
        fL_law_b773 xs L (fL_law_L18 xs L n) b3 x m
      else
      if ((xs b3.toNatClampNeg) &&& (63 : Int32)) = (20 : Int32) then
        fL_law_b816 xs L (fL_law_L18 xs L n) b3 x m
      else
      if ((xs b3.toNatClampNeg) &&& (63 : Int32)) = (21 : Int32) then
        fL_law_b859 xs L (fL_law_L18 xs L n) b3 x m
      else
      if ((xs b3.toNatClampNeg) &&& (63 : Int32)) = (22 : Int32) then
        fL_law_b902 xs L (fL_law_L18 xs L n) b3 x m
      else
      if ((xs b3.toNatClampNeg) &&& (63 : Int32)) = (23 : Int32) then
        fL_law_b945 xs L (fL_law_L18 xs L n) b3 x m
      else
      if ((xs b3.toNatClampNeg) &&& (63 : Int32)) = (24 : Int32) then
        fL_law_b988 xs L (fL_law_L18 xs L n) b3 x m
      else
      if ((xs b3.toNatClampNeg) &&& (63 : Int32)) = (25 : Int32) then
        fL_law_b1011 xs L (fL_law_L18 xs L n) b3 x m
      else
      if ((xs b3.toNatClampNeg) &&& (63 : Int32)) = (26 : Int32) then
        fL_law_b1044 xs L (fL_law_L18 xs L n) b3 x m
      else
      if ((xs b3.toNatClampNeg) &&& (63 : Int32)) = (27 : Int32) then
        fL_law_b1077 xs L (fL_law_L18 xs L n) b3 x m
      else
      if ((xs b3.toNatClampNeg) &&& (63 : Int32)) = (28 : Int32) then
        fL_law_b1090 xs L (fL_law_L18 xs L n) b3 x m
      else
      if ((xs b3.toNatClampNeg) &&& (63 : Int32)) = (29 : Int32) then
        fL_law_b1103 xs L (fL_law_L18 xs L n) b3 x m
      else
      if ((xs b3.toNatClampNeg) &&& (63 : Int32)) = (30 : Int32) then
        fL_law_b1126 xs L (fL_law_L18 xs L n) b3 x m
      else
      if ((xs b3.toNatClampNeg) &&& (63 : Int32)) = (31 : Int32) then
        fL_law_b1170 xs L (fL_law_L18 xs L n) b3 x m
      else
      if ((xs b3.toNatClampNeg) &&& (63 : Int32)) = (32 : Int32) then
        fL_law_b1193 xs L (fL_law_L18 xs L n) b3 x m
      else
      if ((xs b3.toNatClampNeg) &&& (63 : Int32)) = (33 : Int32) then
        fL_law_b1226 xs L (fL_law_L18 xs L n) b3 x m
      else
      if ((xs b3.toNatClampNeg) &&& (63 : Int32)) = (34 : Int32) then
        fL_law_b1239 xs L (fL_law_L18 xs L n) b3 x m
      else
      if ((xs b3.toNatClampNeg) &&& (63 : Int32)) = (35 : Int32) then
        fL_law_b1252 xs L (fL_law_L18 xs L n) b3 x m
      else
      if ((xs b3.toNatClampNeg) &&& (63 : Int32)) = (36 : Int32) then
        fL_law_b1285 xs L (fL_law_L18 xs L n) b3 x m
      else
      if ((xs b3.toNatClampNeg) &&& (63 : Int32)) = (37 : Int32) then
        fL_law_b1318 xs L (fL_law_L18 xs L n) b3 x m
      else
      if ((xs b3.toNatClampNeg) &&& (63 : Int32)) = (38 : Int32) then
        fL_law_b1361 xs L (fL_law_L18 xs L n) b3 x m
      else
      if ((xs b3.toNatClampNeg) &&& (63 : Int32)) = (39 : Int32) then
        fL_law_b1404 xs L (fL_law_L18 xs L n) b3 x m
      else
      if ((xs b3.toNatClampNeg) &&& (63 : Int32)) = (40 : Int32) then
        fL_law_b1467 xs L (fL_law_L18 xs L n) b3 x m
      else
      if ((xs b3.toNatClampNeg) &&& (63 : Int32)) = (41 : Int32) then
        fL_law_b1490 xs L (fL_law_L18 xs L n) b3 x m
      else
      if ((xs b3.toNatClampNeg) &&& (63 : Int32)) = (42 : Int32) then
        fL_law_b1513 xs L (fL_law_L18 xs L n) b3 x m
      else
      if ((xs b3.toNatClampNeg) &&& (63 : Int32)) = (43 : Int32) then
        fL_law_b1526 xs L (fL_law_L18 xs L n) b3 x m
      else
      if ((xs b3.toNatClampNeg) &&& (63 : Int32)) = (44 : Int32) then
        fL_law_b1539 xs L (fL_law_L18 xs L n) b3 x m
      else
      if ((xs b3.toNatClampNeg) &&& (63 : Int32)) = (45 : Int32) then
        fL_law_b1552 xs L (fL_law_L18 xs L n) b3 x m
      else
      if ((xs b3.toNatClampNeg) &&& (63 : Int32)) = (46 : Int32) then
        fL_law_b1575 xs L (fL_law_L18 xs L n) b3 x m
      else
        fL_law_b1598 xs L (fL_law_L18 xs L n) b3 x m := rfl
