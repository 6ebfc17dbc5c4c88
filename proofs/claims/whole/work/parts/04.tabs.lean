def ownL : List String := [RX0, RX1, RX3, RX4, RX5, RX6, RX7, RX8, RX2, RJ6, RJ9, RJ0, RL]
abbrev own_ (i : Nat) : String := nthD ownL i ""
abbrev MI : Type := MethodName × ByteArray × Nat × Option FieldType × List Nat
abbrev mL_law : Nat := 0
def mi_0 : MI := (yL_law, code, 4, some .boolean, [12, 1, 1, 14, 0, 0, 0, 0])
abbrev mD_canBe : Nat := 1
def mi_1 : MI := (yX0_canBe, cX0_canBe, 3, some .boolean, [0, 3, 1, 1, 2134, 1002, 2133, 0])
abbrev mD_copyFrom : Nat := 2
def mi_2 : MI := (yX0_copyFrom, cX0_copyFrom, 2, none, [0, 2, 0, 2, 2036, 1002, 2034, 2035])
abbrev mD_isFull : Nat := 3
def mi_3 : MI := (yX0_isFull, cX0_isFull, 1, some .boolean, [0, 1, 0, 1, 2142, 1002, 2140, 2141])
abbrev mD_has : Nat := 4
def mi_4 : MI := (yX0_has, cX0_has, 2, some .boolean, [0, 2, 0, 1, 2154, 1002, 2152, 2153])
abbrev mD_isOn : Nat := 5
def mi_5 : MI := (yX0_isOn, cX0_isOn, 2, some .boolean, [0, 2, 0, 2, 2188, 1002, 2186, 2187])
abbrev mD_add : Nat := 6
def mi_6 : MI := (yX0_add, cX0_add, 5, some .int, [0, 4, 0, 3, 2138, 1002, 2136, 2137])
abbrev mD_toggle : Nat := 7
def mi_7 : MI := (yX0_toggle, cX0_toggle, 2, none, [0, 2, 0, 2, 2165, 1002, 2163, 2164])
abbrev mD_trait : Nat := 8
def mi_8 : MI := (yX0_trait, cX0_trait, 3, some .int, [0, 3, 0, 3, 2229, 1002, 2227, 2228])
abbrev mD_setKind : Nat := 9
def mi_9 : MI := (yX0_setKind, cX0_setKind, 6, none, [0, 4, 0, 2, 2146, 1002, 2144, 2145])
abbrev mD_askedWithin : Nat := 10
def mi_10 : MI := (yX0_askedWithin, cX0_askedWithin, 5, some .int, [0, 3, 0, 2, 2238, 1002, 2236, 2237])
abbrev mD_owedWithin : Nat := 11
def mi_11 : MI := (yX0_owedWithin, cX0_owedWithin, 5, some .int, [0, 3, 0, 2, 3009, 1002, 3007, 3008])
abbrev mD_demandWithin : Nat := 12
def mi_12 : MI := (yX0_demandWithin, cX0_demandWithin, 4, some .int, [0, 2, 0, 3, 3017, 1002, 3015, 3016])
abbrev mD_workAsked : Nat := 13
def mi_13 : MI := (yX0_workAsked, cX0_workAsked, 5, some .int, [0, 3, 0, 3, 3034, 1002, 3032, 3033])
abbrev mD_costTogether : Nat := 14
def mi_14 : MI := (yX0_costTogether, cX0_costTogether, 3, some .int, [0, 1, 0, 3, 4142, 1002, 4140, 4141])
abbrev mD_commonDistance : Nat := 15
def mi_15 : MI := (yX0_commonDistance, cX0_commonDistance, 4, some .long, [0, 1, 0, 3, 4044, 1002, 4042, 4043])
abbrev mD_workWithin : Nat := 16
def mi_16 : MI := (yX0_workWithin, cX0_workWithin, 7, some .long, [0, 2, 0, 3, 4054, 1002, 4052, 4053])
abbrev mNU_commonDivisor : Nat := 17
def mi_17 : MI := (yX2_commonDivisor, cX2_commonDivisor, 11, some .long, [8, 2, 1, 1, 4050, 1016, 4049, 0])
abbrev mNU_commonMultiple : Nat := 18
def mi_18 : MI := (yX2_commonMultiple, cX2_commonMultiple, 6, some .long, [8, 2, 1, 2, 4047, 1016, 4046, 0])
abbrev mPW_begin : Nat := 19
def mi_19 : MI := (yX3_begin, cX3_begin, 5, none, [2, 2, 0, 4, 3030, 1003, 3029, 8])
abbrev mPW_busyTime : Nat := 20
def mi_20 : MI := (yX3_busyTime, cX3_busyTime, 2, some .int, [2, 2, 0, 5, 3026, 1003, 3024, 3025])
abbrev mPW_goOn : Nat := 21
def mi_21 : MI := (yX3_goOn, cX3_goOn, 4, some .boolean, [2, 2, 0, 4, 3047, 1003, 3046, 9])
abbrev mPW_countPoints : Nat := 22
def mi_22 : MI := (yX3_countPoints, cX3_countPoints, 3, some .int, [2, 2, 0, 5, 3043, 1003, 3041, 3042])
abbrev mPW_pointAt : Nat := 23
def mi_23 : MI := (yX3_pointAt, cX3_pointAt, 4, some .int, [2, 3, 0, 5, 3052, 1003, 3050, 3051])
abbrev mPW_missTime : Nat := 24
def mi_24 : MI := (yX3_missTime, cX3_missTime, 3, some .int, [2, 2, 0, 5, 3060, 1003, 3058, 3059])
abbrev mPW_leastSpare : Nat := 25
def mi_25 : MI := (yX3_leastSpare, cX3_leastSpare, 4, some .int, [2, 2, 0, 5, 3068, 1003, 3066, 3067])
abbrev mPW_beginsWith : Nat := 26
def mi_26 : MI := (yX3_beginsWith, cX3_beginsWith, 5, some .boolean, [2, 4, 0, 5, 4087, 1003, 4085, 4086])
abbrev mRS_roundsTaken : Nat := 27
def mi_27 : MI := (yX4_roundsTaken, cX4_roundsTaken, 1, some .int, [3, 1, 0, 1, 3147, 1004, 3145, 3146])
abbrev mRS_key : Nat := 28
def mi_28 : MI := (yX4_key, cX4_key, 3, some .int, [3, 3, 1, 1, 3087, 1004, 3086, 0])
abbrev mRS_precedes : Nat := 29
def mi_29 : MI := (yX4_precedes, cX4_precedes, 6, some .boolean, [3, 4, 1, 2, 3084, 1004, 3083, 0])
abbrev mRS_aheadOf : Nat := 30
def mi_30 : MI := (yX4_aheadOf, cX4_aheadOf, 5, some .int, [3, 3, 1, 3, 3081, 1004, 3080, 0])
abbrev mRS_behind : Nat := 31
def mi_31 : MI := (yX4_behind, cX4_behind, 3, some .int, [3, 3, 1, 1, 3118, 1004, 3117, 0])
abbrev mRS_taskAt : Nat := 32
def mi_32 : MI := (yX4_taskAt, cX4_taskAt, 4, some .int, [3, 3, 1, 4, 3077, 1004, 3076, 0])
abbrev mRS_ceilingOf : Nat := 33
def mi_33 : MI := (yX4_ceilingOf, cX4_ceilingOf, 5, some .int, [3, 3, 1, 3, 3100, 1004, 3099, 0])
abbrev mRS_blockingBy : Nat := 34
def mi_34 : MI := (yX4_blockingBy, cX4_blockingBy, 4, some .int, [3, 3, 1, 4, 3115, 1004, 3114, 0])
abbrev mRS_blockingAt : Nat := 35
def mi_35 : MI := (yX4_blockingAt, cX4_blockingAt, 5, some .int, [3, 3, 1, 3, 3121, 1004, 3120, 0])
abbrev mRS_longestHold : Nat := 36
def mi_36 : MI := (yX4_longestHold, cX4_longestHold, 5, some .int, [3, 3, 1, 2, 3124, 1004, 3123, 0])
abbrev mRS_settleBy : Nat := 37
def mi_37 : MI := (yX4_settleBy, cX4_settleBy, 5, some .int, [3, 4, 0, 5, 3133, 1004, 3131, 3132])
abbrev mRS_settle : Nat := 38
def mi_38 : MI := (yX4_settle, cX4_settle, 9, some .int, [3, 5, 0, 4, 3137, 1004, 3135, 3136])
abbrev mRS_isSoonEnough : Nat := 39
def mi_39 : MI := (yX4_isSoonEnough, cX4_isSoonEnough, 3, some .boolean, [3, 3, 1, 1, 3158, 1004, 3157, 0])
abbrev mRS_fitting : Nat := 40
def mi_40 : MI := (yX4_fitting, cX4_fitting, 7, some .int, [3, 3, 0, 5, 3155, 1004, 3153, 3154])
abbrev mLO_taskAt : Nat := 41
def mi_41 : MI := (yX1_taskAt, cX1_taskAt, 6, some .int, [1, 3, 0, 6, 3176, 1005, 3174, 3175])
abbrev mLO_look : Nat := 42
def mi_42 : MI := (yX1_look, cX1_look, 4, none, [1, 2, 0, 6, 3166, 1005, 3164, 3165])
abbrev mLO_lastOf : Nat := 43
def mi_43 : MI := (yX1_lastOf, cX1_lastOf, 6, some .int, [1, 3, 0, 5, 3170, 1005, 3169, 12])
abbrev mTI_workedAt : Nat := 44
def mi_44 : MI := (yX6_workedAt, cX6_workedAt, 2, some .int, [5, 2, 0, 1, 3231, 1006, 3229, 3230])
abbrev mTI_doneOf : Nat := 45
def mi_45 : MI := (yX6_doneOf, cX6_doneOf, 2, some .int, [5, 2, 0, 1, 3239, 1006, 3237, 3238])
abbrev mTI_missedOf : Nat := 46
def mi_46 : MI := (yX6_missedOf, cX6_missedOf, 2, some .int, [5, 2, 0, 1, 4003, 1006, 4001, 4002])
abbrev mTI_firstMissTime : Nat := 47
def mi_47 : MI := (yX6_firstMissTime, cX6_firstMissTime, 1, some .int, [5, 1, 0, 1, 4011, 1006, 4009, 4010])
abbrev mTI_firstMissTask : Nat := 48
def mi_48 : MI := (yX6_firstMissTask, cX6_firstMissTask, 1, some .int, [5, 1, 0, 1, 4015, 1006, 4013, 4014])
abbrev mTI_play : Nat := 49
def mi_49 : MI := (yX6_play, cX6_play, 5, none, [5, 3, 0, 5, 3185, 1006, 3183, 3184])
abbrev mTI_forget : Nat := 50
def mi_50 : MI := (yX6_forget, cX6_forget, 2, none, [5, 1, 0, 1, 3189, 1006, 3188, 13])
abbrev mTI_dropMissed : Nat := 51
def mi_51 : MI := (yX6_dropMissed, cX6_dropMissed, 4, none, [5, 2, 0, 2, 3193, 1006, 3192, 14])
abbrev mTI_moveJob : Nat := 52
def mi_52 : MI := (yX6_moveJob, cX6_moveJob, 3, none, [5, 3, 0, 1, 3201, 1006, 3200, 16])
abbrev mTI_noteMiss : Nat := 53
def mi_53 : MI := (yX6_noteMiss, cX6_noteMiss, 3, none, [5, 3, 0, 1, 3197, 1006, 3196, 15])
abbrev mTI_letCome : Nat := 54
def mi_54 : MI := (yX6_letCome, cX6_letCome, 5, none, [5, 4, 0, 3, 3206, 1006, 3205, 17])
abbrev mTI_comeIfSo : Nat := 55
def mi_55 : MI := (yX6_comeIfSo, cX6_comeIfSo, 8, none, [5, 5, 0, 2, 3210, 1006, 3209, 18])
abbrev mTI_addJob : Nat := 56
def mi_56 : MI := (yX6_addJob, cX6_addJob, 4, none, [5, 4, 0, 1, 3214, 1006, 3213, 19])
abbrev mTI_workOne : Nat := 57
def mi_57 : MI := (yX6_workOne, cX6_workOne, 5, some .int, [5, 3, 0, 4, 3218, 1006, 3217, 20])
abbrev mTI_goesFirst : Nat := 58
def mi_58 : MI := (yX6_goesFirst, cX6_goesFirst, 5, some .boolean, [5, 5, 0, 3, 3222, 1006, 3221, 21])
abbrev mTI_removeJob : Nat := 59
def mi_59 : MI := (yX6_removeJob, cX6_removeJob, 3, none, [5, 2, 0, 2, 3227, 1006, 3226, 22])
abbrev mTE_size : Nat := 60
def mi_60 : MI := (yX5_size, cX5_size, 1, some .int, [4, 1, 0, 1, 4146, 1007, 4144, 4145])
abbrev mTE_isFull : Nat := 61
def mi_61 : MI := (yX5_isFull, cX5_isFull, 1, some .boolean, [4, 1, 0, 1, 2019, 1007, 2017, 2018])
abbrev mTE_append : Nat := 62
def mi_62 : MI := (yX5_append, cX5_append, 2, some .int, [4, 2, 0, 2, 2027, 1007, 2025, 2026])
abbrev mTE_tellTo : Nat := 63
def mi_63 : MI := (yX5_tellTo, cX5_tellTo, 3, some .int, [4, 2, 0, 11, 2043, 1007, 2041, 2042])
abbrev mTE_readAll : Nat := 64
def mi_64 : MI := (yX5_readAll, cX5_readAll, 2, some .int, [4, 1, 0, 10, 2047, 1007, 2046, 1])
abbrev mTE_carryOutAll : Nat := 65
def mi_65 : MI := (yX5_carryOutAll, cX5_carryOutAll, 5, some .int, [4, 3, 0, 10, 2127, 1007, 2126, 5])
abbrev mTE_readStatement : Nat := 66
def mi_66 : MI := (yX5_readStatement, cX5_readStatement, 3, some .boolean, [4, 1, 0, 9, 2051, 1007, 2050, 2])
abbrev mTE_marksOf : Nat := 67
def mi_67 : MI := (yX5_marksOf, cX5_marksOf, 1, some (.object "java/lang/String"), [4, 1, 1, 1, 2058, 1007, 2057, 0])
abbrev mTE_readNumber : Nat := 68
def mi_68 : MI := (yX5_readNumber, cX5_readNumber, 3, some .boolean, [4, 2, 0, 2, 2082, 1007, 2081, 4])
abbrev mTE_here : Nat := 69
def mi_69 : MI := (yX5_here, cX5_here, 1, some .int, [4, 1, 0, 1, 2055, 1007, 2054, 3])
abbrev mTE_isDigit : Nat := 70
def mi_70 : MI := (yX5_isDigit, cX5_isDigit, 1, some .boolean, [4, 1, 1, 1, 2085, 1007, 2084, 0])
abbrev mTE_carryOut : Nat := 71
def mi_71 : MI := (yX5_carryOut, cX5_carryOut, 5, some .boolean, [4, 2, 0, 4, 2131, 1007, 2130, 6])
abbrev mTE_putKind : Nat := 72
def mi_72 : MI := (yX5_putKind, cX5_putKind, 4, some .boolean, [4, 4, 1, 3, 2160, 1007, 2159, 0])
abbrev mTE_put : Nat := 73
def mi_73 : MI := (yX5_put, cX5_put, 4, some .boolean, [4, 4, 1, 1, 2157, 1007, 2156, 0])
abbrev mC_letter : Nat := 74
def mi_74 : MI := (yX7_letter, cX7_letter, 3, some .int, [6, 2, 0, 3, 2012, 1001, 2010, 2011])
abbrev mC_tells : Nat := 75
def mi_75 : MI := (yX7_tells, cX7_tells, 2, some .int, [6, 1, 0, 12, 2032, 1001, 2030, 2031])
abbrev mC_tasks : Nat := 76
def mi_76 : MI := (yX7_tasks, cX7_tasks, 4, some .int, [6, 4, 0, 4, 2171, 1001, 2169, 2170])
abbrev mC_turns : Nat := 77
def mi_77 : MI := (yX7_turns, cX7_turns, 3, some .int, [6, 2, 0, 3, 2178, 1001, 2176, 2177])
abbrev mC_offset : Nat := 78
def mi_78 : MI := (yX7_offset, cX7_offset, 4, some .int, [6, 3, 0, 3, 2192, 1001, 2190, 2191])
abbrev mC_rank : Nat := 79
def mi_79 : MI := (yX7_rank, cX7_rank, 4, some .int, [6, 3, 0, 3, 2202, 1001, 2200, 2201])
abbrev mC_cost : Nat := 80
def mi_80 : MI := (yX7_cost, cX7_cost, 4, some .int, [6, 3, 0, 3, 2206, 1001, 2204, 2205])
abbrev mC_kind : Nat := 81
def mi_81 : MI := (yX7_kind, cX7_kind, 6, some .int, [6, 4, 0, 3, 2210, 1001, 2208, 2209])
abbrev mC_holds : Nat := 82
def mi_82 : MI := (yX7_holds, cX7_holds, 5, some .int, [6, 4, 0, 3, 2218, 1001, 2216, 2217])
abbrev mC_task : Nat := 83
def mi_83 : MI := (yX7_task, cX7_task, 4, some .int, [6, 3, 0, 4, 2225, 1001, 2223, 2224])
abbrev mC_asked : Nat := 84
def mi_84 : MI := (yX7_asked, cX7_asked, 4, some .int, [6, 3, 0, 3, 2234, 1001, 2232, 2233])
abbrev mC_owed : Nat := 85
def mi_85 : MI := (yX7_owed, cX7_owed, 4, some .int, [6, 3, 0, 3, 3005, 1001, 3003, 3004])
abbrev mC_demand : Nat := 86
def mi_86 : MI := (yX7_demand, cX7_demand, 3, some .int, [6, 2, 0, 4, 3013, 1001, 3011, 3012])
abbrev mC_busy : Nat := 87
def mi_87 : MI := (yX7_busy, cX7_busy, 1, some .int, [6, 1, 0, 6, 3022, 1001, 3020, 3021])
abbrev mC_point : Nat := 88
def mi_88 : MI := (yX7_point, cX7_point, 2, some .int, [6, 2, 0, 6, 3039, 1001, 3037, 3038])
abbrev mC_miss : Nat := 89
def mi_89 : MI := (yX7_miss, cX7_miss, 1, some .int, [6, 1, 0, 6, 3056, 1001, 3054, 3055])
abbrev mC_spare : Nat := 90
def mi_90 : MI := (yX7_spare, cX7_spare, 1, some .int, [6, 1, 0, 6, 3064, 1001, 3062, 3063])
abbrev mC_order : Nat := 91
def mi_91 : MI := (yX7_order, cX7_order, 4, some .int, [6, 3, 0, 5, 3073, 1001, 3071, 3072])
abbrev mC_ceiling : Nat := 92
def mi_92 : MI := (yX7_ceiling, cX7_ceiling, 4, some .int, [6, 3, 0, 4, 3097, 1001, 3095, 3096])
abbrev mC_blocking : Nat := 93
def mi_93 : MI := (yX7_blocking, cX7_blocking, 4, some .int, [6, 3, 0, 5, 3104, 1001, 3102, 3103])
abbrev mC_response : Nat := 94
def mi_94 : MI := (yX7_response, cX7_response, 4, some .int, [6, 3, 0, 6, 3129, 1001, 3127, 3128])
abbrev mC_rounds : Nat := 95
def mi_95 : MI := (yX7_rounds, cX7_rounds, 4, some .int, [6, 3, 0, 6, 3143, 1001, 3141, 3142])
abbrev mC_fits : Nat := 96
def mi_96 : MI := (yX7_fits, cX7_fits, 3, some .int, [6, 2, 0, 6, 3151, 1001, 3149, 3150])
abbrev mC_lawful : Nat := 97
def mi_97 : MI := (yX7_lawful, cX7_lawful, 2, some .int, [6, 2, 0, 7, 3162, 1001, 3160, 3161])
abbrev mC_run : Nat := 98
def mi_98 : MI := (yX7_run, cX7_run, 4, some .int, [6, 3, 0, 6, 3181, 1001, 3179, 3180])
abbrev mC_jobs : Nat := 99
def mi_99 : MI := (yX7_jobs, cX7_jobs, 5, some .int, [6, 4, 0, 6, 3235, 1001, 3233, 3234])
abbrev mC_first : Nat := 100
def mi_100 : MI := (yX7_first, cX7_first, 4, some .int, [6, 3, 0, 6, 4007, 1001, 4005, 4006])
abbrev mC_slack : Nat := 101
def mi_101 : MI := (yX7_slack, cX7_slack, 3, some .int, [6, 2, 0, 8, 4019, 1001, 4017, 4018])
abbrev mC_slackBy : Nat := 102
def mi_102 : MI := (yX7_slackBy, cX7_slackBy, 4, some .int, [6, 3, 0, 8, 4031, 1001, 4029, 4030])
abbrev mC_load : Nat := 103
def mi_103 : MI := (yX7_load, cX7_load, 5, some .long, [6, 2, 0, 4, 4035, 1001, 4033, 4034])
abbrev mC_anew : Nat := 104
def mi_104 : MI := (yX7_anew, cX7_anew, 3, some .int, [6, 1, 0, 4, 4062, 1001, 4060, 4061])
abbrev mC_missing : Nat := 105
def mi_105 : MI := (yX7_missing, cX7_missing, 5, some .long, [6, 3, 0, 7, 4067, 1001, 4065, 4066])
abbrev mC_whatIs : Nat := 106
def mi_106 : MI := (yX7_whatIs, cX7_whatIs, 4, some .int, [6, 3, 0, 7, 4079, 1001, 4077, 4078])
abbrev mC_row : Nat := 107
def mi_107 : MI := (yX7_row, cX7_row, 3, some .int, [6, 2, 0, 2, 4095, 1001, 4093, 4094])
abbrev mC_judge : Nat := 108
def mi_108 : MI := (yX7_judge, cX7_judge, 4, some .int, [6, 2, 0, 8, 4099, 1001, 4097, 4098])
abbrev mC_clear : Nat := 109
def mi_109 : MI := (yX7_clear, cX7_clear, 2, some .int, [6, 1, 0, 1, 4112, 1001, 4110, 4111])
abbrev mC_lots : Nat := 110
def mi_110 : MI := (yX7_lots, cX7_lots, 7, some .int, [6, 4, 0, 7, 4116, 1001, 4114, 4115])
abbrev mC_image : Nat := 111
def mi_111 : MI := (yX7_image, cX7_image, 1, some .int, [6, 1, 0, 3, 4130, 1001, 4128, 4129])
abbrev mC_on : Nat := 112
def mi_112 : MI := (yX7_on, cX7_on, 1, some .int, [6, 1, 0, 3, 4134, 1001, 4132, 4133])
abbrev mC_count : Nat := 113
def mi_113 : MI := (yX7_count, cX7_count, 2, some .int, [6, 2, 0, 4, 4138, 1001, 4136, 4137])
abbrev mC_refuse : Nat := 114
def mi_114 : MI := (yX7_refuse, cX7_refuse, 2, some .int, [6, 2, 0, 1, 2023, 1001, 2022, 0])
abbrev mC_refuseLong : Nat := 115
def mi_115 : MI := (yX7_refuseLong, cX7_refuseLong, 2, some .long, [6, 2, 0, 2, 4039, 1001, 4038, 25])
abbrev mC_firstOf : Nat := 116
def mi_116 : MI := (yX7_firstOf, cX7_firstOf, 2, some .int, [6, 2, 1, 1, 2195, 1001, 2194, 0])
abbrev mC_outside : Nat := 117
def mi_117 : MI := (yX7_outside, cX7_outside, 3, some .int, [6, 3, 1, 1, 2015, 1001, 2014, 0])
abbrev mC_otherThan : Nat := 118
def mi_118 : MI := (yX7_otherThan, cX7_otherThan, 2, some .int, [6, 2, 1, 1, 2213, 1001, 2212, 0])
abbrev mC_missingLock : Nat := 119
def mi_119 : MI := (yX7_missingLock, cX7_missingLock, 1, some .int, [6, 1, 1, 1, 2221, 1001, 2220, 0])
abbrev mC_missingTask : Nat := 120
def mi_120 : MI := (yX7_missingTask, cX7_missingTask, 2, some .int, [6, 2, 0, 2, 2182, 1001, 2181, 7])
abbrev mC_turnedOff : Nat := 121
def mi_121 : MI := (yX7_turnedOff, cX7_turnedOff, 2, some .int, [6, 2, 0, 3, 3112, 1001, 3111, 11])
abbrev mC_notInOrder : Nat := 122
def mi_122 : MI := (yX7_notInOrder, cX7_notInOrder, 3, some .int, [6, 3, 0, 4, 3108, 1001, 3107, 10])
abbrev mC_exchange : Nat := 123
def mi_123 : MI := (yX7_exchange, cX7_exchange, 4, some .int, [6, 3, 1, 1, 2198, 1001, 2197, 0])
abbrev mC_partOf : Nat := 124
def mi_124 : MI := (yX7_partOf, cX7_partOf, 9, some .long, [6, 3, 1, 2, 4057, 1001, 4056, 0])
abbrev mC_isTrialGood : Nat := 125
def mi_125 : MI := (yX7_isTrialGood, cX7_isTrialGood, 2, some .boolean, [6, 2, 0, 6, 4027, 1001, 4026, 24])
abbrev mC_mostMore : Nat := 126
def mi_126 : MI := (yX7_mostMore, cX7_mostMore, 8, some .int, [6, 3, 0, 7, 4023, 1001, 4022, 23])
abbrev mC_waysWithoutMiss : Nat := 127
def mi_127 : MI := (yX7_waysWithoutMiss, cX7_waysWithoutMiss, 7, some .long, [6, 3, 0, 6, 4071, 1001, 4070, 26])
abbrev mC_power : Nat := 128
def mi_128 : MI := (yX7_power, cX7_power, 5, some .long, [6, 2, 1, 1, 4075, 1001, 4074, 0])
abbrev mC_kindsByRow : Nat := 129
def mi_129 : MI := (yX7_kindsByRow, cX7_kindsByRow, 4, some .int, [6, 2, 0, 6, 4083, 1001, 4082, 27])
abbrev mC_figuresByRow : Nat := 130
def mi_130 : MI := (yX7_figuresByRow, cX7_figuresByRow, 4, some .int, [6, 2, 0, 6, 4091, 1001, 4090, 28])
abbrev mC_firstWrongInRow : Nat := 131
def mi_131 : MI := (yX7_firstWrongInRow, cX7_firstWrongInRow, 4, some .int, [6, 2, 0, 7, 4103, 1001, 4102, 29])
abbrev mC_dueInRow : Nat := 132
def mi_132 : MI := (yX7_dueInRow, cX7_dueInRow, 4, some .int, [6, 3, 0, 6, 4108, 1001, 4107, 30])
abbrev mC_drawCosts : Nat := 133
def mi_133 : MI := (yX7_drawCosts, cX7_drawCosts, 2, none, [6, 1, 0, 2, 4120, 1001, 4119, 31])
abbrev mC_draw : Nat := 134
def mi_134 : MI := (yX7_draw, cX7_draw, 2, some .int, [6, 2, 0, 1, 4124, 1001, 4123, 32])
abbrev mM_in : Nat := 135
def mi_135 : MI := (yX8_in, cX8_in, 6, some .boolean, [7, 3, 1, 1, 5014, 1008, 5013, 0])
abbrev mM_refused : Nat := 136
def mi_136 : MI := (yX8_refused, cX8_refused, 2, some .int, [7, 2, 0, 1, 5018, 1008, 5017, 33])
abbrev mM_copies : Nat := 137
def mi_137 : MI := (yX8_copies, cX8_copies, 3, none, [7, 2, 1, 1, 5058, 1008, 5057, 0])
abbrev mM_minds : Nat := 138
def mi_138 : MI := (yX8_minds, cX8_minds, 1, none, [7, 1, 0, 2, 5055, 1008, 5054, 40])
abbrev mM_forgets : Nat := 139
def mi_139 : MI := (yX8_forgets, cX8_forgets, 1, none, [7, 1, 0, 2, 5084, 1008, 5083, 45])
abbrev mM_isTask : Nat := 140
def mi_140 : MI := (yX8_isTask, cX8_isTask, 2, some .boolean, [7, 2, 0, 2, 5076, 1008, 5075, 43])
abbrev mM_isOn : Nat := 141
def mi_141 : MI := (yX8_isOn, cX8_isOn, 2, some .boolean, [7, 2, 0, 1, 5177, 1008, 5176, 55])
abbrev mM_has : Nat := 142
def mi_142 : MI := (yX8_has, cX8_has, 2, some .boolean, [7, 2, 1, 1, 6019, 1008, 6018, 0])
abbrev mM_distance : Nat := 143
def mi_143 : MI := (yX8_distance, cX8_distance, 2, some .int, [7, 2, 0, 1, 5130, 1008, 5129, 47])
abbrev mM_late : Nat := 144
def mi_144 : MI := (yX8_late, cX8_late, 2, some .int, [7, 2, 0, 1, 5134, 1008, 5133, 48])
abbrev mM_limit : Nat := 145
def mi_145 : MI := (yX8_limit, cX8_limit, 2, some .int, [7, 2, 0, 2, 5138, 1008, 5137, 49])
abbrev mM_byKind : Nat := 146
def mi_146 : MI := (yX8_byKind, cX8_byKind, 3, some .int, [7, 3, 0, 2, 5156, 1008, 5155, 52])
abbrev mM_askedOf : Nat := 147
def mi_147 : MI := (yX8_askedOf, cX8_askedOf, 3, some .int, [7, 3, 0, 3, 5152, 1008, 5151, 51])
abbrev mM_owedOf : Nat := 148
def mi_148 : MI := (yX8_owedOf, cX8_owedOf, 4, some .int, [7, 3, 0, 3, 5165, 1008, 5164, 53])
abbrev mM_demandOf : Nat := 149
def mi_149 : MI := (yX8_demandOf, cX8_demandOf, 4, some .int, [7, 2, 0, 4, 5173, 1008, 5172, 54])
abbrev mM_asksAll : Nat := 150
def mi_150 : MI := (yX8_asksAll, cX8_asksAll, 4, some .int, [7, 2, 0, 4, 5189, 1008, 5188, 57])
abbrev mM_busyOf : Nat := 151
def mi_151 : MI := (yX8_busyOf, cX8_busyOf, 3, some .int, [7, 1, 0, 5, 5185, 1008, 5184, 56])
abbrev mM_findsPoints : Nat := 152
def mi_152 : MI := (yX8_findsPoints, cX8_findsPoints, 5, none, [7, 1, 0, 6, 5197, 1008, 5196, 58])
abbrev mM_isMissed : Nat := 153
def mi_153 : MI := (yX8_isMissed, cX8_isMissed, 1, some .boolean, [7, 1, 0, 7, 6106, 1008, 6105, 79])
abbrev mM_isAhead : Nat := 154
def mi_154 : MI := (yX8_isAhead, cX8_isAhead, 5, some .boolean, [7, 4, 0, 3, 5220, 1008, 5219, 60])
abbrev mM_lines : Nat := 155
def mi_155 : MI := (yX8_lines, cX8_lines, 4, none, [7, 2, 0, 4, 5216, 1008, 5215, 59])
abbrev mM_aheadOf : Nat := 156
def mi_156 : MI := (yX8_aheadOf, cX8_aheadOf, 5, some .int, [7, 3, 0, 5, 6004, 1008, 6003, 64])
abbrev mM_onSet : Nat := 157
def mi_157 : MI := (yX8_onSet, cX8_onSet, 3, some .int, [7, 1, 0, 2, 6012, 1008, 6011, 66])
abbrev mM_hold : Nat := 158
def mi_158 : MI := (yX8_hold, cX8_hold, 3, some .int, [7, 3, 0, 1, 5232, 1008, 5231, 62])
abbrev mM_ceilingOf : Nat := 159
def mi_159 : MI := (yX8_ceilingOf, cX8_ceilingOf, 4, some .int, [7, 3, 0, 5, 5228, 1008, 5227, 61])
abbrev mM_blockingBy : Nat := 160
def mi_160 : MI := (yX8_blockingBy, cX8_blockingBy, 8, some .int, [7, 4, 0, 2, 6016, 1008, 6015, 67])
abbrev mM_responseBy : Nat := 161
def mi_161 : MI := (yX8_responseBy, cX8_responseBy, 8, some .int, [7, 4, 0, 4, 6031, 1008, 6030, 69])
abbrev mM_behindOf : Nat := 162
def mi_162 : MI := (yX8_behindOf, cX8_behindOf, 3, some .int, [7, 3, 0, 3, 6008, 1008, 6007, 65])
abbrev mM_responseOf : Nat := 163
def mi_163 : MI := (yX8_responseOf, cX8_responseOf, 4, some .int, [7, 3, 0, 6, 6027, 1008, 6026, 68])
abbrev mM_fitsBy : Nat := 164
def mi_164 : MI := (yX8_fitsBy, cX8_fitsBy, 5, some .boolean, [7, 4, 0, 5, 6047, 1008, 6046, 71])
abbrev mM_fitsAll : Nat := 165
def mi_165 : MI := (yX8_fitsAll, cX8_fitsAll, 5, some .int, [7, 2, 0, 6, 6043, 1008, 6042, 70])
abbrev mM_doAllFit : Nat := 166
def mi_166 : MI := (yX8_doAllFit, cX8_doAllFit, 2, some .boolean, [7, 2, 0, 7, 6114, 1008, 6113, 80])
abbrev mM_seeks0 : Nat := 167
def mi_167 : MI := (yX8_seeks, cX8_seeks, 5, some .boolean, [7, 3, 0, 6, 6058, 1008, 6057, 72])
abbrev mM_seeks1 : Nat := 168
def mi_168 : MI := (yX8_seeks, cX8_seeks, 5, some .boolean, [7, 3, 0, 7, 6058, 1008, 6057, 72])
abbrev mM_seeks2 : Nat := 169
def mi_169 : MI := (yX8_seeks, cX8_seeks, 5, some .boolean, [7, 3, 0, 8, 6058, 1008, 6057, 72])
abbrev mM_seeks3 : Nat := 170
def mi_170 : MI := (yX8_seeks, cX8_seeks, 5, some .boolean, [7, 3, 0, 9, 6058, 1008, 6057, 72])
abbrev mM_seeks4 : Nat := 171
def mi_171 : MI := (yX8_seeks, cX8_seeks, 5, some .boolean, [7, 3, 0, 10, 6058, 1008, 6057, 72])
abbrev mM_seeks5 : Nat := 172
def mi_172 : MI := (yX8_seeks, cX8_seeks, 5, some .boolean, [7, 3, 0, 11, 6058, 1008, 6057, 72])
abbrev mM_seeks6 : Nat := 173
def mi_173 : MI := (yX8_seeks, cX8_seeks, 5, some .boolean, [7, 3, 0, 12, 6058, 1008, 6057, 72])
abbrev mM_ones : Nat := 174
def mi_174 : MI := (yX8_ones, cX8_ones, 3, some .int, [7, 1, 1, 1, 6054, 1008, 6053, 0])
abbrev mM_letterAt : Nat := 175
def mi_175 : MI := (yX8_letterAt, cX8_letterAt, 2, some .int, [7, 2, 0, 1, 5034, 1008, 5033, 36])
abbrev mM_takes : Nat := 176
def mi_176 : MI := (yX8_takes, cX8_takes, 2, none, [7, 2, 0, 1, 5041, 1008, 5040, 37])
abbrev mM_takesNumber : Nat := 177
def mi_177 : MI := (yX8_takesNumber, cX8_takesNumber, 4, none, [7, 1, 0, 2, 5045, 1008, 5044, 38])
abbrev mM_takesSignAndNumber : Nat := 178
def mi_178 : MI := (yX8_takesSignAndNumber, cX8_takesSignAndNumber, 2, none, [7, 2, 0, 3, 5051, 1008, 5050, 39])
abbrev mM_isHead : Nat := 179
def mi_179 : MI := (yX8_isHead, cX8_isHead, 1, some .boolean, [7, 1, 1, 1, 5037, 1008, 5036, 0])
abbrev mM_goesThrough : Nat := 180
def mi_180 : MI := (yX8_goesThrough, cX8_goesThrough, 2, none, [7, 1, 0, 4, 5030, 1008, 5029, 35])
abbrev mM_comes : Nat := 181
def mi_181 : MI := (yX8_comes, cX8_comes, 6, some .boolean, [7, 4, 0, 1, 5072, 1008, 5071, 42])
abbrev mM_isTaskTold : Nat := 182
def mi_182 : MI := (yX8_isTaskTold, cX8_isTaskTold, 3, some .boolean, [7, 3, 1, 2, 5065, 1008, 5064, 0])
abbrev mM_becomes : Nat := 183
def mi_183 : MI := (yX8_becomes, cX8_becomes, 4, some .boolean, [7, 4, 0, 1, 5080, 1008, 5079, 44])
abbrev mM_does : Nat := 184
def mi_184 : MI := (yX8_does, cX8_does, 3, some .boolean, [7, 2, 0, 3, 5062, 1008, 5061, 41])
abbrev mM_readsAll : Nat := 185
def mi_185 : MI := (yX8_readsAll, cX8_readsAll, 3, some .int, [7, 1, 0, 5, 5026, 1008, 5025, 34])
abbrev mM_letter : Nat := 186
def mi_186 : MI := (yX8_letter, cX8_letter, 2, some .int, [7, 2, 0, 2, 5010, 1008, 5008, 5009])
abbrev mM_tells : Nat := 187
def mi_187 : MI := (yX8_tells, cX8_tells, 2, some .int, [7, 1, 0, 6, 5022, 1008, 5020, 5021])
abbrev mM_tasks : Nat := 188
def mi_188 : MI := (yX8_tasks, cX8_tasks, 4, some .int, [7, 4, 0, 3, 5088, 1008, 5086, 5087])
abbrev mM_turns : Nat := 189
def mi_189 : MI := (yX8_turns, cX8_turns, 2, some .int, [7, 2, 0, 3, 5092, 1008, 5090, 5091])
abbrev mM_laidTo : Nat := 190
def mi_190 : MI := (yX8_laidTo, cX8_laidTo, 7, some .int, [7, 6, 0, 3, 5100, 1008, 5099, 46])
abbrev mM_offset : Nat := 191
def mi_191 : MI := (yX8_offset, cX8_offset, 3, some .int, [7, 3, 0, 4, 5096, 1008, 5094, 5095])
abbrev mM_rank : Nat := 192
def mi_192 : MI := (yX8_rank, cX8_rank, 3, some .int, [7, 3, 0, 4, 5104, 1008, 5102, 5103])
abbrev mM_cost : Nat := 193
def mi_193 : MI := (yX8_cost, cX8_cost, 3, some .int, [7, 3, 0, 4, 5108, 1008, 5106, 5107])
abbrev mM_kind : Nat := 194
def mi_194 : MI := (yX8_kind, cX8_kind, 5, some .int, [7, 4, 0, 3, 5112, 1008, 5110, 5111])
abbrev mM_isLock : Nat := 195
def mi_195 : MI := (yX8_isLock, cX8_isLock, 1, some .boolean, [7, 1, 1, 2, 5121, 1008, 5120, 0])
abbrev mM_holds : Nat := 196
def mi_196 : MI := (yX8_holds, cX8_holds, 4, some .int, [7, 4, 0, 4, 5118, 1008, 5116, 5117])
abbrev mM_task : Nat := 197
def mi_197 : MI := (yX8_task, cX8_task, 3, some .int, [7, 3, 0, 3, 5126, 1008, 5124, 5125])
abbrev mM_wrongTime : Nat := 198
def mi_198 : MI := (yX8_wrongTime, cX8_wrongTime, 2, some .int, [7, 2, 0, 2, 5147, 1008, 5146, 50])
abbrev mM_asked : Nat := 199
def mi_199 : MI := (yX8_asked, cX8_asked, 4, some .int, [7, 3, 0, 4, 5143, 1008, 5141, 5142])
abbrev mM_owed : Nat := 200
def mi_200 : MI := (yX8_owed, cX8_owed, 4, some .int, [7, 3, 0, 4, 5161, 1008, 5159, 5160])
abbrev mM_demand : Nat := 201
def mi_201 : MI := (yX8_demand, cX8_demand, 3, some .int, [7, 2, 0, 5, 5169, 1008, 5167, 5168])
abbrev mM_busy : Nat := 202
def mi_202 : MI := (yX8_busy, cX8_busy, 1, some .int, [7, 1, 0, 6, 5181, 1008, 5179, 5180])
abbrev mM_point : Nat := 203
def mi_203 : MI := (yX8_point, cX8_point, 2, some .int, [7, 2, 0, 7, 5193, 1008, 5191, 5192])
abbrev mM_miss : Nat := 204
def mi_204 : MI := (yX8_miss, cX8_miss, 1, some .int, [7, 1, 0, 7, 5201, 1008, 5199, 5200])
abbrev mM_spare : Nat := 205
def mi_205 : MI := (yX8_spare, cX8_spare, 1, some .int, [7, 1, 0, 7, 5205, 1008, 5203, 5204])
abbrev mM_isOrder : Nat := 206
def mi_206 : MI := (yX8_isOrder, cX8_isOrder, 1, some .boolean, [7, 1, 1, 2, 5212, 1008, 5211, 0])
abbrev mM_order : Nat := 207
def mi_207 : MI := (yX8_order, cX8_order, 3, some .int, [7, 3, 0, 5, 5209, 1008, 5207, 5208])
abbrev mM_ceiling : Nat := 208
def mi_208 : MI := (yX8_ceiling, cX8_ceiling, 3, some .int, [7, 3, 0, 6, 5224, 1008, 5222, 5223])
abbrev mM_wrongIn : Nat := 209
def mi_209 : MI := (yX8_wrongIn, cX8_wrongIn, 3, some .int, [7, 3, 0, 3, 6000, 1008, 5239, 63])
abbrev mM_blocking : Nat := 210
def mi_210 : MI := (yX8_blocking, cX8_blocking, 5, some .int, [7, 3, 0, 6, 5236, 1008, 5234, 5235])
abbrev mM_response : Nat := 211
def mi_211 : MI := (yX8_response, cX8_response, 4, some .int, [7, 3, 0, 7, 6023, 1008, 6021, 6022])
abbrev mM_rounds : Nat := 212
def mi_212 : MI := (yX8_rounds, cX8_rounds, 4, some .int, [7, 3, 0, 7, 6035, 1008, 6033, 6034])
abbrev mM_fits : Nat := 213
def mi_213 : MI := (yX8_fits, cX8_fits, 2, some .int, [7, 2, 0, 7, 6039, 1008, 6037, 6038])
abbrev mM_lawful : Nat := 214
def mi_214 : MI := (yX8_lawful, cX8_lawful, 3, some .int, [7, 2, 0, 13, 6051, 1008, 6049, 6050])
abbrev mM_misses : Nat := 215
def mi_215 : MI := (yX8_misses, cX8_misses, 5, none, [7, 2, 0, 1, 6074, 1008, 6073, 74])
abbrev mM_comesJob : Nat := 216
def mi_216 : MI := (yX8_comesJob, cX8_comesJob, 3, none, [7, 3, 0, 1, 6082, 1008, 6081, 76])
abbrev mM_comeJobs : Nat := 217
def mi_217 : MI := (yX8_comeJobs, cX8_comeJobs, 6, none, [7, 3, 0, 3, 6078, 1008, 6077, 75])
abbrev mM_goesAhead : Nat := 218
def mi_218 : MI := (yX8_goesAhead, cX8_goesAhead, 4, some .boolean, [7, 4, 0, 4, 6090, 1008, 6089, 78])
abbrev mM_works : Nat := 219
def mi_219 : MI := (yX8_works, cX8_works, 4, some .int, [7, 2, 0, 5, 6086, 1008, 6085, 77])
abbrev mM_runs : Nat := 220
def mi_220 : MI := (yX8_runs, cX8_runs, 4, none, [7, 2, 0, 6, 6070, 1008, 6069, 73])
abbrev mM_isPolicy : Nat := 221
def mi_221 : MI := (yX8_isPolicy, cX8_isPolicy, 1, some .boolean, [7, 1, 1, 2, 6065, 1008, 6064, 0])
abbrev mM_run : Nat := 222
def mi_222 : MI := (yX8_run, cX8_run, 3, some .int, [7, 3, 0, 7, 6062, 1008, 6060, 6061])
abbrev mM_jobs : Nat := 223
def mi_223 : MI := (yX8_jobs, cX8_jobs, 4, some .int, [7, 4, 0, 7, 6094, 1008, 6092, 6093])
abbrev mM_first : Nat := 224
def mi_224 : MI := (yX8_first, cX8_first, 3, some .int, [7, 3, 0, 7, 6098, 1008, 6096, 6097])
abbrev mM_slack : Nat := 225
def mi_225 : MI := (yX8_slack, cX8_slack, 5, some .int, [7, 2, 0, 8, 6102, 1008, 6100, 6101])
abbrev mM_slackBy : Nat := 226
def mi_226 : MI := (yX8_slackBy, cX8_slackBy, 7, some .int, [7, 3, 0, 8, 6110, 1008, 6108, 6109])
abbrev mM_divisor : Nat := 227
def mi_227 : MI := (yX8_divisor, cX8_divisor, 10, some .long, [7, 2, 1, 1, 6126, 1008, 6125, 0])
abbrev mM_part : Nat := 228
def mi_228 : MI := (yX8_part, cX8_part, 7, some .long, [7, 3, 1, 2, 6129, 1008, 6128, 0])
abbrev mM_multipleAll : Nat := 229
def mi_229 : MI := (yX8_multipleAll, cX8_multipleAll, 4, some .long, [7, 1, 0, 2, 6123, 1008, 6122, 81])
abbrev mM_load : Nat := 230
def mi_230 : MI := (yX8_load, cX8_load, 7, some .long, [7, 2, 0, 3, 6118, 1008, 6116, 6117])
abbrev mM_anew : Nat := 231
def mi_231 : MI := (yX8_anew, cX8_anew, 3, some .int, [7, 1, 0, 3, 6133, 1008, 6131, 6132])
abbrev mM_missing : Nat := 232
def mi_232 : MI := (yX8_missing, cX8_missing, 12, some .long, [7, 3, 0, 8, 6138, 1008, 6136, 6137])
abbrev mM_beginsSo : Nat := 233
def mi_233 : MI := (yX8_beginsSo, cX8_beginsSo, 3, some .boolean, [7, 1, 0, 7, 6146, 1008, 6145, 82])
abbrev mM_whatIs : Nat := 234
def mi_234 : MI := (yX8_whatIs, cX8_whatIs, 7, some .int, [7, 3, 0, 8, 6142, 1008, 6140, 6141])
abbrev mM_row : Nat := 235
def mi_235 : MI := (yX8_row, cX8_row, 2, some .int, [7, 2, 0, 2, 6150, 1008, 6148, 6149])
abbrev mM_judged : Nat := 236
def mi_236 : MI := (yX8_judged, cX8_judged, 4, some .int, [7, 2, 0, 7, 6159, 1008, 6158, 83])
abbrev mM_judge : Nat := 237
def mi_237 : MI := (yX8_judge, cX8_judge, 3, some .int, [7, 2, 0, 8, 6155, 1008, 6153, 6154])
abbrev mM_clear : Nat := 238
def mi_238 : MI := (yX8_clear, cX8_clear, 2, some .int, [7, 1, 0, 1, 6163, 1008, 6161, 6162])
abbrev mM_draw : Nat := 239
def mi_239 : MI := (yX8_draw, cX8_draw, 2, some .int, [7, 2, 0, 1, 6171, 1008, 6170, 84])
abbrev mM_lots : Nat := 240
def mi_240 : MI := (yX8_lots, cX8_lots, 7, some .int, [7, 4, 0, 8, 6167, 1008, 6165, 6166])
abbrev mM_image : Nat := 241
def mi_241 : MI := (yX8_image, cX8_image, 1, some .int, [7, 1, 0, 2, 6178, 1008, 6176, 6177])
abbrev mM_on : Nat := 242
def mi_242 : MI := (yX8_on, cX8_on, 1, some .int, [7, 1, 0, 2, 6182, 1008, 6180, 6181])
abbrev mM_costAll : Nat := 243
def mi_243 : MI := (yX8_costAll, cX8_costAll, 3, some .int, [7, 1, 0, 2, 6190, 1008, 6189, 85])
abbrev mM_count : Nat := 244
def mi_244 : MI := (yX8_count, cX8_count, 2, some .int, [7, 2, 0, 3, 6186, 1008, 6184, 6185])
abbrev mJ_bitCount : Nat := 245
def mi_245 : MI := (yJ6_bitCount_0f7a4, cJ6_bitCount_0f7a4, 1, some .int, [9, 1, 1, 1, 3090, 1015, 3089, 0])
abbrev mJ_length : Nat := 246
def mi_246 : MI := (yJ0_length_8abf5, cJ0_length_8abf5, 1, some .int, [11, 1, 0, 8, 2072, 1010, 2070, 2071])
abbrev mJ_isEmpty : Nat := 247
def mi_247 : MI := (yJ0_isEmpty_aae02, cJ0_isEmpty_aae02, 1, some .boolean, [11, 1, 0, 8, 2068, 1010, 2066, 2067])
abbrev mJ_charAt : Nat := 248
def mi_248 : MI := (yJ0_charAt_5068e, cJ0_charAt_5068e, 2, some .char, [11, 2, 0, 8, 2089, 1010, 2087, 2088])
def mtab : List MI := [mi_0, mi_1, mi_2, mi_3, mi_4, mi_5, mi_6, mi_7, mi_8, mi_9, mi_10, mi_11, mi_12, mi_13, mi_14, mi_15, mi_16, mi_17, mi_18, mi_19, mi_20, mi_21, mi_22, mi_23, mi_24, mi_25, mi_26, mi_27, mi_28, mi_29, mi_30, mi_31, mi_32, mi_33, mi_34, mi_35, mi_36, mi_37, mi_38, mi_39, mi_40, mi_41, mi_42, mi_43, mi_44, mi_45, mi_46, mi_47, mi_48, mi_49, mi_50, mi_51, mi_52, mi_53, mi_54, mi_55, mi_56, mi_57, mi_58, mi_59, mi_60, mi_61, mi_62, mi_63, mi_64, mi_65, mi_66, mi_67, mi_68, mi_69, mi_70, mi_71, mi_72, mi_73, mi_74, mi_75, mi_76, mi_77, mi_78, mi_79, mi_80, mi_81, mi_82, mi_83, mi_84, mi_85, mi_86, mi_87, mi_88, mi_89, mi_90, mi_91, mi_92, mi_93, mi_94, mi_95, mi_96, mi_97, mi_98, mi_99, mi_100, mi_101, mi_102, mi_103, mi_104, mi_105, mi_106, mi_107, mi_108, mi_109, mi_110, mi_111, mi_112, mi_113, mi_114, mi_115, mi_116, mi_117, mi_118, mi_119, mi_120, mi_121, mi_122, mi_123, mi_124, mi_125, mi_126, mi_127, mi_128, mi_129, mi_130, mi_131, mi_132, mi_133, mi_134, mi_135, mi_136, mi_137, mi_138, mi_139, mi_140, mi_141, mi_142, mi_143, mi_144, mi_145, mi_146, mi_147, mi_148, mi_149, mi_150, mi_151, mi_152, mi_153, mi_154, mi_155, mi_156, mi_157, mi_158, mi_159, mi_160, mi_161, mi_162, mi_163, mi_164, mi_165, mi_166, mi_167, mi_168, mi_169, mi_170, mi_171, mi_172, mi_173, mi_174, mi_175, mi_176, mi_177, mi_178, mi_179, mi_180, mi_181, mi_182, mi_183, mi_184, mi_185, mi_186, mi_187, mi_188, mi_189, mi_190, mi_191, mi_192, mi_193, mi_194, mi_195, mi_196, mi_197, mi_198, mi_199, mi_200, mi_201, mi_202, mi_203, mi_204, mi_205, mi_206, mi_207, mi_208, mi_209, mi_210, mi_211, mi_212, mi_213, mi_214, mi_215, mi_216, mi_217, mi_218, mi_219, mi_220, mi_221, mi_222, mi_223, mi_224, mi_225, mi_226, mi_227, mi_228, mi_229, mi_230, mi_231, mi_232, mi_233, mi_234, mi_235, mi_236, mi_237, mi_238, mi_239, mi_240, mi_241, mi_242, mi_243, mi_244, mi_245, mi_246, mi_247, mi_248]
def cpyW : List Nat := [2037, 2039, 2038, 1009]
def inP_0 : List Nat := [1076, 1078, 1080, 1082, 1084, 1086, 1088, 1090, 1092, 1094, 1096, 1098, 1100, 1102, 1104]
def inP_1 : List Nat := [1147, 1149]
def inP_2 : List Nat := [1118, 1120, 1122, 1124]
def inP_3 : List Nat := [1134]
def inP_4 : List Nat := [1198, 1200, 1202, 1204, 1206]
def inP_5 : List Nat := [1168, 1170, 1172, 1174, 1176, 1178, 1180, 1182, 1184]
def inP_6 : List Nat := [1222, 1224, 1226, 1228, 1230, 1232, 1234, 1236, 1238, 2000, 2002, 2004, 2006]
def inP_7 : List Nat := [4184, 4186, 4188, 4190, 4192, 4194, 4196, 4198, 4200, 4202, 4204, 4206, 4208, 4210, 4212, 4214, 4216, 4218, 4220, 4222, 4224, 4226, 4228, 4230, 4232, 4234, 4236, 4238, 5000, 5002, 5004]

def sG : List (Nat × Nat × List (Option Nat)) := [(8, 13, [some 1, some 15, some 29, none, some 43, some 44, some 45, some 48, some 55, some 58, none, some 59, none]), (2, 15, [none, none, some 2, some 3, some 4, some 5, some 6, some 7, some 8, some 9, some 10, some 11, some 12, some 13, some 14]), (0, 6, []), (0, 6, []), (0, 6, []), (0, 6, []), (0, 6, []), (0, 6, []), (0, 6, []), (0, 24, []), (0, 6, []), (0, 6, []), (0, 6, []), (0, 6, []), (0, 6, []), (2, 15, [none, none, some 16, some 17, some 18, some 19, some 20, some 21, some 22, some 23, some 24, some 25, some 26, some 27, some 28]), (0, 6, []), (0, 6, []), (0, 6, []), (0, 6, []), (0, 6, []), (0, 6, []), (0, 6, []), (0, 24, []), (0, 6, []), (0, 6, []), (0, 6, []), (0, 6, []), (0, 6, []), (2, 15, [none, none, some 30, some 31, some 32, some 33, some 34, some 35, some 36, some 37, some 38, some 39, some 40, some 41, some 42]), (0, 6, []), (0, 6, []), (0, 6, []), (0, 6, []), (0, 6, []), (0, 6, []), (0, 6, []), (0, 24, []), (0, 6, []), (0, 6, []), (0, 6, []), (0, 6, []), (0, 6, []), (4, 4, [none, none, none, none]), (5, 1, [none]), (3, 2, [some 46, some 47]), (5, 1, [none]), (1, 64, []), (7, 9, [some 49, some 50, some 51, none, none, some 52, some 53, some 54, none]), (0, 60, []), (0, 6, []), (0, 6, []), (0, 360, []), (0, 360, []), (0, 360, []), (6, 5, [some 56, none, some 57, none, none]), (0, 96, []), (0, 3, []), (0, 8, []), (0, 7, []), (9, 31, [some 61, some 62, some 63, none, some 64, some 65, none, some 66, none, some 67, none, none, none, some 68, none, none, some 69, none, none, some 70, none, some 71, some 72, some 73, none, some 74, some 75, some 76, none, none, none]), (0, 73, []), (0, 73, []), (0, 73, []), (0, 7, []), (0, 8, []), (0, 96, []), (0, 600, []), (0, 6, []), (0, 6, []), (0, 3, []), (0, 800, []), (0, 800, []), (0, 800, []), (0, 60, []), (0, 6, []), (0, 6, [])]
def chkW : Nat → List Cond
  | 0 => k2_sels lw_privs
  | 1 => tables_1_1
  | 2 => tables_1_2
  | 3 => tables_1_3
  | 4 => tables_1_4
  | 5 => tables_1_5
  | _ => tables_1_6
def wdp (p : Nat) : Option Cond := nth (chkW (p / 1000)) (p % 1000)
theorem chkW_in : ∀ (k : Nat) (w : Cond), w ∈ chkW k → w ∈ lw_tbl
  | 0, w, h => List.mem_append_left _ h
  | 1, w, h => List.mem_append_right _ (List.mem_append_left _ h)
  | 2, w, h => List.mem_append_right _ (List.mem_append_right _ (List.mem_append_left _ h))
  | 3, w, h => List.mem_append_right _ (List.mem_append_right _ (List.mem_append_right _ (List.mem_append_left _ h)))
  | 4, w, h => List.mem_append_right _ (List.mem_append_right _ (List.mem_append_right _ (List.mem_append_right _ (List.mem_append_left _ h))))
  | 5, w, h => List.mem_append_right _ (List.mem_append_right _ (List.mem_append_right _ (List.mem_append_right _ (List.mem_append_right _ (List.mem_append_left _ h)))))
  | _ + 6, w, h => List.mem_append_right _ (List.mem_append_right _ (List.mem_append_right _ (List.mem_append_right _ (List.mem_append_right _ (List.mem_append_right _ h)))))
theorem wdp_mem {p : Nat} {w : Cond} (h : wdp p = some w) : w ∈ lw_tbl := chkW_in _ w (List.mem_of_getElem? ((nth_get _ _).symm.trans h))
def wsG : List Cond := lw_tbl.filter goodWord
theorem wsG_of {i : Nat} {w : Cond} (h : wdp i = some w) (hg : goodWord w = true) : w ∈ wsG := List.mem_filter.mpr ⟨wdp_mem h, hg⟩
theorem wsG_good : ∀ w ∈ wsG, goodWord w = true := fun w h => (List.mem_filter.mp h).2
theorem wsG_in : ∀ w ∈ wsG, w ∈ lw_tbl := fun w h => (List.mem_filter.mp h).1
def mokS (q : MI) : Nat → Prop
  | 0 => wdp (nthD q.2.2.2.2 6 0) = some (.instanceMethod q.1) ∧ wdp (nthD q.2.2.2.2 7 0) = some (.selects q.1.cls q.1 q.1)
  | _ + 1 => wdp (nthD q.2.2.2.2 6 0) = some (.static q.1)
def mokW (q : MI) : Prop := wdp (nthD q.2.2.2.2 4 0) = some (.code q.1 q.2.1 q.2.2.1 q.2.2.2.1) ∧ wdp (nthD q.2.2.2.2 5 0) = some (.initialized q.1.cls) ∧ q.1.cls = own_ (nthD q.2.2.2.2 0 0) ∧ mokS q (nthD q.2.2.2.2 2 0)
def mokB (q : MI) : Bool := match q with
  | (y, b, L, ret, [ci, na, st, ht, pc, pi, p1, p2]) => decide (y.cls ≠ "java/lang/invoke/MethodHandle") && decide (y.cls ≠ "java/lang/invoke/VarHandle") && plainName y.cls &&
    decide ((parseMethodDescriptor y.desc).map (fun d => d.parameters.length) = some (na - (1 - st))) && Nat.ble L 20 && Nat.ble 1 ht && Nat.ble ht 20 && Nat.ble st 1 && Nat.ble 1 (na + st)
  | _ => false
def ftokP (q : Nat × Nat × Nat × Nat × Nat) : Prop := ∃ (C : String) (T : u_T) (N : Nat), vwCl[q.2.2.1]? = some (C, T, N) ∧ q.2.2.2.1 < N ∧ wdp (q.2.2.2.2) = some (.fieldLink (own_ q.1) q.2.1 (T q.2.2.2.1).1 (T q.2.2.2.1).2.1 (T q.2.2.2.1).2.2.1)
def mE (a : Nat) : MI := nthD mtab a mi_0
def cY (a : Nat) : MethodName := bif Nat.beq a 998 then Lib.Math.max.name else bif Nat.beq a 997 then Lib.Math.min.name else (mE a).1
def ctokP (q : Nat × Nat × Nat × Nat) : Prop := wdp (q.2.2.2) = some (.methodLink (own_ q.1) q.2.1 (cY q.2.2.1))
def ktokP (q : Nat × Nat × Int32 × Nat) : Prop := wdp (q.2.2.2) = some (.constant (own_ q.1) q.2.1 q.2.2.1)
def ltokP (q : Nat × Nat × Int64 × Nat) : Prop := wdp (q.2.2.2) = some (.constantLong (own_ q.1) q.2.1 q.2.2.1)
def mch_0 : List MI := [mi_1, mi_2, mi_3, mi_4, mi_5, mi_6, mi_7, mi_8, mi_9, mi_10, mi_11, mi_12, mi_13, mi_14, mi_15, mi_16, mi_17, mi_18, mi_19, mi_20, mi_21, mi_22, mi_23, mi_24, mi_25, mi_26, mi_27, mi_28, mi_29, mi_30, mi_31, mi_32]
set_option maxRecDepth 100000 in
set_option maxHeartbeats 4000000 in
theorem mokW_0 : ∀ q ∈ mch_0, mokW q := List.forall_mem_cons.mpr ⟨⟨rfl, rfl, rfl, rfl⟩, List.forall_mem_cons.mpr ⟨⟨rfl, rfl, rfl, rfl, rfl⟩, List.forall_mem_cons.mpr ⟨⟨rfl, rfl, rfl, rfl, rfl⟩, List.forall_mem_cons.mpr ⟨⟨rfl, rfl, rfl, rfl, rfl⟩, List.forall_mem_cons.mpr ⟨⟨rfl, rfl, rfl, rfl, rfl⟩, List.forall_mem_cons.mpr ⟨⟨rfl, rfl, rfl, rfl, rfl⟩, List.forall_mem_cons.mpr ⟨⟨rfl, rfl, rfl, rfl, rfl⟩, List.forall_mem_cons.mpr ⟨⟨rfl, rfl, rfl, rfl, rfl⟩, List.forall_mem_cons.mpr ⟨⟨rfl, rfl, rfl, rfl, rfl⟩, List.forall_mem_cons.mpr ⟨⟨rfl, rfl, rfl, rfl, rfl⟩, List.forall_mem_cons.mpr ⟨⟨rfl, rfl, rfl, rfl, rfl⟩, List.forall_mem_cons.mpr ⟨⟨rfl, rfl, rfl, rfl, rfl⟩, List.forall_mem_cons.mpr ⟨⟨rfl, rfl, rfl, rfl, rfl⟩, List.forall_mem_cons.mpr ⟨⟨rfl, rfl, rfl, rfl, rfl⟩, List.forall_mem_cons.mpr ⟨⟨rfl, rfl, rfl, rfl, rfl⟩, List.forall_mem_cons.mpr ⟨⟨rfl, rfl, rfl, rfl, rfl⟩, List.forall_mem_cons.mpr ⟨⟨rfl, rfl, rfl, rfl⟩, List.forall_mem_cons.mpr ⟨⟨rfl, rfl, rfl, rfl⟩, List.forall_mem_cons.mpr ⟨⟨rfl, rfl, rfl, rfl, rfl⟩, List.forall_mem_cons.mpr ⟨⟨rfl, rfl, rfl, rfl, rfl⟩, List.forall_mem_cons.mpr ⟨⟨rfl, rfl, rfl, rfl, rfl⟩, List.forall_mem_cons.mpr ⟨⟨rfl, rfl, rfl, rfl, rfl⟩, List.forall_mem_cons.mpr ⟨⟨rfl, rfl, rfl, rfl, rfl⟩, List.forall_mem_cons.mpr ⟨⟨rfl, rfl, rfl, rfl, rfl⟩, List.forall_mem_cons.mpr ⟨⟨rfl, rfl, rfl, rfl, rfl⟩, List.forall_mem_cons.mpr ⟨⟨rfl, rfl, rfl, rfl, rfl⟩, List.forall_mem_cons.mpr ⟨⟨rfl, rfl, rfl, rfl, rfl⟩, List.forall_mem_cons.mpr ⟨⟨rfl, rfl, rfl, rfl⟩, List.forall_mem_cons.mpr ⟨⟨rfl, rfl, rfl, rfl⟩, List.forall_mem_cons.mpr ⟨⟨rfl, rfl, rfl, rfl⟩, List.forall_mem_cons.mpr ⟨⟨rfl, rfl, rfl, rfl⟩, List.forall_mem_cons.mpr ⟨⟨rfl, rfl, rfl, rfl⟩, fun _ h => absurd h List.not_mem_nil⟩⟩⟩⟩⟩⟩⟩⟩⟩⟩⟩⟩⟩⟩⟩⟩⟩⟩⟩⟩⟩⟩⟩⟩⟩⟩⟩⟩⟩⟩⟩⟩
set_option maxRecDepth 100000 in
set_option maxHeartbeats 4000000 in
theorem mokB_0 : mch_0.all mokB = true := by decide +kernel
def mch_1 : List MI := [mi_33, mi_34, mi_35, mi_36, mi_37, mi_38, mi_39, mi_40, mi_41, mi_42, mi_43, mi_44, mi_45, mi_46, mi_47, mi_48, mi_49, mi_50, mi_51, mi_52, mi_53, mi_54, mi_55, mi_56, mi_57, mi_58, mi_59, mi_60, mi_61, mi_62, mi_63, mi_64]
set_option maxRecDepth 100000 in
set_option maxHeartbeats 4000000 in
theorem mokW_1 : ∀ q ∈ mch_1, mokW q := List.forall_mem_cons.mpr ⟨⟨rfl, rfl, rfl, rfl⟩, List.forall_mem_cons.mpr ⟨⟨rfl, rfl, rfl, rfl⟩, List.forall_mem_cons.mpr ⟨⟨rfl, rfl, rfl, rfl⟩, List.forall_mem_cons.mpr ⟨⟨rfl, rfl, rfl, rfl⟩, List.forall_mem_cons.mpr ⟨⟨rfl, rfl, rfl, rfl, rfl⟩, List.forall_mem_cons.mpr ⟨⟨rfl, rfl, rfl, rfl, rfl⟩, List.forall_mem_cons.mpr ⟨⟨rfl, rfl, rfl, rfl⟩, List.forall_mem_cons.mpr ⟨⟨rfl, rfl, rfl, rfl, rfl⟩, List.forall_mem_cons.mpr ⟨⟨rfl, rfl, rfl, rfl, rfl⟩, List.forall_mem_cons.mpr ⟨⟨rfl, rfl, rfl, rfl, rfl⟩, List.forall_mem_cons.mpr ⟨⟨rfl, rfl, rfl, rfl, rfl⟩, List.forall_mem_cons.mpr ⟨⟨rfl, rfl, rfl, rfl, rfl⟩, List.forall_mem_cons.mpr ⟨⟨rfl, rfl, rfl, rfl, rfl⟩, List.forall_mem_cons.mpr ⟨⟨rfl, rfl, rfl, rfl, rfl⟩, List.forall_mem_cons.mpr ⟨⟨rfl, rfl, rfl, rfl, rfl⟩, List.forall_mem_cons.mpr ⟨⟨rfl, rfl, rfl, rfl, rfl⟩, List.forall_mem_cons.mpr ⟨⟨rfl, rfl, rfl, rfl, rfl⟩, List.forall_mem_cons.mpr ⟨⟨rfl, rfl, rfl, rfl, rfl⟩, List.forall_mem_cons.mpr ⟨⟨rfl, rfl, rfl, rfl, rfl⟩, List.forall_mem_cons.mpr ⟨⟨rfl, rfl, rfl, rfl, rfl⟩, List.forall_mem_cons.mpr ⟨⟨rfl, rfl, rfl, rfl, rfl⟩, List.forall_mem_cons.mpr ⟨⟨rfl, rfl, rfl, rfl, rfl⟩, List.forall_mem_cons.mpr ⟨⟨rfl, rfl, rfl, rfl, rfl⟩, List.forall_mem_cons.mpr ⟨⟨rfl, rfl, rfl, rfl, rfl⟩, List.forall_mem_cons.mpr ⟨⟨rfl, rfl, rfl, rfl, rfl⟩, List.forall_mem_cons.mpr ⟨⟨rfl, rfl, rfl, rfl, rfl⟩, List.forall_mem_cons.mpr ⟨⟨rfl, rfl, rfl, rfl, rfl⟩, List.forall_mem_cons.mpr ⟨⟨rfl, rfl, rfl, rfl, rfl⟩, List.forall_mem_cons.mpr ⟨⟨rfl, rfl, rfl, rfl, rfl⟩, List.forall_mem_cons.mpr ⟨⟨rfl, rfl, rfl, rfl, rfl⟩, List.forall_mem_cons.mpr ⟨⟨rfl, rfl, rfl, rfl, rfl⟩, List.forall_mem_cons.mpr ⟨⟨rfl, rfl, rfl, rfl, rfl⟩, fun _ h => absurd h List.not_mem_nil⟩⟩⟩⟩⟩⟩⟩⟩⟩⟩⟩⟩⟩⟩⟩⟩⟩⟩⟩⟩⟩⟩⟩⟩⟩⟩⟩⟩⟩⟩⟩⟩
set_option maxRecDepth 100000 in
set_option maxHeartbeats 4000000 in
theorem mokB_1 : mch_1.all mokB = true := by decide +kernel
def mch_2 : List MI := [mi_65, mi_66, mi_67, mi_68, mi_69, mi_70, mi_71, mi_72, mi_73, mi_74, mi_75, mi_76, mi_77, mi_78, mi_79, mi_80, mi_81, mi_82, mi_83, mi_84, mi_85, mi_86, mi_87, mi_88, mi_89, mi_90, mi_91, mi_92, mi_93, mi_94, mi_95, mi_96]
set_option maxRecDepth 100000 in
set_option maxHeartbeats 4000000 in
theorem mokW_2 : ∀ q ∈ mch_2, mokW q := List.forall_mem_cons.mpr ⟨⟨rfl, rfl, rfl, rfl, rfl⟩, List.forall_mem_cons.mpr ⟨⟨rfl, rfl, rfl, rfl, rfl⟩, List.forall_mem_cons.mpr ⟨⟨rfl, rfl, rfl, rfl⟩, List.forall_mem_cons.mpr ⟨⟨rfl, rfl, rfl, rfl, rfl⟩, List.forall_mem_cons.mpr ⟨⟨rfl, rfl, rfl, rfl, rfl⟩, List.forall_mem_cons.mpr ⟨⟨rfl, rfl, rfl, rfl⟩, List.forall_mem_cons.mpr ⟨⟨rfl, rfl, rfl, rfl, rfl⟩, List.forall_mem_cons.mpr ⟨⟨rfl, rfl, rfl, rfl⟩, List.forall_mem_cons.mpr ⟨⟨rfl, rfl, rfl, rfl⟩, List.forall_mem_cons.mpr ⟨⟨rfl, rfl, rfl, rfl, rfl⟩, List.forall_mem_cons.mpr ⟨⟨rfl, rfl, rfl, rfl, rfl⟩, List.forall_mem_cons.mpr ⟨⟨rfl, rfl, rfl, rfl, rfl⟩, List.forall_mem_cons.mpr ⟨⟨rfl, rfl, rfl, rfl, rfl⟩, List.forall_mem_cons.mpr ⟨⟨rfl, rfl, rfl, rfl, rfl⟩, List.forall_mem_cons.mpr ⟨⟨rfl, rfl, rfl, rfl, rfl⟩, List.forall_mem_cons.mpr ⟨⟨rfl, rfl, rfl, rfl, rfl⟩, List.forall_mem_cons.mpr ⟨⟨rfl, rfl, rfl, rfl, rfl⟩, List.forall_mem_cons.mpr ⟨⟨rfl, rfl, rfl, rfl, rfl⟩, List.forall_mem_cons.mpr ⟨⟨rfl, rfl, rfl, rfl, rfl⟩, List.forall_mem_cons.mpr ⟨⟨rfl, rfl, rfl, rfl, rfl⟩, List.forall_mem_cons.mpr ⟨⟨rfl, rfl, rfl, rfl, rfl⟩, List.forall_mem_cons.mpr ⟨⟨rfl, rfl, rfl, rfl, rfl⟩, List.forall_mem_cons.mpr ⟨⟨rfl, rfl, rfl, rfl, rfl⟩, List.forall_mem_cons.mpr ⟨⟨rfl, rfl, rfl, rfl, rfl⟩, List.forall_mem_cons.mpr ⟨⟨rfl, rfl, rfl, rfl, rfl⟩, List.forall_mem_cons.mpr ⟨⟨rfl, rfl, rfl, rfl, rfl⟩, List.forall_mem_cons.mpr ⟨⟨rfl, rfl, rfl, rfl, rfl⟩, List.forall_mem_cons.mpr ⟨⟨rfl, rfl, rfl, rfl, rfl⟩, List.forall_mem_cons.mpr ⟨⟨rfl, rfl, rfl, rfl, rfl⟩, List.forall_mem_cons.mpr ⟨⟨rfl, rfl, rfl, rfl, rfl⟩, List.forall_mem_cons.mpr ⟨⟨rfl, rfl, rfl, rfl, rfl⟩, List.forall_mem_cons.mpr ⟨⟨rfl, rfl, rfl, rfl, rfl⟩, fun _ h => absurd h List.not_mem_nil⟩⟩⟩⟩⟩⟩⟩⟩⟩⟩⟩⟩⟩⟩⟩⟩⟩⟩⟩⟩⟩⟩⟩⟩⟩⟩⟩⟩⟩⟩⟩⟩
set_option maxRecDepth 100000 in
set_option maxHeartbeats 4000000 in
theorem mokB_2 : mch_2.all mokB = true := by decide +kernel
def mch_3 : List MI := [mi_97, mi_98, mi_99, mi_100, mi_101, mi_102, mi_103, mi_104, mi_105, mi_106, mi_107, mi_108, mi_109, mi_110, mi_111, mi_112, mi_113, mi_114, mi_115, mi_116, mi_117, mi_118, mi_119, mi_120, mi_121, mi_122, mi_123, mi_124, mi_125, mi_126, mi_127, mi_128]
set_option maxRecDepth 100000 in
set_option maxHeartbeats 4000000 in
theorem mokW_3 : ∀ q ∈ mch_3, mokW q := List.forall_mem_cons.mpr ⟨⟨rfl, rfl, rfl, rfl, rfl⟩, List.forall_mem_cons.mpr ⟨⟨rfl, rfl, rfl, rfl, rfl⟩, List.forall_mem_cons.mpr ⟨⟨rfl, rfl, rfl, rfl, rfl⟩, List.forall_mem_cons.mpr ⟨⟨rfl, rfl, rfl, rfl, rfl⟩, List.forall_mem_cons.mpr ⟨⟨rfl, rfl, rfl, rfl, rfl⟩, List.forall_mem_cons.mpr ⟨⟨rfl, rfl, rfl, rfl, rfl⟩, List.forall_mem_cons.mpr ⟨⟨rfl, rfl, rfl, rfl, rfl⟩, List.forall_mem_cons.mpr ⟨⟨rfl, rfl, rfl, rfl, rfl⟩, List.forall_mem_cons.mpr ⟨⟨rfl, rfl, rfl, rfl, rfl⟩, List.forall_mem_cons.mpr ⟨⟨rfl, rfl, rfl, rfl, rfl⟩, List.forall_mem_cons.mpr ⟨⟨rfl, rfl, rfl, rfl, rfl⟩, List.forall_mem_cons.mpr ⟨⟨rfl, rfl, rfl, rfl, rfl⟩, List.forall_mem_cons.mpr ⟨⟨rfl, rfl, rfl, rfl, rfl⟩, List.forall_mem_cons.mpr ⟨⟨rfl, rfl, rfl, rfl, rfl⟩, List.forall_mem_cons.mpr ⟨⟨rfl, rfl, rfl, rfl, rfl⟩, List.forall_mem_cons.mpr ⟨⟨rfl, rfl, rfl, rfl, rfl⟩, List.forall_mem_cons.mpr ⟨⟨rfl, rfl, rfl, rfl, rfl⟩, List.forall_mem_cons.mpr ⟨⟨rfl, rfl, rfl, rfl, rfl⟩, List.forall_mem_cons.mpr ⟨⟨rfl, rfl, rfl, rfl, rfl⟩, List.forall_mem_cons.mpr ⟨⟨rfl, rfl, rfl, rfl⟩, List.forall_mem_cons.mpr ⟨⟨rfl, rfl, rfl, rfl⟩, List.forall_mem_cons.mpr ⟨⟨rfl, rfl, rfl, rfl⟩, List.forall_mem_cons.mpr ⟨⟨rfl, rfl, rfl, rfl⟩, List.forall_mem_cons.mpr ⟨⟨rfl, rfl, rfl, rfl, rfl⟩, List.forall_mem_cons.mpr ⟨⟨rfl, rfl, rfl, rfl, rfl⟩, List.forall_mem_cons.mpr ⟨⟨rfl, rfl, rfl, rfl, rfl⟩, List.forall_mem_cons.mpr ⟨⟨rfl, rfl, rfl, rfl⟩, List.forall_mem_cons.mpr ⟨⟨rfl, rfl, rfl, rfl⟩, List.forall_mem_cons.mpr ⟨⟨rfl, rfl, rfl, rfl, rfl⟩, List.forall_mem_cons.mpr ⟨⟨rfl, rfl, rfl, rfl, rfl⟩, List.forall_mem_cons.mpr ⟨⟨rfl, rfl, rfl, rfl, rfl⟩, List.forall_mem_cons.mpr ⟨⟨rfl, rfl, rfl, rfl⟩, fun _ h => absurd h List.not_mem_nil⟩⟩⟩⟩⟩⟩⟩⟩⟩⟩⟩⟩⟩⟩⟩⟩⟩⟩⟩⟩⟩⟩⟩⟩⟩⟩⟩⟩⟩⟩⟩⟩
set_option maxRecDepth 100000 in
set_option maxHeartbeats 4000000 in
theorem mokB_3 : mch_3.all mokB = true := by decide +kernel
def mch_4 : List MI := [mi_129, mi_130, mi_131, mi_132, mi_133, mi_134, mi_135, mi_136, mi_137, mi_138, mi_139, mi_140, mi_141, mi_142, mi_143, mi_144, mi_145, mi_146, mi_147, mi_148, mi_149, mi_150, mi_151, mi_152, mi_153, mi_154, mi_155, mi_156, mi_157, mi_158, mi_159, mi_160]
set_option maxRecDepth 100000 in
set_option maxHeartbeats 4000000 in
theorem mokW_4 : ∀ q ∈ mch_4, mokW q := List.forall_mem_cons.mpr ⟨⟨rfl, rfl, rfl, rfl, rfl⟩, List.forall_mem_cons.mpr ⟨⟨rfl, rfl, rfl, rfl, rfl⟩, List.forall_mem_cons.mpr ⟨⟨rfl, rfl, rfl, rfl, rfl⟩, List.forall_mem_cons.mpr ⟨⟨rfl, rfl, rfl, rfl, rfl⟩, List.forall_mem_cons.mpr ⟨⟨rfl, rfl, rfl, rfl, rfl⟩, List.forall_mem_cons.mpr ⟨⟨rfl, rfl, rfl, rfl, rfl⟩, List.forall_mem_cons.mpr ⟨⟨rfl, rfl, rfl, rfl⟩, List.forall_mem_cons.mpr ⟨⟨rfl, rfl, rfl, rfl, rfl⟩, List.forall_mem_cons.mpr ⟨⟨rfl, rfl, rfl, rfl⟩, List.forall_mem_cons.mpr ⟨⟨rfl, rfl, rfl, rfl, rfl⟩, List.forall_mem_cons.mpr ⟨⟨rfl, rfl, rfl, rfl, rfl⟩, List.forall_mem_cons.mpr ⟨⟨rfl, rfl, rfl, rfl, rfl⟩, List.forall_mem_cons.mpr ⟨⟨rfl, rfl, rfl, rfl, rfl⟩, List.forall_mem_cons.mpr ⟨⟨rfl, rfl, rfl, rfl⟩, List.forall_mem_cons.mpr ⟨⟨rfl, rfl, rfl, rfl, rfl⟩, List.forall_mem_cons.mpr ⟨⟨rfl, rfl, rfl, rfl, rfl⟩, List.forall_mem_cons.mpr ⟨⟨rfl, rfl, rfl, rfl, rfl⟩, List.forall_mem_cons.mpr ⟨⟨rfl, rfl, rfl, rfl, rfl⟩, List.forall_mem_cons.mpr ⟨⟨rfl, rfl, rfl, rfl, rfl⟩, List.forall_mem_cons.mpr ⟨⟨rfl, rfl, rfl, rfl, rfl⟩, List.forall_mem_cons.mpr ⟨⟨rfl, rfl, rfl, rfl, rfl⟩, List.forall_mem_cons.mpr ⟨⟨rfl, rfl, rfl, rfl, rfl⟩, List.forall_mem_cons.mpr ⟨⟨rfl, rfl, rfl, rfl, rfl⟩, List.forall_mem_cons.mpr ⟨⟨rfl, rfl, rfl, rfl, rfl⟩, List.forall_mem_cons.mpr ⟨⟨rfl, rfl, rfl, rfl, rfl⟩, List.forall_mem_cons.mpr ⟨⟨rfl, rfl, rfl, rfl, rfl⟩, List.forall_mem_cons.mpr ⟨⟨rfl, rfl, rfl, rfl, rfl⟩, List.forall_mem_cons.mpr ⟨⟨rfl, rfl, rfl, rfl, rfl⟩, List.forall_mem_cons.mpr ⟨⟨rfl, rfl, rfl, rfl, rfl⟩, List.forall_mem_cons.mpr ⟨⟨rfl, rfl, rfl, rfl, rfl⟩, List.forall_mem_cons.mpr ⟨⟨rfl, rfl, rfl, rfl, rfl⟩, List.forall_mem_cons.mpr ⟨⟨rfl, rfl, rfl, rfl, rfl⟩, fun _ h => absurd h List.not_mem_nil⟩⟩⟩⟩⟩⟩⟩⟩⟩⟩⟩⟩⟩⟩⟩⟩⟩⟩⟩⟩⟩⟩⟩⟩⟩⟩⟩⟩⟩⟩⟩⟩
set_option maxRecDepth 100000 in
set_option maxHeartbeats 4000000 in
theorem mokB_4 : mch_4.all mokB = true := by decide +kernel
def mch_5 : List MI := [mi_161, mi_162, mi_163, mi_164, mi_165, mi_166, mi_167, mi_168, mi_169, mi_170, mi_171, mi_172, mi_173, mi_174, mi_175, mi_176, mi_177, mi_178, mi_179, mi_180, mi_181, mi_182, mi_183, mi_184, mi_185, mi_186, mi_187, mi_188, mi_189, mi_190, mi_191, mi_192]
set_option maxRecDepth 100000 in
set_option maxHeartbeats 4000000 in
theorem mokW_5 : ∀ q ∈ mch_5, mokW q := List.forall_mem_cons.mpr ⟨⟨rfl, rfl, rfl, rfl, rfl⟩, List.forall_mem_cons.mpr ⟨⟨rfl, rfl, rfl, rfl, rfl⟩, List.forall_mem_cons.mpr ⟨⟨rfl, rfl, rfl, rfl, rfl⟩, List.forall_mem_cons.mpr ⟨⟨rfl, rfl, rfl, rfl, rfl⟩, List.forall_mem_cons.mpr ⟨⟨rfl, rfl, rfl, rfl, rfl⟩, List.forall_mem_cons.mpr ⟨⟨rfl, rfl, rfl, rfl, rfl⟩, List.forall_mem_cons.mpr ⟨⟨rfl, rfl, rfl, rfl, rfl⟩, List.forall_mem_cons.mpr ⟨⟨rfl, rfl, rfl, rfl, rfl⟩, List.forall_mem_cons.mpr ⟨⟨rfl, rfl, rfl, rfl, rfl⟩, List.forall_mem_cons.mpr ⟨⟨rfl, rfl, rfl, rfl, rfl⟩, List.forall_mem_cons.mpr ⟨⟨rfl, rfl, rfl, rfl, rfl⟩, List.forall_mem_cons.mpr ⟨⟨rfl, rfl, rfl, rfl, rfl⟩, List.forall_mem_cons.mpr ⟨⟨rfl, rfl, rfl, rfl, rfl⟩, List.forall_mem_cons.mpr ⟨⟨rfl, rfl, rfl, rfl⟩, List.forall_mem_cons.mpr ⟨⟨rfl, rfl, rfl, rfl, rfl⟩, List.forall_mem_cons.mpr ⟨⟨rfl, rfl, rfl, rfl, rfl⟩, List.forall_mem_cons.mpr ⟨⟨rfl, rfl, rfl, rfl, rfl⟩, List.forall_mem_cons.mpr ⟨⟨rfl, rfl, rfl, rfl, rfl⟩, List.forall_mem_cons.mpr ⟨⟨rfl, rfl, rfl, rfl⟩, List.forall_mem_cons.mpr ⟨⟨rfl, rfl, rfl, rfl, rfl⟩, List.forall_mem_cons.mpr ⟨⟨rfl, rfl, rfl, rfl, rfl⟩, List.forall_mem_cons.mpr ⟨⟨rfl, rfl, rfl, rfl⟩, List.forall_mem_cons.mpr ⟨⟨rfl, rfl, rfl, rfl, rfl⟩, List.forall_mem_cons.mpr ⟨⟨rfl, rfl, rfl, rfl, rfl⟩, List.forall_mem_cons.mpr ⟨⟨rfl, rfl, rfl, rfl, rfl⟩, List.forall_mem_cons.mpr ⟨⟨rfl, rfl, rfl, rfl, rfl⟩, List.forall_mem_cons.mpr ⟨⟨rfl, rfl, rfl, rfl, rfl⟩, List.forall_mem_cons.mpr ⟨⟨rfl, rfl, rfl, rfl, rfl⟩, List.forall_mem_cons.mpr ⟨⟨rfl, rfl, rfl, rfl, rfl⟩, List.forall_mem_cons.mpr ⟨⟨rfl, rfl, rfl, rfl, rfl⟩, List.forall_mem_cons.mpr ⟨⟨rfl, rfl, rfl, rfl, rfl⟩, List.forall_mem_cons.mpr ⟨⟨rfl, rfl, rfl, rfl, rfl⟩, fun _ h => absurd h List.not_mem_nil⟩⟩⟩⟩⟩⟩⟩⟩⟩⟩⟩⟩⟩⟩⟩⟩⟩⟩⟩⟩⟩⟩⟩⟩⟩⟩⟩⟩⟩⟩⟩⟩
set_option maxRecDepth 100000 in
set_option maxHeartbeats 4000000 in
theorem mokB_5 : mch_5.all mokB = true := by decide +kernel
def mch_6 : List MI := [mi_193, mi_194, mi_195, mi_196, mi_197, mi_198, mi_199, mi_200, mi_201, mi_202, mi_203, mi_204, mi_205, mi_206, mi_207, mi_208, mi_209, mi_210, mi_211, mi_212, mi_213, mi_214, mi_215, mi_216, mi_217, mi_218, mi_219, mi_220, mi_221, mi_222, mi_223, mi_224]
set_option maxRecDepth 100000 in
set_option maxHeartbeats 4000000 in
theorem mokW_6 : ∀ q ∈ mch_6, mokW q := List.forall_mem_cons.mpr ⟨⟨rfl, rfl, rfl, rfl, rfl⟩, List.forall_mem_cons.mpr ⟨⟨rfl, rfl, rfl, rfl, rfl⟩, List.forall_mem_cons.mpr ⟨⟨rfl, rfl, rfl, rfl⟩, List.forall_mem_cons.mpr ⟨⟨rfl, rfl, rfl, rfl, rfl⟩, List.forall_mem_cons.mpr ⟨⟨rfl, rfl, rfl, rfl, rfl⟩, List.forall_mem_cons.mpr ⟨⟨rfl, rfl, rfl, rfl, rfl⟩, List.forall_mem_cons.mpr ⟨⟨rfl, rfl, rfl, rfl, rfl⟩, List.forall_mem_cons.mpr ⟨⟨rfl, rfl, rfl, rfl, rfl⟩, List.forall_mem_cons.mpr ⟨⟨rfl, rfl, rfl, rfl, rfl⟩, List.forall_mem_cons.mpr ⟨⟨rfl, rfl, rfl, rfl, rfl⟩, List.forall_mem_cons.mpr ⟨⟨rfl, rfl, rfl, rfl, rfl⟩, List.forall_mem_cons.mpr ⟨⟨rfl, rfl, rfl, rfl, rfl⟩, List.forall_mem_cons.mpr ⟨⟨rfl, rfl, rfl, rfl, rfl⟩, List.forall_mem_cons.mpr ⟨⟨rfl, rfl, rfl, rfl⟩, List.forall_mem_cons.mpr ⟨⟨rfl, rfl, rfl, rfl, rfl⟩, List.forall_mem_cons.mpr ⟨⟨rfl, rfl, rfl, rfl, rfl⟩, List.forall_mem_cons.mpr ⟨⟨rfl, rfl, rfl, rfl, rfl⟩, List.forall_mem_cons.mpr ⟨⟨rfl, rfl, rfl, rfl, rfl⟩, List.forall_mem_cons.mpr ⟨⟨rfl, rfl, rfl, rfl, rfl⟩, List.forall_mem_cons.mpr ⟨⟨rfl, rfl, rfl, rfl, rfl⟩, List.forall_mem_cons.mpr ⟨⟨rfl, rfl, rfl, rfl, rfl⟩, List.forall_mem_cons.mpr ⟨⟨rfl, rfl, rfl, rfl, rfl⟩, List.forall_mem_cons.mpr ⟨⟨rfl, rfl, rfl, rfl, rfl⟩, List.forall_mem_cons.mpr ⟨⟨rfl, rfl, rfl, rfl, rfl⟩, List.forall_mem_cons.mpr ⟨⟨rfl, rfl, rfl, rfl, rfl⟩, List.forall_mem_cons.mpr ⟨⟨rfl, rfl, rfl, rfl, rfl⟩, List.forall_mem_cons.mpr ⟨⟨rfl, rfl, rfl, rfl, rfl⟩, List.forall_mem_cons.mpr ⟨⟨rfl, rfl, rfl, rfl, rfl⟩, List.forall_mem_cons.mpr ⟨⟨rfl, rfl, rfl, rfl⟩, List.forall_mem_cons.mpr ⟨⟨rfl, rfl, rfl, rfl, rfl⟩, List.forall_mem_cons.mpr ⟨⟨rfl, rfl, rfl, rfl, rfl⟩, List.forall_mem_cons.mpr ⟨⟨rfl, rfl, rfl, rfl, rfl⟩, fun _ h => absurd h List.not_mem_nil⟩⟩⟩⟩⟩⟩⟩⟩⟩⟩⟩⟩⟩⟩⟩⟩⟩⟩⟩⟩⟩⟩⟩⟩⟩⟩⟩⟩⟩⟩⟩⟩
set_option maxRecDepth 100000 in
set_option maxHeartbeats 4000000 in
theorem mokB_6 : mch_6.all mokB = true := by decide +kernel
def mch_7 : List MI := [mi_225, mi_226, mi_227, mi_228, mi_229, mi_230, mi_231, mi_232, mi_233, mi_234, mi_235, mi_236, mi_237, mi_238, mi_239, mi_240, mi_241, mi_242, mi_243, mi_244, mi_245, mi_246, mi_247, mi_248]
set_option maxRecDepth 100000 in
set_option maxHeartbeats 4000000 in
theorem mokW_7 : ∀ q ∈ mch_7, mokW q := List.forall_mem_cons.mpr ⟨⟨rfl, rfl, rfl, rfl, rfl⟩, List.forall_mem_cons.mpr ⟨⟨rfl, rfl, rfl, rfl, rfl⟩, List.forall_mem_cons.mpr ⟨⟨rfl, rfl, rfl, rfl⟩, List.forall_mem_cons.mpr ⟨⟨rfl, rfl, rfl, rfl⟩, List.forall_mem_cons.mpr ⟨⟨rfl, rfl, rfl, rfl, rfl⟩, List.forall_mem_cons.mpr ⟨⟨rfl, rfl, rfl, rfl, rfl⟩, List.forall_mem_cons.mpr ⟨⟨rfl, rfl, rfl, rfl, rfl⟩, List.forall_mem_cons.mpr ⟨⟨rfl, rfl, rfl, rfl, rfl⟩, List.forall_mem_cons.mpr ⟨⟨rfl, rfl, rfl, rfl, rfl⟩, List.forall_mem_cons.mpr ⟨⟨rfl, rfl, rfl, rfl, rfl⟩, List.forall_mem_cons.mpr ⟨⟨rfl, rfl, rfl, rfl, rfl⟩, List.forall_mem_cons.mpr ⟨⟨rfl, rfl, rfl, rfl, rfl⟩, List.forall_mem_cons.mpr ⟨⟨rfl, rfl, rfl, rfl, rfl⟩, List.forall_mem_cons.mpr ⟨⟨rfl, rfl, rfl, rfl, rfl⟩, List.forall_mem_cons.mpr ⟨⟨rfl, rfl, rfl, rfl, rfl⟩, List.forall_mem_cons.mpr ⟨⟨rfl, rfl, rfl, rfl, rfl⟩, List.forall_mem_cons.mpr ⟨⟨rfl, rfl, rfl, rfl, rfl⟩, List.forall_mem_cons.mpr ⟨⟨rfl, rfl, rfl, rfl, rfl⟩, List.forall_mem_cons.mpr ⟨⟨rfl, rfl, rfl, rfl, rfl⟩, List.forall_mem_cons.mpr ⟨⟨rfl, rfl, rfl, rfl, rfl⟩, List.forall_mem_cons.mpr ⟨⟨rfl, rfl, rfl, rfl⟩, List.forall_mem_cons.mpr ⟨⟨rfl, rfl, rfl, rfl, rfl⟩, List.forall_mem_cons.mpr ⟨⟨rfl, rfl, rfl, rfl, rfl⟩, List.forall_mem_cons.mpr ⟨⟨rfl, rfl, rfl, rfl, rfl⟩, fun _ h => absurd h List.not_mem_nil⟩⟩⟩⟩⟩⟩⟩⟩⟩⟩⟩⟩⟩⟩⟩⟩⟩⟩⟩⟩⟩⟩⟩⟩
set_option maxRecDepth 100000 in
set_option maxHeartbeats 4000000 in
theorem mokB_7 : mch_7.all mokB = true := by decide +kernel
set_option maxRecDepth 100000 in
set_option maxHeartbeats 4000000 in
theorem mtab_eq : mtab = mi_0 :: (mch_0 ++ mch_1 ++ mch_2 ++ mch_3 ++ mch_4 ++ mch_5 ++ mch_6 ++ mch_7) := rfl
def ftab_0 : List (Nat × Nat × Nat × Nat × Nat) := [(0, 9, 0, 0, 1031), (0, 15, 0, 1, 1036), (0, 18, 0, 2, 1041), (0, 22, 0, 3, 1045), (0, 25, 0, 4, 1047), (0, 28, 0, 5, 1048), (0, 31, 0, 6, 1052), (0, 34, 0, 7, 1056), (0, 37, 0, 8, 1059), (0, 40, 0, 9, 1062), (0, 43, 0, 10, 1066), (0, 46, 0, 11, 1068), (0, 49, 0, 12, 1071), (0, 52, 0, 13, 1074), (0, 55, 0, 14, 1075), (1, 12, 1, 0, 1145), (1, 18, 1, 1, 1146), (1, 22, 0, 1, 1037), (1, 38, 0, 0, 1032), (2, 9, 2, 0, 1114), (2, 15, 2, 1, 1115), (2, 18, 2, 2, 1116), (2, 21, 2, 3, 1117), (2, 24, 0, 1, 1038), (3, 9, 3, 0, 1133), (3, 15, 0, 3, 1046), (3, 21, 0, 6, 1053), (3, 24, 0, 12, 1072), (3, 31, 0, 0, 1033), (3, 42, 0, 1, 1039), (3, 54, 0, 9, 1063), (3, 76, 0, 2, 1043), (3, 85, 0, 11, 1070), (4, 9, 4, 0, 1193), (4, 15, 4, 1, 1194), (4, 19, 4, 2, 1195), (4, 22, 4, 3, 1196), (4, 25, 4, 4, 1197), (4, 97, 0, 5, 1051), (4, 104, 0, 6, 1055)]
set_option maxRecDepth 100000 in
set_option maxHeartbeats 4000000 in
theorem ftabW_0 : ∀ q ∈ ftab_0, ftokP q := List.forall_mem_cons.mpr ⟨⟨_, _, _, rfl, by decide, rfl⟩, List.forall_mem_cons.mpr ⟨⟨_, _, _, rfl, by decide, rfl⟩, List.forall_mem_cons.mpr ⟨⟨_, _, _, rfl, by decide, rfl⟩, List.forall_mem_cons.mpr ⟨⟨_, _, _, rfl, by decide, rfl⟩, List.forall_mem_cons.mpr ⟨⟨_, _, _, rfl, by decide, rfl⟩, List.forall_mem_cons.mpr ⟨⟨_, _, _, rfl, by decide, rfl⟩, List.forall_mem_cons.mpr ⟨⟨_, _, _, rfl, by decide, rfl⟩, List.forall_mem_cons.mpr ⟨⟨_, _, _, rfl, by decide, rfl⟩, List.forall_mem_cons.mpr ⟨⟨_, _, _, rfl, by decide, rfl⟩, List.forall_mem_cons.mpr ⟨⟨_, _, _, rfl, by decide, rfl⟩, List.forall_mem_cons.mpr ⟨⟨_, _, _, rfl, by decide, rfl⟩, List.forall_mem_cons.mpr ⟨⟨_, _, _, rfl, by decide, rfl⟩, List.forall_mem_cons.mpr ⟨⟨_, _, _, rfl, by decide, rfl⟩, List.forall_mem_cons.mpr ⟨⟨_, _, _, rfl, by decide, rfl⟩, List.forall_mem_cons.mpr ⟨⟨_, _, _, rfl, by decide, rfl⟩, List.forall_mem_cons.mpr ⟨⟨_, _, _, rfl, by decide, rfl⟩, List.forall_mem_cons.mpr ⟨⟨_, _, _, rfl, by decide, rfl⟩, List.forall_mem_cons.mpr ⟨⟨_, _, _, rfl, by decide, rfl⟩, List.forall_mem_cons.mpr ⟨⟨_, _, _, rfl, by decide, rfl⟩, List.forall_mem_cons.mpr ⟨⟨_, _, _, rfl, by decide, rfl⟩, List.forall_mem_cons.mpr ⟨⟨_, _, _, rfl, by decide, rfl⟩, List.forall_mem_cons.mpr ⟨⟨_, _, _, rfl, by decide, rfl⟩, List.forall_mem_cons.mpr ⟨⟨_, _, _, rfl, by decide, rfl⟩, List.forall_mem_cons.mpr ⟨⟨_, _, _, rfl, by decide, rfl⟩, List.forall_mem_cons.mpr ⟨⟨_, _, _, rfl, by decide, rfl⟩, List.forall_mem_cons.mpr ⟨⟨_, _, _, rfl, by decide, rfl⟩, List.forall_mem_cons.mpr ⟨⟨_, _, _, rfl, by decide, rfl⟩, List.forall_mem_cons.mpr ⟨⟨_, _, _, rfl, by decide, rfl⟩, List.forall_mem_cons.mpr ⟨⟨_, _, _, rfl, by decide, rfl⟩, List.forall_mem_cons.mpr ⟨⟨_, _, _, rfl, by decide, rfl⟩, List.forall_mem_cons.mpr ⟨⟨_, _, _, rfl, by decide, rfl⟩, List.forall_mem_cons.mpr ⟨⟨_, _, _, rfl, by decide, rfl⟩, List.forall_mem_cons.mpr ⟨⟨_, _, _, rfl, by decide, rfl⟩, List.forall_mem_cons.mpr ⟨⟨_, _, _, rfl, by decide, rfl⟩, List.forall_mem_cons.mpr ⟨⟨_, _, _, rfl, by decide, rfl⟩, List.forall_mem_cons.mpr ⟨⟨_, _, _, rfl, by decide, rfl⟩, List.forall_mem_cons.mpr ⟨⟨_, _, _, rfl, by decide, rfl⟩, List.forall_mem_cons.mpr ⟨⟨_, _, _, rfl, by decide, rfl⟩, List.forall_mem_cons.mpr ⟨⟨_, _, _, rfl, by decide, rfl⟩, List.forall_mem_cons.mpr ⟨⟨_, _, _, rfl, by decide, rfl⟩, fun _ h => absurd h List.not_mem_nil⟩⟩⟩⟩⟩⟩⟩⟩⟩⟩⟩⟩⟩⟩⟩⟩⟩⟩⟩⟩⟩⟩⟩⟩⟩⟩⟩⟩⟩⟩⟩⟩⟩⟩⟩⟩⟩⟩⟩⟩
def ftab_1 : List (Nat × Nat × Nat × Nat × Nat) := [(4, 111, 0, 9, 1065), (5, 9, 5, 0, 1159), (5, 15, 5, 1, 1160), (5, 18, 5, 2, 1161), (5, 21, 5, 3, 1162), (5, 25, 5, 4, 1163), (5, 28, 5, 5, 1164), (5, 31, 5, 6, 1165), (5, 34, 5, 7, 1166), (5, 37, 5, 8, 1167), (5, 47, 0, 0, 1034), (5, 71, 0, 5, 1050), (5, 74, 0, 11, 1069), (5, 81, 0, 10, 1067), (5, 84, 0, 7, 1058), (5, 87, 0, 8, 1061), (5, 90, 0, 12, 1073), (5, 93, 0, 2, 1044), (6, 10, 6, 0, 1209), (6, 16, 6, 1, 1210), (6, 19, 6, 2, 1211), (6, 22, 6, 3, 1212), (6, 29, 6, 4, 1213), (6, 36, 6, 5, 1214), (6, 43, 6, 6, 1215), (6, 50, 6, 7, 1216), (6, 57, 6, 8, 1217), (6, 61, 6, 9, 1218), (6, 65, 6, 10, 1219), (6, 69, 6, 11, 1220), (6, 72, 6, 12, 1221), (6, 121, 0, 5, 1049), (6, 128, 0, 6, 1054), (6, 131, 0, 2, 1042), (6, 137, 0, 7, 1057), (6, 140, 0, 8, 1060), (6, 150, 0, 9, 1064), (6, 253, 0, 1, 1040), (6, 283, 0, 0, 1035), (7, 9, 7, 0, 4153)]
set_option maxRecDepth 100000 in
set_option maxHeartbeats 4000000 in
theorem ftabW_1 : ∀ q ∈ ftab_1, ftokP q := List.forall_mem_cons.mpr ⟨⟨_, _, _, rfl, by decide, rfl⟩, List.forall_mem_cons.mpr ⟨⟨_, _, _, rfl, by decide, rfl⟩, List.forall_mem_cons.mpr ⟨⟨_, _, _, rfl, by decide, rfl⟩, List.forall_mem_cons.mpr ⟨⟨_, _, _, rfl, by decide, rfl⟩, List.forall_mem_cons.mpr ⟨⟨_, _, _, rfl, by decide, rfl⟩, List.forall_mem_cons.mpr ⟨⟨_, _, _, rfl, by decide, rfl⟩, List.forall_mem_cons.mpr ⟨⟨_, _, _, rfl, by decide, rfl⟩, List.forall_mem_cons.mpr ⟨⟨_, _, _, rfl, by decide, rfl⟩, List.forall_mem_cons.mpr ⟨⟨_, _, _, rfl, by decide, rfl⟩, List.forall_mem_cons.mpr ⟨⟨_, _, _, rfl, by decide, rfl⟩, List.forall_mem_cons.mpr ⟨⟨_, _, _, rfl, by decide, rfl⟩, List.forall_mem_cons.mpr ⟨⟨_, _, _, rfl, by decide, rfl⟩, List.forall_mem_cons.mpr ⟨⟨_, _, _, rfl, by decide, rfl⟩, List.forall_mem_cons.mpr ⟨⟨_, _, _, rfl, by decide, rfl⟩, List.forall_mem_cons.mpr ⟨⟨_, _, _, rfl, by decide, rfl⟩, List.forall_mem_cons.mpr ⟨⟨_, _, _, rfl, by decide, rfl⟩, List.forall_mem_cons.mpr ⟨⟨_, _, _, rfl, by decide, rfl⟩, List.forall_mem_cons.mpr ⟨⟨_, _, _, rfl, by decide, rfl⟩, List.forall_mem_cons.mpr ⟨⟨_, _, _, rfl, by decide, rfl⟩, List.forall_mem_cons.mpr ⟨⟨_, _, _, rfl, by decide, rfl⟩, List.forall_mem_cons.mpr ⟨⟨_, _, _, rfl, by decide, rfl⟩, List.forall_mem_cons.mpr ⟨⟨_, _, _, rfl, by decide, rfl⟩, List.forall_mem_cons.mpr ⟨⟨_, _, _, rfl, by decide, rfl⟩, List.forall_mem_cons.mpr ⟨⟨_, _, _, rfl, by decide, rfl⟩, List.forall_mem_cons.mpr ⟨⟨_, _, _, rfl, by decide, rfl⟩, List.forall_mem_cons.mpr ⟨⟨_, _, _, rfl, by decide, rfl⟩, List.forall_mem_cons.mpr ⟨⟨_, _, _, rfl, by decide, rfl⟩, List.forall_mem_cons.mpr ⟨⟨_, _, _, rfl, by decide, rfl⟩, List.forall_mem_cons.mpr ⟨⟨_, _, _, rfl, by decide, rfl⟩, List.forall_mem_cons.mpr ⟨⟨_, _, _, rfl, by decide, rfl⟩, List.forall_mem_cons.mpr ⟨⟨_, _, _, rfl, by decide, rfl⟩, List.forall_mem_cons.mpr ⟨⟨_, _, _, rfl, by decide, rfl⟩, List.forall_mem_cons.mpr ⟨⟨_, _, _, rfl, by decide, rfl⟩, List.forall_mem_cons.mpr ⟨⟨_, _, _, rfl, by decide, rfl⟩, List.forall_mem_cons.mpr ⟨⟨_, _, _, rfl, by decide, rfl⟩, List.forall_mem_cons.mpr ⟨⟨_, _, _, rfl, by decide, rfl⟩, List.forall_mem_cons.mpr ⟨⟨_, _, _, rfl, by decide, rfl⟩, List.forall_mem_cons.mpr ⟨⟨_, _, _, rfl, by decide, rfl⟩, List.forall_mem_cons.mpr ⟨⟨_, _, _, rfl, by decide, rfl⟩, List.forall_mem_cons.mpr ⟨⟨_, _, _, rfl, by decide, rfl⟩, fun _ h => absurd h List.not_mem_nil⟩⟩⟩⟩⟩⟩⟩⟩⟩⟩⟩⟩⟩⟩⟩⟩⟩⟩⟩⟩⟩⟩⟩⟩⟩⟩⟩⟩⟩⟩⟩⟩⟩⟩⟩⟩⟩⟩⟩⟩
def ftab_2 : List (Nat × Nat × Nat × Nat × Nat) := [(7, 13, 7, 1, 4154), (7, 16, 7, 2, 4155), (7, 19, 7, 4, 4157), (7, 22, 7, 5, 4158), (7, 25, 7, 7, 4160), (7, 28, 7, 9, 4162), (7, 31, 7, 13, 4166), (7, 34, 7, 16, 4169), (7, 37, 7, 19, 4172), (7, 40, 7, 21, 4174), (7, 43, 7, 22, 4175), (7, 46, 7, 23, 4176), (7, 49, 7, 25, 4178), (7, 52, 7, 26, 4179), (7, 55, 7, 27, 4180), (7, 105, 7, 10, 4163), (7, 109, 7, 11, 4164), (7, 112, 7, 12, 4165), (7, 121, 7, 14, 4167), (7, 143, 7, 15, 4168), (7, 167, 7, 8, 4161), (7, 170, 7, 18, 4171), (7, 174, 7, 17, 4170), (7, 188, 7, 20, 4173), (7, 271, 7, 24, 4177), (7, 274, 7, 28, 4181), (7, 277, 7, 29, 4182), (7, 327, 7, 6, 4159), (7, 338, 7, 30, 4183), (7, 347, 7, 3, 4156)]
set_option maxRecDepth 100000 in
set_option maxHeartbeats 4000000 in
theorem ftabW_2 : ∀ q ∈ ftab_2, ftokP q := List.forall_mem_cons.mpr ⟨⟨_, _, _, rfl, by decide, rfl⟩, List.forall_mem_cons.mpr ⟨⟨_, _, _, rfl, by decide, rfl⟩, List.forall_mem_cons.mpr ⟨⟨_, _, _, rfl, by decide, rfl⟩, List.forall_mem_cons.mpr ⟨⟨_, _, _, rfl, by decide, rfl⟩, List.forall_mem_cons.mpr ⟨⟨_, _, _, rfl, by decide, rfl⟩, List.forall_mem_cons.mpr ⟨⟨_, _, _, rfl, by decide, rfl⟩, List.forall_mem_cons.mpr ⟨⟨_, _, _, rfl, by decide, rfl⟩, List.forall_mem_cons.mpr ⟨⟨_, _, _, rfl, by decide, rfl⟩, List.forall_mem_cons.mpr ⟨⟨_, _, _, rfl, by decide, rfl⟩, List.forall_mem_cons.mpr ⟨⟨_, _, _, rfl, by decide, rfl⟩, List.forall_mem_cons.mpr ⟨⟨_, _, _, rfl, by decide, rfl⟩, List.forall_mem_cons.mpr ⟨⟨_, _, _, rfl, by decide, rfl⟩, List.forall_mem_cons.mpr ⟨⟨_, _, _, rfl, by decide, rfl⟩, List.forall_mem_cons.mpr ⟨⟨_, _, _, rfl, by decide, rfl⟩, List.forall_mem_cons.mpr ⟨⟨_, _, _, rfl, by decide, rfl⟩, List.forall_mem_cons.mpr ⟨⟨_, _, _, rfl, by decide, rfl⟩, List.forall_mem_cons.mpr ⟨⟨_, _, _, rfl, by decide, rfl⟩, List.forall_mem_cons.mpr ⟨⟨_, _, _, rfl, by decide, rfl⟩, List.forall_mem_cons.mpr ⟨⟨_, _, _, rfl, by decide, rfl⟩, List.forall_mem_cons.mpr ⟨⟨_, _, _, rfl, by decide, rfl⟩, List.forall_mem_cons.mpr ⟨⟨_, _, _, rfl, by decide, rfl⟩, List.forall_mem_cons.mpr ⟨⟨_, _, _, rfl, by decide, rfl⟩, List.forall_mem_cons.mpr ⟨⟨_, _, _, rfl, by decide, rfl⟩, List.forall_mem_cons.mpr ⟨⟨_, _, _, rfl, by decide, rfl⟩, List.forall_mem_cons.mpr ⟨⟨_, _, _, rfl, by decide, rfl⟩, List.forall_mem_cons.mpr ⟨⟨_, _, _, rfl, by decide, rfl⟩, List.forall_mem_cons.mpr ⟨⟨_, _, _, rfl, by decide, rfl⟩, List.forall_mem_cons.mpr ⟨⟨_, _, _, rfl, by decide, rfl⟩, List.forall_mem_cons.mpr ⟨⟨_, _, _, rfl, by decide, rfl⟩, List.forall_mem_cons.mpr ⟨⟨_, _, _, rfl, by decide, rfl⟩, fun _ h => absurd h List.not_mem_nil⟩⟩⟩⟩⟩⟩⟩⟩⟩⟩⟩⟩⟩⟩⟩⟩⟩⟩⟩⟩⟩⟩⟩⟩⟩⟩⟩⟩⟩⟩
def ftab : List (Nat × Nat × Nat × Nat × Nat) := ftab_0 ++ ftab_1 ++ ftab_2
theorem ftabW : ∀ q ∈ ftab, ftokP q := by
  intro q h
  unfold ftab at h
  simp only [List.mem_append] at h
  rcases h with (h | h) | h
  · exact ftabW_0 q h
  · exact ftabW_1 q h
  · exact ftabW_2 q h
def ctab_0 : List (Nat × Nat × Nat × Nat) := [(0, 64, 4, 2166), (0, 68, 3, 2139), (0, 72, 9, 2143), (0, 76, 5, 2230), (0, 79, 998, 2147), (0, 86, 997, 2239), (0, 89, 11, 3018), (0, 92, 10, 3035), (0, 95, 18, 4045), (1, 28, 245, 3177), (1, 34, 43, 3167), (1, 41, 38, 3171), (1, 45, 39, 3172), (2, 29, 13, 3031), (2, 33, 19, 3027), (2, 37, 12, 3048), (2, 41, 21, 3044), (2, 45, 997, 3069), (3, 27, 28, 3085), (3, 34, 5, 3078), (3, 38, 29, 3082), (3, 45, 30, 3079), (3, 48, 245, 3088), (3, 57, 31, 3116), (3, 60, 35, 3119), (3, 63, 36, 3122), (3, 66, 998, 3125), (3, 72, 38, 3134), (3, 79, 10, 3138), (3, 82, 13, 3139), (3, 88, 39, 3156), (4, 28, 61, 2028), (4, 32, 64, 2044), (4, 36, 65, 2124), (4, 40, 66, 2048), (4, 43, 71, 2128), (4, 47, 69, 2052), (4, 50, 67, 2056), (4, 54, 247, 2065), (4, 59, 246, 2069)]
set_option maxRecDepth 100000 in
set_option maxHeartbeats 4000000 in
theorem ctabW_0 : ∀ q ∈ ctab_0, ctokP q := List.forall_mem_cons.mpr ⟨rfl, List.forall_mem_cons.mpr ⟨rfl, List.forall_mem_cons.mpr ⟨rfl, List.forall_mem_cons.mpr ⟨rfl, List.forall_mem_cons.mpr ⟨rfl, List.forall_mem_cons.mpr ⟨rfl, List.forall_mem_cons.mpr ⟨rfl, List.forall_mem_cons.mpr ⟨rfl, List.forall_mem_cons.mpr ⟨rfl, List.forall_mem_cons.mpr ⟨rfl, List.forall_mem_cons.mpr ⟨rfl, List.forall_mem_cons.mpr ⟨rfl, List.forall_mem_cons.mpr ⟨rfl, List.forall_mem_cons.mpr ⟨rfl, List.forall_mem_cons.mpr ⟨rfl, List.forall_mem_cons.mpr ⟨rfl, List.forall_mem_cons.mpr ⟨rfl, List.forall_mem_cons.mpr ⟨rfl, List.forall_mem_cons.mpr ⟨rfl, List.forall_mem_cons.mpr ⟨rfl, List.forall_mem_cons.mpr ⟨rfl, List.forall_mem_cons.mpr ⟨rfl, List.forall_mem_cons.mpr ⟨rfl, List.forall_mem_cons.mpr ⟨rfl, List.forall_mem_cons.mpr ⟨rfl, List.forall_mem_cons.mpr ⟨rfl, List.forall_mem_cons.mpr ⟨rfl, List.forall_mem_cons.mpr ⟨rfl, List.forall_mem_cons.mpr ⟨rfl, List.forall_mem_cons.mpr ⟨rfl, List.forall_mem_cons.mpr ⟨rfl, List.forall_mem_cons.mpr ⟨rfl, List.forall_mem_cons.mpr ⟨rfl, List.forall_mem_cons.mpr ⟨rfl, List.forall_mem_cons.mpr ⟨rfl, List.forall_mem_cons.mpr ⟨rfl, List.forall_mem_cons.mpr ⟨rfl, List.forall_mem_cons.mpr ⟨rfl, List.forall_mem_cons.mpr ⟨rfl, List.forall_mem_cons.mpr ⟨rfl, fun _ h => absurd h List.not_mem_nil⟩⟩⟩⟩⟩⟩⟩⟩⟩⟩⟩⟩⟩⟩⟩⟩⟩⟩⟩⟩⟩⟩⟩⟩⟩⟩⟩⟩⟩⟩⟩⟩⟩⟩⟩⟩⟩⟩⟩⟩
def ctab_1 : List (Nat × Nat × Nat × Nat) := [(4, 61, 68, 2079), (4, 65, 248, 2086), (4, 81, 70, 2083), (4, 84, 1, 2132), (4, 90, 6, 2135), (4, 94, 4, 2151), (4, 100, 73, 2155), (4, 107, 72, 2158), (4, 114, 7, 2162), (4, 118, 9, 2161), (5, 40, 50, 3186), (5, 43, 51, 3190), (5, 52, 5, 3202), (5, 56, 54, 3203), (5, 60, 57, 3215), (5, 64, 53, 3194), (5, 68, 52, 3198), (5, 77, 55, 3207), (5, 96, 56, 3211), (5, 100, 58, 3219), (5, 104, 59, 3224), (5, 107, 29, 3223), (6, 75, 117, 2013), (6, 79, 61, 2016), (6, 83, 114, 2020), (6, 87, 62, 2024), (6, 90, 2, 2033), (6, 94, 63, 2040), (6, 98, 1, 2172), (6, 102, 3, 2173), (6, 103, 6, 2174), (6, 106, 120, 2179), (6, 109, 7, 2184), (6, 113, 5, 2185), (6, 117, 116, 2193), (6, 124, 123, 2196), (6, 134, 118, 2211), (6, 143, 9, 2214), (6, 147, 119, 2219), (6, 153, 8, 2226)]
set_option maxRecDepth 100000 in
set_option maxHeartbeats 4000000 in
theorem ctabW_1 : ∀ q ∈ ctab_1, ctokP q := List.forall_mem_cons.mpr ⟨rfl, List.forall_mem_cons.mpr ⟨rfl, List.forall_mem_cons.mpr ⟨rfl, List.forall_mem_cons.mpr ⟨rfl, List.forall_mem_cons.mpr ⟨rfl, List.forall_mem_cons.mpr ⟨rfl, List.forall_mem_cons.mpr ⟨rfl, List.forall_mem_cons.mpr ⟨rfl, List.forall_mem_cons.mpr ⟨rfl, List.forall_mem_cons.mpr ⟨rfl, List.forall_mem_cons.mpr ⟨rfl, List.forall_mem_cons.mpr ⟨rfl, List.forall_mem_cons.mpr ⟨rfl, List.forall_mem_cons.mpr ⟨rfl, List.forall_mem_cons.mpr ⟨rfl, List.forall_mem_cons.mpr ⟨rfl, List.forall_mem_cons.mpr ⟨rfl, List.forall_mem_cons.mpr ⟨rfl, List.forall_mem_cons.mpr ⟨rfl, List.forall_mem_cons.mpr ⟨rfl, List.forall_mem_cons.mpr ⟨rfl, List.forall_mem_cons.mpr ⟨rfl, List.forall_mem_cons.mpr ⟨rfl, List.forall_mem_cons.mpr ⟨rfl, List.forall_mem_cons.mpr ⟨rfl, List.forall_mem_cons.mpr ⟨rfl, List.forall_mem_cons.mpr ⟨rfl, List.forall_mem_cons.mpr ⟨rfl, List.forall_mem_cons.mpr ⟨rfl, List.forall_mem_cons.mpr ⟨rfl, List.forall_mem_cons.mpr ⟨rfl, List.forall_mem_cons.mpr ⟨rfl, List.forall_mem_cons.mpr ⟨rfl, List.forall_mem_cons.mpr ⟨rfl, List.forall_mem_cons.mpr ⟨rfl, List.forall_mem_cons.mpr ⟨rfl, List.forall_mem_cons.mpr ⟨rfl, List.forall_mem_cons.mpr ⟨rfl, List.forall_mem_cons.mpr ⟨rfl, List.forall_mem_cons.mpr ⟨rfl, fun _ h => absurd h List.not_mem_nil⟩⟩⟩⟩⟩⟩⟩⟩⟩⟩⟩⟩⟩⟩⟩⟩⟩⟩⟩⟩⟩⟩⟩⟩⟩⟩⟩⟩⟩⟩⟩⟩⟩⟩⟩⟩⟩⟩⟩⟩
def ctab_2 : List (Nat × Nat × Nat × Nat) := [(6, 156, 10, 2235), (6, 159, 11, 3006), (6, 162, 12, 3014), (6, 165, 20, 3023), (6, 168, 22, 3040), (6, 171, 23, 3049), (6, 175, 24, 3057), (6, 178, 25, 3065), (6, 182, 32, 3075), (6, 186, 33, 3098), (6, 189, 122, 3105), (6, 192, 34, 3113), (6, 195, 37, 3130), (6, 198, 27, 3144), (6, 202, 40, 3152), (6, 205, 42, 3163), (6, 208, 41, 3173), (6, 210, 49, 3182), (6, 214, 44, 3228), (6, 217, 45, 3236), (6, 220, 46, 4000), (6, 223, 47, 4008), (6, 226, 48, 4012), (6, 229, 121, 3109), (6, 232, 126, 4020), (6, 235, 115, 4036), (6, 239, 15, 4041), (6, 243, 16, 4051), (6, 247, 124, 4055), (6, 256, 127, 4068), (6, 260, 245, 4072), (6, 265, 128, 4073), (6, 268, 129, 4080), (6, 271, 130, 4088), (6, 274, 131, 4100), (6, 277, 133, 4117), (6, 280, 125, 4024), (6, 286, 14, 4139), (6, 289, 60, 4143), (6, 294, 4, 2183)]
set_option maxRecDepth 100000 in
set_option maxHeartbeats 4000000 in
theorem ctabW_2 : ∀ q ∈ ctab_2, ctokP q := List.forall_mem_cons.mpr ⟨rfl, List.forall_mem_cons.mpr ⟨rfl, List.forall_mem_cons.mpr ⟨rfl, List.forall_mem_cons.mpr ⟨rfl, List.forall_mem_cons.mpr ⟨rfl, List.forall_mem_cons.mpr ⟨rfl, List.forall_mem_cons.mpr ⟨rfl, List.forall_mem_cons.mpr ⟨rfl, List.forall_mem_cons.mpr ⟨rfl, List.forall_mem_cons.mpr ⟨rfl, List.forall_mem_cons.mpr ⟨rfl, List.forall_mem_cons.mpr ⟨rfl, List.forall_mem_cons.mpr ⟨rfl, List.forall_mem_cons.mpr ⟨rfl, List.forall_mem_cons.mpr ⟨rfl, List.forall_mem_cons.mpr ⟨rfl, List.forall_mem_cons.mpr ⟨rfl, List.forall_mem_cons.mpr ⟨rfl, List.forall_mem_cons.mpr ⟨rfl, List.forall_mem_cons.mpr ⟨rfl, List.forall_mem_cons.mpr ⟨rfl, List.forall_mem_cons.mpr ⟨rfl, List.forall_mem_cons.mpr ⟨rfl, List.forall_mem_cons.mpr ⟨rfl, List.forall_mem_cons.mpr ⟨rfl, List.forall_mem_cons.mpr ⟨rfl, List.forall_mem_cons.mpr ⟨rfl, List.forall_mem_cons.mpr ⟨rfl, List.forall_mem_cons.mpr ⟨rfl, List.forall_mem_cons.mpr ⟨rfl, List.forall_mem_cons.mpr ⟨rfl, List.forall_mem_cons.mpr ⟨rfl, List.forall_mem_cons.mpr ⟨rfl, List.forall_mem_cons.mpr ⟨rfl, List.forall_mem_cons.mpr ⟨rfl, List.forall_mem_cons.mpr ⟨rfl, List.forall_mem_cons.mpr ⟨rfl, List.forall_mem_cons.mpr ⟨rfl, List.forall_mem_cons.mpr ⟨rfl, List.forall_mem_cons.mpr ⟨rfl, fun _ h => absurd h List.not_mem_nil⟩⟩⟩⟩⟩⟩⟩⟩⟩⟩⟩⟩⟩⟩⟩⟩⟩⟩⟩⟩⟩⟩⟩⟩⟩⟩⟩⟩⟩⟩⟩⟩⟩⟩⟩⟩⟩⟩⟩⟩
def ctab_3 : List (Nat × Nat × Nat × Nat) := [(6, 297, 17, 4058), (6, 303, 26, 4084), (6, 307, 998, 4104), (6, 312, 132, 4105), (6, 315, 134, 4121), (7, 58, 137, 5056), (7, 62, 135, 5012), (7, 66, 998, 5139), (7, 72, 997, 5157), (7, 75, 144, 5131), (7, 79, 143, 5127), (7, 82, 146, 5153), (7, 85, 145, 5135), (7, 88, 141, 5174), (7, 92, 148, 5162), (7, 95, 147, 5149), (7, 98, 150, 5186), (7, 101, 151, 5182), (7, 115, 149, 5170), (7, 118, 152, 5194), (7, 124, 154, 5217), (7, 128, 155, 5213), (7, 132, 158, 5229), (7, 135, 142, 6017), (7, 139, 160, 6013), (7, 146, 157, 6009), (7, 149, 156, 6001), (7, 152, 162, 6005), (7, 155, 161, 6028), (7, 158, 164, 6044), (7, 161, 165, 6040), (7, 164, 167, 6055), (7, 164, 168, 6055), (7, 164, 169, 6055), (7, 164, 170, 6055), (7, 164, 171, 6055), (7, 164, 172, 6055), (7, 164, 173, 6055), (7, 177, 175, 5031), (7, 184, 176, 5038)]
set_option maxRecDepth 100000 in
set_option maxHeartbeats 4000000 in
theorem ctabW_3 : ∀ q ∈ ctab_3, ctokP q := List.forall_mem_cons.mpr ⟨rfl, List.forall_mem_cons.mpr ⟨rfl, List.forall_mem_cons.mpr ⟨rfl, List.forall_mem_cons.mpr ⟨rfl, List.forall_mem_cons.mpr ⟨rfl, List.forall_mem_cons.mpr ⟨rfl, List.forall_mem_cons.mpr ⟨rfl, List.forall_mem_cons.mpr ⟨rfl, List.forall_mem_cons.mpr ⟨rfl, List.forall_mem_cons.mpr ⟨rfl, List.forall_mem_cons.mpr ⟨rfl, List.forall_mem_cons.mpr ⟨rfl, List.forall_mem_cons.mpr ⟨rfl, List.forall_mem_cons.mpr ⟨rfl, List.forall_mem_cons.mpr ⟨rfl, List.forall_mem_cons.mpr ⟨rfl, List.forall_mem_cons.mpr ⟨rfl, List.forall_mem_cons.mpr ⟨rfl, List.forall_mem_cons.mpr ⟨rfl, List.forall_mem_cons.mpr ⟨rfl, List.forall_mem_cons.mpr ⟨rfl, List.forall_mem_cons.mpr ⟨rfl, List.forall_mem_cons.mpr ⟨rfl, List.forall_mem_cons.mpr ⟨rfl, List.forall_mem_cons.mpr ⟨rfl, List.forall_mem_cons.mpr ⟨rfl, List.forall_mem_cons.mpr ⟨rfl, List.forall_mem_cons.mpr ⟨rfl, List.forall_mem_cons.mpr ⟨rfl, List.forall_mem_cons.mpr ⟨rfl, List.forall_mem_cons.mpr ⟨rfl, List.forall_mem_cons.mpr ⟨rfl, List.forall_mem_cons.mpr ⟨rfl, List.forall_mem_cons.mpr ⟨rfl, List.forall_mem_cons.mpr ⟨rfl, List.forall_mem_cons.mpr ⟨rfl, List.forall_mem_cons.mpr ⟨rfl, List.forall_mem_cons.mpr ⟨rfl, List.forall_mem_cons.mpr ⟨rfl, List.forall_mem_cons.mpr ⟨rfl, fun _ h => absurd h List.not_mem_nil⟩⟩⟩⟩⟩⟩⟩⟩⟩⟩⟩⟩⟩⟩⟩⟩⟩⟩⟩⟩⟩⟩⟩⟩⟩⟩⟩⟩⟩⟩⟩⟩⟩⟩⟩⟩⟩⟩⟩⟩
def ctab_4 : List (Nat × Nat × Nat × Nat) := [(7, 191, 177, 5042), (7, 194, 179, 5035), (7, 197, 178, 5048), (7, 206, 182, 5063), (7, 209, 181, 5069), (7, 212, 140, 5073), (7, 215, 183, 5077), (7, 218, 180, 5027), (7, 221, 138, 5052), (7, 224, 184, 5059), (7, 227, 139, 5081), (7, 232, 136, 5015), (7, 235, 185, 5023), (7, 238, 190, 5097), (7, 248, 195, 5119), (7, 253, 198, 5144), (7, 256, 206, 5210), (7, 259, 159, 5225), (7, 262, 209, 5237), (7, 265, 163, 6024), (7, 268, 174, 6052), (7, 280, 216, 6079), (7, 284, 218, 6087), (7, 287, 215, 6071), (7, 290, 217, 6075), (7, 293, 219, 6083), (7, 296, 221, 6063), (7, 301, 220, 6067), (7, 304, 153, 6103), (7, 308, 166, 6111), (7, 311, 227, 6124), (7, 317, 229, 6120), (7, 321, 228, 6127), (7, 330, 233, 6143), (7, 335, 236, 6156), (7, 344, 239, 6168), (7, 350, 243, 6187), (8, 7, 17, 4048), (12, 13, 74, 2009), (12, 17, 186, 5007)]
set_option maxRecDepth 100000 in
set_option maxHeartbeats 4000000 in
theorem ctabW_4 : ∀ q ∈ ctab_4, ctokP q := List.forall_mem_cons.mpr ⟨rfl, List.forall_mem_cons.mpr ⟨rfl, List.forall_mem_cons.mpr ⟨rfl, List.forall_mem_cons.mpr ⟨rfl, List.forall_mem_cons.mpr ⟨rfl, List.forall_mem_cons.mpr ⟨rfl, List.forall_mem_cons.mpr ⟨rfl, List.forall_mem_cons.mpr ⟨rfl, List.forall_mem_cons.mpr ⟨rfl, List.forall_mem_cons.mpr ⟨rfl, List.forall_mem_cons.mpr ⟨rfl, List.forall_mem_cons.mpr ⟨rfl, List.forall_mem_cons.mpr ⟨rfl, List.forall_mem_cons.mpr ⟨rfl, List.forall_mem_cons.mpr ⟨rfl, List.forall_mem_cons.mpr ⟨rfl, List.forall_mem_cons.mpr ⟨rfl, List.forall_mem_cons.mpr ⟨rfl, List.forall_mem_cons.mpr ⟨rfl, List.forall_mem_cons.mpr ⟨rfl, List.forall_mem_cons.mpr ⟨rfl, List.forall_mem_cons.mpr ⟨rfl, List.forall_mem_cons.mpr ⟨rfl, List.forall_mem_cons.mpr ⟨rfl, List.forall_mem_cons.mpr ⟨rfl, List.forall_mem_cons.mpr ⟨rfl, List.forall_mem_cons.mpr ⟨rfl, List.forall_mem_cons.mpr ⟨rfl, List.forall_mem_cons.mpr ⟨rfl, List.forall_mem_cons.mpr ⟨rfl, List.forall_mem_cons.mpr ⟨rfl, List.forall_mem_cons.mpr ⟨rfl, List.forall_mem_cons.mpr ⟨rfl, List.forall_mem_cons.mpr ⟨rfl, List.forall_mem_cons.mpr ⟨rfl, List.forall_mem_cons.mpr ⟨rfl, List.forall_mem_cons.mpr ⟨rfl, List.forall_mem_cons.mpr ⟨rfl, List.forall_mem_cons.mpr ⟨rfl, List.forall_mem_cons.mpr ⟨rfl, fun _ h => absurd h List.not_mem_nil⟩⟩⟩⟩⟩⟩⟩⟩⟩⟩⟩⟩⟩⟩⟩⟩⟩⟩⟩⟩⟩⟩⟩⟩⟩⟩⟩⟩⟩⟩⟩⟩⟩⟩⟩⟩⟩⟩⟩⟩
def ctab_5 : List (Nat × Nat × Nat × Nat) := [(12, 18, 75, 2029), (12, 22, 187, 5019), (12, 23, 76, 2168), (12, 27, 188, 5085), (12, 28, 77, 2175), (12, 31, 189, 5089), (12, 32, 78, 2189), (12, 36, 191, 5093), (12, 37, 79, 2199), (12, 40, 192, 5101), (12, 41, 80, 2203), (12, 44, 193, 5105), (12, 45, 81, 2207), (12, 48, 194, 5109), (12, 49, 82, 2215), (12, 52, 196, 5115), (12, 53, 83, 2222), (12, 56, 197, 5123), (12, 57, 84, 2231), (12, 60, 199, 5140), (12, 61, 85, 3002), (12, 64, 200, 5158), (12, 65, 86, 3010), (12, 68, 201, 5166), (12, 69, 87, 3019), (12, 72, 202, 5178), (12, 73, 88, 3036), (12, 76, 203, 5190), (12, 77, 89, 3053), (12, 80, 204, 5198), (12, 81, 90, 3061), (12, 84, 205, 5202), (12, 85, 91, 3070), (12, 88, 207, 5206), (12, 89, 92, 3094), (12, 92, 208, 5221), (12, 93, 93, 3101), (12, 96, 210, 5233), (12, 97, 94, 3126), (12, 100, 211, 6020)]
set_option maxRecDepth 100000 in
set_option maxHeartbeats 4000000 in
theorem ctabW_5 : ∀ q ∈ ctab_5, ctokP q := List.forall_mem_cons.mpr ⟨rfl, List.forall_mem_cons.mpr ⟨rfl, List.forall_mem_cons.mpr ⟨rfl, List.forall_mem_cons.mpr ⟨rfl, List.forall_mem_cons.mpr ⟨rfl, List.forall_mem_cons.mpr ⟨rfl, List.forall_mem_cons.mpr ⟨rfl, List.forall_mem_cons.mpr ⟨rfl, List.forall_mem_cons.mpr ⟨rfl, List.forall_mem_cons.mpr ⟨rfl, List.forall_mem_cons.mpr ⟨rfl, List.forall_mem_cons.mpr ⟨rfl, List.forall_mem_cons.mpr ⟨rfl, List.forall_mem_cons.mpr ⟨rfl, List.forall_mem_cons.mpr ⟨rfl, List.forall_mem_cons.mpr ⟨rfl, List.forall_mem_cons.mpr ⟨rfl, List.forall_mem_cons.mpr ⟨rfl, List.forall_mem_cons.mpr ⟨rfl, List.forall_mem_cons.mpr ⟨rfl, List.forall_mem_cons.mpr ⟨rfl, List.forall_mem_cons.mpr ⟨rfl, List.forall_mem_cons.mpr ⟨rfl, List.forall_mem_cons.mpr ⟨rfl, List.forall_mem_cons.mpr ⟨rfl, List.forall_mem_cons.mpr ⟨rfl, List.forall_mem_cons.mpr ⟨rfl, List.forall_mem_cons.mpr ⟨rfl, List.forall_mem_cons.mpr ⟨rfl, List.forall_mem_cons.mpr ⟨rfl, List.forall_mem_cons.mpr ⟨rfl, List.forall_mem_cons.mpr ⟨rfl, List.forall_mem_cons.mpr ⟨rfl, List.forall_mem_cons.mpr ⟨rfl, List.forall_mem_cons.mpr ⟨rfl, List.forall_mem_cons.mpr ⟨rfl, List.forall_mem_cons.mpr ⟨rfl, List.forall_mem_cons.mpr ⟨rfl, List.forall_mem_cons.mpr ⟨rfl, List.forall_mem_cons.mpr ⟨rfl, fun _ h => absurd h List.not_mem_nil⟩⟩⟩⟩⟩⟩⟩⟩⟩⟩⟩⟩⟩⟩⟩⟩⟩⟩⟩⟩⟩⟩⟩⟩⟩⟩⟩⟩⟩⟩⟩⟩⟩⟩⟩⟩⟩⟩⟩⟩
def ctab_6 : List (Nat × Nat × Nat × Nat) := [(12, 101, 95, 3140), (12, 104, 212, 6032), (12, 105, 96, 3148), (12, 108, 213, 6036), (12, 109, 97, 3159), (12, 112, 214, 6048), (12, 113, 98, 3178), (12, 116, 222, 6059), (12, 117, 99, 3232), (12, 120, 223, 6091), (12, 121, 100, 4004), (12, 124, 224, 6095), (12, 125, 101, 4016), (12, 128, 225, 6099), (12, 129, 102, 4028), (12, 132, 226, 6107), (12, 133, 103, 4032), (12, 137, 230, 6115), (12, 138, 104, 4059), (12, 141, 231, 6130), (12, 142, 105, 4064), (12, 146, 232, 6135), (12, 147, 106, 4076), (12, 150, 234, 6139), (12, 151, 107, 4092), (12, 154, 235, 6147), (12, 155, 108, 4096), (12, 158, 237, 6152), (12, 159, 109, 4109), (12, 162, 238, 6160), (12, 163, 110, 4113), (12, 166, 240, 6164), (12, 167, 111, 4127), (12, 170, 241, 6175), (12, 171, 112, 4131), (12, 174, 242, 6179), (12, 175, 113, 4135), (12, 178, 244, 6183)]
set_option maxRecDepth 100000 in
set_option maxHeartbeats 4000000 in
theorem ctabW_6 : ∀ q ∈ ctab_6, ctokP q := List.forall_mem_cons.mpr ⟨rfl, List.forall_mem_cons.mpr ⟨rfl, List.forall_mem_cons.mpr ⟨rfl, List.forall_mem_cons.mpr ⟨rfl, List.forall_mem_cons.mpr ⟨rfl, List.forall_mem_cons.mpr ⟨rfl, List.forall_mem_cons.mpr ⟨rfl, List.forall_mem_cons.mpr ⟨rfl, List.forall_mem_cons.mpr ⟨rfl, List.forall_mem_cons.mpr ⟨rfl, List.forall_mem_cons.mpr ⟨rfl, List.forall_mem_cons.mpr ⟨rfl, List.forall_mem_cons.mpr ⟨rfl, List.forall_mem_cons.mpr ⟨rfl, List.forall_mem_cons.mpr ⟨rfl, List.forall_mem_cons.mpr ⟨rfl, List.forall_mem_cons.mpr ⟨rfl, List.forall_mem_cons.mpr ⟨rfl, List.forall_mem_cons.mpr ⟨rfl, List.forall_mem_cons.mpr ⟨rfl, List.forall_mem_cons.mpr ⟨rfl, List.forall_mem_cons.mpr ⟨rfl, List.forall_mem_cons.mpr ⟨rfl, List.forall_mem_cons.mpr ⟨rfl, List.forall_mem_cons.mpr ⟨rfl, List.forall_mem_cons.mpr ⟨rfl, List.forall_mem_cons.mpr ⟨rfl, List.forall_mem_cons.mpr ⟨rfl, List.forall_mem_cons.mpr ⟨rfl, List.forall_mem_cons.mpr ⟨rfl, List.forall_mem_cons.mpr ⟨rfl, List.forall_mem_cons.mpr ⟨rfl, List.forall_mem_cons.mpr ⟨rfl, List.forall_mem_cons.mpr ⟨rfl, List.forall_mem_cons.mpr ⟨rfl, List.forall_mem_cons.mpr ⟨rfl, List.forall_mem_cons.mpr ⟨rfl, List.forall_mem_cons.mpr ⟨rfl, fun _ h => absurd h List.not_mem_nil⟩⟩⟩⟩⟩⟩⟩⟩⟩⟩⟩⟩⟩⟩⟩⟩⟩⟩⟩⟩⟩⟩⟩⟩⟩⟩⟩⟩⟩⟩⟩⟩⟩⟩⟩⟩⟩⟩
def ctab : List (Nat × Nat × Nat × Nat) := ctab_0 ++ ctab_1 ++ ctab_2 ++ ctab_3 ++ ctab_4 ++ ctab_5 ++ ctab_6
theorem ctabW : ∀ q ∈ ctab, ctokP q := by
  intro q h
  unfold ctab at h
  simp only [List.mem_append] at h
  rcases h with (((((h | h) | h) | h) | h) | h) | h
  · exact ctabW_0 q h
  · exact ctabW_1 q h
  · exact ctabW_2 q h
  · exact ctabW_3 q h
  · exact ctabW_4 q h
  · exact ctabW_5 q h
  · exact ctabW_6 q h
def ktab_0 : List (Nat × Nat × Int32 × Nat) := [(0, 85, 2147483647, 2150), (6, 181, 2147483647, 3074), (6, 318, 1664525, 4125), (6, 319, 1013904223, 4126), (7, 341, 1664525, 6172), (7, 342, 1013904223, 6173), (7, 343, 2147483647, 6174), (9, 265, 1431655765, 3091), (9, 266, 858993459, 3092), (9, 267, 252645135, 3093)]
set_option maxRecDepth 100000 in
set_option maxHeartbeats 4000000 in
theorem ktabW_0 : ∀ q ∈ ktab_0, ktokP q := List.forall_mem_cons.mpr ⟨rfl, List.forall_mem_cons.mpr ⟨rfl, List.forall_mem_cons.mpr ⟨rfl, List.forall_mem_cons.mpr ⟨rfl, List.forall_mem_cons.mpr ⟨rfl, List.forall_mem_cons.mpr ⟨rfl, List.forall_mem_cons.mpr ⟨rfl, List.forall_mem_cons.mpr ⟨rfl, List.forall_mem_cons.mpr ⟨rfl, List.forall_mem_cons.mpr ⟨rfl, fun _ h => absurd h List.not_mem_nil⟩⟩⟩⟩⟩⟩⟩⟩⟩⟩
def ktab : List (Nat × Nat × Int32 × Nat) := ktab_0
theorem ktabW : ∀ q ∈ ktab, ktokP q := ktabW_0
def ltab_0 : List (Nat × Nat × Int64 × Nat) := [(6, 251, 2147483647, 4063), (6, 292, 4000000000000000000, 4040), (7, 180, 48, 5046), (7, 182, 57, 5047), (7, 200, 20, 5066), (7, 202, 2, 5067), (7, 204, 60, 5068), (7, 230, 255, 5011), (7, 242, 5, 5113), (7, 244, 9, 5114), (7, 246, 3, 5122), (7, 251, 600, 5148), (7, 299, 59, 6066), (7, 315, 4000000000000000000, 6119), (7, 325, 2147483647, 6134), (7, 333, 99, 6151), (7, 353, 11, 6191), (7, 355, 16, 6192)]
set_option maxRecDepth 100000 in
set_option maxHeartbeats 4000000 in
theorem ltabW_0 : ∀ q ∈ ltab_0, ltokP q := List.forall_mem_cons.mpr ⟨rfl, List.forall_mem_cons.mpr ⟨rfl, List.forall_mem_cons.mpr ⟨rfl, List.forall_mem_cons.mpr ⟨rfl, List.forall_mem_cons.mpr ⟨rfl, List.forall_mem_cons.mpr ⟨rfl, List.forall_mem_cons.mpr ⟨rfl, List.forall_mem_cons.mpr ⟨rfl, List.forall_mem_cons.mpr ⟨rfl, List.forall_mem_cons.mpr ⟨rfl, List.forall_mem_cons.mpr ⟨rfl, List.forall_mem_cons.mpr ⟨rfl, List.forall_mem_cons.mpr ⟨rfl, List.forall_mem_cons.mpr ⟨rfl, List.forall_mem_cons.mpr ⟨rfl, List.forall_mem_cons.mpr ⟨rfl, List.forall_mem_cons.mpr ⟨rfl, List.forall_mem_cons.mpr ⟨rfl, fun _ h => absurd h List.not_mem_nil⟩⟩⟩⟩⟩⟩⟩⟩⟩⟩⟩⟩⟩⟩⟩⟩⟩⟩
def ltab : List (Nat × Nat × Int64 × Nat) := ltab_0
theorem ltabW : ∀ q ∈ ltab, ltokP q := ltabW_0
set_option maxRecDepth 100000 in
set_option maxHeartbeats 4000000 in
theorem cpy_ok : wdp (2037) = some (.methodLink RX0 58 arraycopyName) ∧ wdp (2039) = some (.native arraycopyName) ∧ wdp (2038) = some (.static arraycopyName) ∧ wdp (1009) = some (.initialized "java/lang/System") := ⟨rfl, rfl, rfl, rfl⟩
set_option maxRecDepth 100000 in
set_option maxHeartbeats 4000000 in
theorem max_ok : wdp (2148) = some (.static Lib.Math.max.name) ∧ wdp (1014) = some (.initialized "java/lang/Math") ∧ wdp (2149) = some (.code Lib.Math.max.name Lib.Math.max.code 2 (some .int)) := ⟨rfl, rfl, rfl⟩
set_option maxRecDepth 100000 in
set_option maxHeartbeats 4000000 in
theorem min_ok : wdp (3000) = some (.static Lib.Math.min.name) ∧ wdp (1014) = some (.initialized "java/lang/Math") ∧ wdp (3001) = some (.code Lib.Math.min.name Lib.Math.min.code 2 (some .int)) := ⟨rfl, rfl, rfl⟩
set_option maxRecDepth 100000 in
set_option maxHeartbeats 4000000 in
theorem inX_0 : u_ws RX0 TX0 15 = inP_0.filterMap (fun i => wdp i) := rfl
set_option maxRecDepth 100000 in
set_option maxHeartbeats 4000000 in
theorem inX_1 : u_ws RX1 TX1 2 = inP_1.filterMap (fun i => wdp i) := rfl
set_option maxRecDepth 100000 in
set_option maxHeartbeats 4000000 in
theorem inX_2 : u_ws RX3 TX3 4 = inP_2.filterMap (fun i => wdp i) := rfl
set_option maxRecDepth 100000 in
set_option maxHeartbeats 4000000 in
theorem inX_3 : u_ws RX4 TX4 1 = inP_3.filterMap (fun i => wdp i) := rfl
set_option maxRecDepth 100000 in
set_option maxHeartbeats 4000000 in
theorem inX_4 : u_ws RX5 TX5 5 = inP_4.filterMap (fun i => wdp i) := rfl
set_option maxRecDepth 100000 in
set_option maxHeartbeats 4000000 in
theorem inX_5 : u_ws RX6 TX6 9 = inP_5.filterMap (fun i => wdp i) := rfl
set_option maxRecDepth 100000 in
set_option maxHeartbeats 4000000 in
theorem inX_6 : u_ws RX7 TX7 13 = inP_6.filterMap (fun i => wdp i) := rfl
set_option maxRecDepth 100000 in
set_option maxHeartbeats 4000000 in
theorem inX_7 : u_ws RX8 TX8 31 = inP_7.filterMap (fun i => wdp i) := rfl
