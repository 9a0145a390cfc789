/-! THE CHECK, RUN, 2 -/
theorem ck_13 : ([10007, 10008, 10009, 10010, 11000, 11001, 11002, 11003, 11004, 11005] : List Nat).all ckM = true := by decide +kernel
theorem ck_14 : ([11006, 11007, 11008, 11009, 11010, 11011, 11012, 11013, 11014, 11015] : List Nat).all ckM = true := by decide +kernel
theorem ck_15 : ([11016, 11017, 11018, 11019, 11020, 11021, 11022, 11023, 11024, 11025] : List Nat).all ckM = true := by decide +kernel
theorem ck_16 : ([11026, 11027, 11028, 11029, 11030, 11031, 11032, 11033, 11034, 11035] : List Nat).all ckM = true := by decide +kernel
theorem ck_17 : ([11036, 11037, 11038, 11039, 11040, 11041, 11042, 11043, 11044, 11045] : List Nat).all ckM = true := by decide +kernel
theorem ck_18 : ([11046, 11047, 11048, 11049, 11050, 11051, 11052, 11053, 11054, 11055] : List Nat).all ckM = true := by decide +kernel
theorem ck_19 : ([11056, 11057, 11058, 11059, 11060, 11061, 11062, 11063, 11064, 11065] : List Nat).all ckM = true := by decide +kernel
theorem ck_20 : ([11066, 11067, 11068, 11069, 11070, 11071, 11072, 11073, 11074, 11075] : List Nat).all ckM = true := by decide +kernel
theorem ck_21 : ([11076, 11077, 11078, 11079, 11080, 11081, 11082, 11083, 11084, 11085] : List Nat).all ckM = true := by decide +kernel
theorem ck_22 : ([11086, 11087, 11088, 11089, 11090, 11091, 11092, 11093, 11094, 11095] : List Nat).all ckM = true := by decide +kernel
theorem ck_23 : ([11096, 11097, 11098, 11099, 11100, 11101, 11102, 11103, 11104, 11105] : List Nat).all ckM = true := by decide +kernel
theorem ck_24 : ([100001, 100002, 100003, 100004, 100005, 100006, 100007, 100008, 100009, 100010] : List Nat).all ckM = true := by decide +kernel
theorem ck_25 : ([100011] : List Nat).all ckM = true := by decide +kernel
set_option maxRecDepth 100000 in
theorem cw_0 : codeW 0 := List.mem_of_getElem? (i := 160) (by rfl)
set_option maxRecDepth 100000 in
theorem cw_1 : codeW 1 := List.mem_of_getElem? (i := 508) (by rfl)
set_option maxRecDepth 100000 in
theorem cw_2 : codeW 2 := List.mem_of_getElem? (i := 516) (by rfl)
set_option maxRecDepth 100000 in
theorem cw_3 : codeW 3 := List.mem_of_getElem? (i := 520) (by rfl)
set_option maxRecDepth 100000 in
theorem cw_4 : codeW 4 := List.mem_of_getElem? (i := 691) (by rfl)
set_option maxRecDepth 100000 in
theorem cw_5 : codeW 5 := List.mem_of_getElem? (i := 695) (by rfl)
set_option maxRecDepth 100000 in
theorem cw_6 : codeW 6 := List.mem_of_getElem? (i := 703) (by rfl)
set_option maxRecDepth 100000 in
theorem cw_7 : codeW 7 := List.mem_of_getElem? (i := 707) (by rfl)
set_option maxRecDepth 100000 in
theorem cw_8 : codeW 8 := List.mem_of_getElem? (i := 711) (by rfl)
set_option maxRecDepth 100000 in
theorem cw_9 : codeW 9 := List.mem_of_getElem? (i := 715) (by rfl)
set_option maxRecDepth 100000 in
theorem cw_10 : codeW 10 := List.mem_of_getElem? (i := 727) (by rfl)
set_option maxRecDepth 100000 in
theorem cw_11 : codeW 11 := List.mem_of_getElem? (i := 739) (by rfl)
set_option maxRecDepth 100000 in
theorem cw_12 : codeW 12 := List.mem_of_getElem? (i := 743) (by rfl)
set_option maxRecDepth 100000 in
theorem cw_13 : codeW 13 := List.mem_of_getElem? (i := 747) (by rfl)
set_option maxRecDepth 100000 in
theorem cw_14 : codeW 14 := List.mem_of_getElem? (i := 754) (by rfl)
set_option maxRecDepth 100000 in
theorem cw_15 : codeW 15 := List.mem_of_getElem? (i := 786) (by rfl)
set_option maxRecDepth 100000 in
theorem cw_16 : codeW 16 := List.mem_of_getElem? (i := 790) (by rfl)
set_option maxRecDepth 100000 in
theorem cw_17 : codeW 17 := List.mem_of_getElem? (i := 817) (by rfl)
set_option maxRecDepth 100000 in
theorem cw_18 : codeW 18 := List.mem_of_getElem? (i := 822) (by rfl)
set_option maxRecDepth 100000 in
theorem cw_19 : codeW 19 := List.mem_of_getElem? (i := 831) (by rfl)
set_option maxRecDepth 100000 in
theorem cw_20 : codeW 20 := List.mem_of_getElem? (i := 839) (by rfl)
set_option maxRecDepth 100000 in
theorem cw_21 : codeW 21 := List.mem_of_getElem? (i := 843) (by rfl)
set_option maxRecDepth 100000 in
theorem cw_22 : codeW 22 := List.mem_of_getElem? (i := 847) (by rfl)
set_option maxRecDepth 100000 in
theorem cw_23 : codeW 23 := List.mem_of_getElem? (i := 872) (by rfl)
set_option maxRecDepth 100000 in
theorem cw_24 : codeW 24 := List.mem_of_getElem? (i := 880) (by rfl)
set_option maxRecDepth 100000 in
theorem cw_25 : codeW 25 := List.mem_of_getElem? (i := 883) (by rfl)
set_option maxRecDepth 100000 in
theorem cw_26 : codeW 26 := List.mem_of_getElem? (i := 887) (by rfl)
set_option maxRecDepth 100000 in
theorem cw_27 : codeW 27 := List.mem_of_getElem? (i := 902) (by rfl)
set_option maxRecDepth 100000 in
theorem cw_28 : codeW 28 := List.mem_of_getElem? (i := 905) (by rfl)
set_option maxRecDepth 100000 in
theorem cw_29 : codeW 29 := List.mem_of_getElem? (i := 908) (by rfl)
set_option maxRecDepth 100000 in
theorem cw_30 : codeW 30 := List.mem_of_getElem? (i := 916) (by rfl)
set_option maxRecDepth 100000 in
theorem cw_31 : codeW 31 := List.mem_of_getElem? (i := 924) (by rfl)
set_option maxRecDepth 100000 in
theorem cw_32 : codeW 32 := List.mem_of_getElem? (i := 928) (by rfl)
set_option maxRecDepth 100000 in
theorem cw_33 : codeW 33 := List.mem_of_getElem? (i := 937) (by rfl)
set_option maxRecDepth 100000 in
theorem cw_34 : codeW 34 := List.mem_of_getElem? (i := 941) (by rfl)
set_option maxRecDepth 100000 in
theorem cw_35 : codeW 35 := List.mem_of_getElem? (i := 949) (by rfl)
set_option maxRecDepth 100000 in
theorem cw_36 : codeW 36 := List.mem_of_getElem? (i := 952) (by rfl)
set_option maxRecDepth 100000 in
theorem cw_37 : codeW 37 := List.mem_of_getElem? (i := 956) (by rfl)
set_option maxRecDepth 100000 in
theorem cw_38 : codeW 38 := List.mem_of_getElem? (i := 960) (by rfl)
set_option maxRecDepth 100000 in
theorem cw_39 : codeW 39 := List.mem_of_getElem? (i := 964) (by rfl)
set_option maxRecDepth 100000 in
theorem cw_40 : codeW 40 := List.mem_of_getElem? (i := 968) (by rfl)
set_option maxRecDepth 100000 in
theorem cw_41 : codeW 41 := List.mem_of_getElem? (i := 980) (by rfl)
set_option maxRecDepth 100000 in
theorem cw_42 : codeW 42 := List.mem_of_getElem? (i := 984) (by rfl)
set_option maxRecDepth 100000 in
theorem cw_43 : codeW 43 := List.mem_of_getElem? (i := 988) (by rfl)
set_option maxRecDepth 100000 in
theorem cw_44 : codeW 44 := List.mem_of_getElem? (i := 996) (by rfl)
set_option maxRecDepth 100000 in
theorem cw_45 : codeW 45 := List.mem_of_getElem? (i := 1003) (by rfl)
set_option maxRecDepth 100000 in
theorem cw_46 : codeW 46 := List.mem_of_getElem? (i := 1007) (by rfl)
set_option maxRecDepth 100000 in
theorem cw_47 : codeW 47 := List.mem_of_getElem? (i := 1013) (by rfl)
set_option maxRecDepth 100000 in
theorem cw_48 : codeW 48 := List.mem_of_getElem? (i := 1016) (by rfl)
set_option maxRecDepth 100000 in
theorem cw_49 : codeW 49 := List.mem_of_getElem? (i := 1021) (by rfl)
set_option maxRecDepth 100000 in
theorem cw_50 : codeW 50 := List.mem_of_getElem? (i := 1025) (by rfl)
set_option maxRecDepth 100000 in
theorem cw_51 : codeW 51 := List.mem_of_getElem? (i := 1029) (by rfl)
set_option maxRecDepth 100000 in
theorem cw_52 : codeW 52 := List.mem_of_getElem? (i := 1041) (by rfl)
set_option maxRecDepth 100000 in
theorem cw_53 : codeW 53 := List.mem_of_getElem? (i := 1045) (by rfl)
set_option maxRecDepth 100000 in
theorem cw_54 : codeW 54 := List.mem_of_getElem? (i := 1060) (by rfl)
set_option maxRecDepth 100000 in
theorem cw_55 : codeW 55 := List.mem_of_getElem? (i := 1064) (by rfl)
set_option maxRecDepth 100000 in
theorem cw_56 : codeW 56 := List.mem_of_getElem? (i := 1068) (by rfl)
set_option maxRecDepth 100000 in
theorem cw_57 : codeW 57 := List.mem_of_getElem? (i := 1072) (by rfl)
set_option maxRecDepth 100000 in
theorem cw_58 : codeW 58 := List.mem_of_getElem? (i := 1076) (by rfl)
set_option maxRecDepth 100000 in
theorem cw_59 : codeW 59 := List.mem_of_getElem? (i := 1080) (by rfl)
set_option maxRecDepth 100000 in
theorem cw_1000 : codeW 1000 := List.mem_of_getElem? (i := 232) (by rfl)
set_option maxRecDepth 100000 in
theorem cw_1001 : codeW 1001 := List.mem_of_getElem? (i := 297) (by rfl)
set_option maxRecDepth 100000 in
theorem cw_1002 : codeW 1002 := List.mem_of_getElem? (i := 679) (by rfl)
set_option maxRecDepth 100000 in
theorem cw_1003 : codeW 1003 := List.mem_of_getElem? (i := 699) (by rfl)
set_option maxRecDepth 100000 in
theorem cw_1004 : codeW 1004 := List.mem_of_getElem? (i := 723) (by rfl)
set_option maxRecDepth 100000 in
theorem cw_1005 : codeW 1005 := List.mem_of_getElem? (i := 735) (by rfl)
set_option maxRecDepth 100000 in
theorem cw_1006 : codeW 1006 := List.mem_of_getElem? (i := 751) (by rfl)
set_option maxRecDepth 100000 in
theorem cw_1007 : codeW 1007 := List.mem_of_getElem? (i := 802) (by rfl)
set_option maxRecDepth 100000 in
theorem cw_1008 : codeW 1008 := List.mem_of_getElem? (i := 1033) (by rfl)
set_option maxRecDepth 100000 in
theorem cw_1009 : codeW 1009 := List.mem_of_getElem? (i := 1037) (by rfl)
set_option maxRecDepth 100000 in
theorem cw_2000 : codeW 2000 := List.mem_of_getElem? (i := 439) (by rfl)
set_option maxRecDepth 100000 in
theorem cw_2001 : codeW 2001 := List.mem_of_getElem? (i := 912) (by rfl)
set_option maxRecDepth 100000 in
theorem cw_2002 : codeW 2002 := List.mem_of_getElem? (i := 920) (by rfl)
set_option maxRecDepth 100000 in
theorem cw_2003 : codeW 2003 := List.mem_of_getElem? (i := 1049) (by rfl)
set_option maxRecDepth 100000 in
theorem cw_2004 : codeW 2004 := List.mem_of_getElem? (i := 1053) (by rfl)
set_option maxRecDepth 100000 in
theorem cw_3000 : codeW 3000 := List.mem_of_getElem? (i := 240) (by rfl)
set_option maxRecDepth 100000 in
theorem cw_3001 : codeW 3001 := List.mem_of_getElem? (i := 687) (by rfl)
set_option maxRecDepth 100000 in
theorem cw_3002 : codeW 3002 := List.mem_of_getElem? (i := 835) (by rfl)
set_option maxRecDepth 100000 in
theorem cw_3003 : codeW 3003 := List.mem_of_getElem? (i := 851) (by rfl)
set_option maxRecDepth 100000 in
theorem cw_3004 : codeW 3004 := List.mem_of_getElem? (i := 856) (by rfl)
set_option maxRecDepth 100000 in
theorem cw_3005 : codeW 3005 := List.mem_of_getElem? (i := 860) (by rfl)
set_option maxRecDepth 100000 in
theorem cw_3006 : codeW 3006 := List.mem_of_getElem? (i := 992) (by rfl)
set_option maxRecDepth 100000 in
theorem cw_4000 : codeW 4000 := List.mem_of_getElem? (i := 184) (by rfl)
set_option maxRecDepth 100000 in
theorem cw_4001 : codeW 4001 := List.mem_of_getElem? (i := 524) (by rfl)
set_option maxRecDepth 100000 in
theorem cw_4002 : codeW 4002 := List.mem_of_getElem? (i := 528) (by rfl)
set_option maxRecDepth 100000 in
theorem cw_4003 : codeW 4003 := List.mem_of_getElem? (i := 535) (by rfl)
set_option maxRecDepth 100000 in
theorem cw_4004 : codeW 4004 := List.mem_of_getElem? (i := 542) (by rfl)
set_option maxRecDepth 100000 in
theorem cw_4005 : codeW 4005 := List.mem_of_getElem? (i := 545) (by rfl)
set_option maxRecDepth 100000 in
theorem cw_4006 : codeW 4006 := List.mem_of_getElem? (i := 549) (by rfl)
set_option maxRecDepth 100000 in
theorem cw_4007 : codeW 4007 := List.mem_of_getElem? (i := 553) (by rfl)
set_option maxRecDepth 100000 in
theorem cw_4008 : codeW 4008 := List.mem_of_getElem? (i := 558) (by rfl)
set_option maxRecDepth 100000 in
theorem cw_4009 : codeW 4009 := List.mem_of_getElem? (i := 618) (by rfl)
set_option maxRecDepth 100000 in
theorem cw_4010 : codeW 4010 := List.mem_of_getElem? (i := 622) (by rfl)
set_option maxRecDepth 100000 in
theorem cw_4011 : codeW 4011 := List.mem_of_getElem? (i := 626) (by rfl)
set_option maxRecDepth 100000 in
theorem cw_4012 : codeW 4012 := List.mem_of_getElem? (i := 632) (by rfl)
set_option maxRecDepth 100000 in
theorem cw_4013 : codeW 4013 := List.mem_of_getElem? (i := 636) (by rfl)
set_option maxRecDepth 100000 in
theorem cw_4014 : codeW 4014 := List.mem_of_getElem? (i := 642) (by rfl)
set_option maxRecDepth 100000 in
theorem cw_4015 : codeW 4015 := List.mem_of_getElem? (i := 646) (by rfl)
set_option maxRecDepth 100000 in
theorem cw_4016 : codeW 4016 := List.mem_of_getElem? (i := 650) (by rfl)
set_option maxRecDepth 100000 in
theorem cw_4017 : codeW 4017 := List.mem_of_getElem? (i := 654) (by rfl)
set_option maxRecDepth 100000 in
theorem cw_4018 : codeW 4018 := List.mem_of_getElem? (i := 658) (by rfl)
set_option maxRecDepth 100000 in
theorem cw_4019 : codeW 4019 := List.mem_of_getElem? (i := 666) (by rfl)
set_option maxRecDepth 100000 in
theorem cw_4020 : codeW 4020 := List.mem_of_getElem? (i := 670) (by rfl)
set_option maxRecDepth 100000 in
theorem cw_4021 : codeW 4021 := List.mem_of_getElem? (i := 675) (by rfl)
set_option maxRecDepth 100000 in
theorem cw_5000 : codeW 5000 := List.mem_of_getElem? (i := 407) (by rfl)
set_option maxRecDepth 100000 in
theorem cw_5001 : codeW 5001 := List.mem_of_getElem? (i := 809) (by rfl)
set_option maxRecDepth 100000 in
theorem cw_5002 : codeW 5002 := List.mem_of_getElem? (i := 813) (by rfl)
set_option maxRecDepth 100000 in
theorem cw_5003 : codeW 5003 := List.mem_of_getElem? (i := 864) (by rfl)
set_option maxRecDepth 100000 in
theorem cw_5004 : codeW 5004 := List.mem_of_getElem? (i := 868) (by rfl)
set_option maxRecDepth 100000 in
theorem cw_5005 : codeW 5005 := List.mem_of_getElem? (i := 876) (by rfl)
set_option maxRecDepth 100000 in
theorem cw_5006 : codeW 5006 := List.mem_of_getElem? (i := 945) (by rfl)
set_option maxRecDepth 100000 in
theorem cw_6000 : codeW 6000 := List.mem_of_getElem? (i := 452) (by rfl)
set_option maxRecDepth 100000 in
theorem cw_6001 : codeW 6001 := List.mem_of_getElem? (i := 719) (by rfl)
set_option maxRecDepth 100000 in
theorem cw_6002 : codeW 6002 := List.mem_of_getElem? (i := 731) (by rfl)
set_option maxRecDepth 100000 in
theorem cw_7000 : codeW 7000 := List.mem_of_getElem? (i := 360) (by rfl)
set_option maxRecDepth 100000 in
theorem cw_7001 : codeW 7001 := List.mem_of_getElem? (i := 762) (by rfl)
set_option maxRecDepth 100000 in
theorem cw_8000 : codeW 8000 := List.mem_of_getElem? (i := 168) (by rfl)
set_option maxRecDepth 100000 in
theorem cw_8001 : codeW 8001 := List.mem_of_getElem? (i := 512) (by rfl)
set_option maxRecDepth 100000 in
theorem cw_8002 : codeW 8002 := List.mem_of_getElem? (i := 539) (by rfl)
set_option maxRecDepth 100000 in
theorem cw_9000 : codeW 9000 := List.mem_of_getElem? (i := 263) (by rfl)
set_option maxRecDepth 100000 in
theorem cw_9001 : codeW 9001 := List.mem_of_getElem? (i := 683) (by rfl)
set_option maxRecDepth 100000 in
theorem cw_9002 : codeW 9002 := List.mem_of_getElem? (i := 778) (by rfl)
set_option maxRecDepth 100000 in
theorem cw_9003 : codeW 9003 := List.mem_of_getElem? (i := 798) (by rfl)
set_option maxRecDepth 100000 in
theorem cw_10000 : codeW 10000 := List.mem_of_getElem? (i := 354) (by rfl)
set_option maxRecDepth 100000 in
theorem cw_10001 : codeW 10001 := List.mem_of_getElem? (i := 758) (by rfl)
set_option maxRecDepth 100000 in
theorem cw_10002 : codeW 10002 := List.mem_of_getElem? (i := 766) (by rfl)
set_option maxRecDepth 100000 in
theorem cw_10003 : codeW 10003 := List.mem_of_getElem? (i := 770) (by rfl)
set_option maxRecDepth 100000 in
theorem cw_10004 : codeW 10004 := List.mem_of_getElem? (i := 774) (by rfl)
set_option maxRecDepth 100000 in
theorem cw_10005 : codeW 10005 := List.mem_of_getElem? (i := 783) (by rfl)
set_option maxRecDepth 100000 in
theorem cw_10006 : codeW 10006 := List.mem_of_getElem? (i := 794) (by rfl)
set_option maxRecDepth 100000 in
theorem cw_10007 : codeW 10007 := List.mem_of_getElem? (i := 826) (by rfl)
set_option maxRecDepth 100000 in
theorem cw_10008 : codeW 10008 := List.mem_of_getElem? (i := 932) (by rfl)
set_option maxRecDepth 100000 in
theorem cw_10009 : codeW 10009 := List.mem_of_getElem? (i := 896) (by rfl)
set_option maxRecDepth 100000 in
theorem cw_10010 : codeW 10010 := List.mem_of_getElem? (i := 892) (by rfl)
set_option maxRecDepth 100000 in
theorem cw_11000 : codeW 11000 := List.mem_of_getElem? (i := 1085) (by rfl)
set_option maxRecDepth 100000 in
theorem cw_11001 : codeW 11001 := List.mem_of_getElem? (i := 1090) (by rfl)
set_option maxRecDepth 100000 in
theorem cw_11002 : codeW 11002 := List.mem_of_getElem? (i := 1093) (by rfl)
set_option maxRecDepth 100000 in
theorem cw_11003 : codeW 11003 := List.mem_of_getElem? (i := 1096) (by rfl)
set_option maxRecDepth 100000 in
theorem cw_11004 : codeW 11004 := List.mem_of_getElem? (i := 1376) (by rfl)
set_option maxRecDepth 100000 in
theorem cw_11005 : codeW 11005 := List.mem_of_getElem? (i := 1380) (by rfl)
set_option maxRecDepth 100000 in
theorem cw_11006 : codeW 11006 := List.mem_of_getElem? (i := 1384) (by rfl)
set_option maxRecDepth 100000 in
theorem cw_11007 : codeW 11007 := List.mem_of_getElem? (i := 1388) (by rfl)
set_option maxRecDepth 100000 in
theorem cw_11008 : codeW 11008 := List.mem_of_getElem? (i := 1392) (by rfl)
set_option maxRecDepth 100000 in
theorem cw_11009 : codeW 11009 := List.mem_of_getElem? (i := 1396) (by rfl)
set_option maxRecDepth 100000 in
theorem cw_11010 : codeW 11010 := List.mem_of_getElem? (i := 1400) (by rfl)
set_option maxRecDepth 100000 in
theorem cw_11011 : codeW 11011 := List.mem_of_getElem? (i := 1403) (by rfl)
set_option maxRecDepth 100000 in
theorem cw_11012 : codeW 11012 := List.mem_of_getElem? (i := 1406) (by rfl)
set_option maxRecDepth 100000 in
theorem cw_11013 : codeW 11013 := List.mem_of_getElem? (i := 1410) (by rfl)
set_option maxRecDepth 100000 in
theorem cw_11014 : codeW 11014 := List.mem_of_getElem? (i := 1414) (by rfl)
set_option maxRecDepth 100000 in
theorem cw_11015 : codeW 11015 := List.mem_of_getElem? (i := 1418) (by rfl)
set_option maxRecDepth 100000 in
theorem cw_11016 : codeW 11016 := List.mem_of_getElem? (i := 1422) (by rfl)
set_option maxRecDepth 100000 in
theorem cw_11017 : codeW 11017 := List.mem_of_getElem? (i := 1426) (by rfl)
set_option maxRecDepth 100000 in
theorem cw_11018 : codeW 11018 := List.mem_of_getElem? (i := 1430) (by rfl)
set_option maxRecDepth 100000 in
theorem cw_11019 : codeW 11019 := List.mem_of_getElem? (i := 1434) (by rfl)
set_option maxRecDepth 100000 in
theorem cw_11020 : codeW 11020 := List.mem_of_getElem? (i := 1438) (by rfl)
set_option maxRecDepth 100000 in
theorem cw_11021 : codeW 11021 := List.mem_of_getElem? (i := 1442) (by rfl)
set_option maxRecDepth 100000 in
theorem cw_11022 : codeW 11022 := List.mem_of_getElem? (i := 1446) (by rfl)
set_option maxRecDepth 100000 in
theorem cw_11023 : codeW 11023 := List.mem_of_getElem? (i := 1450) (by rfl)
set_option maxRecDepth 100000 in
theorem cw_11024 : codeW 11024 := List.mem_of_getElem? (i := 1454) (by rfl)
set_option maxRecDepth 100000 in
theorem cw_11025 : codeW 11025 := List.mem_of_getElem? (i := 1458) (by rfl)
set_option maxRecDepth 100000 in
theorem cw_11026 : codeW 11026 := List.mem_of_getElem? (i := 1462) (by rfl)
set_option maxRecDepth 100000 in
theorem cw_11027 : codeW 11027 := List.mem_of_getElem? (i := 1466) (by rfl)
set_option maxRecDepth 100000 in
theorem cw_11028 : codeW 11028 := List.mem_of_getElem? (i := 1470) (by rfl)
set_option maxRecDepth 100000 in
theorem cw_11029 : codeW 11029 := List.mem_of_getElem? (i := 1474) (by rfl)
set_option maxRecDepth 100000 in
theorem cw_11030 : codeW 11030 := List.mem_of_getElem? (i := 1478) (by rfl)
set_option maxRecDepth 100000 in
theorem cw_11031 : codeW 11031 := List.mem_of_getElem? (i := 1481) (by rfl)
set_option maxRecDepth 100000 in
theorem cw_11032 : codeW 11032 := List.mem_of_getElem? (i := 1485) (by rfl)
set_option maxRecDepth 100000 in
theorem cw_11033 : codeW 11033 := List.mem_of_getElem? (i := 1489) (by rfl)
set_option maxRecDepth 100000 in
theorem cw_11034 : codeW 11034 := List.mem_of_getElem? (i := 1493) (by rfl)
set_option maxRecDepth 100000 in
theorem cw_11035 : codeW 11035 := List.mem_of_getElem? (i := 1497) (by rfl)
set_option maxRecDepth 100000 in
theorem cw_11036 : codeW 11036 := List.mem_of_getElem? (i := 1501) (by rfl)
set_option maxRecDepth 100000 in
theorem cw_11037 : codeW 11037 := List.mem_of_getElem? (i := 1504) (by rfl)
set_option maxRecDepth 100000 in
theorem cw_11038 : codeW 11038 := List.mem_of_getElem? (i := 1508) (by rfl)
set_option maxRecDepth 100000 in
theorem cw_11039 : codeW 11039 := List.mem_of_getElem? (i := 1512) (by rfl)
set_option maxRecDepth 100000 in
theorem cw_11040 : codeW 11040 := List.mem_of_getElem? (i := 1516) (by rfl)
set_option maxRecDepth 100000 in
theorem cw_11041 : codeW 11041 := List.mem_of_getElem? (i := 1520) (by rfl)
set_option maxRecDepth 100000 in
theorem cw_11042 : codeW 11042 := List.mem_of_getElem? (i := 1524) (by rfl)
set_option maxRecDepth 100000 in
theorem cw_11043 : codeW 11043 := List.mem_of_getElem? (i := 1528) (by rfl)
set_option maxRecDepth 100000 in
theorem cw_11044 : codeW 11044 := List.mem_of_getElem? (i := 1532) (by rfl)
set_option maxRecDepth 100000 in
theorem cw_11045 : codeW 11045 := List.mem_of_getElem? (i := 1536) (by rfl)
set_option maxRecDepth 100000 in
theorem cw_11046 : codeW 11046 := List.mem_of_getElem? (i := 1540) (by rfl)
set_option maxRecDepth 100000 in
theorem cw_11047 : codeW 11047 := List.mem_of_getElem? (i := 1544) (by rfl)
set_option maxRecDepth 100000 in
theorem cw_11048 : codeW 11048 := List.mem_of_getElem? (i := 1548) (by rfl)
set_option maxRecDepth 100000 in
theorem cw_11049 : codeW 11049 := List.mem_of_getElem? (i := 1552) (by rfl)
set_option maxRecDepth 100000 in
theorem cw_11050 : codeW 11050 := List.mem_of_getElem? (i := 1556) (by rfl)
set_option maxRecDepth 100000 in
theorem cw_11051 : codeW 11051 := List.mem_of_getElem? (i := 1560) (by rfl)
set_option maxRecDepth 100000 in
theorem cw_11052 : codeW 11052 := List.mem_of_getElem? (i := 1564) (by rfl)
set_option maxRecDepth 100000 in
theorem cw_11053 : codeW 11053 := List.mem_of_getElem? (i := 1568) (by rfl)
set_option maxRecDepth 100000 in
theorem cw_11054 : codeW 11054 := List.mem_of_getElem? (i := 1571) (by rfl)
set_option maxRecDepth 100000 in
theorem cw_11055 : codeW 11055 := List.mem_of_getElem? (i := 1577) (by rfl)
set_option maxRecDepth 100000 in
theorem cw_11056 : codeW 11056 := List.mem_of_getElem? (i := 1582) (by rfl)
set_option maxRecDepth 100000 in
theorem cw_11057 : codeW 11057 := List.mem_of_getElem? (i := 1586) (by rfl)
set_option maxRecDepth 100000 in
theorem cw_11058 : codeW 11058 := List.mem_of_getElem? (i := 1590) (by rfl)
set_option maxRecDepth 100000 in
theorem cw_11059 : codeW 11059 := List.mem_of_getElem? (i := 1594) (by rfl)
set_option maxRecDepth 100000 in
theorem cw_11060 : codeW 11060 := List.mem_of_getElem? (i := 1598) (by rfl)
set_option maxRecDepth 100000 in
theorem cw_11061 : codeW 11061 := List.mem_of_getElem? (i := 1602) (by rfl)
set_option maxRecDepth 100000 in
theorem cw_11062 : codeW 11062 := List.mem_of_getElem? (i := 1606) (by rfl)
set_option maxRecDepth 100000 in
theorem cw_11063 : codeW 11063 := List.mem_of_getElem? (i := 1610) (by rfl)
set_option maxRecDepth 100000 in
theorem cw_11064 : codeW 11064 := List.mem_of_getElem? (i := 1614) (by rfl)
set_option maxRecDepth 100000 in
theorem cw_11065 : codeW 11065 := List.mem_of_getElem? (i := 1618) (by rfl)
set_option maxRecDepth 100000 in
theorem cw_11066 : codeW 11066 := List.mem_of_getElem? (i := 1622) (by rfl)
set_option maxRecDepth 100000 in
theorem cw_11067 : codeW 11067 := List.mem_of_getElem? (i := 1626) (by rfl)
set_option maxRecDepth 100000 in
theorem cw_11068 : codeW 11068 := List.mem_of_getElem? (i := 1629) (by rfl)
set_option maxRecDepth 100000 in
theorem cw_11069 : codeW 11069 := List.mem_of_getElem? (i := 1633) (by rfl)
set_option maxRecDepth 100000 in
theorem cw_11070 : codeW 11070 := List.mem_of_getElem? (i := 1637) (by rfl)
set_option maxRecDepth 100000 in
theorem cw_11071 : codeW 11071 := List.mem_of_getElem? (i := 1641) (by rfl)
set_option maxRecDepth 100000 in
theorem cw_11072 : codeW 11072 := List.mem_of_getElem? (i := 1645) (by rfl)
set_option maxRecDepth 100000 in
theorem cw_11073 : codeW 11073 := List.mem_of_getElem? (i := 1649) (by rfl)
set_option maxRecDepth 100000 in
theorem cw_11074 : codeW 11074 := List.mem_of_getElem? (i := 1653) (by rfl)
set_option maxRecDepth 100000 in
theorem cw_11075 : codeW 11075 := List.mem_of_getElem? (i := 1657) (by rfl)
set_option maxRecDepth 100000 in
theorem cw_11076 : codeW 11076 := List.mem_of_getElem? (i := 1661) (by rfl)
set_option maxRecDepth 100000 in
theorem cw_11077 : codeW 11077 := List.mem_of_getElem? (i := 1665) (by rfl)
set_option maxRecDepth 100000 in
theorem cw_11078 : codeW 11078 := List.mem_of_getElem? (i := 1669) (by rfl)
set_option maxRecDepth 100000 in
theorem cw_11079 : codeW 11079 := List.mem_of_getElem? (i := 1672) (by rfl)
set_option maxRecDepth 100000 in
theorem cw_11080 : codeW 11080 := List.mem_of_getElem? (i := 1676) (by rfl)
set_option maxRecDepth 100000 in
theorem cw_11081 : codeW 11081 := List.mem_of_getElem? (i := 1680) (by rfl)
set_option maxRecDepth 100000 in
theorem cw_11082 : codeW 11082 := List.mem_of_getElem? (i := 1684) (by rfl)
set_option maxRecDepth 100000 in
theorem cw_11083 : codeW 11083 := List.mem_of_getElem? (i := 1688) (by rfl)
set_option maxRecDepth 100000 in
theorem cw_11084 : codeW 11084 := List.mem_of_getElem? (i := 1692) (by rfl)
set_option maxRecDepth 100000 in
theorem cw_11085 : codeW 11085 := List.mem_of_getElem? (i := 1696) (by rfl)
set_option maxRecDepth 100000 in
theorem cw_11086 : codeW 11086 := List.mem_of_getElem? (i := 1700) (by rfl)
set_option maxRecDepth 100000 in
theorem cw_11087 : codeW 11087 := List.mem_of_getElem? (i := 1704) (by rfl)
set_option maxRecDepth 100000 in
theorem cw_11088 : codeW 11088 := List.mem_of_getElem? (i := 1708) (by rfl)
set_option maxRecDepth 100000 in
theorem cw_11089 : codeW 11089 := List.mem_of_getElem? (i := 1712) (by rfl)
set_option maxRecDepth 100000 in
theorem cw_11090 : codeW 11090 := List.mem_of_getElem? (i := 1716) (by rfl)
set_option maxRecDepth 100000 in
theorem cw_11091 : codeW 11091 := List.mem_of_getElem? (i := 1720) (by rfl)
set_option maxRecDepth 100000 in
theorem cw_11092 : codeW 11092 := List.mem_of_getElem? (i := 1724) (by rfl)
set_option maxRecDepth 100000 in
theorem cw_11093 : codeW 11093 := List.mem_of_getElem? (i := 1728) (by rfl)
set_option maxRecDepth 100000 in
theorem cw_11094 : codeW 11094 := List.mem_of_getElem? (i := 1732) (by rfl)
set_option maxRecDepth 100000 in
theorem cw_11095 : codeW 11095 := List.mem_of_getElem? (i := 1736) (by rfl)
set_option maxRecDepth 100000 in
theorem cw_11096 : codeW 11096 := List.mem_of_getElem? (i := 1740) (by rfl)
set_option maxRecDepth 100000 in
theorem cw_11097 : codeW 11097 := List.mem_of_getElem? (i := 1744) (by rfl)
set_option maxRecDepth 100000 in
theorem cw_11098 : codeW 11098 := List.mem_of_getElem? (i := 1748) (by rfl)
set_option maxRecDepth 100000 in
theorem cw_11099 : codeW 11099 := List.mem_of_getElem? (i := 1752) (by rfl)
set_option maxRecDepth 100000 in
theorem cw_11100 : codeW 11100 := List.mem_of_getElem? (i := 1756) (by rfl)
set_option maxRecDepth 100000 in
theorem cw_11101 : codeW 11101 := List.mem_of_getElem? (i := 1760) (by rfl)
set_option maxRecDepth 100000 in
theorem cw_11102 : codeW 11102 := List.mem_of_getElem? (i := 1764) (by rfl)
set_option maxRecDepth 100000 in
theorem cw_11103 : codeW 11103 := List.mem_of_getElem? (i := 1768) (by rfl)
set_option maxRecDepth 100000 in
theorem cw_11104 : codeW 11104 := List.mem_of_getElem? (i := 1772) (by rfl)
set_option maxRecDepth 100000 in
theorem cw_11105 : codeW 11105 := List.mem_of_getElem? (i := 1776) (by rfl)
set_option maxRecDepth 100000 in
theorem cw_100001 : codeW 100001 := List.mem_of_getElem? (i := 562) (by rfl)
set_option maxRecDepth 100000 in
theorem cw_100002 : codeW 100002 := List.mem_of_getElem? (i := 566) (by rfl)
set_option maxRecDepth 100000 in
theorem cw_100003 : codeW 100003 := List.mem_of_getElem? (i := 572) (by rfl)
set_option maxRecDepth 100000 in
theorem cw_100004 : codeW 100004 := List.mem_of_getElem? (i := 576) (by rfl)
set_option maxRecDepth 100000 in
theorem cw_100005 : codeW 100005 := List.mem_of_getElem? (i := 582) (by rfl)
set_option maxRecDepth 100000 in
theorem cw_100006 : codeW 100006 := List.mem_of_getElem? (i := 579) (by rfl)
set_option maxRecDepth 100000 in
theorem cw_100007 : codeW 100007 := List.mem_of_getElem? (i := 587) (by rfl)
set_option maxRecDepth 100000 in
theorem cw_100008 : codeW 100008 := List.mem_of_getElem? (i := 531) (by rfl)
set_option maxRecDepth 100000 in
theorem cw_100009 : codeW 100009 := List.mem_of_getElem? (i := 972) (by rfl)
set_option maxRecDepth 100000 in
theorem cw_100010 : codeW 100010 := List.mem_of_getElem? (i := 999) (by rfl)
set_option maxRecDepth 100000 in
theorem cw_100011 : codeW 100011 := List.mem_of_getElem? (i := 1056) (by rfl)
theorem cwa_0 : ∀ j ∈ ([0, 1, 2, 3, 4, 5, 6, 7, 8, 9] : List Nat), codeW j := List.forall_mem_cons.mpr ⟨cw_0, List.forall_mem_cons.mpr ⟨cw_1, List.forall_mem_cons.mpr ⟨cw_2, List.forall_mem_cons.mpr ⟨cw_3, List.forall_mem_cons.mpr ⟨cw_4, List.forall_mem_cons.mpr ⟨cw_5, List.forall_mem_cons.mpr ⟨cw_6, List.forall_mem_cons.mpr ⟨cw_7, List.forall_mem_cons.mpr ⟨cw_8, List.forall_mem_cons.mpr ⟨cw_9, List.forall_mem_nil _⟩⟩⟩⟩⟩⟩⟩⟩⟩⟩
theorem cwa_1 : ∀ j ∈ ([10, 11, 12, 13, 14, 15, 16, 17, 18, 19] : List Nat), codeW j := List.forall_mem_cons.mpr ⟨cw_10, List.forall_mem_cons.mpr ⟨cw_11, List.forall_mem_cons.mpr ⟨cw_12, List.forall_mem_cons.mpr ⟨cw_13, List.forall_mem_cons.mpr ⟨cw_14, List.forall_mem_cons.mpr ⟨cw_15, List.forall_mem_cons.mpr ⟨cw_16, List.forall_mem_cons.mpr ⟨cw_17, List.forall_mem_cons.mpr ⟨cw_18, List.forall_mem_cons.mpr ⟨cw_19, List.forall_mem_nil _⟩⟩⟩⟩⟩⟩⟩⟩⟩⟩
theorem cwa_2 : ∀ j ∈ ([20, 21, 22, 23, 24, 25, 26, 27, 28, 29] : List Nat), codeW j := List.forall_mem_cons.mpr ⟨cw_20, List.forall_mem_cons.mpr ⟨cw_21, List.forall_mem_cons.mpr ⟨cw_22, List.forall_mem_cons.mpr ⟨cw_23, List.forall_mem_cons.mpr ⟨cw_24, List.forall_mem_cons.mpr ⟨cw_25, List.forall_mem_cons.mpr ⟨cw_26, List.forall_mem_cons.mpr ⟨cw_27, List.forall_mem_cons.mpr ⟨cw_28, List.forall_mem_cons.mpr ⟨cw_29, List.forall_mem_nil _⟩⟩⟩⟩⟩⟩⟩⟩⟩⟩
theorem cwa_3 : ∀ j ∈ ([30, 31, 32, 33, 34, 35, 36, 37, 38, 39] : List Nat), codeW j := List.forall_mem_cons.mpr ⟨cw_30, List.forall_mem_cons.mpr ⟨cw_31, List.forall_mem_cons.mpr ⟨cw_32, List.forall_mem_cons.mpr ⟨cw_33, List.forall_mem_cons.mpr ⟨cw_34, List.forall_mem_cons.mpr ⟨cw_35, List.forall_mem_cons.mpr ⟨cw_36, List.forall_mem_cons.mpr ⟨cw_37, List.forall_mem_cons.mpr ⟨cw_38, List.forall_mem_cons.mpr ⟨cw_39, List.forall_mem_nil _⟩⟩⟩⟩⟩⟩⟩⟩⟩⟩
theorem cwa_4 : ∀ j ∈ ([40, 41, 42, 43, 44, 45, 46, 47, 48, 49] : List Nat), codeW j := List.forall_mem_cons.mpr ⟨cw_40, List.forall_mem_cons.mpr ⟨cw_41, List.forall_mem_cons.mpr ⟨cw_42, List.forall_mem_cons.mpr ⟨cw_43, List.forall_mem_cons.mpr ⟨cw_44, List.forall_mem_cons.mpr ⟨cw_45, List.forall_mem_cons.mpr ⟨cw_46, List.forall_mem_cons.mpr ⟨cw_47, List.forall_mem_cons.mpr ⟨cw_48, List.forall_mem_cons.mpr ⟨cw_49, List.forall_mem_nil _⟩⟩⟩⟩⟩⟩⟩⟩⟩⟩
theorem cwa_5 : ∀ j ∈ ([50, 51, 52, 53, 54, 55, 56, 57, 58, 59] : List Nat), codeW j := List.forall_mem_cons.mpr ⟨cw_50, List.forall_mem_cons.mpr ⟨cw_51, List.forall_mem_cons.mpr ⟨cw_52, List.forall_mem_cons.mpr ⟨cw_53, List.forall_mem_cons.mpr ⟨cw_54, List.forall_mem_cons.mpr ⟨cw_55, List.forall_mem_cons.mpr ⟨cw_56, List.forall_mem_cons.mpr ⟨cw_57, List.forall_mem_cons.mpr ⟨cw_58, List.forall_mem_cons.mpr ⟨cw_59, List.forall_mem_nil _⟩⟩⟩⟩⟩⟩⟩⟩⟩⟩
theorem cwa_6 : ∀ j ∈ ([1000, 1001, 1002, 1003, 1004, 1005, 1006, 1007, 1008, 1009] : List Nat), codeW j := List.forall_mem_cons.mpr ⟨cw_1000, List.forall_mem_cons.mpr ⟨cw_1001, List.forall_mem_cons.mpr ⟨cw_1002, List.forall_mem_cons.mpr ⟨cw_1003, List.forall_mem_cons.mpr ⟨cw_1004, List.forall_mem_cons.mpr ⟨cw_1005, List.forall_mem_cons.mpr ⟨cw_1006, List.forall_mem_cons.mpr ⟨cw_1007, List.forall_mem_cons.mpr ⟨cw_1008, List.forall_mem_cons.mpr ⟨cw_1009, List.forall_mem_nil _⟩⟩⟩⟩⟩⟩⟩⟩⟩⟩
theorem cwa_7 : ∀ j ∈ ([2000, 2001, 2002, 2003, 2004, 3000, 3001, 3002, 3003, 3004] : List Nat), codeW j := List.forall_mem_cons.mpr ⟨cw_2000, List.forall_mem_cons.mpr ⟨cw_2001, List.forall_mem_cons.mpr ⟨cw_2002, List.forall_mem_cons.mpr ⟨cw_2003, List.forall_mem_cons.mpr ⟨cw_2004, List.forall_mem_cons.mpr ⟨cw_3000, List.forall_mem_cons.mpr ⟨cw_3001, List.forall_mem_cons.mpr ⟨cw_3002, List.forall_mem_cons.mpr ⟨cw_3003, List.forall_mem_cons.mpr ⟨cw_3004, List.forall_mem_nil _⟩⟩⟩⟩⟩⟩⟩⟩⟩⟩
theorem cwa_8 : ∀ j ∈ ([3005, 3006, 4000, 4001, 4002, 4003, 4004, 4005, 4006, 4007] : List Nat), codeW j := List.forall_mem_cons.mpr ⟨cw_3005, List.forall_mem_cons.mpr ⟨cw_3006, List.forall_mem_cons.mpr ⟨cw_4000, List.forall_mem_cons.mpr ⟨cw_4001, List.forall_mem_cons.mpr ⟨cw_4002, List.forall_mem_cons.mpr ⟨cw_4003, List.forall_mem_cons.mpr ⟨cw_4004, List.forall_mem_cons.mpr ⟨cw_4005, List.forall_mem_cons.mpr ⟨cw_4006, List.forall_mem_cons.mpr ⟨cw_4007, List.forall_mem_nil _⟩⟩⟩⟩⟩⟩⟩⟩⟩⟩
theorem cwa_9 : ∀ j ∈ ([4008, 4009, 4010, 4011, 4012, 4013, 4014, 4015, 4016, 4017] : List Nat), codeW j := List.forall_mem_cons.mpr ⟨cw_4008, List.forall_mem_cons.mpr ⟨cw_4009, List.forall_mem_cons.mpr ⟨cw_4010, List.forall_mem_cons.mpr ⟨cw_4011, List.forall_mem_cons.mpr ⟨cw_4012, List.forall_mem_cons.mpr ⟨cw_4013, List.forall_mem_cons.mpr ⟨cw_4014, List.forall_mem_cons.mpr ⟨cw_4015, List.forall_mem_cons.mpr ⟨cw_4016, List.forall_mem_cons.mpr ⟨cw_4017, List.forall_mem_nil _⟩⟩⟩⟩⟩⟩⟩⟩⟩⟩
theorem cwa_10 : ∀ j ∈ ([4018, 4019, 4020, 4021, 5000, 5001, 5002, 5003, 5004, 5005] : List Nat), codeW j := List.forall_mem_cons.mpr ⟨cw_4018, List.forall_mem_cons.mpr ⟨cw_4019, List.forall_mem_cons.mpr ⟨cw_4020, List.forall_mem_cons.mpr ⟨cw_4021, List.forall_mem_cons.mpr ⟨cw_5000, List.forall_mem_cons.mpr ⟨cw_5001, List.forall_mem_cons.mpr ⟨cw_5002, List.forall_mem_cons.mpr ⟨cw_5003, List.forall_mem_cons.mpr ⟨cw_5004, List.forall_mem_cons.mpr ⟨cw_5005, List.forall_mem_nil _⟩⟩⟩⟩⟩⟩⟩⟩⟩⟩
theorem cwa_11 : ∀ j ∈ ([5006, 6000, 6001, 6002, 7000, 7001, 8000, 8001, 8002, 9000] : List Nat), codeW j := List.forall_mem_cons.mpr ⟨cw_5006, List.forall_mem_cons.mpr ⟨cw_6000, List.forall_mem_cons.mpr ⟨cw_6001, List.forall_mem_cons.mpr ⟨cw_6002, List.forall_mem_cons.mpr ⟨cw_7000, List.forall_mem_cons.mpr ⟨cw_7001, List.forall_mem_cons.mpr ⟨cw_8000, List.forall_mem_cons.mpr ⟨cw_8001, List.forall_mem_cons.mpr ⟨cw_8002, List.forall_mem_cons.mpr ⟨cw_9000, List.forall_mem_nil _⟩⟩⟩⟩⟩⟩⟩⟩⟩⟩
theorem cwa_12 : ∀ j ∈ ([9001, 9002, 9003, 10000, 10001, 10002, 10003, 10004, 10005, 10006] : List Nat), codeW j := List.forall_mem_cons.mpr ⟨cw_9001, List.forall_mem_cons.mpr ⟨cw_9002, List.forall_mem_cons.mpr ⟨cw_9003, List.forall_mem_cons.mpr ⟨cw_10000, List.forall_mem_cons.mpr ⟨cw_10001, List.forall_mem_cons.mpr ⟨cw_10002, List.forall_mem_cons.mpr ⟨cw_10003, List.forall_mem_cons.mpr ⟨cw_10004, List.forall_mem_cons.mpr ⟨cw_10005, List.forall_mem_cons.mpr ⟨cw_10006, List.forall_mem_nil _⟩⟩⟩⟩⟩⟩⟩⟩⟩⟩
theorem cwa_13 : ∀ j ∈ ([10007, 10008, 10009, 10010, 11000, 11001, 11002, 11003, 11004, 11005] : List Nat), codeW j := List.forall_mem_cons.mpr ⟨cw_10007, List.forall_mem_cons.mpr ⟨cw_10008, List.forall_mem_cons.mpr ⟨cw_10009, List.forall_mem_cons.mpr ⟨cw_10010, List.forall_mem_cons.mpr ⟨cw_11000, List.forall_mem_cons.mpr ⟨cw_11001, List.forall_mem_cons.mpr ⟨cw_11002, List.forall_mem_cons.mpr ⟨cw_11003, List.forall_mem_cons.mpr ⟨cw_11004, List.forall_mem_cons.mpr ⟨cw_11005, List.forall_mem_nil _⟩⟩⟩⟩⟩⟩⟩⟩⟩⟩
theorem cwa_14 : ∀ j ∈ ([11006, 11007, 11008, 11009, 11010, 11011, 11012, 11013, 11014, 11015] : List Nat), codeW j := List.forall_mem_cons.mpr ⟨cw_11006, List.forall_mem_cons.mpr ⟨cw_11007, List.forall_mem_cons.mpr ⟨cw_11008, List.forall_mem_cons.mpr ⟨cw_11009, List.forall_mem_cons.mpr ⟨cw_11010, List.forall_mem_cons.mpr ⟨cw_11011, List.forall_mem_cons.mpr ⟨cw_11012, List.forall_mem_cons.mpr ⟨cw_11013, List.forall_mem_cons.mpr ⟨cw_11014, List.forall_mem_cons.mpr ⟨cw_11015, List.forall_mem_nil _⟩⟩⟩⟩⟩⟩⟩⟩⟩⟩
theorem cwa_15 : ∀ j ∈ ([11016, 11017, 11018, 11019, 11020, 11021, 11022, 11023, 11024, 11025] : List Nat), codeW j := List.forall_mem_cons.mpr ⟨cw_11016, List.forall_mem_cons.mpr ⟨cw_11017, List.forall_mem_cons.mpr ⟨cw_11018, List.forall_mem_cons.mpr ⟨cw_11019, List.forall_mem_cons.mpr ⟨cw_11020, List.forall_mem_cons.mpr ⟨cw_11021, List.forall_mem_cons.mpr ⟨cw_11022, List.forall_mem_cons.mpr ⟨cw_11023, List.forall_mem_cons.mpr ⟨cw_11024, List.forall_mem_cons.mpr ⟨cw_11025, List.forall_mem_nil _⟩⟩⟩⟩⟩⟩⟩⟩⟩⟩
theorem cwa_16 : ∀ j ∈ ([11026, 11027, 11028, 11029, 11030, 11031, 11032, 11033, 11034, 11035] : List Nat), codeW j := List.forall_mem_cons.mpr ⟨cw_11026, List.forall_mem_cons.mpr ⟨cw_11027, List.forall_mem_cons.mpr ⟨cw_11028, List.forall_mem_cons.mpr ⟨cw_11029, List.forall_mem_cons.mpr ⟨cw_11030, List.forall_mem_cons.mpr ⟨cw_11031, List.forall_mem_cons.mpr ⟨cw_11032, List.forall_mem_cons.mpr ⟨cw_11033, List.forall_mem_cons.mpr ⟨cw_11034, List.forall_mem_cons.mpr ⟨cw_11035, List.forall_mem_nil _⟩⟩⟩⟩⟩⟩⟩⟩⟩⟩
theorem cwa_17 : ∀ j ∈ ([11036, 11037, 11038, 11039, 11040, 11041, 11042, 11043, 11044, 11045] : List Nat), codeW j := List.forall_mem_cons.mpr ⟨cw_11036, List.forall_mem_cons.mpr ⟨cw_11037, List.forall_mem_cons.mpr ⟨cw_11038, List.forall_mem_cons.mpr ⟨cw_11039, List.forall_mem_cons.mpr ⟨cw_11040, List.forall_mem_cons.mpr ⟨cw_11041, List.forall_mem_cons.mpr ⟨cw_11042, List.forall_mem_cons.mpr ⟨cw_11043, List.forall_mem_cons.mpr ⟨cw_11044, List.forall_mem_cons.mpr ⟨cw_11045, List.forall_mem_nil _⟩⟩⟩⟩⟩⟩⟩⟩⟩⟩
theorem cwa_18 : ∀ j ∈ ([11046, 11047, 11048, 11049, 11050, 11051, 11052, 11053, 11054, 11055] : List Nat), codeW j := List.forall_mem_cons.mpr ⟨cw_11046, List.forall_mem_cons.mpr ⟨cw_11047, List.forall_mem_cons.mpr ⟨cw_11048, List.forall_mem_cons.mpr ⟨cw_11049, List.forall_mem_cons.mpr ⟨cw_11050, List.forall_mem_cons.mpr ⟨cw_11051, List.forall_mem_cons.mpr ⟨cw_11052, List.forall_mem_cons.mpr ⟨cw_11053, List.forall_mem_cons.mpr ⟨cw_11054, List.forall_mem_cons.mpr ⟨cw_11055, List.forall_mem_nil _⟩⟩⟩⟩⟩⟩⟩⟩⟩⟩
theorem cwa_19 : ∀ j ∈ ([11056, 11057, 11058, 11059, 11060, 11061, 11062, 11063, 11064, 11065] : List Nat), codeW j := List.forall_mem_cons.mpr ⟨cw_11056, List.forall_mem_cons.mpr ⟨cw_11057, List.forall_mem_cons.mpr ⟨cw_11058, List.forall_mem_cons.mpr ⟨cw_11059, List.forall_mem_cons.mpr ⟨cw_11060, List.forall_mem_cons.mpr ⟨cw_11061, List.forall_mem_cons.mpr ⟨cw_11062, List.forall_mem_cons.mpr ⟨cw_11063, List.forall_mem_cons.mpr ⟨cw_11064, List.forall_mem_cons.mpr ⟨cw_11065, List.forall_mem_nil _⟩⟩⟩⟩⟩⟩⟩⟩⟩⟩
theorem cwa_20 : ∀ j ∈ ([11066, 11067, 11068, 11069, 11070, 11071, 11072, 11073, 11074, 11075] : List Nat), codeW j := List.forall_mem_cons.mpr ⟨cw_11066, List.forall_mem_cons.mpr ⟨cw_11067, List.forall_mem_cons.mpr ⟨cw_11068, List.forall_mem_cons.mpr ⟨cw_11069, List.forall_mem_cons.mpr ⟨cw_11070, List.forall_mem_cons.mpr ⟨cw_11071, List.forall_mem_cons.mpr ⟨cw_11072, List.forall_mem_cons.mpr ⟨cw_11073, List.forall_mem_cons.mpr ⟨cw_11074, List.forall_mem_cons.mpr ⟨cw_11075, List.forall_mem_nil _⟩⟩⟩⟩⟩⟩⟩⟩⟩⟩
theorem cwa_21 : ∀ j ∈ ([11076, 11077, 11078, 11079, 11080, 11081, 11082, 11083, 11084, 11085] : List Nat), codeW j := List.forall_mem_cons.mpr ⟨cw_11076, List.forall_mem_cons.mpr ⟨cw_11077, List.forall_mem_cons.mpr ⟨cw_11078, List.forall_mem_cons.mpr ⟨cw_11079, List.forall_mem_cons.mpr ⟨cw_11080, List.forall_mem_cons.mpr ⟨cw_11081, List.forall_mem_cons.mpr ⟨cw_11082, List.forall_mem_cons.mpr ⟨cw_11083, List.forall_mem_cons.mpr ⟨cw_11084, List.forall_mem_cons.mpr ⟨cw_11085, List.forall_mem_nil _⟩⟩⟩⟩⟩⟩⟩⟩⟩⟩
theorem cwa_22 : ∀ j ∈ ([11086, 11087, 11088, 11089, 11090, 11091, 11092, 11093, 11094, 11095] : List Nat), codeW j := List.forall_mem_cons.mpr ⟨cw_11086, List.forall_mem_cons.mpr ⟨cw_11087, List.forall_mem_cons.mpr ⟨cw_11088, List.forall_mem_cons.mpr ⟨cw_11089, List.forall_mem_cons.mpr ⟨cw_11090, List.forall_mem_cons.mpr ⟨cw_11091, List.forall_mem_cons.mpr ⟨cw_11092, List.forall_mem_cons.mpr ⟨cw_11093, List.forall_mem_cons.mpr ⟨cw_11094, List.forall_mem_cons.mpr ⟨cw_11095, List.forall_mem_nil _⟩⟩⟩⟩⟩⟩⟩⟩⟩⟩
theorem cwa_23 : ∀ j ∈ ([11096, 11097, 11098, 11099, 11100, 11101, 11102, 11103, 11104, 11105] : List Nat), codeW j := List.forall_mem_cons.mpr ⟨cw_11096, List.forall_mem_cons.mpr ⟨cw_11097, List.forall_mem_cons.mpr ⟨cw_11098, List.forall_mem_cons.mpr ⟨cw_11099, List.forall_mem_cons.mpr ⟨cw_11100, List.forall_mem_cons.mpr ⟨cw_11101, List.forall_mem_cons.mpr ⟨cw_11102, List.forall_mem_cons.mpr ⟨cw_11103, List.forall_mem_cons.mpr ⟨cw_11104, List.forall_mem_cons.mpr ⟨cw_11105, List.forall_mem_nil _⟩⟩⟩⟩⟩⟩⟩⟩⟩⟩
theorem cwa_24 : ∀ j ∈ ([100001, 100002, 100003, 100004, 100005, 100006, 100007, 100008, 100009, 100010] : List Nat), codeW j := List.forall_mem_cons.mpr ⟨cw_100001, List.forall_mem_cons.mpr ⟨cw_100002, List.forall_mem_cons.mpr ⟨cw_100003, List.forall_mem_cons.mpr ⟨cw_100004, List.forall_mem_cons.mpr ⟨cw_100005, List.forall_mem_cons.mpr ⟨cw_100006, List.forall_mem_cons.mpr ⟨cw_100007, List.forall_mem_cons.mpr ⟨cw_100008, List.forall_mem_cons.mpr ⟨cw_100009, List.forall_mem_cons.mpr ⟨cw_100010, List.forall_mem_nil _⟩⟩⟩⟩⟩⟩⟩⟩⟩⟩
theorem cwa_25 : ∀ j ∈ ([100011] : List Nat), codeW j := List.forall_mem_cons.mpr ⟨cw_100011, List.forall_mem_nil _⟩
set_option maxRecDepth 100000 in
theorem ck_all : ∀ j ∈ allJ, ckM j = true := by
  have h : allJ = ([0, 1, 2, 3, 4, 5, 6, 7, 8, 9] : List Nat) ++ ([10, 11, 12, 13, 14, 15, 16, 17, 18, 19] : List Nat) ++ ([20, 21, 22, 23, 24, 25, 26, 27, 28, 29] : List Nat) ++ ([30, 31, 32, 33, 34, 35, 36, 37, 38, 39] : List Nat) ++ ([40, 41, 42, 43, 44, 45, 46, 47, 48, 49] : List Nat) ++ ([50, 51, 52, 53, 54, 55, 56, 57, 58, 59] : List Nat) ++ ([1000, 1001, 1002, 1003, 1004, 1005, 1006, 1007, 1008, 1009] : List Nat) ++ ([2000, 2001, 2002, 2003, 2004, 3000, 3001, 3002, 3003, 3004] : List Nat) ++ ([3005, 3006, 4000, 4001, 4002, 4003, 4004, 4005, 4006, 4007] : List Nat) ++ ([4008, 4009, 4010, 4011, 4012, 4013, 4014, 4015, 4016, 4017] : List Nat) ++ ([4018, 4019, 4020, 4021, 5000, 5001, 5002, 5003, 5004, 5005] : List Nat) ++ ([5006, 6000, 6001, 6002, 7000, 7001, 8000, 8001, 8002, 9000] : List Nat) ++ ([9001, 9002, 9003, 10000, 10001, 10002, 10003, 10004, 10005, 10006] : List Nat) ++ ([10007, 10008, 10009, 10010, 11000, 11001, 11002, 11003, 11004, 11005] : List Nat) ++ ([11006, 11007, 11008, 11009, 11010, 11011, 11012, 11013, 11014, 11015] : List Nat) ++ ([11016, 11017, 11018, 11019, 11020, 11021, 11022, 11023, 11024, 11025] : List Nat) ++ ([11026, 11027, 11028, 11029, 11030, 11031, 11032, 11033, 11034, 11035] : List Nat) ++ ([11036, 11037, 11038, 11039, 11040, 11041, 11042, 11043, 11044, 11045] : List Nat) ++ ([11046, 11047, 11048, 11049, 11050, 11051, 11052, 11053, 11054, 11055] : List Nat) ++ ([11056, 11057, 11058, 11059, 11060, 11061, 11062, 11063, 11064, 11065] : List Nat) ++ ([11066, 11067, 11068, 11069, 11070, 11071, 11072, 11073, 11074, 11075] : List Nat) ++ ([11076, 11077, 11078, 11079, 11080, 11081, 11082, 11083, 11084, 11085] : List Nat) ++ ([11086, 11087, 11088, 11089, 11090, 11091, 11092, 11093, 11094, 11095] : List Nat) ++ ([11096, 11097, 11098, 11099, 11100, 11101, 11102, 11103, 11104, 11105] : List Nat) ++ ([100001, 100002, 100003, 100004, 100005, 100006, 100007, 100008, 100009, 100010] : List Nat) ++ ([100011] : List Nat) := rfl
  rw [h]
  simp only [List.forall_mem_append]
  exact ⟨⟨⟨⟨⟨⟨⟨⟨⟨⟨⟨⟨⟨⟨⟨⟨⟨⟨⟨⟨⟨⟨⟨⟨⟨List.all_eq_true.mp ck_0, List.all_eq_true.mp ck_1⟩, List.all_eq_true.mp ck_2⟩, List.all_eq_true.mp ck_3⟩, List.all_eq_true.mp ck_4⟩, List.all_eq_true.mp ck_5⟩, List.all_eq_true.mp ck_6⟩, List.all_eq_true.mp ck_7⟩, List.all_eq_true.mp ck_8⟩, List.all_eq_true.mp ck_9⟩, List.all_eq_true.mp ck_10⟩, List.all_eq_true.mp ck_11⟩, List.all_eq_true.mp ck_12⟩, List.all_eq_true.mp ck_13⟩, List.all_eq_true.mp ck_14⟩, List.all_eq_true.mp ck_15⟩, List.all_eq_true.mp ck_16⟩, List.all_eq_true.mp ck_17⟩, List.all_eq_true.mp ck_18⟩, List.all_eq_true.mp ck_19⟩, List.all_eq_true.mp ck_20⟩, List.all_eq_true.mp ck_21⟩, List.all_eq_true.mp ck_22⟩, List.all_eq_true.mp ck_23⟩, List.all_eq_true.mp ck_24⟩, List.all_eq_true.mp ck_25⟩
set_option maxRecDepth 100000 in
theorem cw_all : ∀ j ∈ allJ, codeW j := by
  have h : allJ = ([0, 1, 2, 3, 4, 5, 6, 7, 8, 9] : List Nat) ++ ([10, 11, 12, 13, 14, 15, 16, 17, 18, 19] : List Nat) ++ ([20, 21, 22, 23, 24, 25, 26, 27, 28, 29] : List Nat) ++ ([30, 31, 32, 33, 34, 35, 36, 37, 38, 39] : List Nat) ++ ([40, 41, 42, 43, 44, 45, 46, 47, 48, 49] : List Nat) ++ ([50, 51, 52, 53, 54, 55, 56, 57, 58, 59] : List Nat) ++ ([1000, 1001, 1002, 1003, 1004, 1005, 1006, 1007, 1008, 1009] : List Nat) ++ ([2000, 2001, 2002, 2003, 2004, 3000, 3001, 3002, 3003, 3004] : List Nat) ++ ([3005, 3006, 4000, 4001, 4002, 4003, 4004, 4005, 4006, 4007] : List Nat) ++ ([4008, 4009, 4010, 4011, 4012, 4013, 4014, 4015, 4016, 4017] : List Nat) ++ ([4018, 4019, 4020, 4021, 5000, 5001, 5002, 5003, 5004, 5005] : List Nat) ++ ([5006, 6000, 6001, 6002, 7000, 7001, 8000, 8001, 8002, 9000] : List Nat) ++ ([9001, 9002, 9003, 10000, 10001, 10002, 10003, 10004, 10005, 10006] : List Nat) ++ ([10007, 10008, 10009, 10010, 11000, 11001, 11002, 11003, 11004, 11005] : List Nat) ++ ([11006, 11007, 11008, 11009, 11010, 11011, 11012, 11013, 11014, 11015] : List Nat) ++ ([11016, 11017, 11018, 11019, 11020, 11021, 11022, 11023, 11024, 11025] : List Nat) ++ ([11026, 11027, 11028, 11029, 11030, 11031, 11032, 11033, 11034, 11035] : List Nat) ++ ([11036, 11037, 11038, 11039, 11040, 11041, 11042, 11043, 11044, 11045] : List Nat) ++ ([11046, 11047, 11048, 11049, 11050, 11051, 11052, 11053, 11054, 11055] : List Nat) ++ ([11056, 11057, 11058, 11059, 11060, 11061, 11062, 11063, 11064, 11065] : List Nat) ++ ([11066, 11067, 11068, 11069, 11070, 11071, 11072, 11073, 11074, 11075] : List Nat) ++ ([11076, 11077, 11078, 11079, 11080, 11081, 11082, 11083, 11084, 11085] : List Nat) ++ ([11086, 11087, 11088, 11089, 11090, 11091, 11092, 11093, 11094, 11095] : List Nat) ++ ([11096, 11097, 11098, 11099, 11100, 11101, 11102, 11103, 11104, 11105] : List Nat) ++ ([100001, 100002, 100003, 100004, 100005, 100006, 100007, 100008, 100009, 100010] : List Nat) ++ ([100011] : List Nat) := rfl
  rw [h]
  simp only [List.forall_mem_append]
  exact ⟨⟨⟨⟨⟨⟨⟨⟨⟨⟨⟨⟨⟨⟨⟨⟨⟨⟨⟨⟨⟨⟨⟨⟨⟨cwa_0, cwa_1⟩, cwa_2⟩, cwa_3⟩, cwa_4⟩, cwa_5⟩, cwa_6⟩, cwa_7⟩, cwa_8⟩, cwa_9⟩, cwa_10⟩, cwa_11⟩, cwa_12⟩, cwa_13⟩, cwa_14⟩, cwa_15⟩, cwa_16⟩, cwa_17⟩, cwa_18⟩, cwa_19⟩, cwa_20⟩, cwa_21⟩, cwa_22⟩, cwa_23⟩, cwa_24⟩, cwa_25⟩
