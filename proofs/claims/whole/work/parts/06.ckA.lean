/-! THE CHECK, RUN -/
theorem ck_0 : ([0, 1, 2, 3, 4, 5, 6, 7, 8, 9] : List Nat).all ckM = true := by decide +kernel
theorem ck_1 : ([10, 11, 12, 13, 14, 15, 16, 17, 18, 19] : List Nat).all ckM = true := by decide +kernel
theorem ck_2 : ([20, 21, 22, 23, 24, 25, 26, 27, 28, 29] : List Nat).all ckM = true := by decide +kernel
theorem ck_3 : ([30, 31, 32, 33, 34, 35, 36, 37, 38, 39] : List Nat).all ckM = true := by decide +kernel
theorem ck_4 : ([40, 41, 42, 43, 44, 45, 46, 47, 48, 49] : List Nat).all ckM = true := by decide +kernel
theorem ck_5 : ([50, 51, 52, 53, 54, 55, 56, 57, 58, 59] : List Nat).all ckM = true := by decide +kernel
theorem ck_6 : ([1000, 1001, 1002, 1003, 1004, 1005, 1006, 1007, 1008, 1009] : List Nat).all ckM = true := by decide +kernel
theorem ck_7 : ([2000, 2001, 2002, 2003, 2004, 3000, 3001, 3002, 3003, 3004] : List Nat).all ckM = true := by decide +kernel
theorem ck_8 : ([3005, 3006, 4000, 4001, 4002, 4003, 4004, 4005, 4006, 4007] : List Nat).all ckM = true := by decide +kernel
theorem ck_9 : ([4008, 4009, 4010, 4011, 4012, 4013, 4014, 4015, 4016, 4017] : List Nat).all ckM = true := by decide +kernel
theorem ck_10 : ([4018, 4019, 4020, 4021, 5000, 5001, 5002, 5003, 5004, 5005] : List Nat).all ckM = true := by decide +kernel
theorem ck_11 : ([5006, 6000, 6001, 6002, 7000, 7001, 8000, 8001, 8002, 9000] : List Nat).all ckM = true := by decide +kernel
theorem ck_12 : ([9001, 9002, 9003, 10000, 10001, 10002, 10003, 10004, 10005, 10006] : List Nat).all ckM = true := by decide +kernel
