theorem okC_0 : ([0, 1, 2, 3, 4, 5] : List Nat).all okC = true := by decide +kernel
theorem okC_1 : ([6, 7, 8, 9, 10, 11, 12, 13] : List Nat).all okC = true := by decide +kernel
theorem okC_2 : ([14, 15, 16, 17, 18, 19, 20] : List Nat).all okC = true := by decide +kernel
theorem okC_3 : ([21, 22, 23, 24, 25, 26, 27] : List Nat).all okC = true := by decide +kernel
theorem okC_4 : ([28, 29, 30, 31, 32] : List Nat).all okC = true := by decide +kernel
theorem okC_5 : ([33, 34, 35, 36, 37] : List Nat).all okC = true := by decide +kernel
theorem okC_6 : ([38, 39, 40, 41, 42, 43, 44, 45] : List Nat).all okC = true := by decide +kernel
theorem okC_7 : ([46] : List Nat).all okC = true := by decide +kernel
theorem okC_8 : ([47, 48, 49] : List Nat).all okC = true := by decide +kernel
theorem okC_9 : ([50, 51] : List Nat).all okC = true := by decide +kernel
theorem okC_10 : ([52, 53, 54] : List Nat).all okC = true := by decide +kernel
theorem okC_11 : ([55, 56, 57, 58, 59, 60] : List Nat).all okC = true := by decide +kernel
theorem okC_12 : ([61, 62, 63, 64, 65] : List Nat).all okC = true := by decide +kernel
theorem okC_13 : ([66, 67, 68, 69, 70, 71] : List Nat).all okC = true := by decide +kernel
theorem okC_14 : ([72, 73, 74, 75, 76] : List Nat).all okC = true := by decide +kernel
theorem okC_15 : ([77, 78, 79, 80, 81, 82, 83, 84, 85, 86, 87, 88] : List Nat).all okC = true := by decide +kernel
theorem okC_16 : ([89, 90, 91, 92, 93, 94] : List Nat).all okC = true := by decide +kernel
theorem okC_17 : ([95, 96, 97, 98, 99] : List Nat).all okC = true := by decide +kernel
theorem okC_18 : ([100, 101, 102, 103, 104, 105, 106, 107, 108, 109, 110, 111] : List Nat).all okC = true := by decide +kernel
theorem okC_19 : ([112, 113, 114, 115, 116, 117] : List Nat).all okC = true := by decide +kernel
theorem okC_20 : ([118, 119, 120, 121, 122, 123, 124] : List Nat).all okC = true := by decide +kernel
theorem okC_21 : ([125, 126, 127, 128, 129] : List Nat).all okC = true := by decide +kernel
theorem okC_22 : ([130, 131, 132, 133, 134] : List Nat).all okC = true := by decide +kernel
theorem okC_23 : ([135, 136, 137, 138, 139, 140, 141] : List Nat).all okC = true := by decide +kernel
theorem okC_24 : ([142, 143, 144, 145, 146] : List Nat).all okC = true := by decide +kernel
theorem okC_25 : ([147, 148, 149, 150, 151, 152] : List Nat).all okC = true := by decide +kernel
theorem okC_26 : ([153, 154, 155] : List Nat).all okC = true := by decide +kernel
theorem okC_27 : ([156, 157, 158, 159, 160] : List Nat).all okC = true := by decide +kernel
theorem okC_28 : ([161, 162, 163, 164] : List Nat).all okC = true := by decide +kernel
theorem okC_29 : ([165, 166] : List Nat).all okC = true := by decide +kernel
theorem okC_30 : ([167] : List Nat).all okC = true := by decide +kernel
theorem okC_31 : ([168, 169, 170, 171, 172, 173, 174] : List Nat).all okC = true := by decide +kernel
theorem okC_32 : ([175, 176, 177, 178, 179, 180, 181, 182] : List Nat).all okC = true := by decide +kernel
theorem okC_33 : ([183, 184, 185, 186, 187, 188] : List Nat).all okC = true := by decide +kernel
theorem okC_34 : ([189, 190, 191] : List Nat).all okC = true := by decide +kernel
theorem okC_35 : ([192, 193, 194, 195, 196] : List Nat).all okC = true := by decide +kernel
theorem okC_36 : ([197, 198, 199, 200, 201] : List Nat).all okC = true := by decide +kernel
theorem okC_37 : ([202, 203, 204] : List Nat).all okC = true := by decide +kernel
theorem okC_38 : ([205, 206, 207, 208, 209] : List Nat).all okC = true := by decide +kernel
theorem okC_39 : ([210, 211, 212, 213, 214, 215] : List Nat).all okC = true := by decide +kernel
theorem okC_40 : ([216, 217, 218, 219, 220, 221, 222, 223, 224, 225, 226] : List Nat).all okC = true := by decide +kernel
theorem okC_41 : ([227, 228, 229, 230, 231, 232, 233, 234, 235, 236, 237, 238] : List Nat).all okC = true := by decide +kernel
theorem okC_42 : ([239, 240, 241, 242, 243, 244, 245, 246, 247] : List Nat).all okC = true := by decide +kernel
