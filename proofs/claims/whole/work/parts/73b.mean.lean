/-! PURE: the mean toll, piece 1 of 5 -/
theorem mck_2_0 : mckA 2 201 0 = true := by decide +kernel
theorem mck_2_1 : mckA 2 201 200 = true := by decide +kernel
theorem mck_3_0 : mckA 3 201 0 = true := by decide +kernel
theorem mck_3_1 : mckA 3 201 200 = true := by decide +kernel
theorem mck_3_2 : mckA 3 201 400 = true := by decide +kernel
theorem mck_4_0 : mckA 4 201 0 = true := by decide +kernel
theorem mck_4_1 : mckA 4 201 200 = true := by decide +kernel
theorem mck_4_2 : mckA 4 201 400 = true := by decide +kernel
theorem mck_4_3 : mckA 4 201 600 = true := by decide +kernel
theorem mck_5_0 : mckA 5 201 0 = true := by decide +kernel
theorem mck_5_1 : mckA 5 201 200 = true := by decide +kernel
theorem mck_5_2 : mckA 5 201 400 = true := by decide +kernel
theorem mck_5_3 : mckA 5 201 600 = true := by decide +kernel
theorem mck_5_4 : mckA 5 201 800 = true := by decide +kernel
theorem mck_6_0 : mckA 6 201 0 = true := by decide +kernel
theorem mck_6_1 : mckA 6 201 200 = true := by decide +kernel
