/-! PURE: the mean toll, piece 3 of 5 -/
theorem mck_8_5 : mckA 8 201 1000 = true := by decide +kernel
theorem mck_8_6 : mckA 8 201 1200 = true := by decide +kernel
theorem mck_8_7 : mckA 8 201 1400 = true := by decide +kernel
theorem mck_9_0 : mckA 9 201 0 = true := by decide +kernel
theorem mck_9_1 : mckA 9 201 200 = true := by decide +kernel
theorem mck_9_2 : mckA 9 201 400 = true := by decide +kernel
theorem mck_9_3 : mckA 9 201 600 = true := by decide +kernel
theorem mck_9_4 : mckA 9 201 800 = true := by decide +kernel
theorem mck_9_5 : mckA 9 201 1000 = true := by decide +kernel
theorem mck_9_6 : mckA 9 201 1200 = true := by decide +kernel
theorem mck_9_7 : mckA 9 201 1400 = true := by decide +kernel
theorem mck_9_8 : mckA 9 201 1600 = true := by decide +kernel
theorem mck_10_0 : mckA 10 201 0 = true := by decide +kernel
theorem mck_10_1 : mckA 10 201 200 = true := by decide +kernel
theorem mck_10_2 : mckA 10 201 400 = true := by decide +kernel
theorem mck_10_3 : mckA 10 201 600 = true := by decide +kernel
