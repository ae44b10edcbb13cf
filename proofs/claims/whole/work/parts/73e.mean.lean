/-! PURE: the mean toll, piece 4 of 5 -/
theorem mck_10_4 : mckA 10 201 800 = true := by decide +kernel
theorem mck_10_5 : mckA 10 201 1000 = true := by decide +kernel
theorem mck_10_6 : mckA 10 201 1200 = true := by decide +kernel
theorem mck_10_7 : mckA 10 201 1400 = true := by decide +kernel
theorem mck_10_8 : mckA 10 201 1600 = true := by decide +kernel
theorem mck_10_9 : mckA 10 201 1800 = true := by decide +kernel
theorem mck_11_0 : mckA 11 201 0 = true := by decide +kernel
theorem mck_11_1 : mckA 11 201 200 = true := by decide +kernel
theorem mck_11_2 : mckA 11 201 400 = true := by decide +kernel
theorem mck_11_3 : mckA 11 201 600 = true := by decide +kernel
theorem mck_11_4 : mckA 11 201 800 = true := by decide +kernel
theorem mck_11_5 : mckA 11 201 1000 = true := by decide +kernel
theorem mck_11_6 : mckA 11 201 1200 = true := by decide +kernel
theorem mck_11_7 : mckA 11 201 1400 = true := by decide +kernel
theorem mck_11_8 : mckA 11 201 1600 = true := by decide +kernel
theorem mck_11_9 : mckA 11 201 1800 = true := by decide +kernel
