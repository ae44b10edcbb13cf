/-! PURE: the mean toll, piece 5 of 5 -/
theorem mck_11_10 : mckA 11 201 2000 = true := by decide +kernel
theorem mck_12_0 : mckA 12 201 0 = true := by decide +kernel
theorem mck_12_1 : mckA 12 201 200 = true := by decide +kernel
theorem mck_12_2 : mckA 12 201 400 = true := by decide +kernel
theorem mck_12_3 : mckA 12 201 600 = true := by decide +kernel
theorem mck_12_4 : mckA 12 201 800 = true := by decide +kernel
theorem mck_12_5 : mckA 12 201 1000 = true := by decide +kernel
theorem mck_12_6 : mckA 12 201 1200 = true := by decide +kernel
theorem mck_12_7 : mckA 12 201 1400 = true := by decide +kernel
theorem mck_12_8 : mckA 12 201 1600 = true := by decide +kernel
theorem mck_12_9 : mckA 12 201 1800 = true := by decide +kernel
theorem mck_12_10 : mckA 12 201 2000 = true := by decide +kernel
theorem mck_12_11 : mckA 12 201 2200 = true := by decide +kernel
