/-! PURE: the mean toll, piece 2 of 5 -/
theorem mck_6_2 : mckA 6 201 400 = true := by decide +kernel
theorem mck_6_3 : mckA 6 201 600 = true := by decide +kernel
theorem mck_6_4 : mckA 6 201 800 = true := by decide +kernel
theorem mck_6_5 : mckA 6 201 1000 = true := by decide +kernel
theorem mck_7_0 : mckA 7 201 0 = true := by decide +kernel
theorem mck_7_1 : mckA 7 201 200 = true := by decide +kernel
theorem mck_7_2 : mckA 7 201 400 = true := by decide +kernel
theorem mck_7_3 : mckA 7 201 600 = true := by decide +kernel
theorem mck_7_4 : mckA 7 201 800 = true := by decide +kernel
theorem mck_7_5 : mckA 7 201 1000 = true := by decide +kernel
theorem mck_7_6 : mckA 7 201 1200 = true := by decide +kernel
theorem mck_8_0 : mckA 8 201 0 = true := by decide +kernel
theorem mck_8_1 : mckA 8 201 200 = true := by decide +kernel
theorem mck_8_2 : mckA 8 201 400 = true := by decide +kernel
theorem mck_8_3 : mckA 8 201 600 = true := by decide +kernel
theorem mck_8_4 : mckA 8 201 800 = true := by decide +kernel
