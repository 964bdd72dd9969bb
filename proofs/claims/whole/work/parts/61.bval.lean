theorem b4_0 : bEq (b01 4 0 24) (b01 4 0 25) = true := by decide +kernel
theorem b4_1 : bEq (b01 4 1 36) (b01 4 1 37) = true := by decide +kernel
theorem b4_2 : bEq (b2 4 60) (b2 4 61) = true := by decide +kernel
theorem b5_0 : bEq (b01 5 0 24) (b01 5 0 25) = true := by decide +kernel
theorem b5_1 : bEq (b01 5 1 36) (b01 5 1 37) = true := by decide +kernel
theorem b5_2 : bEq (b2 5 60) (b2 5 61) = true := by decide +kernel
theorem b6_0 : bEq (b01 6 0 24) (b01 6 0 25) = true := by decide +kernel
theorem b6_1 : bEq (b01 6 1 36) (b01 6 1 37) = true := by decide +kernel
theorem b6_2 : bEq (b2 6 60) (b2 6 61) = true := by decide +kernel
theorem b7_0 : bEq (b01 7 0 24) (b01 7 0 25) = true := by decide +kernel
theorem b7_1 : bEq (b01 7 1 36) (b01 7 1 37) = true := by decide +kernel
theorem b7_2 : bEq (b2 7 60) (b2 7 61) = true := by decide +kernel
theorem b8_0 : bEq (b01 8 0 24) (b01 8 0 25) = true := by decide +kernel
theorem b8_1 : bEq (b01 8 1 36) (b01 8 1 37) = true := by decide +kernel
theorem b8_2 : bEq (b2 8 60) (b2 8 61) = true := by decide +kernel
