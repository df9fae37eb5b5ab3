/-! the checks, table by table -/
theorem mz_cF16 : mz_ckF mz_t16 (mz_Q 16) (mz_Q 16) 3 = true := by decide +kernel
theorem mz_cS16 : mz_ckS mz_t16 0 0 1 1 3 = true := by decide +kernel
theorem mz_cC16 : mz_cX mz_t16 0 0 1 1 = mz_cY mz_t16 := by decide +kernel
theorem mz_cN16 : mz_ckN mz_t16 1 3 = true := by decide +kernel
theorem mz_cF17 : mz_ckF mz_t17 (mz_Q 16) (mz_Q 17) 3 = true := by decide +kernel
theorem mz_cS17 : mz_ckS mz_t17 0 1 1 1 3 = true := by decide +kernel
theorem mz_cC17 : mz_cX mz_t17 0 1 1 1 = mz_cY mz_t17 := by decide +kernel
theorem mz_cN17 : mz_ckN mz_t17 1 3 = true := by decide +kernel
theorem mz_cF18 : mz_ckF mz_t18 (mz_Q 16) (mz_Q 18) 3 = true := by decide +kernel
theorem mz_cS18 : mz_ckS mz_t18 0 2 1 1 3 = true := by decide +kernel
theorem mz_cC18 : mz_cX mz_t18 0 2 1 1 = mz_cY mz_t18 := by decide +kernel
theorem mz_cN18 : mz_ckN mz_t18 1 3 = true := by decide +kernel
theorem mz_cF19 : mz_ckF mz_t19 (mz_Q 16) (mz_Q 19) 3 = true := by decide +kernel
theorem mz_cS19 : mz_ckS mz_t19 0 3 1 1 3 = true := by decide +kernel
theorem mz_cC19 : mz_cX mz_t19 0 3 1 1 = mz_cY mz_t19 := by decide +kernel
theorem mz_cN19 : mz_ckN mz_t19 1 3 = true := by decide +kernel
theorem mz_cF20 : mz_ckF mz_t20 (mz_Q 16) (mz_Q 20) 3 = true := by decide +kernel
theorem mz_cS20 : mz_ckS mz_t20 1 0 1 1 3 = true := by decide +kernel
theorem mz_cC20 : mz_cX mz_t20 1 0 1 1 = mz_cY mz_t20 := by decide +kernel
theorem mz_cN20 : mz_ckN mz_t20 1 3 = true := by decide +kernel
theorem mz_cF21 : mz_ckF mz_t21 (mz_Q 16) (mz_Q 21) 3 = true := by decide +kernel
theorem mz_cS21 : mz_ckS mz_t21 1 1 1 1 3 = true := by decide +kernel
theorem mz_cC21 : mz_cX mz_t21 1 1 1 1 = mz_cY mz_t21 := by decide +kernel
theorem mz_cN21 : mz_ckN mz_t21 1 3 = true := by decide +kernel
theorem mz_cF22 : mz_ckF mz_t22 (mz_Q 16) (mz_Q 22) 3 = true := by decide +kernel
theorem mz_cS22 : mz_ckS mz_t22 1 2 1 1 3 = true := by decide +kernel
theorem mz_cC22 : mz_cX mz_t22 1 2 1 1 = mz_cY mz_t22 := by decide +kernel
theorem mz_cN22 : mz_ckN mz_t22 1 3 = true := by decide +kernel
theorem mz_cF23 : mz_ckF mz_t23 (mz_Q 16) (mz_Q 23) 3 = true := by decide +kernel
theorem mz_cS23 : mz_ckS mz_t23 1 3 1 1 3 = true := by decide +kernel
theorem mz_cC23 : mz_cX mz_t23 1 3 1 1 = mz_cY mz_t23 := by decide +kernel
theorem mz_cN23 : mz_ckN mz_t23 1 3 = true := by decide +kernel
theorem mz_cF24 : mz_ckF mz_t24 (mz_Q 16) (mz_Q 24) 3 = true := by decide +kernel
theorem mz_cS24 : mz_ckS mz_t24 2 0 1 1 3 = true := by decide +kernel
theorem mz_cC24 : mz_cX mz_t24 2 0 1 1 = mz_cY mz_t24 := by decide +kernel
theorem mz_cN24 : mz_ckN mz_t24 1 3 = true := by decide +kernel
theorem mz_cF25 : mz_ckF mz_t25 (mz_Q 16) (mz_Q 25) 3 = true := by decide +kernel
theorem mz_cS25 : mz_ckS mz_t25 2 1 1 1 3 = true := by decide +kernel
theorem mz_cC25 : mz_cX mz_t25 2 1 1 1 = mz_cY mz_t25 := by decide +kernel
theorem mz_cN25 : mz_ckN mz_t25 1 3 = true := by decide +kernel
theorem mz_cF26 : mz_ckF mz_t26 (mz_Q 16) (mz_Q 26) 3 = true := by decide +kernel
theorem mz_cS26 : mz_ckS mz_t26 2 2 1 1 3 = true := by decide +kernel
theorem mz_cC26 : mz_cX mz_t26 2 2 1 1 = mz_cY mz_t26 := by decide +kernel
theorem mz_cN26 : mz_ckN mz_t26 1 3 = true := by decide +kernel
theorem mz_cF27 : mz_ckF mz_t27 (mz_Q 16) (mz_Q 27) 3 = true := by decide +kernel
theorem mz_cS27 : mz_ckS mz_t27 2 3 1 1 3 = true := by decide +kernel
theorem mz_cC27 : mz_cX mz_t27 2 3 1 1 = mz_cY mz_t27 := by decide +kernel
theorem mz_cN27 : mz_ckN mz_t27 1 3 = true := by decide +kernel
theorem mz_cF28 : mz_ckF mz_t28 (mz_Q 16) (mz_Q 28) 3 = true := by decide +kernel
theorem mz_cS28 : mz_ckS mz_t28 3 0 1 1 3 = true := by decide +kernel
theorem mz_cC28 : mz_cX mz_t28 3 0 1 1 = mz_cY mz_t28 := by decide +kernel
theorem mz_cN28 : mz_ckN mz_t28 1 3 = true := by decide +kernel
theorem mz_cF29 : mz_ckF mz_t29 (mz_Q 16) (mz_Q 29) 3 = true := by decide +kernel
theorem mz_cS29 : mz_ckS mz_t29 3 1 1 1 3 = true := by decide +kernel
theorem mz_cC29 : mz_cX mz_t29 3 1 1 1 = mz_cY mz_t29 := by decide +kernel
theorem mz_cN29 : mz_ckN mz_t29 1 3 = true := by decide +kernel
theorem mz_cF30 : mz_ckF mz_t30 (mz_Q 16) (mz_Q 30) 3 = true := by decide +kernel
theorem mz_cS30 : mz_ckS mz_t30 3 2 1 1 3 = true := by decide +kernel
theorem mz_cC30 : mz_cX mz_t30 3 2 1 1 = mz_cY mz_t30 := by decide +kernel
theorem mz_cN30 : mz_ckN mz_t30 1 3 = true := by decide +kernel
theorem mz_cF31 : mz_ckF mz_t31 (mz_Q 16) (mz_Q 31) 3 = true := by decide +kernel
theorem mz_cS31 : mz_ckS mz_t31 3 3 1 1 3 = true := by decide +kernel
theorem mz_cC31 : mz_cX mz_t31 3 3 1 1 = mz_cY mz_t31 := by decide +kernel
theorem mz_cN31 : mz_ckN mz_t31 1 3 = true := by decide +kernel
