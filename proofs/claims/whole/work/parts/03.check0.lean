/-! the checks, table by table -/
theorem mz_cF0 : mz_ckF mz_t0 (mz_Q 0) (mz_Q 0) 2 = true := by decide +kernel
theorem mz_cS0 : mz_ckS mz_t0 0 0 0 0 4 = true := by decide +kernel
theorem mz_cC0 : mz_cX mz_t0 0 0 0 0 = mz_cY mz_t0 := by decide +kernel
theorem mz_cN0 : mz_ckN mz_t0 0 2 = true := by decide +kernel
theorem mz_cF1 : mz_ckF mz_t1 (mz_Q 0) (mz_Q 1) 2 = true := by decide +kernel
theorem mz_cS1 : mz_ckS mz_t1 0 1 0 0 4 = true := by decide +kernel
theorem mz_cC1 : mz_cX mz_t1 0 1 0 0 = mz_cY mz_t1 := by decide +kernel
theorem mz_cN1 : mz_ckN mz_t1 0 2 = true := by decide +kernel
theorem mz_cF2 : mz_ckF mz_t2 (mz_Q 0) (mz_Q 2) 2 = true := by decide +kernel
theorem mz_cS2 : mz_ckS mz_t2 0 2 0 0 4 = true := by decide +kernel
theorem mz_cC2 : mz_cX mz_t2 0 2 0 0 = mz_cY mz_t2 := by decide +kernel
theorem mz_cN2 : mz_ckN mz_t2 0 2 = true := by decide +kernel
theorem mz_cF3 : mz_ckF mz_t3 (mz_Q 0) (mz_Q 3) 2 = true := by decide +kernel
theorem mz_cS3 : mz_ckS mz_t3 0 3 0 0 4 = true := by decide +kernel
theorem mz_cC3 : mz_cX mz_t3 0 3 0 0 = mz_cY mz_t3 := by decide +kernel
theorem mz_cN3 : mz_ckN mz_t3 0 2 = true := by decide +kernel
theorem mz_cF4 : mz_ckF mz_t4 (mz_Q 0) (mz_Q 4) 2 = true := by decide +kernel
theorem mz_cS4 : mz_ckS mz_t4 1 0 0 0 4 = true := by decide +kernel
theorem mz_cC4 : mz_cX mz_t4 1 0 0 0 = mz_cY mz_t4 := by decide +kernel
theorem mz_cN4 : mz_ckN mz_t4 0 2 = true := by decide +kernel
theorem mz_cF5 : mz_ckF mz_t5 (mz_Q 0) (mz_Q 5) 2 = true := by decide +kernel
theorem mz_cS5 : mz_ckS mz_t5 1 1 0 0 4 = true := by decide +kernel
theorem mz_cC5 : mz_cX mz_t5 1 1 0 0 = mz_cY mz_t5 := by decide +kernel
theorem mz_cN5 : mz_ckN mz_t5 0 2 = true := by decide +kernel
theorem mz_cF6 : mz_ckF mz_t6 (mz_Q 0) (mz_Q 6) 2 = true := by decide +kernel
theorem mz_cS6 : mz_ckS mz_t6 1 2 0 0 4 = true := by decide +kernel
theorem mz_cC6 : mz_cX mz_t6 1 2 0 0 = mz_cY mz_t6 := by decide +kernel
theorem mz_cN6 : mz_ckN mz_t6 0 2 = true := by decide +kernel
theorem mz_cF7 : mz_ckF mz_t7 (mz_Q 0) (mz_Q 7) 2 = true := by decide +kernel
theorem mz_cS7 : mz_ckS mz_t7 1 3 0 0 4 = true := by decide +kernel
theorem mz_cC7 : mz_cX mz_t7 1 3 0 0 = mz_cY mz_t7 := by decide +kernel
theorem mz_cN7 : mz_ckN mz_t7 0 2 = true := by decide +kernel
theorem mz_cF8 : mz_ckF mz_t8 (mz_Q 0) (mz_Q 8) 2 = true := by decide +kernel
theorem mz_cS8 : mz_ckS mz_t8 2 0 0 0 4 = true := by decide +kernel
theorem mz_cC8 : mz_cX mz_t8 2 0 0 0 = mz_cY mz_t8 := by decide +kernel
theorem mz_cN8 : mz_ckN mz_t8 0 2 = true := by decide +kernel
theorem mz_cF9 : mz_ckF mz_t9 (mz_Q 0) (mz_Q 9) 2 = true := by decide +kernel
theorem mz_cS9 : mz_ckS mz_t9 2 1 0 0 4 = true := by decide +kernel
theorem mz_cC9 : mz_cX mz_t9 2 1 0 0 = mz_cY mz_t9 := by decide +kernel
theorem mz_cN9 : mz_ckN mz_t9 0 2 = true := by decide +kernel
theorem mz_cF10 : mz_ckF mz_t10 (mz_Q 0) (mz_Q 10) 2 = true := by decide +kernel
theorem mz_cS10 : mz_ckS mz_t10 2 2 0 0 4 = true := by decide +kernel
theorem mz_cC10 : mz_cX mz_t10 2 2 0 0 = mz_cY mz_t10 := by decide +kernel
theorem mz_cN10 : mz_ckN mz_t10 0 2 = true := by decide +kernel
theorem mz_cF11 : mz_ckF mz_t11 (mz_Q 0) (mz_Q 11) 2 = true := by decide +kernel
theorem mz_cS11 : mz_ckS mz_t11 2 3 0 0 4 = true := by decide +kernel
theorem mz_cC11 : mz_cX mz_t11 2 3 0 0 = mz_cY mz_t11 := by decide +kernel
theorem mz_cN11 : mz_ckN mz_t11 0 2 = true := by decide +kernel
theorem mz_cF12 : mz_ckF mz_t12 (mz_Q 0) (mz_Q 12) 2 = true := by decide +kernel
theorem mz_cS12 : mz_ckS mz_t12 3 0 0 0 4 = true := by decide +kernel
theorem mz_cC12 : mz_cX mz_t12 3 0 0 0 = mz_cY mz_t12 := by decide +kernel
theorem mz_cN12 : mz_ckN mz_t12 0 2 = true := by decide +kernel
theorem mz_cF13 : mz_ckF mz_t13 (mz_Q 0) (mz_Q 13) 2 = true := by decide +kernel
theorem mz_cS13 : mz_ckS mz_t13 3 1 0 0 4 = true := by decide +kernel
theorem mz_cC13 : mz_cX mz_t13 3 1 0 0 = mz_cY mz_t13 := by decide +kernel
theorem mz_cN13 : mz_ckN mz_t13 0 2 = true := by decide +kernel
theorem mz_cF14 : mz_ckF mz_t14 (mz_Q 0) (mz_Q 14) 2 = true := by decide +kernel
theorem mz_cS14 : mz_ckS mz_t14 3 2 0 0 4 = true := by decide +kernel
theorem mz_cC14 : mz_cX mz_t14 3 2 0 0 = mz_cY mz_t14 := by decide +kernel
theorem mz_cN14 : mz_ckN mz_t14 0 2 = true := by decide +kernel
theorem mz_cF15 : mz_ckF mz_t15 (mz_Q 0) (mz_Q 15) 2 = true := by decide +kernel
theorem mz_cS15 : mz_ckS mz_t15 3 3 0 0 4 = true := by decide +kernel
theorem mz_cC15 : mz_cX mz_t15 3 3 0 0 = mz_cY mz_t15 := by decide +kernel
theorem mz_cN15 : mz_ckN mz_t15 0 2 = true := by decide +kernel
