/-! the checks, table by table -/
theorem mz_cF48 : mz_ckF mz_t48 (mz_Q 48) (mz_Q 48) 6 = true := by decide +kernel
theorem mz_cS48 : mz_ckS mz_t48 0 0 3 1 1 = true := by decide +kernel
theorem mz_cC48 : mz_cX mz_t48 0 0 3 1 = mz_cY mz_t48 := by decide +kernel
theorem mz_cN48 : mz_ckN mz_t48 3 6 = true := by decide +kernel
theorem mz_cF49 : mz_ckF mz_t49 (mz_Q 48) (mz_Q 49) 6 = true := by decide +kernel
theorem mz_cS49 : mz_ckS mz_t49 0 1 3 1 1 = true := by decide +kernel
theorem mz_cC49 : mz_cX mz_t49 0 1 3 1 = mz_cY mz_t49 := by decide +kernel
theorem mz_cN49 : mz_ckN mz_t49 3 6 = true := by decide +kernel
theorem mz_cF50 : mz_ckF mz_t50 (mz_Q 48) (mz_Q 50) 6 = true := by decide +kernel
theorem mz_cS50 : mz_ckS mz_t50 0 2 3 1 1 = true := by decide +kernel
theorem mz_cC50 : mz_cX mz_t50 0 2 3 1 = mz_cY mz_t50 := by decide +kernel
theorem mz_cN50 : mz_ckN mz_t50 3 6 = true := by decide +kernel
theorem mz_cF51 : mz_ckF mz_t51 (mz_Q 48) (mz_Q 51) 6 = true := by decide +kernel
theorem mz_cS51 : mz_ckS mz_t51 0 3 3 1 1 = true := by decide +kernel
theorem mz_cC51 : mz_cX mz_t51 0 3 3 1 = mz_cY mz_t51 := by decide +kernel
theorem mz_cN51 : mz_ckN mz_t51 3 6 = true := by decide +kernel
theorem mz_cF52 : mz_ckF mz_t52 (mz_Q 48) (mz_Q 52) 6 = true := by decide +kernel
theorem mz_cS52 : mz_ckS mz_t52 1 0 3 1 1 = true := by decide +kernel
theorem mz_cC52 : mz_cX mz_t52 1 0 3 1 = mz_cY mz_t52 := by decide +kernel
theorem mz_cN52 : mz_ckN mz_t52 3 6 = true := by decide +kernel
theorem mz_cF53 : mz_ckF mz_t53 (mz_Q 48) (mz_Q 53) 6 = true := by decide +kernel
theorem mz_cS53 : mz_ckS mz_t53 1 1 3 1 1 = true := by decide +kernel
theorem mz_cC53 : mz_cX mz_t53 1 1 3 1 = mz_cY mz_t53 := by decide +kernel
theorem mz_cN53 : mz_ckN mz_t53 3 6 = true := by decide +kernel
theorem mz_cF54 : mz_ckF mz_t54 (mz_Q 48) (mz_Q 54) 6 = true := by decide +kernel
theorem mz_cS54 : mz_ckS mz_t54 1 2 3 1 1 = true := by decide +kernel
theorem mz_cC54 : mz_cX mz_t54 1 2 3 1 = mz_cY mz_t54 := by decide +kernel
theorem mz_cN54 : mz_ckN mz_t54 3 6 = true := by decide +kernel
theorem mz_cF55 : mz_ckF mz_t55 (mz_Q 48) (mz_Q 55) 6 = true := by decide +kernel
theorem mz_cS55 : mz_ckS mz_t55 1 3 3 1 1 = true := by decide +kernel
theorem mz_cC55 : mz_cX mz_t55 1 3 3 1 = mz_cY mz_t55 := by decide +kernel
theorem mz_cN55 : mz_ckN mz_t55 3 6 = true := by decide +kernel
theorem mz_cF56 : mz_ckF mz_t56 (mz_Q 48) (mz_Q 56) 6 = true := by decide +kernel
theorem mz_cS56 : mz_ckS mz_t56 2 0 3 1 1 = true := by decide +kernel
theorem mz_cC56 : mz_cX mz_t56 2 0 3 1 = mz_cY mz_t56 := by decide +kernel
theorem mz_cN56 : mz_ckN mz_t56 3 6 = true := by decide +kernel
theorem mz_cF57 : mz_ckF mz_t57 (mz_Q 48) (mz_Q 57) 6 = true := by decide +kernel
theorem mz_cS57 : mz_ckS mz_t57 2 1 3 1 1 = true := by decide +kernel
theorem mz_cC57 : mz_cX mz_t57 2 1 3 1 = mz_cY mz_t57 := by decide +kernel
theorem mz_cN57 : mz_ckN mz_t57 3 6 = true := by decide +kernel
theorem mz_cF58 : mz_ckF mz_t58 (mz_Q 48) (mz_Q 58) 6 = true := by decide +kernel
theorem mz_cS58 : mz_ckS mz_t58 2 2 3 1 1 = true := by decide +kernel
theorem mz_cC58 : mz_cX mz_t58 2 2 3 1 = mz_cY mz_t58 := by decide +kernel
theorem mz_cN58 : mz_ckN mz_t58 3 6 = true := by decide +kernel
theorem mz_cF59 : mz_ckF mz_t59 (mz_Q 48) (mz_Q 59) 6 = true := by decide +kernel
theorem mz_cS59 : mz_ckS mz_t59 2 3 3 1 1 = true := by decide +kernel
theorem mz_cC59 : mz_cX mz_t59 2 3 3 1 = mz_cY mz_t59 := by decide +kernel
theorem mz_cN59 : mz_ckN mz_t59 3 6 = true := by decide +kernel
theorem mz_cF60 : mz_ckF mz_t60 (mz_Q 48) (mz_Q 60) 6 = true := by decide +kernel
theorem mz_cS60 : mz_ckS mz_t60 3 0 3 1 1 = true := by decide +kernel
theorem mz_cC60 : mz_cX mz_t60 3 0 3 1 = mz_cY mz_t60 := by decide +kernel
theorem mz_cN60 : mz_ckN mz_t60 3 6 = true := by decide +kernel
theorem mz_cF61 : mz_ckF mz_t61 (mz_Q 48) (mz_Q 61) 6 = true := by decide +kernel
theorem mz_cS61 : mz_ckS mz_t61 3 1 3 1 1 = true := by decide +kernel
theorem mz_cC61 : mz_cX mz_t61 3 1 3 1 = mz_cY mz_t61 := by decide +kernel
theorem mz_cN61 : mz_ckN mz_t61 3 6 = true := by decide +kernel
theorem mz_cF62 : mz_ckF mz_t62 (mz_Q 48) (mz_Q 62) 6 = true := by decide +kernel
theorem mz_cS62 : mz_ckS mz_t62 3 2 3 1 1 = true := by decide +kernel
theorem mz_cC62 : mz_cX mz_t62 3 2 3 1 = mz_cY mz_t62 := by decide +kernel
theorem mz_cN62 : mz_ckN mz_t62 3 6 = true := by decide +kernel
theorem mz_cF63 : mz_ckF mz_t63 (mz_Q 48) (mz_Q 63) 6 = true := by decide +kernel
theorem mz_cS63 : mz_ckS mz_t63 3 3 3 1 1 = true := by decide +kernel
theorem mz_cC63 : mz_cX mz_t63 3 3 3 1 = mz_cY mz_t63 := by decide +kernel
theorem mz_cN63 : mz_ckN mz_t63 3 6 = true := by decide +kernel
