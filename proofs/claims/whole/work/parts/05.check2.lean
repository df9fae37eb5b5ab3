/-! the checks, table by table -/
theorem mz_cF32 : mz_ckF mz_t32 (mz_Q 32) (mz_Q 32) 4 = true := by decide +kernel
theorem mz_cS32 : mz_ckS mz_t32 0 0 2 1 2 = true := by decide +kernel
theorem mz_cC32 : mz_cX mz_t32 0 0 2 1 = mz_cY mz_t32 := by decide +kernel
theorem mz_cN32 : mz_ckN mz_t32 2 4 = true := by decide +kernel
theorem mz_cF33 : mz_ckF mz_t33 (mz_Q 32) (mz_Q 33) 4 = true := by decide +kernel
theorem mz_cS33 : mz_ckS mz_t33 0 1 2 1 2 = true := by decide +kernel
theorem mz_cC33 : mz_cX mz_t33 0 1 2 1 = mz_cY mz_t33 := by decide +kernel
theorem mz_cN33 : mz_ckN mz_t33 2 4 = true := by decide +kernel
theorem mz_cF34 : mz_ckF mz_t34 (mz_Q 32) (mz_Q 34) 4 = true := by decide +kernel
theorem mz_cS34 : mz_ckS mz_t34 0 2 2 1 2 = true := by decide +kernel
theorem mz_cC34 : mz_cX mz_t34 0 2 2 1 = mz_cY mz_t34 := by decide +kernel
theorem mz_cN34 : mz_ckN mz_t34 2 4 = true := by decide +kernel
theorem mz_cF35 : mz_ckF mz_t35 (mz_Q 32) (mz_Q 35) 4 = true := by decide +kernel
theorem mz_cS35 : mz_ckS mz_t35 0 3 2 1 2 = true := by decide +kernel
theorem mz_cC35 : mz_cX mz_t35 0 3 2 1 = mz_cY mz_t35 := by decide +kernel
theorem mz_cN35 : mz_ckN mz_t35 2 4 = true := by decide +kernel
theorem mz_cF36 : mz_ckF mz_t36 (mz_Q 32) (mz_Q 36) 4 = true := by decide +kernel
theorem mz_cS36 : mz_ckS mz_t36 1 0 2 1 2 = true := by decide +kernel
theorem mz_cC36 : mz_cX mz_t36 1 0 2 1 = mz_cY mz_t36 := by decide +kernel
theorem mz_cN36 : mz_ckN mz_t36 2 4 = true := by decide +kernel
theorem mz_cF37 : mz_ckF mz_t37 (mz_Q 32) (mz_Q 37) 4 = true := by decide +kernel
theorem mz_cS37 : mz_ckS mz_t37 1 1 2 1 2 = true := by decide +kernel
theorem mz_cC37 : mz_cX mz_t37 1 1 2 1 = mz_cY mz_t37 := by decide +kernel
theorem mz_cN37 : mz_ckN mz_t37 2 4 = true := by decide +kernel
theorem mz_cF38 : mz_ckF mz_t38 (mz_Q 32) (mz_Q 38) 4 = true := by decide +kernel
theorem mz_cS38 : mz_ckS mz_t38 1 2 2 1 2 = true := by decide +kernel
theorem mz_cC38 : mz_cX mz_t38 1 2 2 1 = mz_cY mz_t38 := by decide +kernel
theorem mz_cN38 : mz_ckN mz_t38 2 4 = true := by decide +kernel
theorem mz_cF39 : mz_ckF mz_t39 (mz_Q 32) (mz_Q 39) 4 = true := by decide +kernel
theorem mz_cS39 : mz_ckS mz_t39 1 3 2 1 2 = true := by decide +kernel
theorem mz_cC39 : mz_cX mz_t39 1 3 2 1 = mz_cY mz_t39 := by decide +kernel
theorem mz_cN39 : mz_ckN mz_t39 2 4 = true := by decide +kernel
theorem mz_cF40 : mz_ckF mz_t40 (mz_Q 32) (mz_Q 40) 4 = true := by decide +kernel
theorem mz_cS40 : mz_ckS mz_t40 2 0 2 1 2 = true := by decide +kernel
theorem mz_cC40 : mz_cX mz_t40 2 0 2 1 = mz_cY mz_t40 := by decide +kernel
theorem mz_cN40 : mz_ckN mz_t40 2 4 = true := by decide +kernel
theorem mz_cF41 : mz_ckF mz_t41 (mz_Q 32) (mz_Q 41) 4 = true := by decide +kernel
theorem mz_cS41 : mz_ckS mz_t41 2 1 2 1 2 = true := by decide +kernel
theorem mz_cC41 : mz_cX mz_t41 2 1 2 1 = mz_cY mz_t41 := by decide +kernel
theorem mz_cN41 : mz_ckN mz_t41 2 4 = true := by decide +kernel
theorem mz_cF42 : mz_ckF mz_t42 (mz_Q 32) (mz_Q 42) 4 = true := by decide +kernel
theorem mz_cS42 : mz_ckS mz_t42 2 2 2 1 2 = true := by decide +kernel
theorem mz_cC42 : mz_cX mz_t42 2 2 2 1 = mz_cY mz_t42 := by decide +kernel
theorem mz_cN42 : mz_ckN mz_t42 2 4 = true := by decide +kernel
theorem mz_cF43 : mz_ckF mz_t43 (mz_Q 32) (mz_Q 43) 4 = true := by decide +kernel
theorem mz_cS43 : mz_ckS mz_t43 2 3 2 1 2 = true := by decide +kernel
theorem mz_cC43 : mz_cX mz_t43 2 3 2 1 = mz_cY mz_t43 := by decide +kernel
theorem mz_cN43 : mz_ckN mz_t43 2 4 = true := by decide +kernel
theorem mz_cF44 : mz_ckF mz_t44 (mz_Q 32) (mz_Q 44) 4 = true := by decide +kernel
theorem mz_cS44 : mz_ckS mz_t44 3 0 2 1 2 = true := by decide +kernel
theorem mz_cC44 : mz_cX mz_t44 3 0 2 1 = mz_cY mz_t44 := by decide +kernel
theorem mz_cN44 : mz_ckN mz_t44 2 4 = true := by decide +kernel
theorem mz_cF45 : mz_ckF mz_t45 (mz_Q 32) (mz_Q 45) 4 = true := by decide +kernel
theorem mz_cS45 : mz_ckS mz_t45 3 1 2 1 2 = true := by decide +kernel
theorem mz_cC45 : mz_cX mz_t45 3 1 2 1 = mz_cY mz_t45 := by decide +kernel
theorem mz_cN45 : mz_ckN mz_t45 2 4 = true := by decide +kernel
theorem mz_cF46 : mz_ckF mz_t46 (mz_Q 32) (mz_Q 46) 4 = true := by decide +kernel
theorem mz_cS46 : mz_ckS mz_t46 3 2 2 1 2 = true := by decide +kernel
theorem mz_cC46 : mz_cX mz_t46 3 2 2 1 = mz_cY mz_t46 := by decide +kernel
theorem mz_cN46 : mz_ckN mz_t46 2 4 = true := by decide +kernel
theorem mz_cF47 : mz_ckF mz_t47 (mz_Q 32) (mz_Q 47) 4 = true := by decide +kernel
theorem mz_cS47 : mz_ckS mz_t47 3 3 2 1 2 = true := by decide +kernel
theorem mz_cC47 : mz_cX mz_t47 3 3 2 1 = mz_cY mz_t47 := by decide +kernel
theorem mz_cN47 : mz_ckN mz_t47 2 4 = true := by decide +kernel
