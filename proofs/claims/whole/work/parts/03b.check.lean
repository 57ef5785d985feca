theorem am_ck_law : am_ckM (am_mi0 266) (am_CL.getD 266 ([], [], [])) = true := by decide +kernel
