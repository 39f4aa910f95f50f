theorem dVF_init_0 : decode cVF_init 0 = .ok (.aload_n 0, 1) := by decide +kernel
theorem dVF_init_1 : decode cVF_init 1 = .ok (.invokespecial 1, 3) := by decide +kernel
theorem dVF_init_4 : decode cVF_init 4 = .ok (.aload_n 0, 1) := by decide +kernel
theorem dVF_init_5 : decode cVF_init 5 = .ok (.bipush 48, 2) := by decide +kernel
theorem dVF_init_7 : decode cVF_init 7 = .ok (.newarray .float, 2) := by decide +kernel
theorem dVF_init_9 : decode cVF_init 9 = .ok (.putfield 9, 3) := by decide +kernel
theorem dVF_init_12 : decode cVF_init 12 = .ok (.aload_n 0, 1) := by decide +kernel
theorem dVF_init_13 : decode cVF_init 13 = .ok (.new 13, 3) := by decide +kernel
theorem dVF_init_16 : decode cVF_init 16 = .ok (.dup, 1) := by decide +kernel
theorem dVF_init_17 : decode cVF_init 17 = .ok (.invokespecial 15, 3) := by decide +kernel
theorem dVF_init_20 : decode cVF_init 20 = .ok (.putfield 16, 3) := by decide +kernel
theorem dVF_init_23 : decode cVF_init 23 = .ok (.aload_n 0, 1) := by decide +kernel
theorem dVF_init_24 : decode cVF_init 24 = .ok (.new 20, 3) := by decide +kernel
theorem dVF_init_27 : decode cVF_init 27 = .ok (.dup, 1) := by decide +kernel
theorem dVF_init_28 : decode cVF_init 28 = .ok (.invokespecial 22, 3) := by decide +kernel
theorem dVF_init_31 : decode cVF_init 31 = .ok (.putfield 23, 3) := by decide +kernel
theorem dVF_init_34 : decode cVF_init 34 = .ok (.aload_n 0, 1) := by decide +kernel
theorem dVF_init_35 : decode cVF_init 35 = .ok (.new 27, 3) := by decide +kernel
theorem dVF_init_38 : decode cVF_init 38 = .ok (.dup, 1) := by decide +kernel
theorem dVF_init_39 : decode cVF_init 39 = .ok (.invokespecial 29, 3) := by decide +kernel
theorem dVF_init_42 : decode cVF_init 42 = .ok (.putfield 30, 3) := by decide +kernel
theorem dVF_init_45 : decode cVF_init 45 = .ok (.return_, 1) := by decide +kernel
theorem dRow_init_0 : decode cRow_init 0 = .ok (.aload_n 0, 1) := by decide +kernel
theorem dRow_init_1 : decode cRow_init 1 = .ok (.invokespecial 3, 3) := by decide +kernel
theorem dRow_init_4 : decode cRow_init 4 = .ok (.aload_n 0, 1) := by decide +kernel
theorem dRow_init_5 : decode cRow_init 5 = .ok (.bipush 120, 2) := by decide +kernel
theorem dRow_init_7 : decode cRow_init 7 = .ok (.newarray .int, 2) := by decide +kernel
theorem dRow_init_9 : decode cRow_init 9 = .ok (.putfield 9, 3) := by decide +kernel
theorem dRow_init_12 : decode cRow_init 12 = .ok (.return_, 1) := by decide +kernel
theorem dCod_init_0 : decode cCod_init 0 = .ok (.aload_n 0, 1) := by decide +kernel
theorem dCod_init_1 : decode cCod_init 1 = .ok (.invokespecial 3, 3) := by decide +kernel
theorem dCod_init_4 : decode cCod_init 4 = .ok (.aload_n 0, 1) := by decide +kernel
theorem dCod_init_5 : decode cCod_init 5 = .ok (.new 9, 3) := by decide +kernel
theorem dCod_init_8 : decode cCod_init 8 = .ok (.dup, 1) := by decide +kernel
theorem dCod_init_9 : decode cCod_init 9 = .ok (.invokespecial 11, 3) := by decide +kernel
theorem dCod_init_12 : decode cCod_init 12 = .ok (.putfield 12, 3) := by decide +kernel
theorem dCod_init_15 : decode cCod_init 15 = .ok (.aload_n 0, 1) := by decide +kernel
theorem dCod_init_16 : decode cCod_init 16 = .ok (.new 18, 3) := by decide +kernel
theorem dCod_init_19 : decode cCod_init 19 = .ok (.dup, 1) := by decide +kernel
theorem dCod_init_20 : decode cCod_init 20 = .ok (.invokespecial 20, 3) := by decide +kernel
theorem dCod_init_23 : decode cCod_init 23 = .ok (.putfield 21, 3) := by decide +kernel
theorem dCod_init_26 : decode cCod_init 26 = .ok (.aload_n 0, 1) := by decide +kernel
theorem dCod_init_27 : decode cCod_init 27 = .ok (.iconst 5, 1) := by decide +kernel
theorem dCod_init_28 : decode cCod_init 28 = .ok (.newarray .float, 2) := by decide +kernel
theorem dCod_init_30 : decode cCod_init 30 = .ok (.putfield 25, 3) := by decide +kernel
theorem dCod_init_33 : decode cCod_init 33 = .ok (.return_, 1) := by decide +kernel
theorem dVoi_init_0 : decode cVoi_init 0 = .ok (.aload_n 0, 1) := by decide +kernel
theorem dVoi_init_1 : decode cVoi_init 1 = .ok (.invokespecial 3, 3) := by decide +kernel
theorem dVoi_init_4 : decode cVoi_init 4 = .ok (.aload_n 0, 1) := by decide +kernel
theorem dVoi_init_5 : decode cVoi_init 5 = .ok (.iconst 4, 1) := by decide +kernel
theorem dVoi_init_6 : decode cVoi_init 6 = .ok (.newarray .float, 2) := by decide +kernel
theorem dVoi_init_8 : decode cVoi_init 8 = .ok (.putfield 9, 3) := by decide +kernel
theorem dVoi_init_11 : decode cVoi_init 11 = .ok (.aload_n 0, 1) := by decide +kernel
theorem dVoi_init_12 : decode cVoi_init 12 = .ok (.bipush 16, 2) := by decide +kernel
theorem dVoi_init_14 : decode cVoi_init 14 = .ok (.newarray .float, 2) := by decide +kernel
theorem dVoi_init_16 : decode cVoi_init 16 = .ok (.putfield 15, 3) := by decide +kernel
theorem dVoi_init_19 : decode cVoi_init 19 = .ok (.return_, 1) := by decide +kernel
theorem dPac_init_0 : decode cPac_init 0 = .ok (.aload_n 0, 1) := by decide +kernel
theorem dPac_init_1 : decode cPac_init 1 = .ok (.invokespecial 3, 3) := by decide +kernel
theorem dPac_init_4 : decode cPac_init 4 = .ok (.aload_n 0, 1) := by decide +kernel
theorem dPac_init_5 : decode cPac_init 5 = .ok (.iconst 5, 1) := by decide +kernel
theorem dPac_init_6 : decode cPac_init 6 = .ok (.newarray .int, 2) := by decide +kernel
theorem dPac_init_8 : decode cPac_init 8 = .ok (.putfield 9, 3) := by decide +kernel
theorem dPac_init_11 : decode cPac_init 11 = .ok (.aload_n 0, 1) := by decide +kernel
theorem dPac_init_12 : decode cPac_init 12 = .ok (.iconst 5, 1) := by decide +kernel
theorem dPac_init_13 : decode cPac_init 13 = .ok (.newarray .float, 2) := by decide +kernel
theorem dPac_init_15 : decode cPac_init 15 = .ok (.putfield 15, 3) := by decide +kernel
theorem dPac_init_18 : decode cPac_init 18 = .ok (.aload_n 0, 1) := by decide +kernel
theorem dPac_init_19 : decode cPac_init 19 = .ok (.bipush 16, 2) := by decide +kernel
theorem dPac_init_21 : decode cPac_init 21 = .ok (.newarray .int, 2) := by decide +kernel
theorem dPac_init_23 : decode cPac_init 23 = .ok (.putfield 19, 3) := by decide +kernel
theorem dPac_init_26 : decode cPac_init 26 = .ok (.return_, 1) := by decide +kernel
theorem dDec_init_0 : decode cDec_init 0 = .ok (.aload_n 0, 1) := by decide +kernel
theorem dDec_init_1 : decode cDec_init 1 = .ok (.invokespecial 3, 3) := by decide +kernel
theorem dDec_init_4 : decode cDec_init 4 = .ok (.aload_n 0, 1) := by decide +kernel
theorem dDec_init_5 : decode cDec_init 5 = .ok (.new 9, 3) := by decide +kernel
theorem dDec_init_8 : decode cDec_init 8 = .ok (.dup, 1) := by decide +kernel
theorem dDec_init_9 : decode cDec_init 9 = .ok (.invokespecial 11, 3) := by decide +kernel
theorem dDec_init_12 : decode cDec_init 12 = .ok (.putfield 12, 3) := by decide +kernel
theorem dDec_init_15 : decode cDec_init 15 = .ok (.aload_n 0, 1) := by decide +kernel
theorem dDec_init_16 : decode cDec_init 16 = .ok (.new 18, 3) := by decide +kernel
theorem dDec_init_19 : decode cDec_init 19 = .ok (.dup, 1) := by decide +kernel
theorem dDec_init_20 : decode cDec_init 20 = .ok (.invokespecial 20, 3) := by decide +kernel
theorem dDec_init_23 : decode cDec_init 23 = .ok (.putfield 21, 3) := by decide +kernel
theorem dDec_init_26 : decode cDec_init 26 = .ok (.return_, 1) := by decide +kernel
theorem dVF_linear_0 : decode cVF_linear 0 = .ok (.aload_n 0, 1) := by decide +kernel
theorem dVF_linear_1 : decode cVF_linear 1 = .ok (.getfield 54, 3) := by decide +kernel
theorem dVF_linear_4 : decode cVF_linear 4 = .ok (.istore_n 2, 1) := by decide +kernel
theorem dVF_linear_5 : decode cVF_linear 5 = .ok (.aload_n 0, 1) := by decide +kernel
theorem dVF_linear_6 : decode cVF_linear 6 = .ok (.iload_n 1, 1) := by decide +kernel
theorem dVF_linear_7 : decode cVF_linear 7 = .ok (.putfield 54, 3) := by decide +kernel
theorem dVF_linear_10 : decode cVF_linear 10 = .ok (.iload_n 2, 1) := by decide +kernel
theorem dVF_linear_11 : decode cVF_linear 11 = .ok (.ireturn, 1) := by decide +kernel
theorem dVF_reset_0 : decode cVF_reset 0 = .ok (.aload_n 0, 1) := by decide +kernel
theorem dVF_reset_1 : decode cVF_reset 1 = .ok (.getfield 16, 3) := by decide +kernel
theorem dVF_reset_4 : decode cVF_reset 4 = .ok (.getfield 144, 3) := by decide +kernel
theorem dVF_reset_7 : decode cVF_reset 7 = .ok (.istore_n 1, 1) := by decide +kernel
theorem dVF_reset_8 : decode cVF_reset 8 = .ok (.aload_n 0, 1) := by decide +kernel
theorem dVF_reset_9 : decode cVF_reset 9 = .ok (.getfield 16, 3) := by decide +kernel
theorem dVF_reset_12 : decode cVF_reset 12 = .ok (.invokevirtual 160, 3) := by decide +kernel
theorem dVF_reset_15 : decode cVF_reset 15 = .ok (.aload_n 0, 1) := by decide +kernel
theorem dVF_reset_16 : decode cVF_reset 16 = .ok (.getfield 23, 3) := by decide +kernel
theorem dVF_reset_19 : decode cVF_reset 19 = .ok (.invokevirtual 163, 3) := by decide +kernel
theorem dVF_reset_22 : decode cVF_reset 22 = .ok (.aload_n 0, 1) := by decide +kernel
theorem dVF_reset_23 : decode cVF_reset 23 = .ok (.getfield 30, 3) := by decide +kernel
theorem dVF_reset_26 : decode cVF_reset 26 = .ok (.invokevirtual 166, 3) := by decide +kernel
theorem dVF_reset_29 : decode cVF_reset 29 = .ok (.iload_n 1, 1) := by decide +kernel
theorem dVF_reset_30 : decode cVF_reset 30 = .ok (.ireturn, 1) := by decide +kernel
theorem dRow_empty_0 : decode cRow_empty 0 = .ok (.aload_n 0, 1) := by decide +kernel
theorem dRow_empty_1 : decode cRow_empty 1 = .ok (.iconst 0, 1) := by decide +kernel
theorem dRow_empty_2 : decode cRow_empty 2 = .ok (.putfield 15, 3) := by decide +kernel
theorem dRow_empty_5 : decode cRow_empty 5 = .ok (.aload_n 0, 1) := by decide +kernel
theorem dRow_empty_6 : decode cRow_empty 6 = .ok (.iconst 0, 1) := by decide +kernel
theorem dRow_empty_7 : decode cRow_empty 7 = .ok (.putfield 19, 3) := by decide +kernel
theorem dRow_empty_10 : decode cRow_empty 10 = .ok (.return_, 1) := by decide +kernel
theorem dCod_forget_0 : decode cCod_forget 0 = .ok (.aload_n 0, 1) := by decide +kernel
theorem dCod_forget_1 : decode cCod_forget 1 = .ok (.getfield 12, 3) := by decide +kernel
theorem dCod_forget_4 : decode cCod_forget 4 = .ok (.invokevirtual 29, 3) := by decide +kernel
theorem dCod_forget_7 : decode cCod_forget 7 = .ok (.aload_n 0, 1) := by decide +kernel
theorem dCod_forget_8 : decode cCod_forget 8 = .ok (.getfield 21, 3) := by decide +kernel
theorem dCod_forget_11 : decode cCod_forget 11 = .ok (.invokevirtual 32, 3) := by decide +kernel
theorem dCod_forget_14 : decode cCod_forget 14 = .ok (.aload_n 0, 1) := by decide +kernel
theorem dCod_forget_15 : decode cCod_forget 15 = .ok (.iconst 0, 1) := by decide +kernel
theorem dCod_forget_16 : decode cCod_forget 16 = .ok (.putfield 35, 3) := by decide +kernel
theorem dCod_forget_19 : decode cCod_forget 19 = .ok (.return_, 1) := by decide +kernel
theorem dVoi_forget_0 : decode cVoi_forget 0 = .ok (.aload_n 0, 1) := by decide +kernel
theorem dVoi_forget_1 : decode cVoi_forget 1 = .ok (.invokevirtual 18, 3) := by decide +kernel
theorem dVoi_forget_4 : decode cVoi_forget 4 = .ok (.aload_n 0, 1) := by decide +kernel
theorem dVoi_forget_5 : decode cVoi_forget 5 = .ok (.iconst 0, 1) := by decide +kernel
theorem dVoi_forget_6 : decode cVoi_forget 6 = .ok (.putfield 21, 3) := by decide +kernel
theorem dVoi_forget_9 : decode cVoi_forget 9 = .ok (.return_, 1) := by decide +kernel
theorem dVoi_fallSilent_0 : decode cVoi_fallSilent 0 = .ok (.aload_n 0, 1) := by decide +kernel
theorem dVoi_fallSilent_1 : decode cVoi_fallSilent 1 = .ok (.getfield 9, 3) := by decide +kernel
theorem dVoi_fallSilent_4 : decode cVoi_fallSilent 4 = .ok (.fconst 0, 1) := by decide +kernel
theorem dVoi_fallSilent_5 : decode cVoi_fallSilent 5 = .ok (.invokestatic 25, 3) := by decide +kernel
theorem dVoi_fallSilent_8 : decode cVoi_fallSilent 8 = .ok (.aload_n 0, 1) := by decide +kernel
theorem dVoi_fallSilent_9 : decode cVoi_fallSilent 9 = .ok (.getfield 15, 3) := by decide +kernel
theorem dVoi_fallSilent_12 : decode cVoi_fallSilent 12 = .ok (.fconst 0, 1) := by decide +kernel
theorem dVoi_fallSilent_13 : decode cVoi_fallSilent 13 = .ok (.invokestatic 25, 3) := by decide +kernel
theorem dVoi_fallSilent_16 : decode cVoi_fallSilent 16 = .ok (.aload_n 0, 1) := by decide +kernel
theorem dVoi_fallSilent_17 : decode cVoi_fallSilent 17 = .ok (.iconst 1, 1) := by decide +kernel
theorem dVoi_fallSilent_18 : decode cVoi_fallSilent 18 = .ok (.putfield 21, 3) := by decide +kernel
theorem dVoi_fallSilent_21 : decode cVoi_fallSilent 21 = .ok (.return_, 1) := by decide +kernel
theorem dArr_fill_F_0 : decode cArr_fill_F 0 = .ok (.iconst 0, 1) := by decide +kernel
theorem dArr_fill_F_1 : decode cArr_fill_F 1 = .ok (.istore_n 2, 1) := by decide +kernel
theorem dArr_fill_F_2 : decode cArr_fill_F 2 = .ok (.aload_n 0, 1) := by decide +kernel
theorem dArr_fill_F_3 : decode cArr_fill_F 3 = .ok (.arraylength, 1) := by decide +kernel
theorem dArr_fill_F_4 : decode cArr_fill_F 4 = .ok (.istore_n 3, 1) := by decide +kernel
theorem dArr_fill_F_5 : decode cArr_fill_F 5 = .ok (.iload_n 2, 1) := by decide +kernel
theorem dArr_fill_F_6 : decode cArr_fill_F 6 = .ok (.iload_n 3, 1) := by decide +kernel
theorem dArr_fill_F_7 : decode cArr_fill_F 7 = .ok (.if_icmp .ge 13, 3) := by decide +kernel
theorem dArr_fill_F_10 : decode cArr_fill_F 10 = .ok (.aload_n 0, 1) := by decide +kernel
theorem dArr_fill_F_11 : decode cArr_fill_F 11 = .ok (.iload_n 2, 1) := by decide +kernel
theorem dArr_fill_F_12 : decode cArr_fill_F 12 = .ok (.fload_n 1, 1) := by decide +kernel
theorem dArr_fill_F_13 : decode cArr_fill_F 13 = .ok (.fastore, 1) := by decide +kernel
theorem dArr_fill_F_14 : decode cArr_fill_F 14 = .ok (.iinc 2 1, 3) := by decide +kernel
theorem dArr_fill_F_17 : decode cArr_fill_F 17 = .ok (.goto (-12), 3) := by decide +kernel
theorem dArr_fill_F_20 : decode cArr_fill_F 20 = .ok (.return_, 1) := by decide +kernel
theorem dPac_clear_0 : decode cPac_clear 0 = .ok (.aload_n 0, 1) := by decide +kernel
theorem dPac_clear_1 : decode cPac_clear 1 = .ok (.iconst 0, 1) := by decide +kernel
theorem dPac_clear_2 : decode cPac_clear 2 = .ok (.putfield 22, 3) := by decide +kernel
theorem dPac_clear_5 : decode cPac_clear 5 = .ok (.aload_n 0, 1) := by decide +kernel
theorem dPac_clear_6 : decode cPac_clear 6 = .ok (.iconst 0, 1) := by decide +kernel
theorem dPac_clear_7 : decode cPac_clear 7 = .ok (.putfield 26, 3) := by decide +kernel
theorem dPac_clear_10 : decode cPac_clear 10 = .ok (.aload_n 0, 1) := by decide +kernel
theorem dPac_clear_11 : decode cPac_clear 11 = .ok (.getfield 9, 3) := by decide +kernel
theorem dPac_clear_14 : decode cPac_clear 14 = .ok (.iconst 0, 1) := by decide +kernel
theorem dPac_clear_15 : decode cPac_clear 15 = .ok (.invokestatic 30, 3) := by decide +kernel
theorem dPac_clear_18 : decode cPac_clear 18 = .ok (.aload_n 0, 1) := by decide +kernel
theorem dPac_clear_19 : decode cPac_clear 19 = .ok (.getfield 15, 3) := by decide +kernel
theorem dPac_clear_22 : decode cPac_clear 22 = .ok (.fconst 0, 1) := by decide +kernel
theorem dPac_clear_23 : decode cPac_clear 23 = .ok (.invokestatic 36, 3) := by decide +kernel
theorem dPac_clear_26 : decode cPac_clear 26 = .ok (.aload_n 0, 1) := by decide +kernel
theorem dPac_clear_27 : decode cPac_clear 27 = .ok (.getfield 19, 3) := by decide +kernel
theorem dPac_clear_30 : decode cPac_clear 30 = .ok (.iconst 0, 1) := by decide +kernel
theorem dPac_clear_31 : decode cPac_clear 31 = .ok (.invokestatic 30, 3) := by decide +kernel
theorem dPac_clear_34 : decode cPac_clear 34 = .ok (.return_, 1) := by decide +kernel
theorem dArr_fill_I_0 : decode cArr_fill_I 0 = .ok (.iconst 0, 1) := by decide +kernel
theorem dArr_fill_I_1 : decode cArr_fill_I 1 = .ok (.istore_n 2, 1) := by decide +kernel
theorem dArr_fill_I_2 : decode cArr_fill_I 2 = .ok (.aload_n 0, 1) := by decide +kernel
theorem dArr_fill_I_3 : decode cArr_fill_I 3 = .ok (.arraylength, 1) := by decide +kernel
theorem dArr_fill_I_4 : decode cArr_fill_I 4 = .ok (.istore_n 3, 1) := by decide +kernel
theorem dArr_fill_I_5 : decode cArr_fill_I 5 = .ok (.iload_n 2, 1) := by decide +kernel
theorem dArr_fill_I_6 : decode cArr_fill_I 6 = .ok (.iload_n 3, 1) := by decide +kernel
theorem dArr_fill_I_7 : decode cArr_fill_I 7 = .ok (.if_icmp .ge 13, 3) := by decide +kernel
theorem dArr_fill_I_10 : decode cArr_fill_I 10 = .ok (.aload_n 0, 1) := by decide +kernel
theorem dArr_fill_I_11 : decode cArr_fill_I 11 = .ok (.iload_n 2, 1) := by decide +kernel
theorem dArr_fill_I_12 : decode cArr_fill_I 12 = .ok (.iload_n 1, 1) := by decide +kernel
theorem dArr_fill_I_13 : decode cArr_fill_I 13 = .ok (.iastore, 1) := by decide +kernel
theorem dArr_fill_I_14 : decode cArr_fill_I 14 = .ok (.iinc 2 1, 3) := by decide +kernel
theorem dArr_fill_I_17 : decode cArr_fill_I 17 = .ok (.goto (-12), 3) := by decide +kernel
theorem dArr_fill_I_20 : decode cArr_fill_I 20 = .ok (.return_, 1) := by decide +kernel
theorem dDec_forget_0 : decode cDec_forget 0 = .ok (.aload_n 0, 1) := by decide +kernel
theorem dDec_forget_1 : decode cDec_forget 1 = .ok (.getfield 12, 3) := by decide +kernel
theorem dDec_forget_4 : decode cDec_forget 4 = .ok (.invokevirtual 25, 3) := by decide +kernel
theorem dDec_forget_7 : decode cDec_forget 7 = .ok (.aload_n 0, 1) := by decide +kernel
theorem dDec_forget_8 : decode cDec_forget 8 = .ok (.getfield 21, 3) := by decide +kernel
theorem dDec_forget_11 : decode cDec_forget 11 = .ok (.invokevirtual 28, 3) := by decide +kernel
theorem dDec_forget_14 : decode cDec_forget 14 = .ok (.aload_n 0, 1) := by decide +kernel
theorem dDec_forget_15 : decode cDec_forget 15 = .ok (.iconst 0, 1) := by decide +kernel
theorem dDec_forget_16 : decode cDec_forget 16 = .ok (.putfield 31, 3) := by decide +kernel
theorem dDec_forget_19 : decode cDec_forget 19 = .ok (.aload_n 0, 1) := by decide +kernel
theorem dDec_forget_20 : decode cDec_forget 20 = .ok (.iconst 0, 1) := by decide +kernel
theorem dDec_forget_21 : decode cDec_forget 21 = .ok (.putfield 35, 3) := by decide +kernel
theorem dDec_forget_24 : decode cDec_forget 24 = .ok (.aload_n 0, 1) := by decide +kernel
theorem dDec_forget_25 : decode cDec_forget 25 = .ok (.iconst 0, 1) := by decide +kernel
theorem dDec_forget_26 : decode cDec_forget 26 = .ok (.putfield 38, 3) := by decide +kernel
theorem dDec_forget_29 : decode cDec_forget 29 = .ok (.return_, 1) := by decide +kernel
theorem dLaw_sample_0 : decode cLaw_sample 0 = .ok (.aload_n 3, 1) := by decide +kernel
theorem dLaw_sample_1 : decode cLaw_sample 1 = .ok (.iconst 0, 1) := by decide +kernel
theorem dLaw_sample_2 : decode cLaw_sample 2 = .ok (.aload_n 0, 1) := by decide +kernel
theorem dLaw_sample_3 : decode cLaw_sample 3 = .ok (.dload_n 1, 1) := by decide +kernel
theorem dLaw_sample_4 : decode cLaw_sample 4 = .ok (.invokevirtual 7, 3) := by decide +kernel
theorem dLaw_sample_7 : decode cLaw_sample 7 = .ok (.i2l, 1) := by decide +kernel
theorem dLaw_sample_8 : decode cLaw_sample 8 = .ok (.lastore, 1) := by decide +kernel
theorem dLaw_sample_9 : decode cLaw_sample 9 = .ok (.goto 11, 3) := by decide +kernel
theorem dLaw_sample_12 : decode cLaw_sample 12 = .ok (.astore 4, 2) := by decide +kernel
theorem dLaw_sample_14 : decode cLaw_sample 14 = .ok (.iconst 1, 1) := by decide +kernel
theorem dLaw_sample_15 : decode cLaw_sample 15 = .ok (.ireturn, 1) := by decide +kernel
theorem dLaw_sample_16 : decode cLaw_sample 16 = .ok (.astore 4, 2) := by decide +kernel
theorem dLaw_sample_18 : decode cLaw_sample 18 = .ok (.iconst 2, 1) := by decide +kernel
theorem dLaw_sample_19 : decode cLaw_sample 19 = .ok (.ireturn, 1) := by decide +kernel
theorem dLaw_sample_20 : decode cLaw_sample 20 = .ok (.iconst 0, 1) := by decide +kernel
theorem dLaw_sample_21 : decode cLaw_sample 21 = .ok (.ireturn, 1) := by decide +kernel
theorem dVF_sample_0 : decode cVF_sample 0 = .ok (.dload_n 1, 1) := by decide +kernel
theorem dVF_sample_1 : decode cVF_sample 1 = .ok (.ldc2_w 34, 3) := by decide +kernel
theorem dVF_sample_4 : decode cVF_sample 4 = .ok (.dcmp .l, 1) := by decide +kernel
theorem dVF_sample_5 : decode cVF_sample 5 = .ok (.ifCond .lt 15, 3) := by decide +kernel
theorem dVF_sample_8 : decode cVF_sample 8 = .ok (.dload_n 1, 1) := by decide +kernel
theorem dVF_sample_9 : decode cVF_sample 9 = .ok (.ldc2_w 36, 3) := by decide +kernel
theorem dVF_sample_12 : decode cVF_sample 12 = .ok (.dcmp .g, 1) := by decide +kernel
theorem dVF_sample_13 : decode cVF_sample 13 = .ok (.ifCond .gt 7, 3) := by decide +kernel
theorem dVF_sample_16 : decode cVF_sample 16 = .ok (.iconst 1, 1) := by decide +kernel
theorem dVF_sample_17 : decode cVF_sample 17 = .ok (.goto 4, 3) := by decide +kernel
theorem dVF_sample_20 : decode cVF_sample 20 = .ok (.iconst 0, 1) := by decide +kernel
theorem dVF_sample_21 : decode cVF_sample 21 = .ok (.istore_n 3, 1) := by decide +kernel
theorem dVF_sample_22 : decode cVF_sample 22 = .ok (.iload_n 3, 1) := by decide +kernel
theorem dVF_sample_23 : decode cVF_sample 23 = .ok (.ifCond .ne 13, 3) := by decide +kernel
theorem dVF_sample_26 : decode cVF_sample 26 = .ok (.new 38, 3) := by decide +kernel
theorem dVF_sample_29 : decode cVF_sample 29 = .ok (.dup, 1) := by decide +kernel
theorem dVF_sample_30 : decode cVF_sample 30 = .ok (.ldc 40, 2) := by decide +kernel
theorem dVF_sample_32 : decode cVF_sample 32 = .ok (.invokespecial 42, 3) := by decide +kernel
theorem dVF_sample_35 : decode cVF_sample 35 = .ok (.athrow, 1) := by decide +kernel
theorem dVF_sample_36 : decode cVF_sample 36 = .ok (.aload_n 0, 1) := by decide +kernel
theorem dVF_sample_37 : decode cVF_sample 37 = .ok (.getfield 45, 3) := by decide +kernel
theorem dVF_sample_40 : decode cVF_sample 40 = .ok (.bipush 48, 2) := by decide +kernel
theorem dVF_sample_42 : decode cVF_sample 42 = .ok (.if_icmp .lt 13, 3) := by decide +kernel
theorem dVF_sample_45 : decode cVF_sample 45 = .ok (.new 49, 3) := by decide +kernel
theorem dVF_sample_48 : decode cVF_sample 48 = .ok (.dup, 1) := by decide +kernel
theorem dVF_sample_49 : decode cVF_sample 49 = .ok (.ldc 51, 2) := by decide +kernel
theorem dVF_sample_51 : decode cVF_sample 51 = .ok (.invokespecial 53, 3) := by decide +kernel
theorem dVF_sample_54 : decode cVF_sample 54 = .ok (.athrow, 1) := by decide +kernel
theorem dVF_sample_55 : decode cVF_sample 55 = .ok (.aload_n 0, 1) := by decide +kernel
theorem dVF_sample_56 : decode cVF_sample 56 = .ok (.getfield 9, 3) := by decide +kernel
theorem dVF_sample_59 : decode cVF_sample 59 = .ok (.aload_n 0, 1) := by decide +kernel
theorem dVF_sample_60 : decode cVF_sample 60 = .ok (.getfield 45, 3) := by decide +kernel
theorem dVF_sample_63 : decode cVF_sample 63 = .ok (.dload_n 1, 1) := by decide +kernel
theorem dVF_sample_64 : decode cVF_sample 64 = .ok (.d2f, 1) := by decide +kernel
theorem dVF_sample_65 : decode cVF_sample 65 = .ok (.fastore, 1) := by decide +kernel
theorem dVF_sample_66 : decode cVF_sample 66 = .ok (.aload_n 0, 1) := by decide +kernel
theorem dVF_sample_67 : decode cVF_sample 67 = .ok (.dup, 1) := by decide +kernel
theorem dVF_sample_68 : decode cVF_sample 68 = .ok (.getfield 45, 3) := by decide +kernel
theorem dVF_sample_71 : decode cVF_sample 71 = .ok (.iconst 1, 1) := by decide +kernel
theorem dVF_sample_72 : decode cVF_sample 72 = .ok (.iadd, 1) := by decide +kernel
theorem dVF_sample_73 : decode cVF_sample 73 = .ok (.putfield 45, 3) := by decide +kernel
theorem dVF_sample_76 : decode cVF_sample 76 = .ok (.aload_n 0, 1) := by decide +kernel
theorem dVF_sample_77 : decode cVF_sample 77 = .ok (.getfield 45, 3) := by decide +kernel
theorem dVF_sample_80 : decode cVF_sample 80 = .ok (.ireturn, 1) := by decide +kernel
theorem dLaw_encode_0 : decode cLaw_encode 0 = .ok (.aload_n 1, 1) := by decide +kernel
theorem dLaw_encode_1 : decode cLaw_encode 1 = .ok (.iconst 0, 1) := by decide +kernel
theorem dLaw_encode_2 : decode cLaw_encode 2 = .ok (.aload_n 0, 1) := by decide +kernel
theorem dLaw_encode_3 : decode cLaw_encode 3 = .ok (.invokevirtual 17, 3) := by decide +kernel
theorem dLaw_encode_6 : decode cLaw_encode 6 = .ok (.i2l, 1) := by decide +kernel
theorem dLaw_encode_7 : decode cLaw_encode 7 = .ok (.lastore, 1) := by decide +kernel
theorem dLaw_encode_8 : decode cLaw_encode 8 = .ok (.goto 9, 3) := by decide +kernel
theorem dLaw_encode_11 : decode cLaw_encode 11 = .ok (.astore_n 2, 1) := by decide +kernel
theorem dLaw_encode_12 : decode cLaw_encode 12 = .ok (.iconst 1, 1) := by decide +kernel
theorem dLaw_encode_13 : decode cLaw_encode 13 = .ok (.ireturn, 1) := by decide +kernel
theorem dLaw_encode_14 : decode cLaw_encode 14 = .ok (.astore_n 2, 1) := by decide +kernel
theorem dLaw_encode_15 : decode cLaw_encode 15 = .ok (.iconst 2, 1) := by decide +kernel
theorem dLaw_encode_16 : decode cLaw_encode 16 = .ok (.ireturn, 1) := by decide +kernel
theorem dLaw_encode_17 : decode cLaw_encode 17 = .ok (.iconst 0, 1) := by decide +kernel
theorem dLaw_encode_18 : decode cLaw_encode 18 = .ok (.ireturn, 1) := by decide +kernel
theorem dVF_encode_0 : decode cVF_encode 0 = .ok (.aload_n 0, 1) := by decide +kernel
theorem dVF_encode_1 : decode cVF_encode 1 = .ok (.getfield 45, 3) := by decide +kernel
theorem dVF_encode_4 : decode cVF_encode 4 = .ok (.bipush 16, 2) := by decide +kernel
theorem dVF_encode_6 : decode cVF_encode 6 = .ok (.if_icmp .ge 13, 3) := by decide +kernel
theorem dVF_encode_9 : decode cVF_encode 9 = .ok (.new 49, 3) := by decide +kernel
theorem dVF_encode_12 : decode cVF_encode 12 = .ok (.dup, 1) := by decide +kernel
theorem dVF_encode_13 : decode cVF_encode 13 = .ok (.ldc 58, 2) := by decide +kernel
theorem dVF_encode_15 : decode cVF_encode 15 = .ok (.invokespecial 53, 3) := by decide +kernel
theorem dVF_encode_18 : decode cVF_encode 18 = .ok (.athrow, 1) := by decide +kernel
theorem dVF_encode_19 : decode cVF_encode 19 = .ok (.aload_n 0, 1) := by decide +kernel
theorem dVF_encode_20 : decode cVF_encode 20 = .ok (.getfield 23, 3) := by decide +kernel
theorem dVF_encode_23 : decode cVF_encode 23 = .ok (.aload_n 0, 1) := by decide +kernel
theorem dVF_encode_24 : decode cVF_encode 24 = .ok (.getfield 9, 3) := by decide +kernel
theorem dVF_encode_27 : decode cVF_encode 27 = .ok (.invokevirtual 60, 3) := by decide +kernel
theorem dVF_encode_30 : decode cVF_encode 30 = .ok (.istore_n 1, 1) := by decide +kernel
theorem dVF_encode_31 : decode cVF_encode 31 = .ok (.iload_n 1, 1) := by decide +kernel
theorem dVF_encode_32 : decode cVF_encode 32 = .ok (.aload_n 0, 1) := by decide +kernel
theorem dVF_encode_33 : decode cVF_encode 33 = .ok (.getfield 16, 3) := by decide +kernel
theorem dVF_encode_36 : decode cVF_encode 36 = .ok (.invokevirtual 64, 3) := by decide +kernel
theorem dVF_encode_39 : decode cVF_encode 39 = .ok (.if_icmp .le 13, 3) := by decide +kernel
theorem dVF_encode_42 : decode cVF_encode 42 = .ok (.new 68, 3) := by decide +kernel
theorem dVF_encode_45 : decode cVF_encode 45 = .ok (.dup, 1) := by decide +kernel
theorem dVF_encode_46 : decode cVF_encode 46 = .ok (.ldc 70, 2) := by decide +kernel
theorem dVF_encode_48 : decode cVF_encode 48 = .ok (.invokespecial 72, 3) := by decide +kernel
theorem dVF_encode_51 : decode cVF_encode 51 = .ok (.athrow, 1) := by decide +kernel
theorem dVF_encode_52 : decode cVF_encode 52 = .ok (.iload_n 1, 1) := by decide +kernel
theorem dVF_encode_53 : decode cVF_encode 53 = .ok (.iconst 1, 1) := by decide +kernel
theorem dVF_encode_54 : decode cVF_encode 54 = .ok (.if_icmp .ne 17, 3) := by decide +kernel
theorem dVF_encode_57 : decode cVF_encode 57 = .ok (.aload_n 0, 1) := by decide +kernel
theorem dVF_encode_58 : decode cVF_encode 58 = .ok (.getfield 23, 3) := by decide +kernel
theorem dVF_encode_61 : decode cVF_encode 61 = .ok (.aload_n 0, 1) := by decide +kernel
theorem dVF_encode_62 : decode cVF_encode 62 = .ok (.getfield 16, 3) := by decide +kernel
theorem dVF_encode_65 : decode cVF_encode 65 = .ok (.invokevirtual 73, 3) := by decide +kernel
theorem dVF_encode_68 : decode cVF_encode 68 = .ok (.goto 22, 3) := by decide +kernel
theorem dVF_encode_71 : decode cVF_encode 71 = .ok (.aload_n 0, 1) := by decide +kernel
theorem dVF_encode_72 : decode cVF_encode 72 = .ok (.getfield 23, 3) := by decide +kernel
theorem dVF_encode_75 : decode cVF_encode 75 = .ok (.aload_n 0, 1) := by decide +kernel
theorem dVF_encode_76 : decode cVF_encode 76 = .ok (.getfield 9, 3) := by decide +kernel
theorem dVF_encode_79 : decode cVF_encode 79 = .ok (.aload_n 0, 1) := by decide +kernel
theorem dVF_encode_80 : decode cVF_encode 80 = .ok (.getfield 54, 3) := by decide +kernel
theorem dVF_encode_83 : decode cVF_encode 83 = .ok (.aload_n 0, 1) := by decide +kernel
theorem dVF_encode_84 : decode cVF_encode 84 = .ok (.getfield 16, 3) := by decide +kernel
theorem dVF_encode_87 : decode cVF_encode 87 = .ok (.invokevirtual 77, 3) := by decide +kernel
theorem dVF_encode_90 : decode cVF_encode 90 = .ok (.aload_n 0, 1) := by decide +kernel
theorem dVF_encode_91 : decode cVF_encode 91 = .ok (.invokevirtual 81, 3) := by decide +kernel
theorem dVF_encode_94 : decode cVF_encode 94 = .ok (.iload_n 1, 1) := by decide +kernel
theorem dVF_encode_95 : decode cVF_encode 95 = .ok (.ireturn, 1) := by decide +kernel
theorem dCod_measure_0 : decode cCod_measure 0 = .ok (.iconst 0, 1) := by decide +kernel
theorem dCod_measure_1 : decode cCod_measure 1 = .ok (.istore_n 2, 1) := by decide +kernel
theorem dCod_measure_2 : decode cCod_measure 2 = .ok (.iload_n 2, 1) := by decide +kernel
theorem dCod_measure_3 : decode cCod_measure 3 = .ok (.iconst 4, 1) := by decide +kernel
theorem dCod_measure_4 : decode cCod_measure 4 = .ok (.if_icmp .gt 48, 3) := by decide +kernel
theorem dCod_measure_7 : decode cCod_measure 7 = .ok (.fconst 0, 1) := by decide +kernel
theorem dCod_measure_8 : decode cCod_measure 8 = .ok (.fstore_n 3, 1) := by decide +kernel
theorem dCod_measure_9 : decode cCod_measure 9 = .ok (.iload_n 2, 1) := by decide +kernel
theorem dCod_measure_10 : decode cCod_measure 10 = .ok (.istore 4, 2) := by decide +kernel
theorem dCod_measure_12 : decode cCod_measure 12 = .ok (.iload 4, 2) := by decide +kernel
theorem dCod_measure_14 : decode cCod_measure 14 = .ok (.bipush 16, 2) := by decide +kernel
theorem dCod_measure_16 : decode cCod_measure 16 = .ok (.if_icmp .ge 23, 3) := by decide +kernel
theorem dCod_measure_19 : decode cCod_measure 19 = .ok (.fload_n 3, 1) := by decide +kernel
theorem dCod_measure_20 : decode cCod_measure 20 = .ok (.aload_n 1, 1) := by decide +kernel
theorem dCod_measure_21 : decode cCod_measure 21 = .ok (.iload 4, 2) := by decide +kernel
theorem dCod_measure_23 : decode cCod_measure 23 = .ok (.faload, 1) := by decide +kernel
theorem dCod_measure_24 : decode cCod_measure 24 = .ok (.aload_n 1, 1) := by decide +kernel
theorem dCod_measure_25 : decode cCod_measure 25 = .ok (.iload 4, 2) := by decide +kernel
theorem dCod_measure_27 : decode cCod_measure 27 = .ok (.iload_n 2, 1) := by decide +kernel
theorem dCod_measure_28 : decode cCod_measure 28 = .ok (.isub, 1) := by decide +kernel
theorem dCod_measure_29 : decode cCod_measure 29 = .ok (.faload, 1) := by decide +kernel
theorem dCod_measure_30 : decode cCod_measure 30 = .ok (.fmul, 1) := by decide +kernel
theorem dCod_measure_31 : decode cCod_measure 31 = .ok (.fadd, 1) := by decide +kernel
theorem dCod_measure_32 : decode cCod_measure 32 = .ok (.fstore_n 3, 1) := by decide +kernel
theorem dCod_measure_33 : decode cCod_measure 33 = .ok (.iinc 4 1, 3) := by decide +kernel
theorem dCod_measure_36 : decode cCod_measure 36 = .ok (.goto (-24), 3) := by decide +kernel
theorem dCod_measure_39 : decode cCod_measure 39 = .ok (.aload_n 0, 1) := by decide +kernel
theorem dCod_measure_40 : decode cCod_measure 40 = .ok (.getfield 25, 3) := by decide +kernel
theorem dCod_measure_43 : decode cCod_measure 43 = .ok (.iload_n 2, 1) := by decide +kernel
theorem dCod_measure_44 : decode cCod_measure 44 = .ok (.fload_n 3, 1) := by decide +kernel
theorem dCod_measure_45 : decode cCod_measure 45 = .ok (.fastore, 1) := by decide +kernel
theorem dCod_measure_46 : decode cCod_measure 46 = .ok (.iinc 2 1, 3) := by decide +kernel
theorem dCod_measure_49 : decode cCod_measure 49 = .ok (.goto (-47), 3) := by decide +kernel
theorem dCod_measure_52 : decode cCod_measure 52 = .ok (.aload_n 0, 1) := by decide +kernel
theorem dCod_measure_53 : decode cCod_measure 53 = .ok (.getfield 25, 3) := by decide +kernel
theorem dCod_measure_56 : decode cCod_measure 56 = .ok (.iconst 0, 1) := by decide +kernel
theorem dCod_measure_57 : decode cCod_measure 57 = .ok (.faload, 1) := by decide +kernel
theorem dCod_measure_58 : decode cCod_measure 58 = .ok (.fconst 1, 1) := by decide +kernel
theorem dCod_measure_59 : decode cCod_measure 59 = .ok (.fcmp .g, 1) := by decide +kernel
theorem dCod_measure_60 : decode cCod_measure 60 = .ok (.ifCond .ge 7, 3) := by decide +kernel
theorem dCod_measure_63 : decode cCod_measure 63 = .ok (.iconst 1, 1) := by decide +kernel
theorem dCod_measure_64 : decode cCod_measure 64 = .ok (.goto 5, 3) := by decide +kernel
theorem dCod_measure_67 : decode cCod_measure 67 = .ok (.bipush 14, 2) := by decide +kernel
theorem dCod_measure_69 : decode cCod_measure 69 = .ok (.ireturn, 1) := by decide +kernel
theorem dRow_room_0 : decode cRow_room 0 = .ok (.bipush 120, 2) := by decide +kernel
theorem dRow_room_2 : decode cRow_room 2 = .ok (.aload_n 0, 1) := by decide +kernel
theorem dRow_room_3 : decode cRow_room 3 = .ok (.getfield 15, 3) := by decide +kernel
theorem dRow_room_6 : decode cRow_room 6 = .ok (.isub, 1) := by decide +kernel
theorem dRow_room_7 : decode cRow_room 7 = .ok (.ireturn, 1) := by decide +kernel
theorem dCod_tellSilence_0 : decode cCod_tellSilence 0 = .ok (.aload_n 0, 1) := by decide +kernel
theorem dCod_tellSilence_1 : decode cCod_tellSilence 1 = .ok (.getfield 12, 3) := by decide +kernel
theorem dCod_tellSilence_4 : decode cCod_tellSilence 4 = .ok (.invokevirtual 39, 3) := by decide +kernel
theorem dCod_tellSilence_7 : decode cCod_tellSilence 7 = .ok (.aload_n 1, 1) := by decide +kernel
theorem dCod_tellSilence_8 : decode cCod_tellSilence 8 = .ok (.iconst 0, 1) := by decide +kernel
theorem dCod_tellSilence_9 : decode cCod_tellSilence 9 = .ok (.invokevirtual 42, 3) := by decide +kernel
theorem dCod_tellSilence_12 : decode cCod_tellSilence 12 = .ok (.aload_n 0, 1) := by decide +kernel
theorem dCod_tellSilence_13 : decode cCod_tellSilence 13 = .ok (.dup, 1) := by decide +kernel
theorem dCod_tellSilence_14 : decode cCod_tellSilence 14 = .ok (.getfield 35, 3) := by decide +kernel
theorem dCod_tellSilence_17 : decode cCod_tellSilence 17 = .ok (.iconst 1, 1) := by decide +kernel
theorem dCod_tellSilence_18 : decode cCod_tellSilence 18 = .ok (.iadd, 1) := by decide +kernel
theorem dCod_tellSilence_19 : decode cCod_tellSilence 19 = .ok (.putfield 35, 3) := by decide +kernel
theorem dCod_tellSilence_22 : decode cCod_tellSilence 22 = .ok (.return_, 1) := by decide +kernel
theorem dRow_add_0 : decode cRow_add 0 = .ok (.aload_n 0, 1) := by decide +kernel
theorem dRow_add_1 : decode cRow_add 1 = .ok (.getfield 15, 3) := by decide +kernel
theorem dRow_add_4 : decode cRow_add 4 = .ok (.bipush 120, 2) := by decide +kernel
theorem dRow_add_6 : decode cRow_add 6 = .ok (.if_icmp .ge 23, 3) := by decide +kernel
theorem dRow_add_9 : decode cRow_add 9 = .ok (.aload_n 0, 1) := by decide +kernel
theorem dRow_add_10 : decode cRow_add 10 = .ok (.getfield 9, 3) := by decide +kernel
theorem dRow_add_13 : decode cRow_add 13 = .ok (.aload_n 0, 1) := by decide +kernel
theorem dRow_add_14 : decode cRow_add 14 = .ok (.getfield 15, 3) := by decide +kernel
theorem dRow_add_17 : decode cRow_add 17 = .ok (.iload_n 1, 1) := by decide +kernel
theorem dRow_add_18 : decode cRow_add 18 = .ok (.iastore, 1) := by decide +kernel
theorem dRow_add_19 : decode cRow_add 19 = .ok (.aload_n 0, 1) := by decide +kernel
theorem dRow_add_20 : decode cRow_add 20 = .ok (.dup, 1) := by decide +kernel
theorem dRow_add_21 : decode cRow_add 21 = .ok (.getfield 15, 3) := by decide +kernel
theorem dRow_add_24 : decode cRow_add 24 = .ok (.iconst 1, 1) := by decide +kernel
theorem dRow_add_25 : decode cRow_add 25 = .ok (.iadd, 1) := by decide +kernel
theorem dRow_add_26 : decode cRow_add 26 = .ok (.putfield 15, 3) := by decide +kernel
theorem dRow_add_29 : decode cRow_add 29 = .ok (.return_, 1) := by decide +kernel
theorem dCod_tellFrame_0 : decode cCod_tellFrame 0 = .ok (.aload_n 0, 1) := by decide +kernel
theorem dCod_tellFrame_1 : decode cCod_tellFrame 1 = .ok (.getfield 21, 3) := by decide +kernel
theorem dCod_tellFrame_4 : decode cCod_tellFrame 4 = .ok (.iload_n 2, 1) := by decide +kernel
theorem dCod_tellFrame_5 : decode cCod_tellFrame 5 = .ok (.putfield 48, 3) := by decide +kernel
theorem dCod_tellFrame_8 : decode cCod_tellFrame 8 = .ok (.aload_n 0, 1) := by decide +kernel
theorem dCod_tellFrame_9 : decode cCod_tellFrame 9 = .ok (.invokevirtual 52, 3) := by decide +kernel
theorem dCod_tellFrame_12 : decode cCod_tellFrame 12 = .ok (.aload_n 0, 1) := by decide +kernel
theorem dCod_tellFrame_13 : decode cCod_tellFrame 13 = .ok (.getfield 21, 3) := by decide +kernel
theorem dCod_tellFrame_16 : decode cCod_tellFrame 16 = .ok (.aload_n 0, 1) := by decide +kernel
theorem dCod_tellFrame_17 : decode cCod_tellFrame 17 = .ok (.aload_n 1, 1) := by decide +kernel
theorem dCod_tellFrame_18 : decode cCod_tellFrame 18 = .ok (.invokevirtual 55, 3) := by decide +kernel
theorem dCod_tellFrame_21 : decode cCod_tellFrame 21 = .ok (.invokevirtual 59, 3) := by decide +kernel
theorem dCod_tellFrame_24 : decode cCod_tellFrame 24 = .ok (.aload_n 0, 1) := by decide +kernel
theorem dCod_tellFrame_25 : decode cCod_tellFrame 25 = .ok (.aload_n 1, 1) := by decide +kernel
theorem dCod_tellFrame_26 : decode cCod_tellFrame 26 = .ok (.invokevirtual 63, 3) := by decide +kernel
theorem dCod_tellFrame_29 : decode cCod_tellFrame 29 = .ok (.aload_n 0, 1) := by decide +kernel
theorem dCod_tellFrame_30 : decode cCod_tellFrame 30 = .ok (.getfield 21, 3) := by decide +kernel
theorem dCod_tellFrame_33 : decode cCod_tellFrame 33 = .ok (.aload_n 3, 1) := by decide +kernel
theorem dCod_tellFrame_34 : decode cCod_tellFrame 34 = .ok (.invokevirtual 67, 3) := by decide +kernel
theorem dCod_tellFrame_37 : decode cCod_tellFrame 37 = .ok (.aload_n 0, 1) := by decide +kernel
theorem dCod_tellFrame_38 : decode cCod_tellFrame 38 = .ok (.dup, 1) := by decide +kernel
theorem dCod_tellFrame_39 : decode cCod_tellFrame 39 = .ok (.getfield 35, 3) := by decide +kernel
theorem dCod_tellFrame_42 : decode cCod_tellFrame 42 = .ok (.iconst 1, 1) := by decide +kernel
theorem dCod_tellFrame_43 : decode cCod_tellFrame 43 = .ok (.iadd, 1) := by decide +kernel
theorem dCod_tellFrame_44 : decode cCod_tellFrame 44 = .ok (.putfield 35, 3) := by decide +kernel
theorem dCod_tellFrame_47 : decode cCod_tellFrame 47 = .ok (.return_, 1) := by decide +kernel
theorem dCod_chooseCodes_0 : decode cCod_chooseCodes 0 = .ok (.aload_n 0, 1) := by decide +kernel
theorem dCod_chooseCodes_1 : decode cCod_chooseCodes 1 = .ok (.getfield 25, 3) := by decide +kernel
theorem dCod_chooseCodes_4 : decode cCod_chooseCodes 4 = .ok (.iconst 0, 1) := by decide +kernel
theorem dCod_chooseCodes_5 : decode cCod_chooseCodes 5 = .ok (.faload, 1) := by decide +kernel
theorem dCod_chooseCodes_6 : decode cCod_chooseCodes 6 = .ok (.fstore_n 1, 1) := by decide +kernel
theorem dCod_chooseCodes_7 : decode cCod_chooseCodes 7 = .ok (.iconst 1, 1) := by decide +kernel
theorem dCod_chooseCodes_8 : decode cCod_chooseCodes 8 = .ok (.istore_n 2, 1) := by decide +kernel
theorem dCod_chooseCodes_9 : decode cCod_chooseCodes 9 = .ok (.iload_n 2, 1) := by decide +kernel
theorem dCod_chooseCodes_10 : decode cCod_chooseCodes 10 = .ok (.iconst 4, 1) := by decide +kernel
theorem dCod_chooseCodes_11 : decode cCod_chooseCodes 11 = .ok (.if_icmp .gt 93, 3) := by decide +kernel
theorem dCod_chooseCodes_14 : decode cCod_chooseCodes 14 = .ok (.aload_n 0, 1) := by decide +kernel
theorem dCod_chooseCodes_15 : decode cCod_chooseCodes 15 = .ok (.getfield 25, 3) := by decide +kernel
theorem dCod_chooseCodes_18 : decode cCod_chooseCodes 18 = .ok (.iload_n 2, 1) := by decide +kernel
theorem dCod_chooseCodes_19 : decode cCod_chooseCodes 19 = .ok (.faload, 1) := by decide +kernel
theorem dCod_chooseCodes_20 : decode cCod_chooseCodes 20 = .ok (.fstore_n 3, 1) := by decide +kernel
theorem dCod_chooseCodes_21 : decode cCod_chooseCodes 21 = .ok (.iconst 1, 1) := by decide +kernel
theorem dCod_chooseCodes_22 : decode cCod_chooseCodes 22 = .ok (.istore 4, 2) := by decide +kernel
theorem dCod_chooseCodes_24 : decode cCod_chooseCodes 24 = .ok (.iload 4, 2) := by decide +kernel
theorem dCod_chooseCodes_26 : decode cCod_chooseCodes 26 = .ok (.iload_n 2, 1) := by decide +kernel
theorem dCod_chooseCodes_27 : decode cCod_chooseCodes 27 = .ok (.if_icmp .ge 32, 3) := by decide +kernel
theorem dCod_chooseCodes_30 : decode cCod_chooseCodes 30 = .ok (.fload_n 3, 1) := by decide +kernel
theorem dCod_chooseCodes_31 : decode cCod_chooseCodes 31 = .ok (.aload_n 0, 1) := by decide +kernel
theorem dCod_chooseCodes_32 : decode cCod_chooseCodes 32 = .ok (.getfield 21, 3) := by decide +kernel
theorem dCod_chooseCodes_35 : decode cCod_chooseCodes 35 = .ok (.getfield 71, 3) := by decide +kernel
theorem dCod_chooseCodes_38 : decode cCod_chooseCodes 38 = .ok (.iload 4, 2) := by decide +kernel
theorem dCod_chooseCodes_40 : decode cCod_chooseCodes 40 = .ok (.faload, 1) := by decide +kernel
theorem dCod_chooseCodes_41 : decode cCod_chooseCodes 41 = .ok (.aload_n 0, 1) := by decide +kernel
theorem dCod_chooseCodes_42 : decode cCod_chooseCodes 42 = .ok (.getfield 25, 3) := by decide +kernel
theorem dCod_chooseCodes_45 : decode cCod_chooseCodes 45 = .ok (.iload_n 2, 1) := by decide +kernel
theorem dCod_chooseCodes_46 : decode cCod_chooseCodes 46 = .ok (.iload 4, 2) := by decide +kernel
theorem dCod_chooseCodes_48 : decode cCod_chooseCodes 48 = .ok (.isub, 1) := by decide +kernel
theorem dCod_chooseCodes_49 : decode cCod_chooseCodes 49 = .ok (.faload, 1) := by decide +kernel
theorem dCod_chooseCodes_50 : decode cCod_chooseCodes 50 = .ok (.fmul, 1) := by decide +kernel
theorem dCod_chooseCodes_51 : decode cCod_chooseCodes 51 = .ok (.fsub, 1) := by decide +kernel
theorem dCod_chooseCodes_52 : decode cCod_chooseCodes 52 = .ok (.fstore_n 3, 1) := by decide +kernel
theorem dCod_chooseCodes_53 : decode cCod_chooseCodes 53 = .ok (.iinc 4 1, 3) := by decide +kernel
theorem dCod_chooseCodes_56 : decode cCod_chooseCodes 56 = .ok (.goto (-32), 3) := by decide +kernel
theorem dCod_chooseCodes_59 : decode cCod_chooseCodes 59 = .ok (.fload_n 3, 1) := by decide +kernel
theorem dCod_chooseCodes_60 : decode cCod_chooseCodes 60 = .ok (.fload_n 1, 1) := by decide +kernel
theorem dCod_chooseCodes_61 : decode cCod_chooseCodes 61 = .ok (.invokestatic 74, 3) := by decide +kernel
theorem dCod_chooseCodes_64 : decode cCod_chooseCodes 64 = .ok (.fstore 4, 2) := by decide +kernel
theorem dCod_chooseCodes_66 : decode cCod_chooseCodes 66 = .ok (.aload_n 0, 1) := by decide +kernel
theorem dCod_chooseCodes_67 : decode cCod_chooseCodes 67 = .ok (.getfield 21, 3) := by decide +kernel
theorem dCod_chooseCodes_70 : decode cCod_chooseCodes 70 = .ok (.iload_n 2, 1) := by decide +kernel
theorem dCod_chooseCodes_71 : decode cCod_chooseCodes 71 = .ok (.fload 4, 2) := by decide +kernel
theorem dCod_chooseCodes_73 : decode cCod_chooseCodes 73 = .ok (.ldc 78, 2) := by decide +kernel
theorem dCod_chooseCodes_75 : decode cCod_chooseCodes 75 = .ok (.fmul, 1) := by decide +kernel
theorem dCod_chooseCodes_76 : decode cCod_chooseCodes 76 = .ok (.bipush (-15), 2) := by decide +kernel
theorem dCod_chooseCodes_78 : decode cCod_chooseCodes 78 = .ok (.bipush 15, 2) := by decide +kernel
theorem dCod_chooseCodes_80 : decode cCod_chooseCodes 80 = .ok (.invokestatic 79, 3) := by decide +kernel
theorem dCod_chooseCodes_83 : decode cCod_chooseCodes 83 = .ok (.invokevirtual 83, 3) := by decide +kernel
theorem dCod_chooseCodes_86 : decode cCod_chooseCodes 86 = .ok (.fstore 5, 2) := by decide +kernel
theorem dCod_chooseCodes_88 : decode cCod_chooseCodes 88 = .ok (.fload_n 1, 1) := by decide +kernel
theorem dCod_chooseCodes_89 : decode cCod_chooseCodes 89 = .ok (.fconst 1, 1) := by decide +kernel
theorem dCod_chooseCodes_90 : decode cCod_chooseCodes 90 = .ok (.fload 5, 2) := by decide +kernel
theorem dCod_chooseCodes_92 : decode cCod_chooseCodes 92 = .ok (.fload 5, 2) := by decide +kernel
theorem dCod_chooseCodes_94 : decode cCod_chooseCodes 94 = .ok (.fmul, 1) := by decide +kernel
theorem dCod_chooseCodes_95 : decode cCod_chooseCodes 95 = .ok (.fsub, 1) := by decide +kernel
theorem dCod_chooseCodes_96 : decode cCod_chooseCodes 96 = .ok (.fmul, 1) := by decide +kernel
theorem dCod_chooseCodes_97 : decode cCod_chooseCodes 97 = .ok (.fstore_n 1, 1) := by decide +kernel
theorem dCod_chooseCodes_98 : decode cCod_chooseCodes 98 = .ok (.iinc 2 1, 3) := by decide +kernel
theorem dCod_chooseCodes_101 : decode cCod_chooseCodes 101 = .ok (.goto (-92), 3) := by decide +kernel
theorem dCod_chooseCodes_104 : decode cCod_chooseCodes 104 = .ok (.return_, 1) := by decide +kernel
theorem dVF_quotient_0 : decode cVF_quotient 0 = .ok (.fload_n 1, 1) := by decide +kernel
theorem dVF_quotient_1 : decode cVF_quotient 1 = .ok (.fconst 0, 1) := by decide +kernel
theorem dVF_quotient_2 : decode cVF_quotient 2 = .ok (.fcmp .l, 1) := by decide +kernel
theorem dVF_quotient_3 : decode cVF_quotient 3 = .ok (.ifCond .ne 7, 3) := by decide +kernel
theorem dVF_quotient_6 : decode cVF_quotient 6 = .ok (.fconst 0, 1) := by decide +kernel
theorem dVF_quotient_7 : decode cVF_quotient 7 = .ok (.goto 6, 3) := by decide +kernel
theorem dVF_quotient_10 : decode cVF_quotient 10 = .ok (.fload_n 0, 1) := by decide +kernel
theorem dVF_quotient_11 : decode cVF_quotient 11 = .ok (.fload_n 1, 1) := by decide +kernel
theorem dVF_quotient_12 : decode cVF_quotient 12 = .ok (.fdiv, 1) := by decide +kernel
theorem dVF_quotient_13 : decode cVF_quotient 13 = .ok (.freturn, 1) := by decide +kernel
theorem dVF_rounded_0 : decode cVF_rounded 0 = .ok (.fload_n 0, 1) := by decide +kernel
theorem dVF_rounded_1 : decode cVF_rounded 1 = .ok (.fconst 0, 1) := by decide +kernel
theorem dVF_rounded_2 : decode cVF_rounded 2 = .ok (.fcmp .g, 1) := by decide +kernel
theorem dVF_rounded_3 : decode cVF_rounded 3 = .ok (.ifCond .ge 10, 3) := by decide +kernel
theorem dVF_rounded_6 : decode cVF_rounded 6 = .ok (.fload_n 0, 1) := by decide +kernel
theorem dVF_rounded_7 : decode cVF_rounded 7 = .ok (.ldc 194, 2) := by decide +kernel
theorem dVF_rounded_9 : decode cVF_rounded 9 = .ok (.fsub, 1) := by decide +kernel
theorem dVF_rounded_10 : decode cVF_rounded 10 = .ok (.goto 7, 3) := by decide +kernel
theorem dVF_rounded_13 : decode cVF_rounded 13 = .ok (.fload_n 0, 1) := by decide +kernel
theorem dVF_rounded_14 : decode cVF_rounded 14 = .ok (.ldc 194, 2) := by decide +kernel
theorem dVF_rounded_16 : decode cVF_rounded 16 = .ok (.fadd, 1) := by decide +kernel
theorem dVF_rounded_17 : decode cVF_rounded 17 = .ok (.f2i, 1) := by decide +kernel
theorem dVF_rounded_18 : decode cVF_rounded 18 = .ok (.istore_n 3, 1) := by decide +kernel
theorem dVF_rounded_19 : decode cVF_rounded 19 = .ok (.iload_n 1, 1) := by decide +kernel
theorem dVF_rounded_20 : decode cVF_rounded 20 = .ok (.iload_n 2, 1) := by decide +kernel
theorem dVF_rounded_21 : decode cVF_rounded 21 = .ok (.iload_n 3, 1) := by decide +kernel
theorem dVF_rounded_22 : decode cVF_rounded 22 = .ok (.invokestatic 195, 3) := by decide +kernel
theorem dVF_rounded_25 : decode cVF_rounded 25 = .ok (.invokestatic 201, 3) := by decide +kernel
theorem dVF_rounded_28 : decode cVF_rounded 28 = .ok (.ireturn, 1) := by decide +kernel
theorem dPac_takeCode_0 : decode cPac_takeCode 0 = .ok (.iload_n 2, 1) := by decide +kernel
theorem dPac_takeCode_1 : decode cPac_takeCode 1 = .ok (.i2f, 1) := by decide +kernel
theorem dPac_takeCode_2 : decode cPac_takeCode 2 = .ok (.ldc 39, 2) := by decide +kernel
theorem dPac_takeCode_4 : decode cPac_takeCode 4 = .ok (.fdiv, 1) := by decide +kernel
theorem dPac_takeCode_5 : decode cPac_takeCode 5 = .ok (.fstore_n 3, 1) := by decide +kernel
theorem dPac_takeCode_6 : decode cPac_takeCode 6 = .ok (.iconst 1, 1) := by decide +kernel
theorem dPac_takeCode_7 : decode cPac_takeCode 7 = .ok (.istore 4, 2) := by decide +kernel
theorem dPac_takeCode_9 : decode cPac_takeCode 9 = .ok (.iload 4, 2) := by decide +kernel
theorem dPac_takeCode_11 : decode cPac_takeCode 11 = .ok (.iload_n 1, 1) := by decide +kernel
theorem dPac_takeCode_12 : decode cPac_takeCode 12 = .ok (.iload 4, 2) := by decide +kernel
theorem dPac_takeCode_14 : decode cPac_takeCode 14 = .ok (.isub, 1) := by decide +kernel
theorem dPac_takeCode_15 : decode cPac_takeCode 15 = .ok (.if_icmp .gt 59, 3) := by decide +kernel
theorem dPac_takeCode_18 : decode cPac_takeCode 18 = .ok (.aload_n 0, 1) := by decide +kernel
theorem dPac_takeCode_19 : decode cPac_takeCode 19 = .ok (.getfield 15, 3) := by decide +kernel
theorem dPac_takeCode_22 : decode cPac_takeCode 22 = .ok (.iload 4, 2) := by decide +kernel
theorem dPac_takeCode_24 : decode cPac_takeCode 24 = .ok (.faload, 1) := by decide +kernel
theorem dPac_takeCode_25 : decode cPac_takeCode 25 = .ok (.fstore 5, 2) := by decide +kernel
theorem dPac_takeCode_27 : decode cPac_takeCode 27 = .ok (.aload_n 0, 1) := by decide +kernel
theorem dPac_takeCode_28 : decode cPac_takeCode 28 = .ok (.getfield 15, 3) := by decide +kernel
theorem dPac_takeCode_31 : decode cPac_takeCode 31 = .ok (.iload_n 1, 1) := by decide +kernel
theorem dPac_takeCode_32 : decode cPac_takeCode 32 = .ok (.iload 4, 2) := by decide +kernel
theorem dPac_takeCode_34 : decode cPac_takeCode 34 = .ok (.isub, 1) := by decide +kernel
theorem dPac_takeCode_35 : decode cPac_takeCode 35 = .ok (.faload, 1) := by decide +kernel
theorem dPac_takeCode_36 : decode cPac_takeCode 36 = .ok (.fstore 6, 2) := by decide +kernel
theorem dPac_takeCode_38 : decode cPac_takeCode 38 = .ok (.aload_n 0, 1) := by decide +kernel
theorem dPac_takeCode_39 : decode cPac_takeCode 39 = .ok (.getfield 15, 3) := by decide +kernel
theorem dPac_takeCode_42 : decode cPac_takeCode 42 = .ok (.iload 4, 2) := by decide +kernel
theorem dPac_takeCode_44 : decode cPac_takeCode 44 = .ok (.fload 5, 2) := by decide +kernel
theorem dPac_takeCode_46 : decode cPac_takeCode 46 = .ok (.fload_n 3, 1) := by decide +kernel
theorem dPac_takeCode_47 : decode cPac_takeCode 47 = .ok (.fload 6, 2) := by decide +kernel
theorem dPac_takeCode_49 : decode cPac_takeCode 49 = .ok (.fmul, 1) := by decide +kernel
theorem dPac_takeCode_50 : decode cPac_takeCode 50 = .ok (.fsub, 1) := by decide +kernel
theorem dPac_takeCode_51 : decode cPac_takeCode 51 = .ok (.fastore, 1) := by decide +kernel
theorem dPac_takeCode_52 : decode cPac_takeCode 52 = .ok (.aload_n 0, 1) := by decide +kernel
theorem dPac_takeCode_53 : decode cPac_takeCode 53 = .ok (.getfield 15, 3) := by decide +kernel
theorem dPac_takeCode_56 : decode cPac_takeCode 56 = .ok (.iload_n 1, 1) := by decide +kernel
theorem dPac_takeCode_57 : decode cPac_takeCode 57 = .ok (.iload 4, 2) := by decide +kernel
theorem dPac_takeCode_59 : decode cPac_takeCode 59 = .ok (.isub, 1) := by decide +kernel
theorem dPac_takeCode_60 : decode cPac_takeCode 60 = .ok (.fload 6, 2) := by decide +kernel
theorem dPac_takeCode_62 : decode cPac_takeCode 62 = .ok (.fload_n 3, 1) := by decide +kernel
theorem dPac_takeCode_63 : decode cPac_takeCode 63 = .ok (.fload 5, 2) := by decide +kernel
theorem dPac_takeCode_65 : decode cPac_takeCode 65 = .ok (.fmul, 1) := by decide +kernel
theorem dPac_takeCode_66 : decode cPac_takeCode 66 = .ok (.fsub, 1) := by decide +kernel
theorem dPac_takeCode_67 : decode cPac_takeCode 67 = .ok (.fastore, 1) := by decide +kernel
theorem dPac_takeCode_68 : decode cPac_takeCode 68 = .ok (.iinc 4 1, 3) := by decide +kernel
theorem dPac_takeCode_71 : decode cPac_takeCode 71 = .ok (.goto (-62), 3) := by decide +kernel
theorem dPac_takeCode_74 : decode cPac_takeCode 74 = .ok (.aload_n 0, 1) := by decide +kernel
theorem dPac_takeCode_75 : decode cPac_takeCode 75 = .ok (.getfield 9, 3) := by decide +kernel
theorem dPac_takeCode_78 : decode cPac_takeCode 78 = .ok (.iload_n 1, 1) := by decide +kernel
theorem dPac_takeCode_79 : decode cPac_takeCode 79 = .ok (.iload_n 2, 1) := by decide +kernel
theorem dPac_takeCode_80 : decode cPac_takeCode 80 = .ok (.iastore, 1) := by decide +kernel
theorem dPac_takeCode_81 : decode cPac_takeCode 81 = .ok (.aload_n 0, 1) := by decide +kernel
theorem dPac_takeCode_82 : decode cPac_takeCode 82 = .ok (.getfield 15, 3) := by decide +kernel
theorem dPac_takeCode_85 : decode cPac_takeCode 85 = .ok (.iload_n 1, 1) := by decide +kernel
theorem dPac_takeCode_86 : decode cPac_takeCode 86 = .ok (.fload_n 3, 1) := by decide +kernel
theorem dPac_takeCode_87 : decode cPac_takeCode 87 = .ok (.fastore, 1) := by decide +kernel
theorem dPac_takeCode_88 : decode cPac_takeCode 88 = .ok (.fload_n 3, 1) := by decide +kernel
theorem dPac_takeCode_89 : decode cPac_takeCode 89 = .ok (.freturn, 1) := by decide +kernel
theorem dCod_greatestRest_0 : decode cCod_greatestRest 0 = .ok (.fconst 0, 1) := by decide +kernel
theorem dCod_greatestRest_1 : decode cCod_greatestRest 1 = .ok (.fstore_n 2, 1) := by decide +kernel
theorem dCod_greatestRest_2 : decode cCod_greatestRest 2 = .ok (.iconst 0, 1) := by decide +kernel
theorem dCod_greatestRest_3 : decode cCod_greatestRest 3 = .ok (.istore_n 3, 1) := by decide +kernel
theorem dCod_greatestRest_4 : decode cCod_greatestRest 4 = .ok (.iload_n 3, 1) := by decide +kernel
theorem dCod_greatestRest_5 : decode cCod_greatestRest 5 = .ok (.bipush 16, 2) := by decide +kernel
theorem dCod_greatestRest_7 : decode cCod_greatestRest 7 = .ok (.if_icmp .ge 69, 3) := by decide +kernel
theorem dCod_greatestRest_10 : decode cCod_greatestRest 10 = .ok (.fconst 0, 1) := by decide +kernel
theorem dCod_greatestRest_11 : decode cCod_greatestRest 11 = .ok (.fstore 4, 2) := by decide +kernel
theorem dCod_greatestRest_13 : decode cCod_greatestRest 13 = .ok (.iconst 1, 1) := by decide +kernel
theorem dCod_greatestRest_14 : decode cCod_greatestRest 14 = .ok (.istore 5, 2) := by decide +kernel
theorem dCod_greatestRest_16 : decode cCod_greatestRest 16 = .ok (.iload 5, 2) := by decide +kernel
theorem dCod_greatestRest_18 : decode cCod_greatestRest 18 = .ok (.iconst 4, 1) := by decide +kernel
theorem dCod_greatestRest_19 : decode cCod_greatestRest 19 = .ok (.if_icmp .gt 37, 3) := by decide +kernel
theorem dCod_greatestRest_22 : decode cCod_greatestRest 22 = .ok (.iload 5, 2) := by decide +kernel
theorem dCod_greatestRest_24 : decode cCod_greatestRest 24 = .ok (.iload_n 3, 1) := by decide +kernel
theorem dCod_greatestRest_25 : decode cCod_greatestRest 25 = .ok (.if_icmp .gt 31, 3) := by decide +kernel
theorem dCod_greatestRest_28 : decode cCod_greatestRest 28 = .ok (.fload 4, 2) := by decide +kernel
theorem dCod_greatestRest_30 : decode cCod_greatestRest 30 = .ok (.aload_n 0, 1) := by decide +kernel
theorem dCod_greatestRest_31 : decode cCod_greatestRest 31 = .ok (.getfield 21, 3) := by decide +kernel
theorem dCod_greatestRest_34 : decode cCod_greatestRest 34 = .ok (.getfield 71, 3) := by decide +kernel
theorem dCod_greatestRest_37 : decode cCod_greatestRest 37 = .ok (.iload 5, 2) := by decide +kernel
theorem dCod_greatestRest_39 : decode cCod_greatestRest 39 = .ok (.faload, 1) := by decide +kernel
theorem dCod_greatestRest_40 : decode cCod_greatestRest 40 = .ok (.aload_n 1, 1) := by decide +kernel
theorem dCod_greatestRest_41 : decode cCod_greatestRest 41 = .ok (.iload_n 3, 1) := by decide +kernel
theorem dCod_greatestRest_42 : decode cCod_greatestRest 42 = .ok (.iload 5, 2) := by decide +kernel
theorem dCod_greatestRest_44 : decode cCod_greatestRest 44 = .ok (.isub, 1) := by decide +kernel
theorem dCod_greatestRest_45 : decode cCod_greatestRest 45 = .ok (.faload, 1) := by decide +kernel
theorem dCod_greatestRest_46 : decode cCod_greatestRest 46 = .ok (.fmul, 1) := by decide +kernel
theorem dCod_greatestRest_47 : decode cCod_greatestRest 47 = .ok (.fadd, 1) := by decide +kernel
theorem dCod_greatestRest_48 : decode cCod_greatestRest 48 = .ok (.fstore 4, 2) := by decide +kernel
theorem dCod_greatestRest_50 : decode cCod_greatestRest 50 = .ok (.iinc 5 1, 3) := by decide +kernel
theorem dCod_greatestRest_53 : decode cCod_greatestRest 53 = .ok (.goto (-37), 3) := by decide +kernel
theorem dCod_greatestRest_56 : decode cCod_greatestRest 56 = .ok (.fload_n 2, 1) := by decide +kernel
theorem dCod_greatestRest_57 : decode cCod_greatestRest 57 = .ok (.aload_n 1, 1) := by decide +kernel
theorem dCod_greatestRest_58 : decode cCod_greatestRest 58 = .ok (.iload_n 3, 1) := by decide +kernel
theorem dCod_greatestRest_59 : decode cCod_greatestRest 59 = .ok (.faload, 1) := by decide +kernel
theorem dCod_greatestRest_60 : decode cCod_greatestRest 60 = .ok (.fload 4, 2) := by decide +kernel
theorem dCod_greatestRest_62 : decode cCod_greatestRest 62 = .ok (.fsub, 1) := by decide +kernel
theorem dCod_greatestRest_63 : decode cCod_greatestRest 63 = .ok (.invokestatic 87, 3) := by decide +kernel
theorem dCod_greatestRest_66 : decode cCod_greatestRest 66 = .ok (.invokestatic 91, 3) := by decide +kernel
theorem dCod_greatestRest_69 : decode cCod_greatestRest 69 = .ok (.fstore_n 2, 1) := by decide +kernel
theorem dCod_greatestRest_70 : decode cCod_greatestRest 70 = .ok (.iinc 3 1, 3) := by decide +kernel
theorem dCod_greatestRest_73 : decode cCod_greatestRest 73 = .ok (.goto (-69), 3) := by decide +kernel
theorem dCod_greatestRest_76 : decode cCod_greatestRest 76 = .ok (.fload_n 2, 1) := by decide +kernel
theorem dCod_greatestRest_77 : decode cCod_greatestRest 77 = .ok (.freturn, 1) := by decide +kernel
theorem dVF_unsigned_0 : decode cVF_unsigned 0 = .ok (.fload_n 0, 1) := by decide +kernel
theorem dVF_unsigned_1 : decode cVF_unsigned 1 = .ok (.fconst 0, 1) := by decide +kernel
theorem dVF_unsigned_2 : decode cVF_unsigned 2 = .ok (.fcmp .g, 1) := by decide +kernel
theorem dVF_unsigned_3 : decode cVF_unsigned 3 = .ok (.ifCond .ge 8, 3) := by decide +kernel
theorem dVF_unsigned_6 : decode cVF_unsigned 6 = .ok (.fload_n 0, 1) := by decide +kernel
theorem dVF_unsigned_7 : decode cVF_unsigned 7 = .ok (.fneg, 1) := by decide +kernel
theorem dVF_unsigned_8 : decode cVF_unsigned 8 = .ok (.goto 4, 3) := by decide +kernel
theorem dVF_unsigned_11 : decode cVF_unsigned 11 = .ok (.fload_n 0, 1) := by decide +kernel
theorem dVF_unsigned_12 : decode cVF_unsigned 12 = .ok (.freturn, 1) := by decide +kernel
theorem dVF_greater_0 : decode cVF_greater 0 = .ok (.fload_n 0, 1) := by decide +kernel
theorem dVF_greater_1 : decode cVF_greater 1 = .ok (.fload_n 1, 1) := by decide +kernel
theorem dVF_greater_2 : decode cVF_greater 2 = .ok (.fcmp .l, 1) := by decide +kernel
theorem dVF_greater_3 : decode cVF_greater 3 = .ok (.ifCond .lt 7, 3) := by decide +kernel
theorem dVF_greater_6 : decode cVF_greater 6 = .ok (.fload_n 0, 1) := by decide +kernel
theorem dVF_greater_7 : decode cVF_greater 7 = .ok (.goto 4, 3) := by decide +kernel
theorem dVF_greater_10 : decode cVF_greater 10 = .ok (.fload_n 1, 1) := by decide +kernel
theorem dVF_greater_11 : decode cVF_greater 11 = .ok (.freturn, 1) := by decide +kernel
theorem dPac_chooseStep_0 : decode cPac_chooseStep 0 = .ok (.iconst 0, 1) := by decide +kernel
theorem dPac_chooseStep_1 : decode cPac_chooseStep 1 = .ok (.istore_n 2, 1) := by decide +kernel
theorem dPac_chooseStep_2 : decode cPac_chooseStep 2 = .ok (.iload_n 2, 1) := by decide +kernel
theorem dPac_chooseStep_3 : decode cPac_chooseStep 3 = .ok (.bipush 15, 2) := by decide +kernel
theorem dPac_chooseStep_5 : decode cPac_chooseStep 5 = .ok (.if_icmp .ge 22, 3) := by decide +kernel
theorem dPac_chooseStep_8 : decode cPac_chooseStep 8 = .ok (.ldc 44, 2) := by decide +kernel
theorem dPac_chooseStep_10 : decode cPac_chooseStep 10 = .ok (.aload_n 0, 1) := by decide +kernel
theorem dPac_chooseStep_11 : decode cPac_chooseStep 11 = .ok (.iload_n 2, 1) := by decide +kernel
theorem dPac_chooseStep_12 : decode cPac_chooseStep 12 = .ok (.invokevirtual 40, 3) := by decide +kernel
theorem dPac_chooseStep_15 : decode cPac_chooseStep 15 = .ok (.fmul, 1) := by decide +kernel
theorem dPac_chooseStep_16 : decode cPac_chooseStep 16 = .ok (.fload_n 1, 1) := by decide +kernel
theorem dPac_chooseStep_17 : decode cPac_chooseStep 17 = .ok (.fcmp .g, 1) := by decide +kernel
theorem dPac_chooseStep_18 : decode cPac_chooseStep 18 = .ok (.ifCond .ge 9, 3) := by decide +kernel
theorem dPac_chooseStep_21 : decode cPac_chooseStep 21 = .ok (.iinc 2 1, 3) := by decide +kernel
theorem dPac_chooseStep_24 : decode cPac_chooseStep 24 = .ok (.goto (-22), 3) := by decide +kernel
theorem dPac_chooseStep_27 : decode cPac_chooseStep 27 = .ok (.aload_n 0, 1) := by decide +kernel
theorem dPac_chooseStep_28 : decode cPac_chooseStep 28 = .ok (.iload_n 2, 1) := by decide +kernel
theorem dPac_chooseStep_29 : decode cPac_chooseStep 29 = .ok (.putfield 26, 3) := by decide +kernel
theorem dPac_chooseStep_32 : decode cPac_chooseStep 32 = .ok (.return_, 1) := by decide +kernel
theorem dPac_stepOf_0 : decode cPac_stepOf 0 = .ok (.aload_n 0, 1) := by decide +kernel
theorem dPac_stepOf_1 : decode cPac_stepOf 1 = .ok (.getfield 22, 3) := by decide +kernel
theorem dPac_stepOf_4 : decode cPac_stepOf 4 = .ok (.ifCond .eq 13, 3) := by decide +kernel
theorem dPac_stepOf_7 : decode cPac_stepOf 7 = .ok (.bipush 16, 2) := by decide +kernel
theorem dPac_stepOf_9 : decode cPac_stepOf 9 = .ok (.iload_n 1, 1) := by decide +kernel
theorem dPac_stepOf_10 : decode cPac_stepOf 10 = .ok (.imul, 1) := by decide +kernel
theorem dPac_stepOf_11 : decode cPac_stepOf 11 = .ok (.iconst 1, 1) := by decide +kernel
theorem dPac_stepOf_12 : decode cPac_stepOf 12 = .ok (.iadd, 1) := by decide +kernel
theorem dPac_stepOf_13 : decode cPac_stepOf 13 = .ok (.i2f, 1) := by decide +kernel
theorem dPac_stepOf_14 : decode cPac_stepOf 14 = .ok (.goto 10, 3) := by decide +kernel
theorem dPac_stepOf_17 : decode cPac_stepOf 17 = .ok (.iconst 1, 1) := by decide +kernel
theorem dPac_stepOf_18 : decode cPac_stepOf 18 = .ok (.iload_n 1, 1) := by decide +kernel
theorem dPac_stepOf_19 : decode cPac_stepOf 19 = .ok (.ishl, 1) := by decide +kernel
theorem dPac_stepOf_20 : decode cPac_stepOf 20 = .ok (.i2f, 1) := by decide +kernel
theorem dPac_stepOf_21 : decode cPac_stepOf 21 = .ok (.ldc 45, 2) := by decide +kernel
theorem dPac_stepOf_23 : decode cPac_stepOf 23 = .ok (.fdiv, 1) := by decide +kernel
theorem dPac_stepOf_24 : decode cPac_stepOf 24 = .ok (.freturn, 1) := by decide +kernel
theorem dCod_chooseLevels_0 : decode cCod_chooseLevels 0 = .ok (.aload_n 0, 1) := by decide +kernel
theorem dCod_chooseLevels_1 : decode cCod_chooseLevels 1 = .ok (.getfield 21, 3) := by decide +kernel
theorem dCod_chooseLevels_4 : decode cCod_chooseLevels 4 = .ok (.invokevirtual 94, 3) := by decide +kernel
theorem dCod_chooseLevels_7 : decode cCod_chooseLevels 7 = .ok (.fstore_n 2, 1) := by decide +kernel
theorem dCod_chooseLevels_8 : decode cCod_chooseLevels 8 = .ok (.iconst 0, 1) := by decide +kernel
theorem dCod_chooseLevels_9 : decode cCod_chooseLevels 9 = .ok (.istore_n 3, 1) := by decide +kernel
theorem dCod_chooseLevels_10 : decode cCod_chooseLevels 10 = .ok (.iload_n 3, 1) := by decide +kernel
theorem dCod_chooseLevels_11 : decode cCod_chooseLevels 11 = .ok (.bipush 16, 2) := by decide +kernel
theorem dCod_chooseLevels_13 : decode cCod_chooseLevels 13 = .ok (.if_icmp .ge 70, 3) := by decide +kernel
theorem dCod_chooseLevels_16 : decode cCod_chooseLevels 16 = .ok (.aload_n 0, 1) := by decide +kernel
theorem dCod_chooseLevels_17 : decode cCod_chooseLevels 17 = .ok (.getfield 12, 3) := by decide +kernel
theorem dCod_chooseLevels_20 : decode cCod_chooseLevels 20 = .ok (.aload_n 0, 1) := by decide +kernel
theorem dCod_chooseLevels_21 : decode cCod_chooseLevels 21 = .ok (.getfield 21, 3) := by decide +kernel
theorem dCod_chooseLevels_24 : decode cCod_chooseLevels 24 = .ok (.getfield 71, 3) := by decide +kernel
theorem dCod_chooseLevels_27 : decode cCod_chooseLevels 27 = .ok (.invokevirtual 98, 3) := by decide +kernel
theorem dCod_chooseLevels_30 : decode cCod_chooseLevels 30 = .ok (.fstore 4, 2) := by decide +kernel
theorem dCod_chooseLevels_32 : decode cCod_chooseLevels 32 = .ok (.aload_n 1, 1) := by decide +kernel
theorem dCod_chooseLevels_33 : decode cCod_chooseLevels 33 = .ok (.iload_n 3, 1) := by decide +kernel
theorem dCod_chooseLevels_34 : decode cCod_chooseLevels 34 = .ok (.faload, 1) := by decide +kernel
theorem dCod_chooseLevels_35 : decode cCod_chooseLevels 35 = .ok (.fload 4, 2) := by decide +kernel
theorem dCod_chooseLevels_37 : decode cCod_chooseLevels 37 = .ok (.fsub, 1) := by decide +kernel
theorem dCod_chooseLevels_38 : decode cCod_chooseLevels 38 = .ok (.fload_n 2, 1) := by decide +kernel
theorem dCod_chooseLevels_39 : decode cCod_chooseLevels 39 = .ok (.invokestatic 74, 3) := by decide +kernel
theorem dCod_chooseLevels_42 : decode cCod_chooseLevels 42 = .ok (.bipush (-4), 2) := by decide +kernel
theorem dCod_chooseLevels_44 : decode cCod_chooseLevels 44 = .ok (.iconst 3, 1) := by decide +kernel
theorem dCod_chooseLevels_45 : decode cCod_chooseLevels 45 = .ok (.invokestatic 79, 3) := by decide +kernel
theorem dCod_chooseLevels_48 : decode cCod_chooseLevels 48 = .ok (.istore 5, 2) := by decide +kernel
theorem dCod_chooseLevels_50 : decode cCod_chooseLevels 50 = .ok (.aload_n 0, 1) := by decide +kernel
theorem dCod_chooseLevels_51 : decode cCod_chooseLevels 51 = .ok (.getfield 21, 3) := by decide +kernel
theorem dCod_chooseLevels_54 : decode cCod_chooseLevels 54 = .ok (.getfield 101, 3) := by decide +kernel
theorem dCod_chooseLevels_57 : decode cCod_chooseLevels 57 = .ok (.iload_n 3, 1) := by decide +kernel
theorem dCod_chooseLevels_58 : decode cCod_chooseLevels 58 = .ok (.iload 5, 2) := by decide +kernel
theorem dCod_chooseLevels_60 : decode cCod_chooseLevels 60 = .ok (.iastore, 1) := by decide +kernel
theorem dCod_chooseLevels_61 : decode cCod_chooseLevels 61 = .ok (.aload_n 0, 1) := by decide +kernel
theorem dCod_chooseLevels_62 : decode cCod_chooseLevels 62 = .ok (.getfield 12, 3) := by decide +kernel
theorem dCod_chooseLevels_65 : decode cCod_chooseLevels 65 = .ok (.iload_n 3, 1) := by decide +kernel
theorem dCod_chooseLevels_66 : decode cCod_chooseLevels 66 = .ok (.fload 4, 2) := by decide +kernel
theorem dCod_chooseLevels_68 : decode cCod_chooseLevels 68 = .ok (.iload 5, 2) := by decide +kernel
theorem dCod_chooseLevels_70 : decode cCod_chooseLevels 70 = .ok (.i2f, 1) := by decide +kernel
theorem dCod_chooseLevels_71 : decode cCod_chooseLevels 71 = .ok (.fload_n 2, 1) := by decide +kernel
theorem dCod_chooseLevels_72 : decode cCod_chooseLevels 72 = .ok (.fmul, 1) := by decide +kernel
theorem dCod_chooseLevels_73 : decode cCod_chooseLevels 73 = .ok (.fadd, 1) := by decide +kernel
theorem dCod_chooseLevels_74 : decode cCod_chooseLevels 74 = .ok (.invokevirtual 105, 3) := by decide +kernel
theorem dCod_chooseLevels_77 : decode cCod_chooseLevels 77 = .ok (.iinc 3 1, 3) := by decide +kernel
theorem dCod_chooseLevels_80 : decode cCod_chooseLevels 80 = .ok (.goto (-70), 3) := by decide +kernel
theorem dCod_chooseLevels_83 : decode cCod_chooseLevels 83 = .ok (.return_, 1) := by decide +kernel
theorem dPac_step_0 : decode cPac_step 0 = .ok (.aload_n 0, 1) := by decide +kernel
theorem dPac_step_1 : decode cPac_step 1 = .ok (.aload_n 0, 1) := by decide +kernel
theorem dPac_step_2 : decode cPac_step 2 = .ok (.getfield 26, 3) := by decide +kernel
theorem dPac_step_5 : decode cPac_step 5 = .ok (.invokevirtual 40, 3) := by decide +kernel
theorem dPac_step_8 : decode cPac_step 8 = .ok (.freturn, 1) := by decide +kernel
theorem dVoi_foretell_0 : decode cVoi_foretell 0 = .ok (.fconst 0, 1) := by decide +kernel
theorem dVoi_foretell_1 : decode cVoi_foretell 1 = .ok (.fstore_n 2, 1) := by decide +kernel
theorem dVoi_foretell_2 : decode cVoi_foretell 2 = .ok (.iconst 1, 1) := by decide +kernel
theorem dVoi_foretell_3 : decode cVoi_foretell 3 = .ok (.istore_n 3, 1) := by decide +kernel
theorem dVoi_foretell_4 : decode cVoi_foretell 4 = .ok (.iload_n 3, 1) := by decide +kernel
theorem dVoi_foretell_5 : decode cVoi_foretell 5 = .ok (.iconst 4, 1) := by decide +kernel
theorem dVoi_foretell_6 : decode cVoi_foretell 6 = .ok (.if_icmp .gt 24, 3) := by decide +kernel
theorem dVoi_foretell_9 : decode cVoi_foretell 9 = .ok (.fload_n 2, 1) := by decide +kernel
theorem dVoi_foretell_10 : decode cVoi_foretell 10 = .ok (.aload_n 1, 1) := by decide +kernel
theorem dVoi_foretell_11 : decode cVoi_foretell 11 = .ok (.iload_n 3, 1) := by decide +kernel
theorem dVoi_foretell_12 : decode cVoi_foretell 12 = .ok (.faload, 1) := by decide +kernel
theorem dVoi_foretell_13 : decode cVoi_foretell 13 = .ok (.aload_n 0, 1) := by decide +kernel
theorem dVoi_foretell_14 : decode cVoi_foretell 14 = .ok (.getfield 9, 3) := by decide +kernel
theorem dVoi_foretell_17 : decode cVoi_foretell 17 = .ok (.iload_n 3, 1) := by decide +kernel
theorem dVoi_foretell_18 : decode cVoi_foretell 18 = .ok (.iconst 1, 1) := by decide +kernel
theorem dVoi_foretell_19 : decode cVoi_foretell 19 = .ok (.isub, 1) := by decide +kernel
theorem dVoi_foretell_20 : decode cVoi_foretell 20 = .ok (.faload, 1) := by decide +kernel
theorem dVoi_foretell_21 : decode cVoi_foretell 21 = .ok (.fmul, 1) := by decide +kernel
theorem dVoi_foretell_22 : decode cVoi_foretell 22 = .ok (.fadd, 1) := by decide +kernel
theorem dVoi_foretell_23 : decode cVoi_foretell 23 = .ok (.fstore_n 2, 1) := by decide +kernel
theorem dVoi_foretell_24 : decode cVoi_foretell 24 = .ok (.iinc 3 1, 3) := by decide +kernel
theorem dVoi_foretell_27 : decode cVoi_foretell 27 = .ok (.goto (-23), 3) := by decide +kernel
theorem dVoi_foretell_30 : decode cVoi_foretell 30 = .ok (.fload_n 2, 1) := by decide +kernel
theorem dVoi_foretell_31 : decode cVoi_foretell 31 = .ok (.freturn, 1) := by decide +kernel
theorem dVoi_speak_0 : decode cVoi_speak 0 = .ok (.fload_n 2, 1) := by decide +kernel
theorem dVoi_speak_1 : decode cVoi_speak 1 = .ok (.invokestatic 31, 3) := by decide +kernel
theorem dVoi_speak_4 : decode cVoi_speak 4 = .ok (.fstore_n 3, 1) := by decide +kernel
theorem dVoi_speak_5 : decode cVoi_speak 5 = .ok (.aload_n 0, 1) := by decide +kernel
theorem dVoi_speak_6 : decode cVoi_speak 6 = .ok (.getfield 15, 3) := by decide +kernel
theorem dVoi_speak_9 : decode cVoi_speak 9 = .ok (.iload_n 1, 1) := by decide +kernel
theorem dVoi_speak_10 : decode cVoi_speak 10 = .ok (.fload_n 3, 1) := by decide +kernel
theorem dVoi_speak_11 : decode cVoi_speak 11 = .ok (.fastore, 1) := by decide +kernel
theorem dVoi_speak_12 : decode cVoi_speak 12 = .ok (.iconst 3, 1) := by decide +kernel
theorem dVoi_speak_13 : decode cVoi_speak 13 = .ok (.istore 4, 2) := by decide +kernel
theorem dVoi_speak_15 : decode cVoi_speak 15 = .ok (.iload 4, 2) := by decide +kernel
theorem dVoi_speak_17 : decode cVoi_speak 17 = .ok (.ifCond .le 25, 3) := by decide +kernel
theorem dVoi_speak_20 : decode cVoi_speak 20 = .ok (.aload_n 0, 1) := by decide +kernel
theorem dVoi_speak_21 : decode cVoi_speak 21 = .ok (.getfield 9, 3) := by decide +kernel
theorem dVoi_speak_24 : decode cVoi_speak 24 = .ok (.iload 4, 2) := by decide +kernel
theorem dVoi_speak_26 : decode cVoi_speak 26 = .ok (.aload_n 0, 1) := by decide +kernel
theorem dVoi_speak_27 : decode cVoi_speak 27 = .ok (.getfield 9, 3) := by decide +kernel
theorem dVoi_speak_30 : decode cVoi_speak 30 = .ok (.iload 4, 2) := by decide +kernel
theorem dVoi_speak_32 : decode cVoi_speak 32 = .ok (.iconst 1, 1) := by decide +kernel
theorem dVoi_speak_33 : decode cVoi_speak 33 = .ok (.isub, 1) := by decide +kernel
theorem dVoi_speak_34 : decode cVoi_speak 34 = .ok (.faload, 1) := by decide +kernel
theorem dVoi_speak_35 : decode cVoi_speak 35 = .ok (.fastore, 1) := by decide +kernel
theorem dVoi_speak_36 : decode cVoi_speak 36 = .ok (.iinc 4 (-1), 3) := by decide +kernel
theorem dVoi_speak_39 : decode cVoi_speak 39 = .ok (.goto (-24), 3) := by decide +kernel
theorem dVoi_speak_42 : decode cVoi_speak 42 = .ok (.aload_n 0, 1) := by decide +kernel
theorem dVoi_speak_43 : decode cVoi_speak 43 = .ok (.getfield 9, 3) := by decide +kernel
theorem dVoi_speak_46 : decode cVoi_speak 46 = .ok (.iconst 0, 1) := by decide +kernel
theorem dVoi_speak_47 : decode cVoi_speak 47 = .ok (.fload_n 3, 1) := by decide +kernel
theorem dVoi_speak_48 : decode cVoi_speak 48 = .ok (.fastore, 1) := by decide +kernel
theorem dVoi_speak_49 : decode cVoi_speak 49 = .ok (.aload_n 0, 1) := by decide +kernel
theorem dVoi_speak_50 : decode cVoi_speak 50 = .ok (.iconst 1, 1) := by decide +kernel
theorem dVoi_speak_51 : decode cVoi_speak 51 = .ok (.putfield 21, 3) := by decide +kernel
theorem dVoi_speak_54 : decode cVoi_speak 54 = .ok (.return_, 1) := by decide +kernel
theorem dVF_clipped_0 : decode cVF_clipped 0 = .ok (.fload_n 0, 1) := by decide +kernel
theorem dVF_clipped_1 : decode cVF_clipped 1 = .ok (.ldc 192, 2) := by decide +kernel
theorem dVF_clipped_3 : decode cVF_clipped 3 = .ok (.fcmp .g, 1) := by decide +kernel
theorem dVF_clipped_4 : decode cVF_clipped 4 = .ok (.ifCond .ge 6, 3) := by decide +kernel
theorem dVF_clipped_7 : decode cVF_clipped 7 = .ok (.ldc 192, 2) := by decide +kernel
theorem dVF_clipped_9 : decode cVF_clipped 9 = .ok (.freturn, 1) := by decide +kernel
theorem dVF_clipped_10 : decode cVF_clipped 10 = .ok (.fload_n 0, 1) := by decide +kernel
theorem dVF_clipped_11 : decode cVF_clipped 11 = .ok (.ldc 193, 2) := by decide +kernel
theorem dVF_clipped_13 : decode cVF_clipped 13 = .ok (.fcmp .l, 1) := by decide +kernel
theorem dVF_clipped_14 : decode cVF_clipped 14 = .ok (.ifCond .le 8, 3) := by decide +kernel
theorem dVF_clipped_17 : decode cVF_clipped 17 = .ok (.ldc 193, 2) := by decide +kernel
theorem dVF_clipped_19 : decode cVF_clipped 19 = .ok (.goto 4, 3) := by decide +kernel
theorem dVF_clipped_22 : decode cVF_clipped 22 = .ok (.fload_n 0, 1) := by decide +kernel
theorem dVF_clipped_23 : decode cVF_clipped 23 = .ok (.freturn, 1) := by decide +kernel
theorem dPac_write_0 : decode cPac_write 0 = .ok (.bipush 16, 2) := by decide +kernel
theorem dPac_write_2 : decode cPac_write 2 = .ok (.aload_n 0, 1) := by decide +kernel
theorem dPac_write_3 : decode cPac_write 3 = .ok (.getfield 26, 3) := by decide +kernel
theorem dPac_write_6 : decode cPac_write 6 = .ok (.iadd, 1) := by decide +kernel
theorem dPac_write_7 : decode cPac_write 7 = .ok (.aload_n 0, 1) := by decide +kernel
theorem dPac_write_8 : decode cPac_write 8 = .ok (.getfield 22, 3) := by decide +kernel
theorem dPac_write_11 : decode cPac_write 11 = .ok (.ifCond .eq 9, 3) := by decide +kernel
theorem dPac_write_14 : decode cPac_write 14 = .ok (.sipush 128, 3) := by decide +kernel
theorem dPac_write_17 : decode cPac_write 17 = .ok (.goto 4, 3) := by decide +kernel
theorem dPac_write_20 : decode cPac_write 20 = .ok (.iconst 0, 1) := by decide +kernel
theorem dPac_write_21 : decode cPac_write 21 = .ok (.iadd, 1) := by decide +kernel
theorem dPac_write_22 : decode cPac_write 22 = .ok (.istore_n 2, 1) := by decide +kernel
theorem dPac_write_23 : decode cPac_write 23 = .ok (.aload_n 1, 1) := by decide +kernel
theorem dPac_write_24 : decode cPac_write 24 = .ok (.iload_n 2, 1) := by decide +kernel
theorem dPac_write_25 : decode cPac_write 25 = .ok (.invokevirtual 56, 3) := by decide +kernel
theorem dPac_write_28 : decode cPac_write 28 = .ok (.iload_n 2, 1) := by decide +kernel
theorem dPac_write_29 : decode cPac_write 29 = .ok (.istore_n 3, 1) := by decide +kernel
theorem dPac_write_30 : decode cPac_write 30 = .ok (.iconst 1, 1) := by decide +kernel
theorem dPac_write_31 : decode cPac_write 31 = .ok (.istore 4, 2) := by decide +kernel
theorem dPac_write_33 : decode cPac_write 33 = .ok (.iload 4, 2) := by decide +kernel
theorem dPac_write_35 : decode cPac_write 35 = .ok (.iconst 4, 1) := by decide +kernel
theorem dPac_write_36 : decode cPac_write 36 = .ok (.if_icmp .gt 32, 3) := by decide +kernel
theorem dPac_write_39 : decode cPac_write 39 = .ok (.aload_n 0, 1) := by decide +kernel
theorem dPac_write_40 : decode cPac_write 40 = .ok (.getfield 9, 3) := by decide +kernel
theorem dPac_write_43 : decode cPac_write 43 = .ok (.iload 4, 2) := by decide +kernel
theorem dPac_write_45 : decode cPac_write 45 = .ok (.iaload, 1) := by decide +kernel
theorem dPac_write_46 : decode cPac_write 46 = .ok (.bipush 15, 2) := by decide +kernel
theorem dPac_write_48 : decode cPac_write 48 = .ok (.iadd, 1) := by decide +kernel
theorem dPac_write_49 : decode cPac_write 49 = .ok (.istore 5, 2) := by decide +kernel
theorem dPac_write_51 : decode cPac_write 51 = .ok (.aload_n 1, 1) := by decide +kernel
theorem dPac_write_52 : decode cPac_write 52 = .ok (.iload 5, 2) := by decide +kernel
theorem dPac_write_54 : decode cPac_write 54 = .ok (.invokevirtual 56, 3) := by decide +kernel
theorem dPac_write_57 : decode cPac_write 57 = .ok (.iload_n 3, 1) := by decide +kernel
theorem dPac_write_58 : decode cPac_write 58 = .ok (.iload 5, 2) := by decide +kernel
theorem dPac_write_60 : decode cPac_write 60 = .ok (.iadd, 1) := by decide +kernel
theorem dPac_write_61 : decode cPac_write 61 = .ok (.istore_n 3, 1) := by decide +kernel
theorem dPac_write_62 : decode cPac_write 62 = .ok (.iinc 4 1, 3) := by decide +kernel
theorem dPac_write_65 : decode cPac_write 65 = .ok (.goto (-32), 3) := by decide +kernel
theorem dPac_write_68 : decode cPac_write 68 = .ok (.iconst 0, 1) := by decide +kernel
theorem dPac_write_69 : decode cPac_write 69 = .ok (.istore 4, 2) := by decide +kernel
theorem dPac_write_71 : decode cPac_write 71 = .ok (.iload 4, 2) := by decide +kernel
theorem dPac_write_73 : decode cPac_write 73 = .ok (.bipush 16, 2) := by decide +kernel
theorem dPac_write_75 : decode cPac_write 75 = .ok (.if_icmp .ge 48, 3) := by decide +kernel
theorem dPac_write_78 : decode cPac_write 78 = .ok (.bipush 8, 2) := by decide +kernel
theorem dPac_write_80 : decode cPac_write 80 = .ok (.aload_n 0, 1) := by decide +kernel
theorem dPac_write_81 : decode cPac_write 81 = .ok (.getfield 19, 3) := by decide +kernel
theorem dPac_write_84 : decode cPac_write 84 = .ok (.iload 4, 2) := by decide +kernel
theorem dPac_write_86 : decode cPac_write 86 = .ok (.iaload, 1) := by decide +kernel
theorem dPac_write_87 : decode cPac_write 87 = .ok (.bipush (-4), 2) := by decide +kernel
theorem dPac_write_89 : decode cPac_write 89 = .ok (.isub, 1) := by decide +kernel
theorem dPac_write_90 : decode cPac_write 90 = .ok (.imul, 1) := by decide +kernel
theorem dPac_write_91 : decode cPac_write 91 = .ok (.aload_n 0, 1) := by decide +kernel
theorem dPac_write_92 : decode cPac_write 92 = .ok (.getfield 19, 3) := by decide +kernel
theorem dPac_write_95 : decode cPac_write 95 = .ok (.iload 4, 2) := by decide +kernel
theorem dPac_write_97 : decode cPac_write 97 = .ok (.iconst 1, 1) := by decide +kernel
theorem dPac_write_98 : decode cPac_write 98 = .ok (.iadd, 1) := by decide +kernel
theorem dPac_write_99 : decode cPac_write 99 = .ok (.iaload, 1) := by decide +kernel
theorem dPac_write_100 : decode cPac_write 100 = .ok (.iadd, 1) := by decide +kernel
theorem dPac_write_101 : decode cPac_write 101 = .ok (.bipush (-4), 2) := by decide +kernel
theorem dPac_write_103 : decode cPac_write 103 = .ok (.isub, 1) := by decide +kernel
theorem dPac_write_104 : decode cPac_write 104 = .ok (.istore 5, 2) := by decide +kernel
theorem dPac_write_106 : decode cPac_write 106 = .ok (.aload_n 1, 1) := by decide +kernel
theorem dPac_write_107 : decode cPac_write 107 = .ok (.iload 5, 2) := by decide +kernel
theorem dPac_write_109 : decode cPac_write 109 = .ok (.invokevirtual 56, 3) := by decide +kernel
theorem dPac_write_112 : decode cPac_write 112 = .ok (.iload_n 3, 1) := by decide +kernel
theorem dPac_write_113 : decode cPac_write 113 = .ok (.iload 5, 2) := by decide +kernel
theorem dPac_write_115 : decode cPac_write 115 = .ok (.iadd, 1) := by decide +kernel
theorem dPac_write_116 : decode cPac_write 116 = .ok (.istore_n 3, 1) := by decide +kernel
theorem dPac_write_117 : decode cPac_write 117 = .ok (.iinc 4 2, 3) := by decide +kernel
theorem dPac_write_120 : decode cPac_write 120 = .ok (.goto (-49), 3) := by decide +kernel
theorem dPac_write_123 : decode cPac_write 123 = .ok (.aload_n 1, 1) := by decide +kernel
theorem dPac_write_124 : decode cPac_write 124 = .ok (.iload_n 3, 1) := by decide +kernel
theorem dPac_write_125 : decode cPac_write 125 = .ok (.sipush 255, 3) := by decide +kernel
theorem dPac_write_128 : decode cPac_write 128 = .ok (.iand, 1) := by decide +kernel
theorem dPac_write_129 : decode cPac_write 129 = .ok (.invokevirtual 56, 3) := by decide +kernel
theorem dPac_write_132 : decode cPac_write 132 = .ok (.return_, 1) := by decide +kernel
theorem dVF_dropFrame_0 : decode cVF_dropFrame 0 = .ok (.aload_n 0, 1) := by decide +kernel
theorem dVF_dropFrame_1 : decode cVF_dropFrame 1 = .ok (.dup, 1) := by decide +kernel
theorem dVF_dropFrame_2 : decode cVF_dropFrame 2 = .ok (.getfield 45, 3) := by decide +kernel
theorem dVF_dropFrame_5 : decode cVF_dropFrame 5 = .ok (.bipush 16, 2) := by decide +kernel
theorem dVF_dropFrame_7 : decode cVF_dropFrame 7 = .ok (.isub, 1) := by decide +kernel
theorem dVF_dropFrame_8 : decode cVF_dropFrame 8 = .ok (.putfield 45, 3) := by decide +kernel
theorem dVF_dropFrame_11 : decode cVF_dropFrame 11 = .ok (.aload_n 0, 1) := by decide +kernel
theorem dVF_dropFrame_12 : decode cVF_dropFrame 12 = .ok (.getfield 9, 3) := by decide +kernel
theorem dVF_dropFrame_15 : decode cVF_dropFrame 15 = .ok (.bipush 16, 2) := by decide +kernel
theorem dVF_dropFrame_17 : decode cVF_dropFrame 17 = .ok (.aload_n 0, 1) := by decide +kernel
theorem dVF_dropFrame_18 : decode cVF_dropFrame 18 = .ok (.getfield 9, 3) := by decide +kernel
theorem dVF_dropFrame_21 : decode cVF_dropFrame 21 = .ok (.iconst 0, 1) := by decide +kernel
theorem dVF_dropFrame_22 : decode cVF_dropFrame 22 = .ok (.aload_n 0, 1) := by decide +kernel
theorem dVF_dropFrame_23 : decode cVF_dropFrame 23 = .ok (.getfield 45, 3) := by decide +kernel
theorem dVF_dropFrame_26 : decode cVF_dropFrame 26 = .ok (.invokestatic 84, 3) := by decide +kernel
theorem dVF_dropFrame_29 : decode cVF_dropFrame 29 = .ok (.return_, 1) := by decide +kernel
theorem dLaw_decode_0 : decode cLaw_decode 0 = .ok (.aload_n 1, 1) := by decide +kernel
theorem dLaw_decode_1 : decode cLaw_decode 1 = .ok (.iconst 0, 1) := by decide +kernel
theorem dLaw_decode_2 : decode cLaw_decode 2 = .ok (.aload_n 0, 1) := by decide +kernel
theorem dLaw_decode_3 : decode cLaw_decode 3 = .ok (.invokevirtual 23, 3) := by decide +kernel
theorem dLaw_decode_6 : decode cLaw_decode 6 = .ok (.i2l, 1) := by decide +kernel
theorem dLaw_decode_7 : decode cLaw_decode 7 = .ok (.lastore, 1) := by decide +kernel
theorem dLaw_decode_8 : decode cLaw_decode 8 = .ok (.goto 9, 3) := by decide +kernel
theorem dLaw_decode_11 : decode cLaw_decode 11 = .ok (.astore_n 2, 1) := by decide +kernel
theorem dLaw_decode_12 : decode cLaw_decode 12 = .ok (.iconst 1, 1) := by decide +kernel
theorem dLaw_decode_13 : decode cLaw_decode 13 = .ok (.ireturn, 1) := by decide +kernel
theorem dLaw_decode_14 : decode cLaw_decode 14 = .ok (.astore_n 2, 1) := by decide +kernel
theorem dLaw_decode_15 : decode cLaw_decode 15 = .ok (.iconst 2, 1) := by decide +kernel
theorem dLaw_decode_16 : decode cLaw_decode 16 = .ok (.ireturn, 1) := by decide +kernel
theorem dLaw_decode_17 : decode cLaw_decode 17 = .ok (.iconst 0, 1) := by decide +kernel
theorem dLaw_decode_18 : decode cLaw_decode 18 = .ok (.ireturn, 1) := by decide +kernel
theorem dVF_decode_0 : decode cVF_decode 0 = .ok (.aload_n 0, 1) := by decide +kernel
theorem dVF_decode_1 : decode cVF_decode 1 = .ok (.getfield 16, 3) := by decide +kernel
theorem dVF_decode_4 : decode cVF_decode 4 = .ok (.invokevirtual 90, 3) := by decide +kernel
theorem dVF_decode_7 : decode cVF_decode 7 = .ok (.ifCond .ne 13, 3) := by decide +kernel
theorem dVF_decode_10 : decode cVF_decode 10 = .ok (.new 93, 3) := by decide +kernel
theorem dVF_decode_13 : decode cVF_decode 13 = .ok (.dup, 1) := by decide +kernel
theorem dVF_decode_14 : decode cVF_decode 14 = .ok (.ldc 95, 2) := by decide +kernel
theorem dVF_decode_16 : decode cVF_decode 16 = .ok (.invokespecial 97, 3) := by decide +kernel
theorem dVF_decode_19 : decode cVF_decode 19 = .ok (.athrow, 1) := by decide +kernel
theorem dVF_decode_20 : decode cVF_decode 20 = .ok (.aload_n 0, 1) := by decide +kernel
theorem dVF_decode_21 : decode cVF_decode 21 = .ok (.getfield 16, 3) := by decide +kernel
theorem dVF_decode_24 : decode cVF_decode 24 = .ok (.invokevirtual 98, 3) := by decide +kernel
theorem dVF_decode_27 : decode cVF_decode 27 = .ok (.aload_n 0, 1) := by decide +kernel
theorem dVF_decode_28 : decode cVF_decode 28 = .ok (.getfield 16, 3) := by decide +kernel
theorem dVF_decode_31 : decode cVF_decode 31 = .ok (.invokevirtual 90, 3) := by decide +kernel
theorem dVF_decode_34 : decode cVF_decode 34 = .ok (.if_icmp .le 13, 3) := by decide +kernel
theorem dVF_decode_37 : decode cVF_decode 37 = .ok (.new 49, 3) := by decide +kernel
theorem dVF_decode_40 : decode cVF_decode 40 = .ok (.dup, 1) := by decide +kernel
theorem dVF_decode_41 : decode cVF_decode 41 = .ok (.ldc 101, 2) := by decide +kernel
theorem dVF_decode_43 : decode cVF_decode 43 = .ok (.invokespecial 53, 3) := by decide +kernel
theorem dVF_decode_46 : decode cVF_decode 46 = .ok (.athrow, 1) := by decide +kernel
theorem dVF_decode_47 : decode cVF_decode 47 = .ok (.aload_n 0, 1) := by decide +kernel
theorem dVF_decode_48 : decode cVF_decode 48 = .ok (.getfield 30, 3) := by decide +kernel
theorem dVF_decode_51 : decode cVF_decode 51 = .ok (.aload_n 0, 1) := by decide +kernel
theorem dVF_decode_52 : decode cVF_decode 52 = .ok (.getfield 16, 3) := by decide +kernel
theorem dVF_decode_55 : decode cVF_decode 55 = .ok (.invokevirtual 103, 3) := by decide +kernel
theorem dVF_decode_58 : decode cVF_decode 58 = .ok (.ireturn, 1) := by decide +kernel
theorem dRow_ahead_0 : decode cRow_ahead 0 = .ok (.aload_n 0, 1) := by decide +kernel
theorem dRow_ahead_1 : decode cRow_ahead 1 = .ok (.getfield 15, 3) := by decide +kernel
theorem dRow_ahead_4 : decode cRow_ahead 4 = .ok (.aload_n 0, 1) := by decide +kernel
theorem dRow_ahead_5 : decode cRow_ahead 5 = .ok (.getfield 19, 3) := by decide +kernel
theorem dRow_ahead_8 : decode cRow_ahead 8 = .ok (.isub, 1) := by decide +kernel
theorem dRow_ahead_9 : decode cRow_ahead 9 = .ok (.ireturn, 1) := by decide +kernel
theorem dRow_nextSize_0 : decode cRow_nextSize 0 = .ok (.aload_n 0, 1) := by decide +kernel
theorem dRow_nextSize_1 : decode cRow_nextSize 1 = .ok (.iconst 0, 1) := by decide +kernel
theorem dRow_nextSize_2 : decode cRow_nextSize 2 = .ok (.invokevirtual 26, 3) := by decide +kernel
theorem dRow_nextSize_5 : decode cRow_nextSize 5 = .ok (.invokestatic 30, 3) := by decide +kernel
theorem dRow_nextSize_8 : decode cRow_nextSize 8 = .ok (.ifCond .eq 8, 3) := by decide +kernel
theorem dRow_nextSize_11 : decode cRow_nextSize 11 = .ok (.bipush 14, 2) := by decide +kernel
theorem dRow_nextSize_13 : decode cRow_nextSize 13 = .ok (.goto 4, 3) := by decide +kernel
theorem dRow_nextSize_16 : decode cRow_nextSize 16 = .ok (.iconst 1, 1) := by decide +kernel
theorem dRow_nextSize_17 : decode cRow_nextSize 17 = .ok (.ireturn, 1) := by decide +kernel
theorem dRow_next_0 : decode cRow_next 0 = .ok (.aload_n 0, 1) := by decide +kernel
theorem dRow_next_1 : decode cRow_next 1 = .ok (.getfield 19, 3) := by decide +kernel
theorem dRow_next_4 : decode cRow_next 4 = .ok (.iload_n 1, 1) := by decide +kernel
theorem dRow_next_5 : decode cRow_next 5 = .ok (.iadd, 1) := by decide +kernel
theorem dRow_next_6 : decode cRow_next 6 = .ok (.istore_n 2, 1) := by decide +kernel
theorem dRow_next_7 : decode cRow_next 7 = .ok (.aload_n 0, 1) := by decide +kernel
theorem dRow_next_8 : decode cRow_next 8 = .ok (.iload_n 2, 1) := by decide +kernel
theorem dRow_next_9 : decode cRow_next 9 = .ok (.invokevirtual 22, 3) := by decide +kernel
theorem dRow_next_12 : decode cRow_next 12 = .ok (.ifCond .eq 12, 3) := by decide +kernel
theorem dRow_next_15 : decode cRow_next 15 = .ok (.aload_n 0, 1) := by decide +kernel
theorem dRow_next_16 : decode cRow_next 16 = .ok (.getfield 9, 3) := by decide +kernel
theorem dRow_next_19 : decode cRow_next 19 = .ok (.iload_n 2, 1) := by decide +kernel
theorem dRow_next_20 : decode cRow_next 20 = .ok (.iaload, 1) := by decide +kernel
theorem dRow_next_21 : decode cRow_next 21 = .ok (.goto 4, 3) := by decide +kernel
theorem dRow_next_24 : decode cRow_next 24 = .ok (.iconst 0, 1) := by decide +kernel
theorem dRow_next_25 : decode cRow_next 25 = .ok (.ireturn, 1) := by decide +kernel
theorem dRow_has_0 : decode cRow_has 0 = .ok (.iload_n 1, 1) := by decide +kernel
theorem dRow_has_1 : decode cRow_has 1 = .ok (.ifCond .lt 15, 3) := by decide +kernel
theorem dRow_has_4 : decode cRow_has 4 = .ok (.iload_n 1, 1) := by decide +kernel
theorem dRow_has_5 : decode cRow_has 5 = .ok (.aload_n 0, 1) := by decide +kernel
theorem dRow_has_6 : decode cRow_has 6 = .ok (.getfield 15, 3) := by decide +kernel
theorem dRow_has_9 : decode cRow_has 9 = .ok (.if_icmp .ge 7, 3) := by decide +kernel
theorem dRow_has_12 : decode cRow_has 12 = .ok (.iconst 1, 1) := by decide +kernel
theorem dRow_has_13 : decode cRow_has 13 = .ok (.goto 4, 3) := by decide +kernel
theorem dRow_has_16 : decode cRow_has 16 = .ok (.iconst 0, 1) := by decide +kernel
theorem dRow_has_17 : decode cRow_has 17 = .ok (.ireturn, 1) := by decide +kernel
theorem dRow_isCodedMark_0 : decode cRow_isCodedMark 0 = .ok (.iload_n 0, 1) := by decide +kernel
theorem dRow_isCodedMark_1 : decode cRow_isCodedMark 1 = .ok (.sipush (-129), 3) := by decide +kernel
theorem dRow_isCodedMark_4 : decode cRow_isCodedMark 4 = .ok (.iand, 1) := by decide +kernel
theorem dRow_isCodedMark_5 : decode cRow_isCodedMark 5 = .ok (.bipush 16, 2) := by decide +kernel
theorem dRow_isCodedMark_7 : decode cRow_isCodedMark 7 = .ok (.isub, 1) := by decide +kernel
theorem dRow_isCodedMark_8 : decode cRow_isCodedMark 8 = .ok (.istore_n 1, 1) := by decide +kernel
theorem dRow_isCodedMark_9 : decode cRow_isCodedMark 9 = .ok (.iload_n 1, 1) := by decide +kernel
theorem dRow_isCodedMark_10 : decode cRow_isCodedMark 10 = .ok (.ifCond .lt 13, 3) := by decide +kernel
theorem dRow_isCodedMark_13 : decode cRow_isCodedMark 13 = .ok (.iload_n 1, 1) := by decide +kernel
theorem dRow_isCodedMark_14 : decode cRow_isCodedMark 14 = .ok (.bipush 15, 2) := by decide +kernel
theorem dRow_isCodedMark_16 : decode cRow_isCodedMark 16 = .ok (.if_icmp .gt 7, 3) := by decide +kernel
theorem dRow_isCodedMark_19 : decode cRow_isCodedMark 19 = .ok (.iconst 1, 1) := by decide +kernel
theorem dRow_isCodedMark_20 : decode cRow_isCodedMark 20 = .ok (.goto 4, 3) := by decide +kernel
theorem dRow_isCodedMark_23 : decode cRow_isCodedMark 23 = .ok (.iconst 0, 1) := by decide +kernel
theorem dRow_isCodedMark_24 : decode cRow_isCodedMark 24 = .ok (.ireturn, 1) := by decide +kernel
theorem dDec_hear_0 : decode cDec_hear 0 = .ok (.aload_n 1, 1) := by decide +kernel
theorem dDec_hear_1 : decode cDec_hear 1 = .ok (.invokevirtual 41, 3) := by decide +kernel
theorem dDec_hear_4 : decode cDec_hear 4 = .ok (.istore_n 2, 1) := by decide +kernel
theorem dDec_hear_5 : decode cDec_hear 5 = .ok (.iconst 2, 1) := by decide +kernel
theorem dDec_hear_6 : decode cDec_hear 6 = .ok (.istore_n 3, 1) := by decide +kernel
theorem dDec_hear_7 : decode cDec_hear 7 = .ok (.aload_n 1, 1) := by decide +kernel
theorem dDec_hear_8 : decode cDec_hear 8 = .ok (.iconst 0, 1) := by decide +kernel
theorem dDec_hear_9 : decode cDec_hear 9 = .ok (.invokevirtual 47, 3) := by decide +kernel
theorem dDec_hear_12 : decode cDec_hear 12 = .ok (.ifCond .ne 25, 3) := by decide +kernel
theorem dDec_hear_15 : decode cDec_hear 15 = .ok (.iconst 0, 1) := by decide +kernel
theorem dDec_hear_16 : decode cDec_hear 16 = .ok (.istore_n 3, 1) := by decide +kernel
theorem dDec_hear_17 : decode cDec_hear 17 = .ok (.aload_n 0, 1) := by decide +kernel
theorem dDec_hear_18 : decode cDec_hear 18 = .ok (.dup, 1) := by decide +kernel
theorem dDec_hear_19 : decode cDec_hear 19 = .ok (.getfield 35, 3) := by decide +kernel
theorem dDec_hear_22 : decode cDec_hear 22 = .ok (.iconst 1, 1) := by decide +kernel
theorem dDec_hear_23 : decode cDec_hear 23 = .ok (.iadd, 1) := by decide +kernel
theorem dDec_hear_24 : decode cDec_hear 24 = .ok (.putfield 35, 3) := by decide +kernel
theorem dDec_hear_27 : decode cDec_hear 27 = .ok (.aload_n 0, 1) := by decide +kernel
theorem dDec_hear_28 : decode cDec_hear 28 = .ok (.getfield 12, 3) := by decide +kernel
theorem dDec_hear_31 : decode cDec_hear 31 = .ok (.invokevirtual 51, 3) := by decide +kernel
theorem dDec_hear_34 : decode cDec_hear 34 = .ok (.goto 41, 3) := by decide +kernel
theorem dDec_hear_37 : decode cDec_hear 37 = .ok (.aload_n 1, 1) := by decide +kernel
theorem dDec_hear_38 : decode cDec_hear 38 = .ok (.invokevirtual 54, 3) := by decide +kernel
theorem dDec_hear_41 : decode cDec_hear 41 = .ok (.ifCond .eq 20, 3) := by decide +kernel
theorem dDec_hear_44 : decode cDec_hear 44 = .ok (.iconst 1, 1) := by decide +kernel
theorem dDec_hear_45 : decode cDec_hear 45 = .ok (.istore_n 3, 1) := by decide +kernel
theorem dDec_hear_46 : decode cDec_hear 46 = .ok (.aload_n 0, 1) := by decide +kernel
theorem dDec_hear_47 : decode cDec_hear 47 = .ok (.getfield 21, 3) := by decide +kernel
theorem dDec_hear_50 : decode cDec_hear 50 = .ok (.aload_n 1, 1) := by decide +kernel
theorem dDec_hear_51 : decode cDec_hear 51 = .ok (.invokevirtual 58, 3) := by decide +kernel
theorem dDec_hear_54 : decode cDec_hear 54 = .ok (.aload_n 0, 1) := by decide +kernel
theorem dDec_hear_55 : decode cDec_hear 55 = .ok (.invokevirtual 62, 3) := by decide +kernel
theorem dDec_hear_58 : decode cDec_hear 58 = .ok (.goto 17, 3) := by decide +kernel
theorem dDec_hear_61 : decode cDec_hear 61 = .ok (.aload_n 0, 1) := by decide +kernel
theorem dDec_hear_62 : decode cDec_hear 62 = .ok (.dup, 1) := by decide +kernel
theorem dDec_hear_63 : decode cDec_hear 63 = .ok (.getfield 38, 3) := by decide +kernel
theorem dDec_hear_66 : decode cDec_hear 66 = .ok (.iconst 1, 1) := by decide +kernel
theorem dDec_hear_67 : decode cDec_hear 67 = .ok (.iadd, 1) := by decide +kernel
theorem dDec_hear_68 : decode cDec_hear 68 = .ok (.putfield 38, 3) := by decide +kernel
theorem dDec_hear_71 : decode cDec_hear 71 = .ok (.aload_n 0, 1) := by decide +kernel
theorem dDec_hear_72 : decode cDec_hear 72 = .ok (.invokevirtual 65, 3) := by decide +kernel
theorem dDec_hear_75 : decode cDec_hear 75 = .ok (.aload_n 1, 1) := by decide +kernel
theorem dDec_hear_76 : decode cDec_hear 76 = .ok (.dup, 1) := by decide +kernel
theorem dDec_hear_77 : decode cDec_hear 77 = .ok (.getfield 68, 3) := by decide +kernel
theorem dDec_hear_80 : decode cDec_hear 80 = .ok (.iload_n 2, 1) := by decide +kernel
theorem dDec_hear_81 : decode cDec_hear 81 = .ok (.iadd, 1) := by decide +kernel
theorem dDec_hear_82 : decode cDec_hear 82 = .ok (.putfield 68, 3) := by decide +kernel
theorem dDec_hear_85 : decode cDec_hear 85 = .ok (.aload_n 0, 1) := by decide +kernel
theorem dDec_hear_86 : decode cDec_hear 86 = .ok (.dup, 1) := by decide +kernel
theorem dDec_hear_87 : decode cDec_hear 87 = .ok (.getfield 31, 3) := by decide +kernel
theorem dDec_hear_90 : decode cDec_hear 90 = .ok (.iconst 1, 1) := by decide +kernel
theorem dDec_hear_91 : decode cDec_hear 91 = .ok (.iadd, 1) := by decide +kernel
theorem dDec_hear_92 : decode cDec_hear 92 = .ok (.putfield 31, 3) := by decide +kernel
theorem dDec_hear_95 : decode cDec_hear 95 = .ok (.iload_n 3, 1) := by decide +kernel
theorem dDec_hear_96 : decode cDec_hear 96 = .ok (.ireturn, 1) := by decide +kernel
theorem dRow_nextIsSound_0 : decode cRow_nextIsSound 0 = .ok (.aload_n 0, 1) := by decide +kernel
theorem dRow_nextIsSound_1 : decode cRow_nextIsSound 1 = .ok (.iconst 0, 1) := by decide +kernel
theorem dRow_nextIsSound_2 : decode cRow_nextIsSound 2 = .ok (.invokevirtual 26, 3) := by decide +kernel
theorem dRow_nextIsSound_5 : decode cRow_nextIsSound 5 = .ok (.invokestatic 30, 3) := by decide +kernel
theorem dRow_nextIsSound_8 : decode cRow_nextIsSound 8 = .ok (.ifCond .eq 16, 3) := by decide +kernel
theorem dRow_nextIsSound_11 : decode cRow_nextIsSound 11 = .ok (.aload_n 0, 1) := by decide +kernel
theorem dRow_nextIsSound_12 : decode cRow_nextIsSound 12 = .ok (.bipush 13, 2) := by decide +kernel
theorem dRow_nextIsSound_14 : decode cRow_nextIsSound 14 = .ok (.invokevirtual 26, 3) := by decide +kernel
theorem dRow_nextIsSound_17 : decode cRow_nextIsSound 17 = .ok (.aload_n 0, 1) := by decide +kernel
theorem dRow_nextIsSound_18 : decode cRow_nextIsSound 18 = .ok (.invokevirtual 33, 3) := by decide +kernel
theorem dRow_nextIsSound_21 : decode cRow_nextIsSound 21 = .ok (.if_icmp .eq 5, 3) := by decide +kernel
theorem dRow_nextIsSound_24 : decode cRow_nextIsSound 24 = .ok (.iconst 0, 1) := by decide +kernel
theorem dRow_nextIsSound_25 : decode cRow_nextIsSound 25 = .ok (.ireturn, 1) := by decide +kernel
theorem dRow_nextIsSound_26 : decode cRow_nextIsSound 26 = .ok (.iconst 1, 1) := by decide +kernel
theorem dRow_nextIsSound_27 : decode cRow_nextIsSound 27 = .ok (.istore_n 1, 1) := by decide +kernel
theorem dRow_nextIsSound_28 : decode cRow_nextIsSound 28 = .ok (.iload_n 1, 1) := by decide +kernel
theorem dRow_nextIsSound_29 : decode cRow_nextIsSound 29 = .ok (.iconst 5, 1) := by decide +kernel
theorem dRow_nextIsSound_30 : decode cRow_nextIsSound 30 = .ok (.if_icmp .ge 21, 3) := by decide +kernel
theorem dRow_nextIsSound_33 : decode cRow_nextIsSound 33 = .ok (.aload_n 0, 1) := by decide +kernel
theorem dRow_nextIsSound_34 : decode cRow_nextIsSound 34 = .ok (.iload_n 1, 1) := by decide +kernel
theorem dRow_nextIsSound_35 : decode cRow_nextIsSound 35 = .ok (.invokevirtual 26, 3) := by decide +kernel
theorem dRow_nextIsSound_38 : decode cRow_nextIsSound 38 = .ok (.bipush 30, 2) := by decide +kernel
theorem dRow_nextIsSound_40 : decode cRow_nextIsSound 40 = .ok (.if_icmp .le 5, 3) := by decide +kernel
theorem dRow_nextIsSound_43 : decode cRow_nextIsSound 43 = .ok (.iconst 0, 1) := by decide +kernel
theorem dRow_nextIsSound_44 : decode cRow_nextIsSound 44 = .ok (.ireturn, 1) := by decide +kernel
theorem dRow_nextIsSound_45 : decode cRow_nextIsSound 45 = .ok (.iinc 1 1, 3) := by decide +kernel
theorem dRow_nextIsSound_48 : decode cRow_nextIsSound 48 = .ok (.goto (-20), 3) := by decide +kernel
theorem dRow_nextIsSound_51 : decode cRow_nextIsSound 51 = .ok (.iconst 5, 1) := by decide +kernel
theorem dRow_nextIsSound_52 : decode cRow_nextIsSound 52 = .ok (.istore_n 1, 1) := by decide +kernel
theorem dRow_nextIsSound_53 : decode cRow_nextIsSound 53 = .ok (.iload_n 1, 1) := by decide +kernel
theorem dRow_nextIsSound_54 : decode cRow_nextIsSound 54 = .ok (.bipush 13, 2) := by decide +kernel
theorem dRow_nextIsSound_56 : decode cRow_nextIsSound 56 = .ok (.if_icmp .ge 21, 3) := by decide +kernel
theorem dRow_nextIsSound_59 : decode cRow_nextIsSound 59 = .ok (.aload_n 0, 1) := by decide +kernel
theorem dRow_nextIsSound_60 : decode cRow_nextIsSound 60 = .ok (.iload_n 1, 1) := by decide +kernel
theorem dRow_nextIsSound_61 : decode cRow_nextIsSound 61 = .ok (.invokevirtual 26, 3) := by decide +kernel
theorem dRow_nextIsSound_64 : decode cRow_nextIsSound 64 = .ok (.bipush 63, 2) := by decide +kernel
theorem dRow_nextIsSound_66 : decode cRow_nextIsSound 66 = .ok (.if_icmp .le 5, 3) := by decide +kernel
theorem dRow_nextIsSound_69 : decode cRow_nextIsSound 69 = .ok (.iconst 0, 1) := by decide +kernel
theorem dRow_nextIsSound_70 : decode cRow_nextIsSound 70 = .ok (.ireturn, 1) := by decide +kernel
theorem dRow_nextIsSound_71 : decode cRow_nextIsSound 71 = .ok (.iinc 1 1, 3) := by decide +kernel
theorem dRow_nextIsSound_74 : decode cRow_nextIsSound 74 = .ok (.goto (-21), 3) := by decide +kernel
theorem dRow_nextIsSound_77 : decode cRow_nextIsSound 77 = .ok (.iconst 1, 1) := by decide +kernel
theorem dRow_nextIsSound_78 : decode cRow_nextIsSound 78 = .ok (.ireturn, 1) := by decide +kernel
theorem dRow_nextSum_0 : decode cRow_nextSum 0 = .ok (.iconst 0, 1) := by decide +kernel
theorem dRow_nextSum_1 : decode cRow_nextSum 1 = .ok (.istore_n 1, 1) := by decide +kernel
theorem dRow_nextSum_2 : decode cRow_nextSum 2 = .ok (.iconst 0, 1) := by decide +kernel
theorem dRow_nextSum_3 : decode cRow_nextSum 3 = .ok (.istore_n 2, 1) := by decide +kernel
theorem dRow_nextSum_4 : decode cRow_nextSum 4 = .ok (.iload_n 2, 1) := by decide +kernel
theorem dRow_nextSum_5 : decode cRow_nextSum 5 = .ok (.bipush 13, 2) := by decide +kernel
theorem dRow_nextSum_7 : decode cRow_nextSum 7 = .ok (.if_icmp .ge 17, 3) := by decide +kernel
theorem dRow_nextSum_10 : decode cRow_nextSum 10 = .ok (.iload_n 1, 1) := by decide +kernel
theorem dRow_nextSum_11 : decode cRow_nextSum 11 = .ok (.aload_n 0, 1) := by decide +kernel
theorem dRow_nextSum_12 : decode cRow_nextSum 12 = .ok (.iload_n 2, 1) := by decide +kernel
theorem dRow_nextSum_13 : decode cRow_nextSum 13 = .ok (.invokevirtual 26, 3) := by decide +kernel
theorem dRow_nextSum_16 : decode cRow_nextSum 16 = .ok (.iadd, 1) := by decide +kernel
theorem dRow_nextSum_17 : decode cRow_nextSum 17 = .ok (.istore_n 1, 1) := by decide +kernel
theorem dRow_nextSum_18 : decode cRow_nextSum 18 = .ok (.iinc 2 1, 3) := by decide +kernel
theorem dRow_nextSum_21 : decode cRow_nextSum 21 = .ok (.goto (-17), 3) := by decide +kernel
theorem dRow_nextSum_24 : decode cRow_nextSum 24 = .ok (.iload_n 1, 1) := by decide +kernel
theorem dRow_nextSum_25 : decode cRow_nextSum 25 = .ok (.sipush 255, 3) := by decide +kernel
theorem dRow_nextSum_28 : decode cRow_nextSum 28 = .ok (.iand, 1) := by decide +kernel
theorem dRow_nextSum_29 : decode cRow_nextSum 29 = .ok (.ireturn, 1) := by decide +kernel
theorem dPac_read_0 : decode cPac_read 0 = .ok (.aload_n 1, 1) := by decide +kernel
theorem dPac_read_1 : decode cPac_read 1 = .ok (.iconst 0, 1) := by decide +kernel
theorem dPac_read_2 : decode cPac_read 2 = .ok (.invokevirtual 62, 3) := by decide +kernel
theorem dPac_read_5 : decode cPac_read 5 = .ok (.istore_n 2, 1) := by decide +kernel
theorem dPac_read_6 : decode cPac_read 6 = .ok (.aload_n 0, 1) := by decide +kernel
theorem dPac_read_7 : decode cPac_read 7 = .ok (.iload_n 2, 1) := by decide +kernel
theorem dPac_read_8 : decode cPac_read 8 = .ok (.sipush 128, 3) := by decide +kernel
theorem dPac_read_11 : decode cPac_read 11 = .ok (.if_icmp .lt 7, 3) := by decide +kernel
theorem dPac_read_14 : decode cPac_read 14 = .ok (.iconst 1, 1) := by decide +kernel
theorem dPac_read_15 : decode cPac_read 15 = .ok (.goto 4, 3) := by decide +kernel
theorem dPac_read_18 : decode cPac_read 18 = .ok (.iconst 0, 1) := by decide +kernel
theorem dPac_read_19 : decode cPac_read 19 = .ok (.putfield 22, 3) := by decide +kernel
theorem dPac_read_22 : decode cPac_read 22 = .ok (.aload_n 0, 1) := by decide +kernel
theorem dPac_read_23 : decode cPac_read 23 = .ok (.iload_n 2, 1) := by decide +kernel
theorem dPac_read_24 : decode cPac_read 24 = .ok (.sipush (-129), 3) := by decide +kernel
theorem dPac_read_27 : decode cPac_read 27 = .ok (.iand, 1) := by decide +kernel
theorem dPac_read_28 : decode cPac_read 28 = .ok (.bipush 16, 2) := by decide +kernel
theorem dPac_read_30 : decode cPac_read 30 = .ok (.isub, 1) := by decide +kernel
theorem dPac_read_31 : decode cPac_read 31 = .ok (.putfield 26, 3) := by decide +kernel
theorem dPac_read_34 : decode cPac_read 34 = .ok (.iconst 1, 1) := by decide +kernel
theorem dPac_read_35 : decode cPac_read 35 = .ok (.istore_n 3, 1) := by decide +kernel
theorem dPac_read_36 : decode cPac_read 36 = .ok (.iload_n 3, 1) := by decide +kernel
theorem dPac_read_37 : decode cPac_read 37 = .ok (.iconst 4, 1) := by decide +kernel
theorem dPac_read_38 : decode cPac_read 38 = .ok (.if_icmp .gt 27, 3) := by decide +kernel
theorem dPac_read_41 : decode cPac_read 41 = .ok (.aload_n 0, 1) := by decide +kernel
theorem dPac_read_42 : decode cPac_read 42 = .ok (.iload_n 3, 1) := by decide +kernel
theorem dPac_read_43 : decode cPac_read 43 = .ok (.aload_n 1, 1) := by decide +kernel
theorem dPac_read_44 : decode cPac_read 44 = .ok (.iconst 1, 1) := by decide +kernel
theorem dPac_read_45 : decode cPac_read 45 = .ok (.iload_n 3, 1) := by decide +kernel
theorem dPac_read_46 : decode cPac_read 46 = .ok (.iadd, 1) := by decide +kernel
theorem dPac_read_47 : decode cPac_read 47 = .ok (.iconst 1, 1) := by decide +kernel
theorem dPac_read_48 : decode cPac_read 48 = .ok (.isub, 1) := by decide +kernel
theorem dPac_read_49 : decode cPac_read 49 = .ok (.invokevirtual 62, 3) := by decide +kernel
theorem dPac_read_52 : decode cPac_read 52 = .ok (.bipush 15, 2) := by decide +kernel
theorem dPac_read_54 : decode cPac_read 54 = .ok (.isub, 1) := by decide +kernel
theorem dPac_read_55 : decode cPac_read 55 = .ok (.invokevirtual 65, 3) := by decide +kernel
theorem dPac_read_58 : decode cPac_read 58 = .ok (.pop, 1) := by decide +kernel
theorem dPac_read_59 : decode cPac_read 59 = .ok (.iinc 3 1, 3) := by decide +kernel
theorem dPac_read_62 : decode cPac_read 62 = .ok (.goto (-26), 3) := by decide +kernel
theorem dPac_read_65 : decode cPac_read 65 = .ok (.iconst 0, 1) := by decide +kernel
theorem dPac_read_66 : decode cPac_read 66 = .ok (.istore_n 3, 1) := by decide +kernel
theorem dPac_read_67 : decode cPac_read 67 = .ok (.iload_n 3, 1) := by decide +kernel
theorem dPac_read_68 : decode cPac_read 68 = .ok (.bipush 16, 2) := by decide +kernel
theorem dPac_read_70 : decode cPac_read 70 = .ok (.if_icmp .ge 50, 3) := by decide +kernel
theorem dPac_read_73 : decode cPac_read 73 = .ok (.aload_n 1, 1) := by decide +kernel
theorem dPac_read_74 : decode cPac_read 74 = .ok (.iconst 5, 1) := by decide +kernel
theorem dPac_read_75 : decode cPac_read 75 = .ok (.iload_n 3, 1) := by decide +kernel
theorem dPac_read_76 : decode cPac_read 76 = .ok (.iconst 2, 1) := by decide +kernel
theorem dPac_read_77 : decode cPac_read 77 = .ok (.idiv, 1) := by decide +kernel
theorem dPac_read_78 : decode cPac_read 78 = .ok (.iadd, 1) := by decide +kernel
theorem dPac_read_79 : decode cPac_read 79 = .ok (.invokevirtual 62, 3) := by decide +kernel
theorem dPac_read_82 : decode cPac_read 82 = .ok (.istore 4, 2) := by decide +kernel
theorem dPac_read_84 : decode cPac_read 84 = .ok (.aload_n 0, 1) := by decide +kernel
theorem dPac_read_85 : decode cPac_read 85 = .ok (.getfield 19, 3) := by decide +kernel
theorem dPac_read_88 : decode cPac_read 88 = .ok (.iload_n 3, 1) := by decide +kernel
theorem dPac_read_89 : decode cPac_read 89 = .ok (.iload 4, 2) := by decide +kernel
theorem dPac_read_91 : decode cPac_read 91 = .ok (.bipush 8, 2) := by decide +kernel
theorem dPac_read_93 : decode cPac_read 93 = .ok (.idiv, 1) := by decide +kernel
theorem dPac_read_94 : decode cPac_read 94 = .ok (.bipush (-4), 2) := by decide +kernel
theorem dPac_read_96 : decode cPac_read 96 = .ok (.iadd, 1) := by decide +kernel
theorem dPac_read_97 : decode cPac_read 97 = .ok (.iastore, 1) := by decide +kernel
theorem dPac_read_98 : decode cPac_read 98 = .ok (.aload_n 0, 1) := by decide +kernel
theorem dPac_read_99 : decode cPac_read 99 = .ok (.getfield 19, 3) := by decide +kernel
theorem dPac_read_102 : decode cPac_read 102 = .ok (.iload_n 3, 1) := by decide +kernel
theorem dPac_read_103 : decode cPac_read 103 = .ok (.iconst 1, 1) := by decide +kernel
theorem dPac_read_104 : decode cPac_read 104 = .ok (.iadd, 1) := by decide +kernel
theorem dPac_read_105 : decode cPac_read 105 = .ok (.iload 4, 2) := by decide +kernel
theorem dPac_read_107 : decode cPac_read 107 = .ok (.bipush 8, 2) := by decide +kernel
theorem dPac_read_109 : decode cPac_read 109 = .ok (.irem, 1) := by decide +kernel
theorem dPac_read_110 : decode cPac_read 110 = .ok (.bipush (-4), 2) := by decide +kernel
theorem dPac_read_112 : decode cPac_read 112 = .ok (.iadd, 1) := by decide +kernel
theorem dPac_read_113 : decode cPac_read 113 = .ok (.iastore, 1) := by decide +kernel
theorem dPac_read_114 : decode cPac_read 114 = .ok (.iinc 3 2, 3) := by decide +kernel
theorem dPac_read_117 : decode cPac_read 117 = .ok (.goto (-50), 3) := by decide +kernel
theorem dPac_read_120 : decode cPac_read 120 = .ok (.return_, 1) := by decide +kernel
theorem dDec_speakByLevels_0 : decode cDec_speakByLevels 0 = .ok (.aload_n 0, 1) := by decide +kernel
theorem dDec_speakByLevels_1 : decode cDec_speakByLevels 1 = .ok (.getfield 21, 3) := by decide +kernel
theorem dDec_speakByLevels_4 : decode cDec_speakByLevels 4 = .ok (.invokevirtual 71, 3) := by decide +kernel
theorem dDec_speakByLevels_7 : decode cDec_speakByLevels 7 = .ok (.fstore_n 1, 1) := by decide +kernel
theorem dDec_speakByLevels_8 : decode cDec_speakByLevels 8 = .ok (.iconst 0, 1) := by decide +kernel
theorem dDec_speakByLevels_9 : decode cDec_speakByLevels 9 = .ok (.istore_n 2, 1) := by decide +kernel
theorem dDec_speakByLevels_10 : decode cDec_speakByLevels 10 = .ok (.iload_n 2, 1) := by decide +kernel
theorem dDec_speakByLevels_11 : decode cDec_speakByLevels 11 = .ok (.bipush 16, 2) := by decide +kernel
theorem dDec_speakByLevels_13 : decode cDec_speakByLevels 13 = .ok (.if_icmp .ge 44, 3) := by decide +kernel
theorem dDec_speakByLevels_16 : decode cDec_speakByLevels 16 = .ok (.aload_n 0, 1) := by decide +kernel
theorem dDec_speakByLevels_17 : decode cDec_speakByLevels 17 = .ok (.getfield 12, 3) := by decide +kernel
theorem dDec_speakByLevels_20 : decode cDec_speakByLevels 20 = .ok (.iload_n 2, 1) := by decide +kernel
theorem dDec_speakByLevels_21 : decode cDec_speakByLevels 21 = .ok (.aload_n 0, 1) := by decide +kernel
theorem dDec_speakByLevels_22 : decode cDec_speakByLevels 22 = .ok (.getfield 12, 3) := by decide +kernel
theorem dDec_speakByLevels_25 : decode cDec_speakByLevels 25 = .ok (.aload_n 0, 1) := by decide +kernel
theorem dDec_speakByLevels_26 : decode cDec_speakByLevels 26 = .ok (.getfield 21, 3) := by decide +kernel
theorem dDec_speakByLevels_29 : decode cDec_speakByLevels 29 = .ok (.getfield 75, 3) := by decide +kernel
theorem dDec_speakByLevels_32 : decode cDec_speakByLevels 32 = .ok (.invokevirtual 79, 3) := by decide +kernel
theorem dDec_speakByLevels_35 : decode cDec_speakByLevels 35 = .ok (.aload_n 0, 1) := by decide +kernel
theorem dDec_speakByLevels_36 : decode cDec_speakByLevels 36 = .ok (.getfield 21, 3) := by decide +kernel
theorem dDec_speakByLevels_39 : decode cDec_speakByLevels 39 = .ok (.getfield 83, 3) := by decide +kernel
theorem dDec_speakByLevels_42 : decode cDec_speakByLevels 42 = .ok (.iload_n 2, 1) := by decide +kernel
theorem dDec_speakByLevels_43 : decode cDec_speakByLevels 43 = .ok (.iaload, 1) := by decide +kernel
theorem dDec_speakByLevels_44 : decode cDec_speakByLevels 44 = .ok (.i2f, 1) := by decide +kernel
theorem dDec_speakByLevels_45 : decode cDec_speakByLevels 45 = .ok (.fload_n 1, 1) := by decide +kernel
theorem dDec_speakByLevels_46 : decode cDec_speakByLevels 46 = .ok (.fmul, 1) := by decide +kernel
theorem dDec_speakByLevels_47 : decode cDec_speakByLevels 47 = .ok (.fadd, 1) := by decide +kernel
theorem dDec_speakByLevels_48 : decode cDec_speakByLevels 48 = .ok (.invokevirtual 87, 3) := by decide +kernel
theorem dDec_speakByLevels_51 : decode cDec_speakByLevels 51 = .ok (.iinc 2 1, 3) := by decide +kernel
theorem dDec_speakByLevels_54 : decode cDec_speakByLevels 54 = .ok (.goto (-44), 3) := by decide +kernel
theorem dDec_speakByLevels_57 : decode cDec_speakByLevels 57 = .ok (.return_, 1) := by decide +kernel
theorem dDec_makeUp_0 : decode cDec_makeUp 0 = .ok (.iconst 0, 1) := by decide +kernel
theorem dDec_makeUp_1 : decode cDec_makeUp 1 = .ok (.istore_n 1, 1) := by decide +kernel
theorem dDec_makeUp_2 : decode cDec_makeUp 2 = .ok (.iload_n 1, 1) := by decide +kernel
theorem dDec_makeUp_3 : decode cDec_makeUp 3 = .ok (.bipush 16, 2) := by decide +kernel
theorem dDec_makeUp_5 : decode cDec_makeUp 5 = .ok (.if_icmp .ge 34, 3) := by decide +kernel
theorem dDec_makeUp_8 : decode cDec_makeUp 8 = .ok (.aload_n 0, 1) := by decide +kernel
theorem dDec_makeUp_9 : decode cDec_makeUp 9 = .ok (.getfield 12, 3) := by decide +kernel
theorem dDec_makeUp_12 : decode cDec_makeUp 12 = .ok (.iload_n 1, 1) := by decide +kernel
theorem dDec_makeUp_13 : decode cDec_makeUp 13 = .ok (.aload_n 0, 1) := by decide +kernel
theorem dDec_makeUp_14 : decode cDec_makeUp 14 = .ok (.getfield 12, 3) := by decide +kernel
theorem dDec_makeUp_17 : decode cDec_makeUp 17 = .ok (.aload_n 0, 1) := by decide +kernel
theorem dDec_makeUp_18 : decode cDec_makeUp 18 = .ok (.getfield 21, 3) := by decide +kernel
theorem dDec_makeUp_21 : decode cDec_makeUp 21 = .ok (.getfield 75, 3) := by decide +kernel
theorem dDec_makeUp_24 : decode cDec_makeUp 24 = .ok (.invokevirtual 79, 3) := by decide +kernel
theorem dDec_makeUp_27 : decode cDec_makeUp 27 = .ok (.ldc 91, 2) := by decide +kernel
theorem dDec_makeUp_29 : decode cDec_makeUp 29 = .ok (.fmul, 1) := by decide +kernel
theorem dDec_makeUp_30 : decode cDec_makeUp 30 = .ok (.invokevirtual 87, 3) := by decide +kernel
theorem dDec_makeUp_33 : decode cDec_makeUp 33 = .ok (.iinc 1 1, 3) := by decide +kernel
theorem dDec_makeUp_36 : decode cDec_makeUp 36 = .ok (.goto (-34), 3) := by decide +kernel
theorem dDec_makeUp_39 : decode cDec_makeUp 39 = .ok (.return_, 1) := by decide +kernel
theorem dLaw_out_0 : decode cLaw_out 0 = .ok (.aload_n 3, 1) := by decide +kernel
theorem dLaw_out_1 : decode cLaw_out 1 = .ok (.iconst 0, 1) := by decide +kernel
theorem dLaw_out_2 : decode cLaw_out 2 = .ok (.aload_n 0, 1) := by decide +kernel
theorem dLaw_out_3 : decode cLaw_out 3 = .ok (.iload_n 1, 1) := by decide +kernel
theorem dLaw_out_4 : decode cLaw_out 4 = .ok (.iload_n 2, 1) := by decide +kernel
theorem dLaw_out_5 : decode cLaw_out 5 = .ok (.invokevirtual 28, 3) := by decide +kernel
theorem dLaw_out_8 : decode cLaw_out 8 = .ok (.dastore, 1) := by decide +kernel
theorem dLaw_out_9 : decode cLaw_out 9 = .ok (.goto 7, 3) := by decide +kernel
theorem dLaw_out_12 : decode cLaw_out 12 = .ok (.astore 4, 2) := by decide +kernel
theorem dLaw_out_14 : decode cLaw_out 14 = .ok (.iconst 1, 1) := by decide +kernel
theorem dLaw_out_15 : decode cLaw_out 15 = .ok (.ireturn, 1) := by decide +kernel
theorem dLaw_out_16 : decode cLaw_out 16 = .ok (.iconst 0, 1) := by decide +kernel
theorem dLaw_out_17 : decode cLaw_out 17 = .ok (.ireturn, 1) := by decide +kernel
theorem dVF_out_0 : decode cVF_out 0 = .ok (.iload_n 1, 1) := by decide +kernel
theorem dVF_out_1 : decode cVF_out 1 = .ok (.ifCond .eq 13, 3) := by decide +kernel
theorem dVF_out_4 : decode cVF_out 4 = .ok (.aload_n 0, 1) := by decide +kernel
theorem dVF_out_5 : decode cVF_out 5 = .ok (.getfield 30, 3) := by decide +kernel
theorem dVF_out_8 : decode cVF_out 8 = .ok (.getfield 107, 3) := by decide +kernel
theorem dVF_out_11 : decode cVF_out 11 = .ok (.goto 10, 3) := by decide +kernel
theorem dVF_out_14 : decode cVF_out 14 = .ok (.aload_n 0, 1) := by decide +kernel
theorem dVF_out_15 : decode cVF_out 15 = .ok (.getfield 23, 3) := by decide +kernel
theorem dVF_out_18 : decode cVF_out 18 = .ok (.getfield 111, 3) := by decide +kernel
theorem dVF_out_21 : decode cVF_out 21 = .ok (.astore_n 3, 1) := by decide +kernel
theorem dVF_out_22 : decode cVF_out 22 = .ok (.iload_n 2, 1) := by decide +kernel
theorem dVF_out_23 : decode cVF_out 23 = .ok (.ifCond .lt 16, 3) := by decide +kernel
theorem dVF_out_26 : decode cVF_out 26 = .ok (.iload_n 2, 1) := by decide +kernel
theorem dVF_out_27 : decode cVF_out 27 = .ok (.bipush 16, 2) := by decide +kernel
theorem dVF_out_29 : decode cVF_out 29 = .ok (.if_icmp .ge 10, 3) := by decide +kernel
theorem dVF_out_32 : decode cVF_out 32 = .ok (.aload_n 3, 1) := by decide +kernel
theorem dVF_out_33 : decode cVF_out 33 = .ok (.getfield 112, 3) := by decide +kernel
theorem dVF_out_36 : decode cVF_out 36 = .ok (.ifCond .ne 13, 3) := by decide +kernel
theorem dVF_out_39 : decode cVF_out 39 = .ok (.new 68, 3) := by decide +kernel
theorem dVF_out_42 : decode cVF_out 42 = .ok (.dup, 1) := by decide +kernel
theorem dVF_out_43 : decode cVF_out 43 = .ok (.ldc 117, 2) := by decide +kernel
theorem dVF_out_45 : decode cVF_out 45 = .ok (.invokespecial 72, 3) := by decide +kernel
theorem dVF_out_48 : decode cVF_out 48 = .ok (.athrow, 1) := by decide +kernel
theorem dVF_out_49 : decode cVF_out 49 = .ok (.aload_n 3, 1) := by decide +kernel
theorem dVF_out_50 : decode cVF_out 50 = .ok (.getfield 119, 3) := by decide +kernel
theorem dVF_out_53 : decode cVF_out 53 = .ok (.iload_n 2, 1) := by decide +kernel
theorem dVF_out_54 : decode cVF_out 54 = .ok (.faload, 1) := by decide +kernel
theorem dVF_out_55 : decode cVF_out 55 = .ok (.f2d, 1) := by decide +kernel
theorem dVF_out_56 : decode cVF_out 56 = .ok (.dreturn, 1) := by decide +kernel
theorem dLaw_code_0 : decode cLaw_code 0 = .ok (.aload_n 2, 1) := by decide +kernel
theorem dLaw_code_1 : decode cLaw_code 1 = .ok (.iconst 0, 1) := by decide +kernel
theorem dLaw_code_2 : decode cLaw_code 2 = .ok (.aload_n 0, 1) := by decide +kernel
theorem dLaw_code_3 : decode cLaw_code 3 = .ok (.iload_n 1, 1) := by decide +kernel
theorem dLaw_code_4 : decode cLaw_code 4 = .ok (.invokevirtual 32, 3) := by decide +kernel
theorem dLaw_code_7 : decode cLaw_code 7 = .ok (.i2l, 1) := by decide +kernel
theorem dLaw_code_8 : decode cLaw_code 8 = .ok (.lastore, 1) := by decide +kernel
theorem dLaw_code_9 : decode cLaw_code 9 = .ok (.goto 6, 3) := by decide +kernel
theorem dLaw_code_12 : decode cLaw_code 12 = .ok (.astore_n 3, 1) := by decide +kernel
theorem dLaw_code_13 : decode cLaw_code 13 = .ok (.iconst 1, 1) := by decide +kernel
theorem dLaw_code_14 : decode cLaw_code 14 = .ok (.ireturn, 1) := by decide +kernel
theorem dLaw_code_15 : decode cLaw_code 15 = .ok (.iconst 0, 1) := by decide +kernel
theorem dLaw_code_16 : decode cLaw_code 16 = .ok (.ireturn, 1) := by decide +kernel
theorem dVF_code_0 : decode cVF_code 0 = .ok (.aload_n 0, 1) := by decide +kernel
theorem dVF_code_1 : decode cVF_code 1 = .ok (.getfield 23, 3) := by decide +kernel
theorem dVF_code_4 : decode cVF_code 4 = .ok (.getfield 122, 3) := by decide +kernel
theorem dVF_code_7 : decode cVF_code 7 = .ok (.astore_n 2, 1) := by decide +kernel
theorem dVF_code_8 : decode cVF_code 8 = .ok (.iload_n 1, 1) := by decide +kernel
theorem dVF_code_9 : decode cVF_code 9 = .ok (.tableswitch 71 0 6 #[43, 48, 48, 48, 48, 55, 60], 43) := by decide +kernel
theorem dVF_code_52 : decode cVF_code 52 = .ok (.aload_n 2, 1) := by decide +kernel
theorem dVF_code_53 : decode cVF_code 53 = .ok (.getfield 126, 3) := by decide +kernel
theorem dVF_code_56 : decode cVF_code 56 = .ok (.ireturn, 1) := by decide +kernel
theorem dVF_code_57 : decode cVF_code 57 = .ok (.aload_n 2, 1) := by decide +kernel
theorem dVF_code_58 : decode cVF_code 58 = .ok (.getfield 131, 3) := by decide +kernel
theorem dVF_code_61 : decode cVF_code 61 = .ok (.iload_n 1, 1) := by decide +kernel
theorem dVF_code_62 : decode cVF_code 62 = .ok (.iaload, 1) := by decide +kernel
theorem dVF_code_63 : decode cVF_code 63 = .ok (.ireturn, 1) := by decide +kernel
theorem dVF_code_64 : decode cVF_code 64 = .ok (.aload_n 2, 1) := by decide +kernel
theorem dVF_code_65 : decode cVF_code 65 = .ok (.invokevirtual 135, 3) := by decide +kernel
theorem dVF_code_68 : decode cVF_code 68 = .ok (.ireturn, 1) := by decide +kernel
theorem dVF_code_69 : decode cVF_code 69 = .ok (.aload_n 2, 1) := by decide +kernel
theorem dVF_code_70 : decode cVF_code 70 = .ok (.getfield 138, 3) := by decide +kernel
theorem dVF_code_73 : decode cVF_code 73 = .ok (.iconst 1, 1) := by decide +kernel
theorem dVF_code_74 : decode cVF_code 74 = .ok (.faload, 1) := by decide +kernel
theorem dVF_code_75 : decode cVF_code 75 = .ok (.ldc 141, 2) := by decide +kernel
theorem dVF_code_77 : decode cVF_code 77 = .ok (.fmul, 1) := by decide +kernel
theorem dVF_code_78 : decode cVF_code 78 = .ok (.f2i, 1) := by decide +kernel
theorem dVF_code_79 : decode cVF_code 79 = .ok (.ireturn, 1) := by decide +kernel
theorem dVF_code_80 : decode cVF_code 80 = .ok (.new 38, 3) := by decide +kernel
theorem dVF_code_83 : decode cVF_code 83 = .ok (.dup, 1) := by decide +kernel
theorem dVF_code_84 : decode cVF_code 84 = .ok (.ldc 142, 2) := by decide +kernel
theorem dVF_code_86 : decode cVF_code 86 = .ok (.invokespecial 42, 3) := by decide +kernel
theorem dVF_code_89 : decode cVF_code 89 = .ok (.athrow, 1) := by decide +kernel
theorem dPac_greatestLevel_0 : decode cPac_greatestLevel 0 = .ok (.iconst 0, 1) := by decide +kernel
theorem dPac_greatestLevel_1 : decode cPac_greatestLevel 1 = .ok (.istore_n 1, 1) := by decide +kernel
theorem dPac_greatestLevel_2 : decode cPac_greatestLevel 2 = .ok (.iconst 0, 1) := by decide +kernel
theorem dPac_greatestLevel_3 : decode cPac_greatestLevel 3 = .ok (.istore_n 2, 1) := by decide +kernel
theorem dPac_greatestLevel_4 : decode cPac_greatestLevel 4 = .ok (.iload_n 2, 1) := by decide +kernel
theorem dPac_greatestLevel_5 : decode cPac_greatestLevel 5 = .ok (.bipush 16, 2) := by decide +kernel
theorem dPac_greatestLevel_7 : decode cPac_greatestLevel 7 = .ok (.if_icmp .ge 23, 3) := by decide +kernel
theorem dPac_greatestLevel_10 : decode cPac_greatestLevel 10 = .ok (.iload_n 1, 1) := by decide +kernel
theorem dPac_greatestLevel_11 : decode cPac_greatestLevel 11 = .ok (.aload_n 0, 1) := by decide +kernel
theorem dPac_greatestLevel_12 : decode cPac_greatestLevel 12 = .ok (.getfield 19, 3) := by decide +kernel
theorem dPac_greatestLevel_15 : decode cPac_greatestLevel 15 = .ok (.iload_n 2, 1) := by decide +kernel
theorem dPac_greatestLevel_16 : decode cPac_greatestLevel 16 = .ok (.iaload, 1) := by decide +kernel
theorem dPac_greatestLevel_17 : decode cPac_greatestLevel 17 = .ok (.invokestatic 46, 3) := by decide +kernel
theorem dPac_greatestLevel_20 : decode cPac_greatestLevel 20 = .ok (.invokestatic 52, 3) := by decide +kernel
theorem dPac_greatestLevel_23 : decode cPac_greatestLevel 23 = .ok (.istore_n 1, 1) := by decide +kernel
theorem dPac_greatestLevel_24 : decode cPac_greatestLevel 24 = .ok (.iinc 2 1, 3) := by decide +kernel
theorem dPac_greatestLevel_27 : decode cPac_greatestLevel 27 = .ok (.goto (-23), 3) := by decide +kernel
theorem dPac_greatestLevel_30 : decode cPac_greatestLevel 30 = .ok (.iload_n 1, 1) := by decide +kernel
theorem dPac_greatestLevel_31 : decode cPac_greatestLevel 31 = .ok (.ireturn, 1) := by decide +kernel
theorem dLaw_stream_0 : decode cLaw_stream 0 = .ok (.aload_n 2, 1) := by decide +kernel
theorem dLaw_stream_1 : decode cLaw_stream 1 = .ok (.iconst 0, 1) := by decide +kernel
theorem dLaw_stream_2 : decode cLaw_stream 2 = .ok (.aload_n 0, 1) := by decide +kernel
theorem dLaw_stream_3 : decode cLaw_stream 3 = .ok (.iload_n 1, 1) := by decide +kernel
theorem dLaw_stream_4 : decode cLaw_stream 4 = .ok (.invokevirtual 36, 3) := by decide +kernel
theorem dLaw_stream_7 : decode cLaw_stream 7 = .ok (.i2l, 1) := by decide +kernel
theorem dLaw_stream_8 : decode cLaw_stream 8 = .ok (.lastore, 1) := by decide +kernel
theorem dLaw_stream_9 : decode cLaw_stream 9 = .ok (.goto 6, 3) := by decide +kernel
theorem dLaw_stream_12 : decode cLaw_stream 12 = .ok (.astore_n 3, 1) := by decide +kernel
theorem dLaw_stream_13 : decode cLaw_stream 13 = .ok (.iconst 1, 1) := by decide +kernel
theorem dLaw_stream_14 : decode cLaw_stream 14 = .ok (.ireturn, 1) := by decide +kernel
theorem dLaw_stream_15 : decode cLaw_stream 15 = .ok (.iconst 0, 1) := by decide +kernel
theorem dLaw_stream_16 : decode cLaw_stream 16 = .ok (.ireturn, 1) := by decide +kernel
theorem dVF_stream_0 : decode cVF_stream 0 = .ok (.iload_n 1, 1) := by decide +kernel
theorem dVF_stream_1 : decode cVF_stream 1 = .ok (.iconst (-1), 1) := by decide +kernel
theorem dVF_stream_2 : decode cVF_stream 2 = .ok (.if_icmp .ne 11, 3) := by decide +kernel
theorem dVF_stream_5 : decode cVF_stream 5 = .ok (.aload_n 0, 1) := by decide +kernel
theorem dVF_stream_6 : decode cVF_stream 6 = .ok (.getfield 16, 3) := by decide +kernel
theorem dVF_stream_9 : decode cVF_stream 9 = .ok (.getfield 144, 3) := by decide +kernel
theorem dVF_stream_12 : decode cVF_stream 12 = .ok (.ireturn, 1) := by decide +kernel
theorem dVF_stream_13 : decode cVF_stream 13 = .ok (.aload_n 0, 1) := by decide +kernel
theorem dVF_stream_14 : decode cVF_stream 14 = .ok (.getfield 16, 3) := by decide +kernel
theorem dVF_stream_17 : decode cVF_stream 17 = .ok (.iload_n 1, 1) := by decide +kernel
theorem dVF_stream_18 : decode cVF_stream 18 = .ok (.invokevirtual 147, 3) := by decide +kernel
theorem dVF_stream_21 : decode cVF_stream 21 = .ok (.ifCond .ne 13, 3) := by decide +kernel
theorem dVF_stream_24 : decode cVF_stream 24 = .ok (.new 68, 3) := by decide +kernel
theorem dVF_stream_27 : decode cVF_stream 27 = .ok (.dup, 1) := by decide +kernel
theorem dVF_stream_28 : decode cVF_stream 28 = .ok (.ldc 151, 2) := by decide +kernel
theorem dVF_stream_30 : decode cVF_stream 30 = .ok (.invokespecial 72, 3) := by decide +kernel
theorem dVF_stream_33 : decode cVF_stream 33 = .ok (.athrow, 1) := by decide +kernel
theorem dVF_stream_34 : decode cVF_stream 34 = .ok (.aload_n 0, 1) := by decide +kernel
theorem dVF_stream_35 : decode cVF_stream 35 = .ok (.getfield 16, 3) := by decide +kernel
theorem dVF_stream_38 : decode cVF_stream 38 = .ok (.getfield 153, 3) := by decide +kernel
theorem dVF_stream_41 : decode cVF_stream 41 = .ok (.iload_n 1, 1) := by decide +kernel
theorem dVF_stream_42 : decode cVF_stream 42 = .ok (.iaload, 1) := by decide +kernel
theorem dVF_stream_43 : decode cVF_stream 43 = .ok (.ireturn, 1) := by decide +kernel
theorem dLaw_damage_0 : decode cLaw_damage 0 = .ok (.aload_n 3, 1) := by decide +kernel
theorem dLaw_damage_1 : decode cLaw_damage 1 = .ok (.iconst 0, 1) := by decide +kernel
theorem dLaw_damage_2 : decode cLaw_damage 2 = .ok (.aload_n 0, 1) := by decide +kernel
theorem dLaw_damage_3 : decode cLaw_damage 3 = .ok (.iload_n 1, 1) := by decide +kernel
theorem dLaw_damage_4 : decode cLaw_damage 4 = .ok (.iload_n 2, 1) := by decide +kernel
theorem dLaw_damage_5 : decode cLaw_damage 5 = .ok (.invokevirtual 39, 3) := by decide +kernel
theorem dLaw_damage_8 : decode cLaw_damage 8 = .ok (.i2l, 1) := by decide +kernel
theorem dLaw_damage_9 : decode cLaw_damage 9 = .ok (.lastore, 1) := by decide +kernel
theorem dLaw_damage_10 : decode cLaw_damage 10 = .ok (.goto 11, 3) := by decide +kernel
theorem dLaw_damage_13 : decode cLaw_damage 13 = .ok (.astore 4, 2) := by decide +kernel
theorem dLaw_damage_15 : decode cLaw_damage 15 = .ok (.iconst 1, 1) := by decide +kernel
theorem dLaw_damage_16 : decode cLaw_damage 16 = .ok (.ireturn, 1) := by decide +kernel
theorem dLaw_damage_17 : decode cLaw_damage 17 = .ok (.astore 4, 2) := by decide +kernel
theorem dLaw_damage_19 : decode cLaw_damage 19 = .ok (.iconst 2, 1) := by decide +kernel
theorem dLaw_damage_20 : decode cLaw_damage 20 = .ok (.ireturn, 1) := by decide +kernel
theorem dLaw_damage_21 : decode cLaw_damage 21 = .ok (.iconst 0, 1) := by decide +kernel
theorem dLaw_damage_22 : decode cLaw_damage 22 = .ok (.ireturn, 1) := by decide +kernel
theorem dVF_damage_0 : decode cVF_damage 0 = .ok (.iload_n 2, 1) := by decide +kernel
theorem dVF_damage_1 : decode cVF_damage 1 = .ok (.ifCond .lt 10, 3) := by decide +kernel
theorem dVF_damage_4 : decode cVF_damage 4 = .ok (.iload_n 2, 1) := by decide +kernel
theorem dVF_damage_5 : decode cVF_damage 5 = .ok (.sipush 255, 3) := by decide +kernel
theorem dVF_damage_8 : decode cVF_damage 8 = .ok (.if_icmp .le 13, 3) := by decide +kernel
theorem dVF_damage_11 : decode cVF_damage 11 = .ok (.new 38, 3) := by decide +kernel
theorem dVF_damage_14 : decode cVF_damage 14 = .ok (.dup, 1) := by decide +kernel
theorem dVF_damage_15 : decode cVF_damage 15 = .ok (.ldc 156, 2) := by decide +kernel
theorem dVF_damage_17 : decode cVF_damage 17 = .ok (.invokespecial 42, 3) := by decide +kernel
theorem dVF_damage_20 : decode cVF_damage 20 = .ok (.athrow, 1) := by decide +kernel
theorem dVF_damage_21 : decode cVF_damage 21 = .ok (.aload_n 0, 1) := by decide +kernel
theorem dVF_damage_22 : decode cVF_damage 22 = .ok (.getfield 16, 3) := by decide +kernel
theorem dVF_damage_25 : decode cVF_damage 25 = .ok (.iload_n 1, 1) := by decide +kernel
theorem dVF_damage_26 : decode cVF_damage 26 = .ok (.invokevirtual 147, 3) := by decide +kernel
theorem dVF_damage_29 : decode cVF_damage 29 = .ok (.ifCond .ne 13, 3) := by decide +kernel
theorem dVF_damage_32 : decode cVF_damage 32 = .ok (.new 68, 3) := by decide +kernel
theorem dVF_damage_35 : decode cVF_damage 35 = .ok (.dup, 1) := by decide +kernel
theorem dVF_damage_36 : decode cVF_damage 36 = .ok (.ldc 151, 2) := by decide +kernel
theorem dVF_damage_38 : decode cVF_damage 38 = .ok (.invokespecial 72, 3) := by decide +kernel
theorem dVF_damage_41 : decode cVF_damage 41 = .ok (.athrow, 1) := by decide +kernel
theorem dVF_damage_42 : decode cVF_damage 42 = .ok (.aload_n 0, 1) := by decide +kernel
theorem dVF_damage_43 : decode cVF_damage 43 = .ok (.getfield 16, 3) := by decide +kernel
theorem dVF_damage_46 : decode cVF_damage 46 = .ok (.getfield 153, 3) := by decide +kernel
theorem dVF_damage_49 : decode cVF_damage 49 = .ok (.iload_n 1, 1) := by decide +kernel
theorem dVF_damage_50 : decode cVF_damage 50 = .ok (.iaload, 1) := by decide +kernel
theorem dVF_damage_51 : decode cVF_damage 51 = .ok (.istore_n 3, 1) := by decide +kernel
theorem dVF_damage_52 : decode cVF_damage 52 = .ok (.aload_n 0, 1) := by decide +kernel
theorem dVF_damage_53 : decode cVF_damage 53 = .ok (.getfield 16, 3) := by decide +kernel
theorem dVF_damage_56 : decode cVF_damage 56 = .ok (.getfield 153, 3) := by decide +kernel
theorem dVF_damage_59 : decode cVF_damage 59 = .ok (.iload_n 1, 1) := by decide +kernel
theorem dVF_damage_60 : decode cVF_damage 60 = .ok (.iload_n 2, 1) := by decide +kernel
theorem dVF_damage_61 : decode cVF_damage 61 = .ok (.iastore, 1) := by decide +kernel
theorem dVF_damage_62 : decode cVF_damage 62 = .ok (.iload_n 3, 1) := by decide +kernel
theorem dVF_damage_63 : decode cVF_damage 63 = .ok (.ireturn, 1) := by decide +kernel
theorem dLaw_cut_0 : decode cLaw_cut 0 = .ok (.aload_n 2, 1) := by decide +kernel
theorem dLaw_cut_1 : decode cLaw_cut 1 = .ok (.iconst 0, 1) := by decide +kernel
theorem dLaw_cut_2 : decode cLaw_cut 2 = .ok (.aload_n 0, 1) := by decide +kernel
theorem dLaw_cut_3 : decode cLaw_cut 3 = .ok (.iload_n 1, 1) := by decide +kernel
theorem dLaw_cut_4 : decode cLaw_cut 4 = .ok (.invokevirtual 43, 3) := by decide +kernel
theorem dLaw_cut_7 : decode cLaw_cut 7 = .ok (.i2l, 1) := by decide +kernel
theorem dLaw_cut_8 : decode cLaw_cut 8 = .ok (.lastore, 1) := by decide +kernel
theorem dLaw_cut_9 : decode cLaw_cut 9 = .ok (.goto 6, 3) := by decide +kernel
theorem dLaw_cut_12 : decode cLaw_cut 12 = .ok (.astore_n 3, 1) := by decide +kernel
theorem dLaw_cut_13 : decode cLaw_cut 13 = .ok (.iconst 1, 1) := by decide +kernel
theorem dLaw_cut_14 : decode cLaw_cut 14 = .ok (.ireturn, 1) := by decide +kernel
theorem dLaw_cut_15 : decode cLaw_cut 15 = .ok (.iconst 0, 1) := by decide +kernel
theorem dLaw_cut_16 : decode cLaw_cut 16 = .ok (.ireturn, 1) := by decide +kernel
theorem dVF_cut_0 : decode cVF_cut 0 = .ok (.iload_n 1, 1) := by decide +kernel
theorem dVF_cut_1 : decode cVF_cut 1 = .ok (.ifCond .lt 14, 3) := by decide +kernel
theorem dVF_cut_4 : decode cVF_cut 4 = .ok (.iload_n 1, 1) := by decide +kernel
theorem dVF_cut_5 : decode cVF_cut 5 = .ok (.aload_n 0, 1) := by decide +kernel
theorem dVF_cut_6 : decode cVF_cut 6 = .ok (.getfield 16, 3) := by decide +kernel
theorem dVF_cut_9 : decode cVF_cut 9 = .ok (.invokevirtual 90, 3) := by decide +kernel
theorem dVF_cut_12 : decode cVF_cut 12 = .ok (.if_icmp .le 13, 3) := by decide +kernel
theorem dVF_cut_15 : decode cVF_cut 15 = .ok (.new 38, 3) := by decide +kernel
theorem dVF_cut_18 : decode cVF_cut 18 = .ok (.dup, 1) := by decide +kernel
theorem dVF_cut_19 : decode cVF_cut 19 = .ok (.ldc 158, 2) := by decide +kernel
theorem dVF_cut_21 : decode cVF_cut 21 = .ok (.invokespecial 42, 3) := by decide +kernel
theorem dVF_cut_24 : decode cVF_cut 24 = .ok (.athrow, 1) := by decide +kernel
theorem dVF_cut_25 : decode cVF_cut 25 = .ok (.aload_n 0, 1) := by decide +kernel
theorem dVF_cut_26 : decode cVF_cut 26 = .ok (.getfield 16, 3) := by decide +kernel
theorem dVF_cut_29 : decode cVF_cut 29 = .ok (.dup, 1) := by decide +kernel
theorem dVF_cut_30 : decode cVF_cut 30 = .ok (.getfield 144, 3) := by decide +kernel
theorem dVF_cut_33 : decode cVF_cut 33 = .ok (.iload_n 1, 1) := by decide +kernel
theorem dVF_cut_34 : decode cVF_cut 34 = .ok (.isub, 1) := by decide +kernel
theorem dVF_cut_35 : decode cVF_cut 35 = .ok (.putfield 144, 3) := by decide +kernel
theorem dVF_cut_38 : decode cVF_cut 38 = .ok (.aload_n 0, 1) := by decide +kernel
theorem dVF_cut_39 : decode cVF_cut 39 = .ok (.getfield 16, 3) := by decide +kernel
theorem dVF_cut_42 : decode cVF_cut 42 = .ok (.getfield 144, 3) := by decide +kernel
theorem dVF_cut_45 : decode cVF_cut 45 = .ok (.ireturn, 1) := by decide +kernel
theorem dLaw_apart_0 : decode cLaw_apart 0 = .ok (.aload_n 1, 1) := by decide +kernel
theorem dLaw_apart_1 : decode cLaw_apart 1 = .ok (.iconst 0, 1) := by decide +kernel
theorem dLaw_apart_2 : decode cLaw_apart 2 = .ok (.aload_n 0, 1) := by decide +kernel
theorem dLaw_apart_3 : decode cLaw_apart 3 = .ok (.invokevirtual 46, 3) := by decide +kernel
theorem dLaw_apart_6 : decode cLaw_apart 6 = .ok (.dastore, 1) := by decide +kernel
theorem dLaw_apart_7 : decode cLaw_apart 7 = .ok (.goto 6, 3) := by decide +kernel
theorem dLaw_apart_10 : decode cLaw_apart 10 = .ok (.astore_n 2, 1) := by decide +kernel
theorem dLaw_apart_11 : decode cLaw_apart 11 = .ok (.iconst 1, 1) := by decide +kernel
theorem dLaw_apart_12 : decode cLaw_apart 12 = .ok (.ireturn, 1) := by decide +kernel
theorem dLaw_apart_13 : decode cLaw_apart 13 = .ok (.iconst 0, 1) := by decide +kernel
theorem dLaw_apart_14 : decode cLaw_apart 14 = .ok (.ireturn, 1) := by decide +kernel
theorem dVF_apart_0 : decode cVF_apart 0 = .ok (.aload_n 0, 1) := by decide +kernel
theorem dVF_apart_1 : decode cVF_apart 1 = .ok (.getfield 30, 3) := by decide +kernel
theorem dVF_apart_4 : decode cVF_apart 4 = .ok (.getfield 107, 3) := by decide +kernel
theorem dVF_apart_7 : decode cVF_apart 7 = .ok (.astore_n 1, 1) := by decide +kernel
theorem dVF_apart_8 : decode cVF_apart 8 = .ok (.aload_n 0, 1) := by decide +kernel
theorem dVF_apart_9 : decode cVF_apart 9 = .ok (.getfield 23, 3) := by decide +kernel
theorem dVF_apart_12 : decode cVF_apart 12 = .ok (.getfield 111, 3) := by decide +kernel
theorem dVF_apart_15 : decode cVF_apart 15 = .ok (.astore_n 2, 1) := by decide +kernel
theorem dVF_apart_16 : decode cVF_apart 16 = .ok (.aload_n 1, 1) := by decide +kernel
theorem dVF_apart_17 : decode cVF_apart 17 = .ok (.getfield 112, 3) := by decide +kernel
theorem dVF_apart_20 : decode cVF_apart 20 = .ok (.ifCond .eq 10, 3) := by decide +kernel
theorem dVF_apart_23 : decode cVF_apart 23 = .ok (.aload_n 2, 1) := by decide +kernel
theorem dVF_apart_24 : decode cVF_apart 24 = .ok (.getfield 112, 3) := by decide +kernel
theorem dVF_apart_27 : decode cVF_apart 27 = .ok (.ifCond .ne 13, 3) := by decide +kernel
theorem dVF_apart_30 : decode cVF_apart 30 = .ok (.new 49, 3) := by decide +kernel
theorem dVF_apart_33 : decode cVF_apart 33 = .ok (.dup, 1) := by decide +kernel
theorem dVF_apart_34 : decode cVF_apart 34 = .ok (.ldc 167, 2) := by decide +kernel
theorem dVF_apart_36 : decode cVF_apart 36 = .ok (.invokespecial 53, 3) := by decide +kernel
theorem dVF_apart_39 : decode cVF_apart 39 = .ok (.athrow, 1) := by decide +kernel
theorem dVF_apart_40 : decode cVF_apart 40 = .ok (.fconst 0, 1) := by decide +kernel
theorem dVF_apart_41 : decode cVF_apart 41 = .ok (.fstore_n 3, 1) := by decide +kernel
theorem dVF_apart_42 : decode cVF_apart 42 = .ok (.iconst 0, 1) := by decide +kernel
theorem dVF_apart_43 : decode cVF_apart 43 = .ok (.istore 4, 2) := by decide +kernel
theorem dVF_apart_45 : decode cVF_apart 45 = .ok (.iload 4, 2) := by decide +kernel
theorem dVF_apart_47 : decode cVF_apart 47 = .ok (.bipush 16, 2) := by decide +kernel
theorem dVF_apart_49 : decode cVF_apart 49 = .ok (.if_icmp .ge 32, 3) := by decide +kernel
theorem dVF_apart_52 : decode cVF_apart 52 = .ok (.fload_n 3, 1) := by decide +kernel
theorem dVF_apart_53 : decode cVF_apart 53 = .ok (.aload_n 1, 1) := by decide +kernel
theorem dVF_apart_54 : decode cVF_apart 54 = .ok (.getfield 119, 3) := by decide +kernel
theorem dVF_apart_57 : decode cVF_apart 57 = .ok (.iload 4, 2) := by decide +kernel
theorem dVF_apart_59 : decode cVF_apart 59 = .ok (.faload, 1) := by decide +kernel
theorem dVF_apart_60 : decode cVF_apart 60 = .ok (.aload_n 2, 1) := by decide +kernel
theorem dVF_apart_61 : decode cVF_apart 61 = .ok (.getfield 119, 3) := by decide +kernel
theorem dVF_apart_64 : decode cVF_apart 64 = .ok (.iload 4, 2) := by decide +kernel
theorem dVF_apart_66 : decode cVF_apart 66 = .ok (.faload, 1) := by decide +kernel
theorem dVF_apart_67 : decode cVF_apart 67 = .ok (.fsub, 1) := by decide +kernel
theorem dVF_apart_68 : decode cVF_apart 68 = .ok (.invokestatic 169, 3) := by decide +kernel
theorem dVF_apart_71 : decode cVF_apart 71 = .ok (.invokestatic 173, 3) := by decide +kernel
theorem dVF_apart_74 : decode cVF_apart 74 = .ok (.fstore_n 3, 1) := by decide +kernel
theorem dVF_apart_75 : decode cVF_apart 75 = .ok (.iinc 4 1, 3) := by decide +kernel
theorem dVF_apart_78 : decode cVF_apart 78 = .ok (.goto (-33), 3) := by decide +kernel
theorem dVF_apart_81 : decode cVF_apart 81 = .ok (.fload_n 3, 1) := by decide +kernel
theorem dVF_apart_82 : decode cVF_apart 82 = .ok (.f2d, 1) := by decide +kernel
theorem dVF_apart_83 : decode cVF_apart 83 = .ok (.dreturn, 1) := by decide +kernel
theorem dLaw_count_0 : decode cLaw_count 0 = .ok (.aload_n 2, 1) := by decide +kernel
theorem dLaw_count_1 : decode cLaw_count 1 = .ok (.iconst 0, 1) := by decide +kernel
theorem dLaw_count_2 : decode cLaw_count 2 = .ok (.aload_n 0, 1) := by decide +kernel
theorem dLaw_count_3 : decode cLaw_count 3 = .ok (.iload_n 1, 1) := by decide +kernel
theorem dLaw_count_4 : decode cLaw_count 4 = .ok (.invokevirtual 50, 3) := by decide +kernel
theorem dLaw_count_7 : decode cLaw_count 7 = .ok (.i2l, 1) := by decide +kernel
theorem dLaw_count_8 : decode cLaw_count 8 = .ok (.lastore, 1) := by decide +kernel
theorem dLaw_count_9 : decode cLaw_count 9 = .ok (.goto 6, 3) := by decide +kernel
theorem dLaw_count_12 : decode cLaw_count 12 = .ok (.astore_n 3, 1) := by decide +kernel
theorem dLaw_count_13 : decode cLaw_count 13 = .ok (.iconst 1, 1) := by decide +kernel
theorem dLaw_count_14 : decode cLaw_count 14 = .ok (.ireturn, 1) := by decide +kernel
theorem dLaw_count_15 : decode cLaw_count 15 = .ok (.iconst 0, 1) := by decide +kernel
theorem dLaw_count_16 : decode cLaw_count 16 = .ok (.ireturn, 1) := by decide +kernel
theorem dVF_count_0 : decode cVF_count 0 = .ok (.iload_n 1, 1) := by decide +kernel
theorem dVF_count_1 : decode cVF_count 1 = .ok (.tableswitch 101 0 6 #[43, 48, 56, 64, 72, 80, 88], 43) := by decide +kernel
theorem dVF_count_44 : decode cVF_count 44 = .ok (.aload_n 0, 1) := by decide +kernel
theorem dVF_count_45 : decode cVF_count 45 = .ok (.getfield 45, 3) := by decide +kernel
theorem dVF_count_48 : decode cVF_count 48 = .ok (.ireturn, 1) := by decide +kernel
theorem dVF_count_49 : decode cVF_count 49 = .ok (.aload_n 0, 1) := by decide +kernel
theorem dVF_count_50 : decode cVF_count 50 = .ok (.getfield 16, 3) := by decide +kernel
theorem dVF_count_53 : decode cVF_count 53 = .ok (.getfield 177, 3) := by decide +kernel
theorem dVF_count_56 : decode cVF_count 56 = .ok (.ireturn, 1) := by decide +kernel
theorem dVF_count_57 : decode cVF_count 57 = .ok (.aload_n 0, 1) := by decide +kernel
theorem dVF_count_58 : decode cVF_count 58 = .ok (.getfield 23, 3) := by decide +kernel
theorem dVF_count_61 : decode cVF_count 61 = .ok (.getfield 180, 3) := by decide +kernel
theorem dVF_count_64 : decode cVF_count 64 = .ok (.ireturn, 1) := by decide +kernel
theorem dVF_count_65 : decode cVF_count 65 = .ok (.aload_n 0, 1) := by decide +kernel
theorem dVF_count_66 : decode cVF_count 66 = .ok (.getfield 30, 3) := by decide +kernel
theorem dVF_count_69 : decode cVF_count 69 = .ok (.getfield 183, 3) := by decide +kernel
theorem dVF_count_72 : decode cVF_count 72 = .ok (.ireturn, 1) := by decide +kernel
theorem dVF_count_73 : decode cVF_count 73 = .ok (.aload_n 0, 1) := by decide +kernel
theorem dVF_count_74 : decode cVF_count 74 = .ok (.getfield 30, 3) := by decide +kernel
theorem dVF_count_77 : decode cVF_count 77 = .ok (.getfield 184, 3) := by decide +kernel
theorem dVF_count_80 : decode cVF_count 80 = .ok (.ireturn, 1) := by decide +kernel
theorem dVF_count_81 : decode cVF_count 81 = .ok (.aload_n 0, 1) := by decide +kernel
theorem dVF_count_82 : decode cVF_count 82 = .ok (.getfield 30, 3) := by decide +kernel
theorem dVF_count_85 : decode cVF_count 85 = .ok (.getfield 187, 3) := by decide +kernel
theorem dVF_count_88 : decode cVF_count 88 = .ok (.ireturn, 1) := by decide +kernel
theorem dVF_count_89 : decode cVF_count 89 = .ok (.aload_n 0, 1) := by decide +kernel
theorem dVF_count_90 : decode cVF_count 90 = .ok (.getfield 54, 3) := by decide +kernel
theorem dVF_count_93 : decode cVF_count 93 = .ok (.ifCond .eq 7, 3) := by decide +kernel
theorem dVF_count_96 : decode cVF_count 96 = .ok (.iconst 1, 1) := by decide +kernel
theorem dVF_count_97 : decode cVF_count 97 = .ok (.goto 4, 3) := by decide +kernel
theorem dVF_count_100 : decode cVF_count 100 = .ok (.iconst 0, 1) := by decide +kernel
theorem dVF_count_101 : decode cVF_count 101 = .ok (.ireturn, 1) := by decide +kernel
theorem dVF_count_102 : decode cVF_count 102 = .ok (.new 38, 3) := by decide +kernel
theorem dVF_count_105 : decode cVF_count 105 = .ok (.dup, 1) := by decide +kernel
theorem dVF_count_106 : decode cVF_count 106 = .ok (.ldc 190, 2) := by decide +kernel
theorem dVF_count_108 : decode cVF_count 108 = .ok (.invokespecial 42, 3) := by decide +kernel
theorem dVF_count_111 : decode cVF_count 111 = .ok (.athrow, 1) := by decide +kernel
theorem dMod_init_0 : decode cMod_init 0 = .ok (.aload_n 0, 1) := by decide +kernel
theorem dMod_init_1 : decode cMod_init 1 = .ok (.invokespecial 1, 3) := by decide +kernel
theorem dMod_init_4 : decode cMod_init 4 = .ok (.aload_n 0, 1) := by decide +kernel
theorem dMod_init_5 : decode cMod_init 5 = .ok (.bipush 48, 2) := by decide +kernel
theorem dMod_init_7 : decode cMod_init 7 = .ok (.newarray .float, 2) := by decide +kernel
theorem dMod_init_9 : decode cMod_init 9 = .ok (.putfield 7, 3) := by decide +kernel
theorem dMod_init_12 : decode cMod_init 12 = .ok (.aload_n 0, 1) := by decide +kernel
theorem dMod_init_13 : decode cMod_init 13 = .ok (.bipush 16, 2) := by decide +kernel
theorem dMod_init_15 : decode cMod_init 15 = .ok (.newarray .float, 2) := by decide +kernel
theorem dMod_init_17 : decode cMod_init 17 = .ok (.putfield 13, 3) := by decide +kernel
theorem dMod_init_20 : decode cMod_init 20 = .ok (.aload_n 0, 1) := by decide +kernel
theorem dMod_init_21 : decode cMod_init 21 = .ok (.bipush 16, 2) := by decide +kernel
theorem dMod_init_23 : decode cMod_init 23 = .ok (.newarray .float, 2) := by decide +kernel
theorem dMod_init_25 : decode cMod_init 25 = .ok (.putfield 16, 3) := by decide +kernel
theorem dMod_init_28 : decode cMod_init 28 = .ok (.aload_n 0, 1) := by decide +kernel
theorem dMod_init_29 : decode cMod_init 29 = .ok (.bipush 16, 2) := by decide +kernel
theorem dMod_init_31 : decode cMod_init 31 = .ok (.newarray .float, 2) := by decide +kernel
theorem dMod_init_33 : decode cMod_init 33 = .ok (.putfield 19, 3) := by decide +kernel
theorem dMod_init_36 : decode cMod_init 36 = .ok (.aload_n 0, 1) := by decide +kernel
theorem dMod_init_37 : decode cMod_init 37 = .ok (.bipush 16, 2) := by decide +kernel
theorem dMod_init_39 : decode cMod_init 39 = .ok (.newarray .float, 2) := by decide +kernel
theorem dMod_init_41 : decode cMod_init 41 = .ok (.putfield 22, 3) := by decide +kernel
theorem dMod_init_44 : decode cMod_init 44 = .ok (.aload_n 0, 1) := by decide +kernel
theorem dMod_init_45 : decode cMod_init 45 = .ok (.iconst 4, 1) := by decide +kernel
theorem dMod_init_46 : decode cMod_init 46 = .ok (.newarray .float, 2) := by decide +kernel
theorem dMod_init_48 : decode cMod_init 48 = .ok (.putfield 25, 3) := by decide +kernel
theorem dMod_init_51 : decode cMod_init 51 = .ok (.aload_n 0, 1) := by decide +kernel
theorem dMod_init_52 : decode cMod_init 52 = .ok (.iconst 4, 1) := by decide +kernel
theorem dMod_init_53 : decode cMod_init 53 = .ok (.newarray .float, 2) := by decide +kernel
theorem dMod_init_55 : decode cMod_init 55 = .ok (.putfield 28, 3) := by decide +kernel
theorem dMod_init_58 : decode cMod_init 58 = .ok (.aload_n 0, 1) := by decide +kernel
theorem dMod_init_59 : decode cMod_init 59 = .ok (.iconst 5, 1) := by decide +kernel
theorem dMod_init_60 : decode cMod_init 60 = .ok (.newarray .float, 2) := by decide +kernel
theorem dMod_init_62 : decode cMod_init 62 = .ok (.putfield 31, 3) := by decide +kernel
theorem dMod_init_65 : decode cMod_init 65 = .ok (.aload_n 0, 1) := by decide +kernel
theorem dMod_init_66 : decode cMod_init 66 = .ok (.iconst 5, 1) := by decide +kernel
theorem dMod_init_67 : decode cMod_init 67 = .ok (.newarray .float, 2) := by decide +kernel
theorem dMod_init_69 : decode cMod_init 69 = .ok (.putfield 34, 3) := by decide +kernel
theorem dMod_init_72 : decode cMod_init 72 = .ok (.aload_n 0, 1) := by decide +kernel
theorem dMod_init_73 : decode cMod_init 73 = .ok (.iconst 5, 1) := by decide +kernel
theorem dMod_init_74 : decode cMod_init 74 = .ok (.newarray .float, 2) := by decide +kernel
theorem dMod_init_76 : decode cMod_init 76 = .ok (.putfield 37, 3) := by decide +kernel
theorem dMod_init_79 : decode cMod_init 79 = .ok (.aload_n 0, 1) := by decide +kernel
theorem dMod_init_80 : decode cMod_init 80 = .ok (.iconst 5, 1) := by decide +kernel
theorem dMod_init_81 : decode cMod_init 81 = .ok (.newarray .float, 2) := by decide +kernel
theorem dMod_init_83 : decode cMod_init 83 = .ok (.putfield 40, 3) := by decide +kernel
theorem dMod_init_86 : decode cMod_init 86 = .ok (.aload_n 0, 1) := by decide +kernel
theorem dMod_init_87 : decode cMod_init 87 = .ok (.bipush 120, 2) := by decide +kernel
theorem dMod_init_89 : decode cMod_init 89 = .ok (.newarray .int, 2) := by decide +kernel
theorem dMod_init_91 : decode cMod_init 91 = .ok (.putfield 43, 3) := by decide +kernel
theorem dMod_init_94 : decode cMod_init 94 = .ok (.aload_n 0, 1) := by decide +kernel
theorem dMod_init_95 : decode cMod_init 95 = .ok (.bipush 16, 2) := by decide +kernel
theorem dMod_init_97 : decode cMod_init 97 = .ok (.newarray .int, 2) := by decide +kernel
theorem dMod_init_99 : decode cMod_init 99 = .ok (.putfield 47, 3) := by decide +kernel
theorem dMod_init_102 : decode cMod_init 102 = .ok (.aload_n 0, 1) := by decide +kernel
theorem dMod_init_103 : decode cMod_init 103 = .ok (.iconst 5, 1) := by decide +kernel
theorem dMod_init_104 : decode cMod_init 104 = .ok (.newarray .int, 2) := by decide +kernel
theorem dMod_init_106 : decode cMod_init 106 = .ok (.putfield 50, 3) := by decide +kernel
theorem dMod_init_109 : decode cMod_init 109 = .ok (.aload_n 0, 1) := by decide +kernel
theorem dMod_init_110 : decode cMod_init 110 = .ok (.bipush 7, 2) := by decide +kernel
theorem dMod_init_112 : decode cMod_init 112 = .ok (.newarray .int, 2) := by decide +kernel
theorem dMod_init_114 : decode cMod_init 114 = .ok (.putfield 53, 3) := by decide +kernel
theorem dMod_init_117 : decode cMod_init 117 = .ok (.return_, 1) := by decide +kernel
theorem dMod_thrown_0 : decode cMod_thrown 0 = .ok (.aload_n 0, 1) := by decide +kernel
theorem dMod_thrown_1 : decode cMod_thrown 1 = .ok (.getfield 56, 3) := by decide +kernel
theorem dMod_thrown_4 : decode cMod_thrown 4 = .ok (.ireturn, 1) := by decide +kernel
theorem dMod_sample_0 : decode cMod_sample 0 = .ok (.dload_n 1, 1) := by decide +kernel
theorem dMod_sample_1 : decode cMod_sample 1 = .ok (.ldc2_w 60, 3) := by decide +kernel
theorem dMod_sample_4 : decode cMod_sample 4 = .ok (.dcmp .l, 1) := by decide +kernel
theorem dMod_sample_5 : decode cMod_sample 5 = .ok (.ifCond .lt 11, 3) := by decide +kernel
theorem dMod_sample_8 : decode cMod_sample 8 = .ok (.dload_n 1, 1) := by decide +kernel
theorem dMod_sample_9 : decode cMod_sample 9 = .ok (.ldc2_w 62, 3) := by decide +kernel
theorem dMod_sample_12 : decode cMod_sample 12 = .ok (.dcmp .g, 1) := by decide +kernel
theorem dMod_sample_13 : decode cMod_sample 13 = .ok (.ifCond .le 9, 3) := by decide +kernel
theorem dMod_sample_16 : decode cMod_sample 16 = .ok (.aload_n 0, 1) := by decide +kernel
theorem dMod_sample_17 : decode cMod_sample 17 = .ok (.iconst 1, 1) := by decide +kernel
theorem dMod_sample_18 : decode cMod_sample 18 = .ok (.invokevirtual 64, 3) := by decide +kernel
theorem dMod_sample_21 : decode cMod_sample 21 = .ok (.ireturn, 1) := by decide +kernel
theorem dMod_sample_22 : decode cMod_sample 22 = .ok (.aload_n 0, 1) := by decide +kernel
theorem dMod_sample_23 : decode cMod_sample 23 = .ok (.getfield 68, 3) := by decide +kernel
theorem dMod_sample_26 : decode cMod_sample 26 = .ok (.bipush 48, 2) := by decide +kernel
theorem dMod_sample_28 : decode cMod_sample 28 = .ok (.if_icmp .ne 9, 3) := by decide +kernel
theorem dMod_sample_31 : decode cMod_sample 31 = .ok (.aload_n 0, 1) := by decide +kernel
theorem dMod_sample_32 : decode cMod_sample 32 = .ok (.iconst 2, 1) := by decide +kernel
theorem dMod_sample_33 : decode cMod_sample 33 = .ok (.invokevirtual 64, 3) := by decide +kernel
theorem dMod_sample_36 : decode cMod_sample 36 = .ok (.ireturn, 1) := by decide +kernel
theorem dMod_sample_37 : decode cMod_sample 37 = .ok (.aload_n 0, 1) := by decide +kernel
theorem dMod_sample_38 : decode cMod_sample 38 = .ok (.iconst 0, 1) := by decide +kernel
theorem dMod_sample_39 : decode cMod_sample 39 = .ok (.putfield 56, 3) := by decide +kernel
theorem dMod_sample_42 : decode cMod_sample 42 = .ok (.aload_n 0, 1) := by decide +kernel
theorem dMod_sample_43 : decode cMod_sample 43 = .ok (.getfield 7, 3) := by decide +kernel
theorem dMod_sample_46 : decode cMod_sample 46 = .ok (.aload_n 0, 1) := by decide +kernel
theorem dMod_sample_47 : decode cMod_sample 47 = .ok (.getfield 68, 3) := by decide +kernel
theorem dMod_sample_50 : decode cMod_sample 50 = .ok (.dload_n 1, 1) := by decide +kernel
theorem dMod_sample_51 : decode cMod_sample 51 = .ok (.d2f, 1) := by decide +kernel
theorem dMod_sample_52 : decode cMod_sample 52 = .ok (.fastore, 1) := by decide +kernel
theorem dMod_sample_53 : decode cMod_sample 53 = .ok (.aload_n 0, 1) := by decide +kernel
theorem dMod_sample_54 : decode cMod_sample 54 = .ok (.dup, 1) := by decide +kernel
theorem dMod_sample_55 : decode cMod_sample 55 = .ok (.getfield 68, 3) := by decide +kernel
theorem dMod_sample_58 : decode cMod_sample 58 = .ok (.iconst 1, 1) := by decide +kernel
theorem dMod_sample_59 : decode cMod_sample 59 = .ok (.iadd, 1) := by decide +kernel
theorem dMod_sample_60 : decode cMod_sample 60 = .ok (.putfield 68, 3) := by decide +kernel
theorem dMod_sample_63 : decode cMod_sample 63 = .ok (.aload_n 0, 1) := by decide +kernel
theorem dMod_sample_64 : decode cMod_sample 64 = .ok (.getfield 68, 3) := by decide +kernel
theorem dMod_sample_67 : decode cMod_sample 67 = .ok (.ireturn, 1) := by decide +kernel
theorem dMod_fail_0 : decode cMod_fail 0 = .ok (.aload_n 0, 1) := by decide +kernel
theorem dMod_fail_1 : decode cMod_fail 1 = .ok (.iload_n 1, 1) := by decide +kernel
theorem dMod_fail_2 : decode cMod_fail 2 = .ok (.putfield 56, 3) := by decide +kernel
theorem dMod_fail_5 : decode cMod_fail 5 = .ok (.iconst 0, 1) := by decide +kernel
theorem dMod_fail_6 : decode cMod_fail 6 = .ok (.ireturn, 1) := by decide +kernel
theorem dMod_linear_0 : decode cMod_linear 0 = .ok (.aload_n 0, 1) := by decide +kernel
theorem dMod_linear_1 : decode cMod_linear 1 = .ok (.iconst 0, 1) := by decide +kernel
theorem dMod_linear_2 : decode cMod_linear 2 = .ok (.putfield 56, 3) := by decide +kernel
theorem dMod_linear_5 : decode cMod_linear 5 = .ok (.aload_n 0, 1) := by decide +kernel
theorem dMod_linear_6 : decode cMod_linear 6 = .ok (.getfield 71, 3) := by decide +kernel
theorem dMod_linear_9 : decode cMod_linear 9 = .ok (.istore_n 2, 1) := by decide +kernel
theorem dMod_linear_10 : decode cMod_linear 10 = .ok (.aload_n 0, 1) := by decide +kernel
theorem dMod_linear_11 : decode cMod_linear 11 = .ok (.iload_n 1, 1) := by decide +kernel
theorem dMod_linear_12 : decode cMod_linear 12 = .ok (.putfield 71, 3) := by decide +kernel
theorem dMod_linear_15 : decode cMod_linear 15 = .ok (.iload_n 2, 1) := by decide +kernel
theorem dMod_linear_16 : decode cMod_linear 16 = .ok (.ireturn, 1) := by decide +kernel
theorem dMod_encode_0 : decode cMod_encode 0 = .ok (.aload_n 0, 1) := by decide +kernel
theorem dMod_encode_1 : decode cMod_encode 1 = .ok (.getfield 68, 3) := by decide +kernel
theorem dMod_encode_4 : decode cMod_encode 4 = .ok (.bipush 16, 2) := by decide +kernel
theorem dMod_encode_6 : decode cMod_encode 6 = .ok (.if_icmp .ge 9, 3) := by decide +kernel
theorem dMod_encode_9 : decode cMod_encode 9 = .ok (.aload_n 0, 1) := by decide +kernel
theorem dMod_encode_10 : decode cMod_encode 10 = .ok (.iconst 1, 1) := by decide +kernel
theorem dMod_encode_11 : decode cMod_encode 11 = .ok (.invokevirtual 64, 3) := by decide +kernel
theorem dMod_encode_14 : decode cMod_encode 14 = .ok (.ireturn, 1) := by decide +kernel
theorem dMod_encode_15 : decode cMod_encode 15 = .ok (.iconst 0, 1) := by decide +kernel
theorem dMod_encode_16 : decode cMod_encode 16 = .ok (.istore_n 1, 1) := by decide +kernel
theorem dMod_encode_17 : decode cMod_encode 17 = .ok (.iload_n 1, 1) := by decide +kernel
theorem dMod_encode_18 : decode cMod_encode 18 = .ok (.bipush 16, 2) := by decide +kernel
theorem dMod_encode_20 : decode cMod_encode 20 = .ok (.if_icmp .ge 21, 3) := by decide +kernel
theorem dMod_encode_23 : decode cMod_encode 23 = .ok (.aload_n 0, 1) := by decide +kernel
theorem dMod_encode_24 : decode cMod_encode 24 = .ok (.getfield 13, 3) := by decide +kernel
theorem dMod_encode_27 : decode cMod_encode 27 = .ok (.iload_n 1, 1) := by decide +kernel
theorem dMod_encode_28 : decode cMod_encode 28 = .ok (.aload_n 0, 1) := by decide +kernel
theorem dMod_encode_29 : decode cMod_encode 29 = .ok (.getfield 7, 3) := by decide +kernel
theorem dMod_encode_32 : decode cMod_encode 32 = .ok (.iload_n 1, 1) := by decide +kernel
theorem dMod_encode_33 : decode cMod_encode 33 = .ok (.faload, 1) := by decide +kernel
theorem dMod_encode_34 : decode cMod_encode 34 = .ok (.fastore, 1) := by decide +kernel
theorem dMod_encode_35 : decode cMod_encode 35 = .ok (.iinc 1 1, 3) := by decide +kernel
theorem dMod_encode_38 : decode cMod_encode 38 = .ok (.goto (-21), 3) := by decide +kernel
theorem dMod_encode_41 : decode cMod_encode 41 = .ok (.iconst 0, 1) := by decide +kernel
theorem dMod_encode_42 : decode cMod_encode 42 = .ok (.istore_n 1, 1) := by decide +kernel
theorem dMod_encode_43 : decode cMod_encode 43 = .ok (.iload_n 1, 1) := by decide +kernel
theorem dMod_encode_44 : decode cMod_encode 44 = .ok (.iconst 5, 1) := by decide +kernel
theorem dMod_encode_45 : decode cMod_encode 45 = .ok (.if_icmp .ge 58, 3) := by decide +kernel
theorem dMod_encode_48 : decode cMod_encode 48 = .ok (.aload_n 0, 1) := by decide +kernel
theorem dMod_encode_49 : decode cMod_encode 49 = .ok (.getfield 40, 3) := by decide +kernel
theorem dMod_encode_52 : decode cMod_encode 52 = .ok (.iload_n 1, 1) := by decide +kernel
theorem dMod_encode_53 : decode cMod_encode 53 = .ok (.fconst 0, 1) := by decide +kernel
theorem dMod_encode_54 : decode cMod_encode 54 = .ok (.fastore, 1) := by decide +kernel
theorem dMod_encode_55 : decode cMod_encode 55 = .ok (.iload_n 1, 1) := by decide +kernel
theorem dMod_encode_56 : decode cMod_encode 56 = .ok (.istore_n 2, 1) := by decide +kernel
theorem dMod_encode_57 : decode cMod_encode 57 = .ok (.iload_n 2, 1) := by decide +kernel
theorem dMod_encode_58 : decode cMod_encode 58 = .ok (.bipush 16, 2) := by decide +kernel
theorem dMod_encode_60 : decode cMod_encode 60 = .ok (.if_icmp .ge 37, 3) := by decide +kernel
theorem dMod_encode_63 : decode cMod_encode 63 = .ok (.aload_n 0, 1) := by decide +kernel
theorem dMod_encode_64 : decode cMod_encode 64 = .ok (.getfield 40, 3) := by decide +kernel
theorem dMod_encode_67 : decode cMod_encode 67 = .ok (.iload_n 1, 1) := by decide +kernel
theorem dMod_encode_68 : decode cMod_encode 68 = .ok (.aload_n 0, 1) := by decide +kernel
theorem dMod_encode_69 : decode cMod_encode 69 = .ok (.getfield 40, 3) := by decide +kernel
theorem dMod_encode_72 : decode cMod_encode 72 = .ok (.iload_n 1, 1) := by decide +kernel
theorem dMod_encode_73 : decode cMod_encode 73 = .ok (.faload, 1) := by decide +kernel
theorem dMod_encode_74 : decode cMod_encode 74 = .ok (.aload_n 0, 1) := by decide +kernel
theorem dMod_encode_75 : decode cMod_encode 75 = .ok (.getfield 13, 3) := by decide +kernel
theorem dMod_encode_78 : decode cMod_encode 78 = .ok (.iload_n 2, 1) := by decide +kernel
theorem dMod_encode_79 : decode cMod_encode 79 = .ok (.faload, 1) := by decide +kernel
theorem dMod_encode_80 : decode cMod_encode 80 = .ok (.aload_n 0, 1) := by decide +kernel
theorem dMod_encode_81 : decode cMod_encode 81 = .ok (.getfield 13, 3) := by decide +kernel
theorem dMod_encode_84 : decode cMod_encode 84 = .ok (.iload_n 2, 1) := by decide +kernel
theorem dMod_encode_85 : decode cMod_encode 85 = .ok (.iload_n 1, 1) := by decide +kernel
theorem dMod_encode_86 : decode cMod_encode 86 = .ok (.isub, 1) := by decide +kernel
theorem dMod_encode_87 : decode cMod_encode 87 = .ok (.faload, 1) := by decide +kernel
theorem dMod_encode_88 : decode cMod_encode 88 = .ok (.fmul, 1) := by decide +kernel
theorem dMod_encode_89 : decode cMod_encode 89 = .ok (.fadd, 1) := by decide +kernel
theorem dMod_encode_90 : decode cMod_encode 90 = .ok (.fastore, 1) := by decide +kernel
theorem dMod_encode_91 : decode cMod_encode 91 = .ok (.iinc 2 1, 3) := by decide +kernel
theorem dMod_encode_94 : decode cMod_encode 94 = .ok (.goto (-37), 3) := by decide +kernel
theorem dMod_encode_97 : decode cMod_encode 97 = .ok (.iinc 1 1, 3) := by decide +kernel
theorem dMod_encode_100 : decode cMod_encode 100 = .ok (.goto (-57), 3) := by decide +kernel
theorem dMod_encode_103 : decode cMod_encode 103 = .ok (.aload_n 0, 1) := by decide +kernel
theorem dMod_encode_104 : decode cMod_encode 104 = .ok (.getfield 40, 3) := by decide +kernel
theorem dMod_encode_107 : decode cMod_encode 107 = .ok (.iconst 0, 1) := by decide +kernel
theorem dMod_encode_108 : decode cMod_encode 108 = .ok (.faload, 1) := by decide +kernel
theorem dMod_encode_109 : decode cMod_encode 109 = .ok (.fconst 1, 1) := by decide +kernel
theorem dMod_encode_110 : decode cMod_encode 110 = .ok (.fcmp .g, 1) := by decide +kernel
theorem dMod_encode_111 : decode cMod_encode 111 = .ok (.ifCond .ge 7, 3) := by decide +kernel
theorem dMod_encode_114 : decode cMod_encode 114 = .ok (.iconst 1, 1) := by decide +kernel
theorem dMod_encode_115 : decode cMod_encode 115 = .ok (.goto 4, 3) := by decide +kernel
theorem dMod_encode_118 : decode cMod_encode 118 = .ok (.iconst 0, 1) := by decide +kernel
theorem dMod_encode_119 : decode cMod_encode 119 = .ok (.istore_n 1, 1) := by decide +kernel
theorem dMod_encode_120 : decode cMod_encode 120 = .ok (.aload_n 0, 1) := by decide +kernel
theorem dMod_encode_121 : decode cMod_encode 121 = .ok (.getfield 104, 3) := by decide +kernel
theorem dMod_encode_124 : decode cMod_encode 124 = .ok (.iload_n 1, 1) := by decide +kernel
theorem dMod_encode_125 : decode cMod_encode 125 = .ok (.ifCond .eq 7, 3) := by decide +kernel
theorem dMod_encode_128 : decode cMod_encode 128 = .ok (.iconst 1, 1) := by decide +kernel
theorem dMod_encode_129 : decode cMod_encode 129 = .ok (.goto 5, 3) := by decide +kernel
theorem dMod_encode_132 : decode cMod_encode 132 = .ok (.bipush 14, 2) := by decide +kernel
theorem dMod_encode_134 : decode cMod_encode 134 = .ok (.iadd, 1) := by decide +kernel
theorem dMod_encode_135 : decode cMod_encode 135 = .ok (.bipush 120, 2) := by decide +kernel
theorem dMod_encode_137 : decode cMod_encode 137 = .ok (.if_icmp .le 9, 3) := by decide +kernel
theorem dMod_encode_140 : decode cMod_encode 140 = .ok (.aload_n 0, 1) := by decide +kernel
theorem dMod_encode_141 : decode cMod_encode 141 = .ok (.iconst 2, 1) := by decide +kernel
theorem dMod_encode_142 : decode cMod_encode 142 = .ok (.invokevirtual 64, 3) := by decide +kernel
theorem dMod_encode_145 : decode cMod_encode 145 = .ok (.ireturn, 1) := by decide +kernel
theorem dMod_encode_146 : decode cMod_encode 146 = .ok (.aload_n 0, 1) := by decide +kernel
theorem dMod_encode_147 : decode cMod_encode 147 = .ok (.iconst 0, 1) := by decide +kernel
theorem dMod_encode_148 : decode cMod_encode 148 = .ok (.putfield 56, 3) := by decide +kernel
theorem dMod_encode_151 : decode cMod_encode 151 = .ok (.aload_n 0, 1) := by decide +kernel
theorem dMod_encode_152 : decode cMod_encode 152 = .ok (.dup, 1) := by decide +kernel
theorem dMod_encode_153 : decode cMod_encode 153 = .ok (.getfield 68, 3) := by decide +kernel
theorem dMod_encode_156 : decode cMod_encode 156 = .ok (.bipush 16, 2) := by decide +kernel
theorem dMod_encode_158 : decode cMod_encode 158 = .ok (.isub, 1) := by decide +kernel
theorem dMod_encode_159 : decode cMod_encode 159 = .ok (.putfield 68, 3) := by decide +kernel
theorem dMod_encode_162 : decode cMod_encode 162 = .ok (.iconst 0, 1) := by decide +kernel
theorem dMod_encode_163 : decode cMod_encode 163 = .ok (.istore_n 2, 1) := by decide +kernel
theorem dMod_encode_164 : decode cMod_encode 164 = .ok (.iload_n 2, 1) := by decide +kernel
theorem dMod_encode_165 : decode cMod_encode 165 = .ok (.aload_n 0, 1) := by decide +kernel
theorem dMod_encode_166 : decode cMod_encode 166 = .ok (.getfield 68, 3) := by decide +kernel
theorem dMod_encode_169 : decode cMod_encode 169 = .ok (.if_icmp .ge 24, 3) := by decide +kernel
theorem dMod_encode_172 : decode cMod_encode 172 = .ok (.aload_n 0, 1) := by decide +kernel
theorem dMod_encode_173 : decode cMod_encode 173 = .ok (.getfield 7, 3) := by decide +kernel
theorem dMod_encode_176 : decode cMod_encode 176 = .ok (.iload_n 2, 1) := by decide +kernel
theorem dMod_encode_177 : decode cMod_encode 177 = .ok (.aload_n 0, 1) := by decide +kernel
theorem dMod_encode_178 : decode cMod_encode 178 = .ok (.getfield 7, 3) := by decide +kernel
theorem dMod_encode_181 : decode cMod_encode 181 = .ok (.iload_n 2, 1) := by decide +kernel
theorem dMod_encode_182 : decode cMod_encode 182 = .ok (.bipush 16, 2) := by decide +kernel
theorem dMod_encode_184 : decode cMod_encode 184 = .ok (.iadd, 1) := by decide +kernel
theorem dMod_encode_185 : decode cMod_encode 185 = .ok (.faload, 1) := by decide +kernel
theorem dMod_encode_186 : decode cMod_encode 186 = .ok (.fastore, 1) := by decide +kernel
theorem dMod_encode_187 : decode cMod_encode 187 = .ok (.iinc 2 1, 3) := by decide +kernel
theorem dMod_encode_190 : decode cMod_encode 190 = .ok (.goto (-26), 3) := by decide +kernel
theorem dMod_encode_193 : decode cMod_encode 193 = .ok (.iload_n 1, 1) := by decide +kernel
theorem dMod_encode_194 : decode cMod_encode 194 = .ok (.ifCond .eq 15, 3) := by decide +kernel
theorem dMod_encode_197 : decode cMod_encode 197 = .ok (.aload_n 0, 1) := by decide +kernel
theorem dMod_encode_198 : decode cMod_encode 198 = .ok (.invokevirtual 107, 3) := by decide +kernel
theorem dMod_encode_201 : decode cMod_encode 201 = .ok (.aload_n 0, 1) := by decide +kernel
theorem dMod_encode_202 : decode cMod_encode 202 = .ok (.iconst 0, 1) := by decide +kernel
theorem dMod_encode_203 : decode cMod_encode 203 = .ok (.invokevirtual 110, 3) := by decide +kernel
theorem dMod_encode_206 : decode cMod_encode 206 = .ok (.goto 161, 3) := by decide +kernel
theorem dMod_encode_209 : decode cMod_encode 209 = .ok (.aload_n 0, 1) := by decide +kernel
theorem dMod_encode_210 : decode cMod_encode 210 = .ok (.invokevirtual 114, 3) := by decide +kernel
theorem dMod_encode_213 : decode cMod_encode 213 = .ok (.aload_n 0, 1) := by decide +kernel
theorem dMod_encode_214 : decode cMod_encode 214 = .ok (.invokevirtual 117, 3) := by decide +kernel
theorem dMod_encode_217 : decode cMod_encode 217 = .ok (.istore_n 2, 1) := by decide +kernel
theorem dMod_encode_218 : decode cMod_encode 218 = .ok (.aload_n 0, 1) := by decide +kernel
theorem dMod_encode_219 : decode cMod_encode 219 = .ok (.getfield 104, 3) := by decide +kernel
theorem dMod_encode_222 : decode cMod_encode 222 = .ok (.istore_n 3, 1) := by decide +kernel
theorem dMod_encode_223 : decode cMod_encode 223 = .ok (.iconst 0, 1) := by decide +kernel
theorem dMod_encode_224 : decode cMod_encode 224 = .ok (.istore 4, 2) := by decide +kernel
theorem dMod_encode_226 : decode cMod_encode 226 = .ok (.aload_n 0, 1) := by decide +kernel
theorem dMod_encode_227 : decode cMod_encode 227 = .ok (.iload_n 2, 1) := by decide +kernel
theorem dMod_encode_228 : decode cMod_encode 228 = .ok (.invokevirtual 121, 3) := by decide +kernel
theorem dMod_encode_231 : decode cMod_encode 231 = .ok (.aload_n 0, 1) := by decide +kernel
theorem dMod_encode_232 : decode cMod_encode 232 = .ok (.bipush 16, 2) := by decide +kernel
theorem dMod_encode_234 : decode cMod_encode 234 = .ok (.iload_n 2, 1) := by decide +kernel
theorem dMod_encode_235 : decode cMod_encode 235 = .ok (.iadd, 1) := by decide +kernel
theorem dMod_encode_236 : decode cMod_encode 236 = .ok (.aload_n 0, 1) := by decide +kernel
theorem dMod_encode_237 : decode cMod_encode 237 = .ok (.getfield 71, 3) := by decide +kernel
theorem dMod_encode_240 : decode cMod_encode 240 = .ok (.ifCond .eq 9, 3) := by decide +kernel
theorem dMod_encode_243 : decode cMod_encode 243 = .ok (.sipush 128, 3) := by decide +kernel
theorem dMod_encode_246 : decode cMod_encode 246 = .ok (.goto 4, 3) := by decide +kernel
theorem dMod_encode_249 : decode cMod_encode 249 = .ok (.iconst 0, 1) := by decide +kernel
theorem dMod_encode_250 : decode cMod_encode 250 = .ok (.iadd, 1) := by decide +kernel
theorem dMod_encode_251 : decode cMod_encode 251 = .ok (.invokevirtual 110, 3) := by decide +kernel
theorem dMod_encode_254 : decode cMod_encode 254 = .ok (.iconst 1, 1) := by decide +kernel
theorem dMod_encode_255 : decode cMod_encode 255 = .ok (.istore 5, 2) := by decide +kernel
theorem dMod_encode_257 : decode cMod_encode 257 = .ok (.iload 5, 2) := by decide +kernel
theorem dMod_encode_259 : decode cMod_encode 259 = .ok (.iconst 5, 1) := by decide +kernel
theorem dMod_encode_260 : decode cMod_encode 260 = .ok (.if_icmp .ge 23, 3) := by decide +kernel
theorem dMod_encode_263 : decode cMod_encode 263 = .ok (.aload_n 0, 1) := by decide +kernel
theorem dMod_encode_264 : decode cMod_encode 264 = .ok (.aload_n 0, 1) := by decide +kernel
theorem dMod_encode_265 : decode cMod_encode 265 = .ok (.getfield 50, 3) := by decide +kernel
theorem dMod_encode_268 : decode cMod_encode 268 = .ok (.iload 5, 2) := by decide +kernel
theorem dMod_encode_270 : decode cMod_encode 270 = .ok (.iaload, 1) := by decide +kernel
theorem dMod_encode_271 : decode cMod_encode 271 = .ok (.bipush 15, 2) := by decide +kernel
theorem dMod_encode_273 : decode cMod_encode 273 = .ok (.iadd, 1) := by decide +kernel
theorem dMod_encode_274 : decode cMod_encode 274 = .ok (.invokevirtual 110, 3) := by decide +kernel
theorem dMod_encode_277 : decode cMod_encode 277 = .ok (.iinc 5 1, 3) := by decide +kernel
theorem dMod_encode_280 : decode cMod_encode 280 = .ok (.goto (-23), 3) := by decide +kernel
theorem dMod_encode_283 : decode cMod_encode 283 = .ok (.iconst 0, 1) := by decide +kernel
theorem dMod_encode_284 : decode cMod_encode 284 = .ok (.istore 5, 2) := by decide +kernel
theorem dMod_encode_286 : decode cMod_encode 286 = .ok (.iload 5, 2) := by decide +kernel
theorem dMod_encode_288 : decode cMod_encode 288 = .ok (.bipush 16, 2) := by decide +kernel
theorem dMod_encode_290 : decode cMod_encode 290 = .ok (.if_icmp .ge 37, 3) := by decide +kernel
theorem dMod_encode_293 : decode cMod_encode 293 = .ok (.aload_n 0, 1) := by decide +kernel
theorem dMod_encode_294 : decode cMod_encode 294 = .ok (.bipush 8, 2) := by decide +kernel
theorem dMod_encode_296 : decode cMod_encode 296 = .ok (.aload_n 0, 1) := by decide +kernel
theorem dMod_encode_297 : decode cMod_encode 297 = .ok (.getfield 47, 3) := by decide +kernel
theorem dMod_encode_300 : decode cMod_encode 300 = .ok (.iload 5, 2) := by decide +kernel
theorem dMod_encode_302 : decode cMod_encode 302 = .ok (.iaload, 1) := by decide +kernel
theorem dMod_encode_303 : decode cMod_encode 303 = .ok (.iconst 4, 1) := by decide +kernel
theorem dMod_encode_304 : decode cMod_encode 304 = .ok (.iadd, 1) := by decide +kernel
theorem dMod_encode_305 : decode cMod_encode 305 = .ok (.imul, 1) := by decide +kernel
theorem dMod_encode_306 : decode cMod_encode 306 = .ok (.aload_n 0, 1) := by decide +kernel
theorem dMod_encode_307 : decode cMod_encode 307 = .ok (.getfield 47, 3) := by decide +kernel
theorem dMod_encode_310 : decode cMod_encode 310 = .ok (.iload 5, 2) := by decide +kernel
theorem dMod_encode_312 : decode cMod_encode 312 = .ok (.iconst 1, 1) := by decide +kernel
theorem dMod_encode_313 : decode cMod_encode 313 = .ok (.iadd, 1) := by decide +kernel
theorem dMod_encode_314 : decode cMod_encode 314 = .ok (.iaload, 1) := by decide +kernel
theorem dMod_encode_315 : decode cMod_encode 315 = .ok (.iadd, 1) := by decide +kernel
theorem dMod_encode_316 : decode cMod_encode 316 = .ok (.iconst 4, 1) := by decide +kernel
theorem dMod_encode_317 : decode cMod_encode 317 = .ok (.iadd, 1) := by decide +kernel
theorem dMod_encode_318 : decode cMod_encode 318 = .ok (.invokevirtual 110, 3) := by decide +kernel
theorem dMod_encode_321 : decode cMod_encode 321 = .ok (.iinc 5 2, 3) := by decide +kernel
theorem dMod_encode_324 : decode cMod_encode 324 = .ok (.goto (-38), 3) := by decide +kernel
theorem dMod_encode_327 : decode cMod_encode 327 = .ok (.iload_n 3, 1) := by decide +kernel
theorem dMod_encode_328 : decode cMod_encode 328 = .ok (.istore 5, 2) := by decide +kernel
theorem dMod_encode_330 : decode cMod_encode 330 = .ok (.iload 5, 2) := by decide +kernel
theorem dMod_encode_332 : decode cMod_encode 332 = .ok (.aload_n 0, 1) := by decide +kernel
theorem dMod_encode_333 : decode cMod_encode 333 = .ok (.getfield 104, 3) := by decide +kernel
theorem dMod_encode_336 : decode cMod_encode 336 = .ok (.if_icmp .ge 21, 3) := by decide +kernel
theorem dMod_encode_339 : decode cMod_encode 339 = .ok (.iload 4, 2) := by decide +kernel
theorem dMod_encode_341 : decode cMod_encode 341 = .ok (.aload_n 0, 1) := by decide +kernel
theorem dMod_encode_342 : decode cMod_encode 342 = .ok (.getfield 43, 3) := by decide +kernel
theorem dMod_encode_345 : decode cMod_encode 345 = .ok (.iload 5, 2) := by decide +kernel
theorem dMod_encode_347 : decode cMod_encode 347 = .ok (.iaload, 1) := by decide +kernel
theorem dMod_encode_348 : decode cMod_encode 348 = .ok (.iadd, 1) := by decide +kernel
theorem dMod_encode_349 : decode cMod_encode 349 = .ok (.istore 4, 2) := by decide +kernel
theorem dMod_encode_351 : decode cMod_encode 351 = .ok (.iinc 5 1, 3) := by decide +kernel
theorem dMod_encode_354 : decode cMod_encode 354 = .ok (.goto (-24), 3) := by decide +kernel
theorem dMod_encode_357 : decode cMod_encode 357 = .ok (.aload_n 0, 1) := by decide +kernel
theorem dMod_encode_358 : decode cMod_encode 358 = .ok (.iload 4, 2) := by decide +kernel
theorem dMod_encode_360 : decode cMod_encode 360 = .ok (.sipush 255, 3) := by decide +kernel
theorem dMod_encode_363 : decode cMod_encode 363 = .ok (.iand, 1) := by decide +kernel
theorem dMod_encode_364 : decode cMod_encode 364 = .ok (.invokevirtual 110, 3) := by decide +kernel
theorem dMod_encode_367 : decode cMod_encode 367 = .ok (.aload_n 0, 1) := by decide +kernel
theorem dMod_encode_368 : decode cMod_encode 368 = .ok (.iconst 1, 1) := by decide +kernel
theorem dMod_encode_369 : decode cMod_encode 369 = .ok (.invokevirtual 124, 3) := by decide +kernel
theorem dMod_encode_372 : decode cMod_encode 372 = .ok (.aload_n 0, 1) := by decide +kernel
theorem dMod_encode_373 : decode cMod_encode 373 = .ok (.iconst 1, 1) := by decide +kernel
theorem dMod_encode_374 : decode cMod_encode 374 = .ok (.putfield 128, 3) := by decide +kernel
theorem dMod_encode_377 : decode cMod_encode 377 = .ok (.aload_n 0, 1) := by decide +kernel
theorem dMod_encode_378 : decode cMod_encode 378 = .ok (.dup, 1) := by decide +kernel
theorem dMod_encode_379 : decode cMod_encode 379 = .ok (.getfield 131, 3) := by decide +kernel
theorem dMod_encode_382 : decode cMod_encode 382 = .ok (.iconst 1, 1) := by decide +kernel
theorem dMod_encode_383 : decode cMod_encode 383 = .ok (.iadd, 1) := by decide +kernel
theorem dMod_encode_384 : decode cMod_encode 384 = .ok (.putfield 131, 3) := by decide +kernel
theorem dMod_encode_387 : decode cMod_encode 387 = .ok (.iload_n 1, 1) := by decide +kernel
theorem dMod_encode_388 : decode cMod_encode 388 = .ok (.ifCond .eq 7, 3) := by decide +kernel
theorem dMod_encode_391 : decode cMod_encode 391 = .ok (.iconst 1, 1) := by decide +kernel
theorem dMod_encode_392 : decode cMod_encode 392 = .ok (.goto 5, 3) := by decide +kernel
theorem dMod_encode_395 : decode cMod_encode 395 = .ok (.bipush 14, 2) := by decide +kernel
theorem dMod_encode_397 : decode cMod_encode 397 = .ok (.ireturn, 1) := by decide +kernel
theorem dMod_silence_0 : decode cMod_silence 0 = .ok (.iconst 0, 1) := by decide +kernel
theorem dMod_silence_1 : decode cMod_silence 1 = .ok (.istore_n 1, 1) := by decide +kernel
theorem dMod_silence_2 : decode cMod_silence 2 = .ok (.iload_n 1, 1) := by decide +kernel
theorem dMod_silence_3 : decode cMod_silence 3 = .ok (.bipush 16, 2) := by decide +kernel
theorem dMod_silence_5 : decode cMod_silence 5 = .ok (.if_icmp .ge 16, 3) := by decide +kernel
theorem dMod_silence_8 : decode cMod_silence 8 = .ok (.aload_n 0, 1) := by decide +kernel
theorem dMod_silence_9 : decode cMod_silence 9 = .ok (.getfield 16, 3) := by decide +kernel
theorem dMod_silence_12 : decode cMod_silence 12 = .ok (.iload_n 1, 1) := by decide +kernel
theorem dMod_silence_13 : decode cMod_silence 13 = .ok (.fconst 0, 1) := by decide +kernel
theorem dMod_silence_14 : decode cMod_silence 14 = .ok (.fastore, 1) := by decide +kernel
theorem dMod_silence_15 : decode cMod_silence 15 = .ok (.iinc 1 1, 3) := by decide +kernel
theorem dMod_silence_18 : decode cMod_silence 18 = .ok (.goto (-16), 3) := by decide +kernel
theorem dMod_silence_21 : decode cMod_silence 21 = .ok (.return_, 1) := by decide +kernel
theorem dMod_write_0 : decode cMod_write 0 = .ok (.aload_n 0, 1) := by decide +kernel
theorem dMod_write_1 : decode cMod_write 1 = .ok (.getfield 43, 3) := by decide +kernel
theorem dMod_write_4 : decode cMod_write 4 = .ok (.aload_n 0, 1) := by decide +kernel
theorem dMod_write_5 : decode cMod_write 5 = .ok (.getfield 104, 3) := by decide +kernel
theorem dMod_write_8 : decode cMod_write 8 = .ok (.iload_n 1, 1) := by decide +kernel
theorem dMod_write_9 : decode cMod_write 9 = .ok (.iastore, 1) := by decide +kernel
theorem dMod_write_10 : decode cMod_write 10 = .ok (.aload_n 0, 1) := by decide +kernel
theorem dMod_write_11 : decode cMod_write 11 = .ok (.dup, 1) := by decide +kernel
theorem dMod_write_12 : decode cMod_write 12 = .ok (.getfield 104, 3) := by decide +kernel
theorem dMod_write_15 : decode cMod_write 15 = .ok (.iconst 1, 1) := by decide +kernel
theorem dMod_write_16 : decode cMod_write 16 = .ok (.iadd, 1) := by decide +kernel
theorem dMod_write_17 : decode cMod_write 17 = .ok (.putfield 104, 3) := by decide +kernel
theorem dMod_write_20 : decode cMod_write 20 = .ok (.return_, 1) := by decide +kernel
theorem dMod_analyse_0 : decode cMod_analyse 0 = .ok (.iconst 0, 1) := by decide +kernel
theorem dMod_analyse_1 : decode cMod_analyse 1 = .ok (.istore_n 1, 1) := by decide +kernel
theorem dMod_analyse_2 : decode cMod_analyse 2 = .ok (.iload_n 1, 1) := by decide +kernel
theorem dMod_analyse_3 : decode cMod_analyse 3 = .ok (.iconst 5, 1) := by decide +kernel
theorem dMod_analyse_4 : decode cMod_analyse 4 = .ok (.if_icmp .ge 16, 3) := by decide +kernel
theorem dMod_analyse_7 : decode cMod_analyse 7 = .ok (.aload_n 0, 1) := by decide +kernel
theorem dMod_analyse_8 : decode cMod_analyse 8 = .ok (.getfield 31, 3) := by decide +kernel
theorem dMod_analyse_11 : decode cMod_analyse 11 = .ok (.iload_n 1, 1) := by decide +kernel
theorem dMod_analyse_12 : decode cMod_analyse 12 = .ok (.fconst 0, 1) := by decide +kernel
theorem dMod_analyse_13 : decode cMod_analyse 13 = .ok (.fastore, 1) := by decide +kernel
theorem dMod_analyse_14 : decode cMod_analyse 14 = .ok (.iinc 1 1, 3) := by decide +kernel
theorem dMod_analyse_17 : decode cMod_analyse 17 = .ok (.goto (-15), 3) := by decide +kernel
theorem dMod_analyse_20 : decode cMod_analyse 20 = .ok (.aload_n 0, 1) := by decide +kernel
theorem dMod_analyse_21 : decode cMod_analyse 21 = .ok (.getfield 40, 3) := by decide +kernel
theorem dMod_analyse_24 : decode cMod_analyse 24 = .ok (.iconst 0, 1) := by decide +kernel
theorem dMod_analyse_25 : decode cMod_analyse 25 = .ok (.faload, 1) := by decide +kernel
theorem dMod_analyse_26 : decode cMod_analyse 26 = .ok (.fstore_n 1, 1) := by decide +kernel
theorem dMod_analyse_27 : decode cMod_analyse 27 = .ok (.iconst 1, 1) := by decide +kernel
theorem dMod_analyse_28 : decode cMod_analyse 28 = .ok (.istore_n 2, 1) := by decide +kernel
theorem dMod_analyse_29 : decode cMod_analyse 29 = .ok (.iload_n 2, 1) := by decide +kernel
theorem dMod_analyse_30 : decode cMod_analyse 30 = .ok (.iconst 5, 1) := by decide +kernel
theorem dMod_analyse_31 : decode cMod_analyse 31 = .ok (.if_icmp .ge 151, 3) := by decide +kernel
theorem dMod_analyse_34 : decode cMod_analyse 34 = .ok (.aload_n 0, 1) := by decide +kernel
theorem dMod_analyse_35 : decode cMod_analyse 35 = .ok (.getfield 40, 3) := by decide +kernel
theorem dMod_analyse_38 : decode cMod_analyse 38 = .ok (.iload_n 2, 1) := by decide +kernel
theorem dMod_analyse_39 : decode cMod_analyse 39 = .ok (.faload, 1) := by decide +kernel
theorem dMod_analyse_40 : decode cMod_analyse 40 = .ok (.fstore_n 3, 1) := by decide +kernel
theorem dMod_analyse_41 : decode cMod_analyse 41 = .ok (.iconst 1, 1) := by decide +kernel
theorem dMod_analyse_42 : decode cMod_analyse 42 = .ok (.istore 4, 2) := by decide +kernel
theorem dMod_analyse_44 : decode cMod_analyse 44 = .ok (.iload 4, 2) := by decide +kernel
theorem dMod_analyse_46 : decode cMod_analyse 46 = .ok (.iload_n 2, 1) := by decide +kernel
theorem dMod_analyse_47 : decode cMod_analyse 47 = .ok (.if_icmp .ge 29, 3) := by decide +kernel
theorem dMod_analyse_50 : decode cMod_analyse 50 = .ok (.fload_n 3, 1) := by decide +kernel
theorem dMod_analyse_51 : decode cMod_analyse 51 = .ok (.aload_n 0, 1) := by decide +kernel
theorem dMod_analyse_52 : decode cMod_analyse 52 = .ok (.getfield 31, 3) := by decide +kernel
theorem dMod_analyse_55 : decode cMod_analyse 55 = .ok (.iload 4, 2) := by decide +kernel
theorem dMod_analyse_57 : decode cMod_analyse 57 = .ok (.faload, 1) := by decide +kernel
theorem dMod_analyse_58 : decode cMod_analyse 58 = .ok (.aload_n 0, 1) := by decide +kernel
theorem dMod_analyse_59 : decode cMod_analyse 59 = .ok (.getfield 40, 3) := by decide +kernel
theorem dMod_analyse_62 : decode cMod_analyse 62 = .ok (.iload_n 2, 1) := by decide +kernel
theorem dMod_analyse_63 : decode cMod_analyse 63 = .ok (.iload 4, 2) := by decide +kernel
theorem dMod_analyse_65 : decode cMod_analyse 65 = .ok (.isub, 1) := by decide +kernel
theorem dMod_analyse_66 : decode cMod_analyse 66 = .ok (.faload, 1) := by decide +kernel
theorem dMod_analyse_67 : decode cMod_analyse 67 = .ok (.fmul, 1) := by decide +kernel
theorem dMod_analyse_68 : decode cMod_analyse 68 = .ok (.fsub, 1) := by decide +kernel
theorem dMod_analyse_69 : decode cMod_analyse 69 = .ok (.fstore_n 3, 1) := by decide +kernel
theorem dMod_analyse_70 : decode cMod_analyse 70 = .ok (.iinc 4 1, 3) := by decide +kernel
theorem dMod_analyse_73 : decode cMod_analyse 73 = .ok (.goto (-29), 3) := by decide +kernel
theorem dMod_analyse_76 : decode cMod_analyse 76 = .ok (.fload_n 3, 1) := by decide +kernel
theorem dMod_analyse_77 : decode cMod_analyse 77 = .ok (.fload_n 1, 1) := by decide +kernel
theorem dMod_analyse_78 : decode cMod_analyse 78 = .ok (.fdiv, 1) := by decide +kernel
theorem dMod_analyse_79 : decode cMod_analyse 79 = .ok (.fstore 4, 2) := by decide +kernel
theorem dMod_analyse_81 : decode cMod_analyse 81 = .ok (.fload 4, 2) := by decide +kernel
theorem dMod_analyse_83 : decode cMod_analyse 83 = .ok (.fconst 0, 1) := by decide +kernel
theorem dMod_analyse_84 : decode cMod_analyse 84 = .ok (.fcmp .g, 1) := by decide +kernel
theorem dMod_analyse_85 : decode cMod_analyse 85 = .ok (.ifCond .ge 15, 3) := by decide +kernel
theorem dMod_analyse_88 : decode cMod_analyse 88 = .ok (.fload 4, 2) := by decide +kernel
theorem dMod_analyse_90 : decode cMod_analyse 90 = .ok (.ldc 76, 2) := by decide +kernel
theorem dMod_analyse_92 : decode cMod_analyse 92 = .ok (.fmul, 1) := by decide +kernel
theorem dMod_analyse_93 : decode cMod_analyse 93 = .ok (.ldc 79, 2) := by decide +kernel
theorem dMod_analyse_95 : decode cMod_analyse 95 = .ok (.fsub, 1) := by decide +kernel
theorem dMod_analyse_96 : decode cMod_analyse 96 = .ok (.f2i, 1) := by decide +kernel
theorem dMod_analyse_97 : decode cMod_analyse 97 = .ok (.goto 12, 3) := by decide +kernel
theorem dMod_analyse_100 : decode cMod_analyse 100 = .ok (.fload 4, 2) := by decide +kernel
theorem dMod_analyse_102 : decode cMod_analyse 102 = .ok (.ldc 76, 2) := by decide +kernel
theorem dMod_analyse_104 : decode cMod_analyse 104 = .ok (.fmul, 1) := by decide +kernel
theorem dMod_analyse_105 : decode cMod_analyse 105 = .ok (.ldc 79, 2) := by decide +kernel
theorem dMod_analyse_107 : decode cMod_analyse 107 = .ok (.fadd, 1) := by decide +kernel
theorem dMod_analyse_108 : decode cMod_analyse 108 = .ok (.f2i, 1) := by decide +kernel
theorem dMod_analyse_109 : decode cMod_analyse 109 = .ok (.istore 5, 2) := by decide +kernel
theorem dMod_analyse_111 : decode cMod_analyse 111 = .ok (.aload_n 0, 1) := by decide +kernel
theorem dMod_analyse_112 : decode cMod_analyse 112 = .ok (.getfield 50, 3) := by decide +kernel
theorem dMod_analyse_115 : decode cMod_analyse 115 = .ok (.iload_n 2, 1) := by decide +kernel
theorem dMod_analyse_116 : decode cMod_analyse 116 = .ok (.iload 5, 2) := by decide +kernel
theorem dMod_analyse_118 : decode cMod_analyse 118 = .ok (.bipush (-15), 2) := by decide +kernel
theorem dMod_analyse_120 : decode cMod_analyse 120 = .ok (.if_icmp .ge 8, 3) := by decide +kernel
theorem dMod_analyse_123 : decode cMod_analyse 123 = .ok (.bipush (-15), 2) := by decide +kernel
theorem dMod_analyse_125 : decode cMod_analyse 125 = .ok (.goto 17, 3) := by decide +kernel
theorem dMod_analyse_128 : decode cMod_analyse 128 = .ok (.iload 5, 2) := by decide +kernel
theorem dMod_analyse_130 : decode cMod_analyse 130 = .ok (.bipush 15, 2) := by decide +kernel
theorem dMod_analyse_132 : decode cMod_analyse 132 = .ok (.if_icmp .le 8, 3) := by decide +kernel
theorem dMod_analyse_135 : decode cMod_analyse 135 = .ok (.bipush 15, 2) := by decide +kernel
theorem dMod_analyse_137 : decode cMod_analyse 137 = .ok (.goto 5, 3) := by decide +kernel
theorem dMod_analyse_140 : decode cMod_analyse 140 = .ok (.iload 5, 2) := by decide +kernel
theorem dMod_analyse_142 : decode cMod_analyse 142 = .ok (.iastore, 1) := by decide +kernel
theorem dMod_analyse_143 : decode cMod_analyse 143 = .ok (.aload_n 0, 1) := by decide +kernel
theorem dMod_analyse_144 : decode cMod_analyse 144 = .ok (.iload_n 2, 1) := by decide +kernel
theorem dMod_analyse_145 : decode cMod_analyse 145 = .ok (.aload_n 0, 1) := by decide +kernel
theorem dMod_analyse_146 : decode cMod_analyse 146 = .ok (.getfield 50, 3) := by decide +kernel
theorem dMod_analyse_149 : decode cMod_analyse 149 = .ok (.iload_n 2, 1) := by decide +kernel
theorem dMod_analyse_150 : decode cMod_analyse 150 = .ok (.iaload, 1) := by decide +kernel
theorem dMod_analyse_151 : decode cMod_analyse 151 = .ok (.invokevirtual 84, 3) := by decide +kernel
theorem dMod_analyse_154 : decode cMod_analyse 154 = .ok (.aload_n 0, 1) := by decide +kernel
theorem dMod_analyse_155 : decode cMod_analyse 155 = .ok (.getfield 50, 3) := by decide +kernel
theorem dMod_analyse_158 : decode cMod_analyse 158 = .ok (.iload_n 2, 1) := by decide +kernel
theorem dMod_analyse_159 : decode cMod_analyse 159 = .ok (.iaload, 1) := by decide +kernel
theorem dMod_analyse_160 : decode cMod_analyse 160 = .ok (.i2f, 1) := by decide +kernel
theorem dMod_analyse_161 : decode cMod_analyse 161 = .ok (.ldc 76, 2) := by decide +kernel
theorem dMod_analyse_163 : decode cMod_analyse 163 = .ok (.fdiv, 1) := by decide +kernel
theorem dMod_analyse_164 : decode cMod_analyse 164 = .ok (.fstore 6, 2) := by decide +kernel
theorem dMod_analyse_166 : decode cMod_analyse 166 = .ok (.fload_n 1, 1) := by decide +kernel
theorem dMod_analyse_167 : decode cMod_analyse 167 = .ok (.fconst 1, 1) := by decide +kernel
theorem dMod_analyse_168 : decode cMod_analyse 168 = .ok (.fload 6, 2) := by decide +kernel
theorem dMod_analyse_170 : decode cMod_analyse 170 = .ok (.fload 6, 2) := by decide +kernel
theorem dMod_analyse_172 : decode cMod_analyse 172 = .ok (.fmul, 1) := by decide +kernel
theorem dMod_analyse_173 : decode cMod_analyse 173 = .ok (.fsub, 1) := by decide +kernel
theorem dMod_analyse_174 : decode cMod_analyse 174 = .ok (.fmul, 1) := by decide +kernel
theorem dMod_analyse_175 : decode cMod_analyse 175 = .ok (.fstore_n 1, 1) := by decide +kernel
theorem dMod_analyse_176 : decode cMod_analyse 176 = .ok (.iinc 2 1, 3) := by decide +kernel
theorem dMod_analyse_179 : decode cMod_analyse 179 = .ok (.goto (-150), 3) := by decide +kernel
theorem dMod_analyse_182 : decode cMod_analyse 182 = .ok (.return_, 1) := by decide +kernel
theorem dMod_learn_0 : decode cMod_learn 0 = .ok (.iload_n 2, 1) := by decide +kernel
theorem dMod_learn_1 : decode cMod_learn 1 = .ok (.i2f, 1) := by decide +kernel
theorem dMod_learn_2 : decode cMod_learn 2 = .ok (.ldc 76, 2) := by decide +kernel
theorem dMod_learn_4 : decode cMod_learn 4 = .ok (.fdiv, 1) := by decide +kernel
theorem dMod_learn_5 : decode cMod_learn 5 = .ok (.fstore_n 3, 1) := by decide +kernel
theorem dMod_learn_6 : decode cMod_learn 6 = .ok (.iconst 1, 1) := by decide +kernel
theorem dMod_learn_7 : decode cMod_learn 7 = .ok (.istore 4, 2) := by decide +kernel
theorem dMod_learn_9 : decode cMod_learn 9 = .ok (.iload 4, 2) := by decide +kernel
theorem dMod_learn_11 : decode cMod_learn 11 = .ok (.iload_n 1, 1) := by decide +kernel
theorem dMod_learn_12 : decode cMod_learn 12 = .ok (.if_icmp .ge 23, 3) := by decide +kernel
theorem dMod_learn_15 : decode cMod_learn 15 = .ok (.aload_n 0, 1) := by decide +kernel
theorem dMod_learn_16 : decode cMod_learn 16 = .ok (.getfield 34, 3) := by decide +kernel
theorem dMod_learn_19 : decode cMod_learn 19 = .ok (.iload 4, 2) := by decide +kernel
theorem dMod_learn_21 : decode cMod_learn 21 = .ok (.aload_n 0, 1) := by decide +kernel
theorem dMod_learn_22 : decode cMod_learn 22 = .ok (.getfield 31, 3) := by decide +kernel
theorem dMod_learn_25 : decode cMod_learn 25 = .ok (.iload 4, 2) := by decide +kernel
theorem dMod_learn_27 : decode cMod_learn 27 = .ok (.faload, 1) := by decide +kernel
theorem dMod_learn_28 : decode cMod_learn 28 = .ok (.fastore, 1) := by decide +kernel
theorem dMod_learn_29 : decode cMod_learn 29 = .ok (.iinc 4 1, 3) := by decide +kernel
theorem dMod_learn_32 : decode cMod_learn 32 = .ok (.goto (-23), 3) := by decide +kernel
theorem dMod_learn_35 : decode cMod_learn 35 = .ok (.iconst 1, 1) := by decide +kernel
theorem dMod_learn_36 : decode cMod_learn 36 = .ok (.istore 4, 2) := by decide +kernel
theorem dMod_learn_38 : decode cMod_learn 38 = .ok (.iload 4, 2) := by decide +kernel
theorem dMod_learn_40 : decode cMod_learn 40 = .ok (.iload_n 1, 1) := by decide +kernel
theorem dMod_learn_41 : decode cMod_learn 41 = .ok (.if_icmp .ge 35, 3) := by decide +kernel
theorem dMod_learn_44 : decode cMod_learn 44 = .ok (.aload_n 0, 1) := by decide +kernel
theorem dMod_learn_45 : decode cMod_learn 45 = .ok (.getfield 31, 3) := by decide +kernel
theorem dMod_learn_48 : decode cMod_learn 48 = .ok (.iload 4, 2) := by decide +kernel
theorem dMod_learn_50 : decode cMod_learn 50 = .ok (.aload_n 0, 1) := by decide +kernel
theorem dMod_learn_51 : decode cMod_learn 51 = .ok (.getfield 34, 3) := by decide +kernel
theorem dMod_learn_54 : decode cMod_learn 54 = .ok (.iload 4, 2) := by decide +kernel
theorem dMod_learn_56 : decode cMod_learn 56 = .ok (.faload, 1) := by decide +kernel
theorem dMod_learn_57 : decode cMod_learn 57 = .ok (.fload_n 3, 1) := by decide +kernel
theorem dMod_learn_58 : decode cMod_learn 58 = .ok (.aload_n 0, 1) := by decide +kernel
theorem dMod_learn_59 : decode cMod_learn 59 = .ok (.getfield 34, 3) := by decide +kernel
theorem dMod_learn_62 : decode cMod_learn 62 = .ok (.iload_n 1, 1) := by decide +kernel
theorem dMod_learn_63 : decode cMod_learn 63 = .ok (.iload 4, 2) := by decide +kernel
theorem dMod_learn_65 : decode cMod_learn 65 = .ok (.isub, 1) := by decide +kernel
theorem dMod_learn_66 : decode cMod_learn 66 = .ok (.faload, 1) := by decide +kernel
theorem dMod_learn_67 : decode cMod_learn 67 = .ok (.fmul, 1) := by decide +kernel
theorem dMod_learn_68 : decode cMod_learn 68 = .ok (.fsub, 1) := by decide +kernel
theorem dMod_learn_69 : decode cMod_learn 69 = .ok (.fastore, 1) := by decide +kernel
theorem dMod_learn_70 : decode cMod_learn 70 = .ok (.iinc 4 1, 3) := by decide +kernel
theorem dMod_learn_73 : decode cMod_learn 73 = .ok (.goto (-35), 3) := by decide +kernel
theorem dMod_learn_76 : decode cMod_learn 76 = .ok (.aload_n 0, 1) := by decide +kernel
theorem dMod_learn_77 : decode cMod_learn 77 = .ok (.getfield 31, 3) := by decide +kernel
theorem dMod_learn_80 : decode cMod_learn 80 = .ok (.iload_n 1, 1) := by decide +kernel
theorem dMod_learn_81 : decode cMod_learn 81 = .ok (.fload_n 3, 1) := by decide +kernel
theorem dMod_learn_82 : decode cMod_learn 82 = .ok (.fastore, 1) := by decide +kernel
theorem dMod_learn_83 : decode cMod_learn 83 = .ok (.return_, 1) := by decide +kernel
theorem dMod_stepCode_0 : decode cMod_stepCode 0 = .ok (.fconst 0, 1) := by decide +kernel
theorem dMod_stepCode_1 : decode cMod_stepCode 1 = .ok (.fstore_n 1, 1) := by decide +kernel
theorem dMod_stepCode_2 : decode cMod_stepCode 2 = .ok (.iconst 0, 1) := by decide +kernel
theorem dMod_stepCode_3 : decode cMod_stepCode 3 = .ok (.istore_n 2, 1) := by decide +kernel
theorem dMod_stepCode_4 : decode cMod_stepCode 4 = .ok (.iload_n 2, 1) := by decide +kernel
theorem dMod_stepCode_5 : decode cMod_stepCode 5 = .ok (.bipush 16, 2) := by decide +kernel
theorem dMod_stepCode_7 : decode cMod_stepCode 7 = .ok (.if_icmp .ge 88, 3) := by decide +kernel
theorem dMod_stepCode_10 : decode cMod_stepCode 10 = .ok (.fconst 0, 1) := by decide +kernel
theorem dMod_stepCode_11 : decode cMod_stepCode 11 = .ok (.fstore_n 3, 1) := by decide +kernel
theorem dMod_stepCode_12 : decode cMod_stepCode 12 = .ok (.iconst 1, 1) := by decide +kernel
theorem dMod_stepCode_13 : decode cMod_stepCode 13 = .ok (.istore 4, 2) := by decide +kernel
theorem dMod_stepCode_15 : decode cMod_stepCode 15 = .ok (.iload 4, 2) := by decide +kernel
theorem dMod_stepCode_17 : decode cMod_stepCode 17 = .ok (.iconst 5, 1) := by decide +kernel
theorem dMod_stepCode_18 : decode cMod_stepCode 18 = .ok (.if_icmp .ge 39, 3) := by decide +kernel
theorem dMod_stepCode_21 : decode cMod_stepCode 21 = .ok (.fload_n 3, 1) := by decide +kernel
theorem dMod_stepCode_22 : decode cMod_stepCode 22 = .ok (.aload_n 0, 1) := by decide +kernel
theorem dMod_stepCode_23 : decode cMod_stepCode 23 = .ok (.getfield 31, 3) := by decide +kernel
theorem dMod_stepCode_26 : decode cMod_stepCode 26 = .ok (.iload 4, 2) := by decide +kernel
theorem dMod_stepCode_28 : decode cMod_stepCode 28 = .ok (.faload, 1) := by decide +kernel
theorem dMod_stepCode_29 : decode cMod_stepCode 29 = .ok (.iload_n 2, 1) := by decide +kernel
theorem dMod_stepCode_30 : decode cMod_stepCode 30 = .ok (.iload 4, 2) := by decide +kernel
theorem dMod_stepCode_32 : decode cMod_stepCode 32 = .ok (.if_icmp .lt 15, 3) := by decide +kernel
theorem dMod_stepCode_35 : decode cMod_stepCode 35 = .ok (.aload_n 0, 1) := by decide +kernel
theorem dMod_stepCode_36 : decode cMod_stepCode 36 = .ok (.getfield 13, 3) := by decide +kernel
theorem dMod_stepCode_39 : decode cMod_stepCode 39 = .ok (.iload_n 2, 1) := by decide +kernel
theorem dMod_stepCode_40 : decode cMod_stepCode 40 = .ok (.iload 4, 2) := by decide +kernel
theorem dMod_stepCode_42 : decode cMod_stepCode 42 = .ok (.isub, 1) := by decide +kernel
theorem dMod_stepCode_43 : decode cMod_stepCode 43 = .ok (.faload, 1) := by decide +kernel
theorem dMod_stepCode_44 : decode cMod_stepCode 44 = .ok (.goto 4, 3) := by decide +kernel
theorem dMod_stepCode_47 : decode cMod_stepCode 47 = .ok (.fconst 0, 1) := by decide +kernel
theorem dMod_stepCode_48 : decode cMod_stepCode 48 = .ok (.fmul, 1) := by decide +kernel
theorem dMod_stepCode_49 : decode cMod_stepCode 49 = .ok (.fadd, 1) := by decide +kernel
theorem dMod_stepCode_50 : decode cMod_stepCode 50 = .ok (.fstore_n 3, 1) := by decide +kernel
theorem dMod_stepCode_51 : decode cMod_stepCode 51 = .ok (.iinc 4 1, 3) := by decide +kernel
theorem dMod_stepCode_54 : decode cMod_stepCode 54 = .ok (.goto (-39), 3) := by decide +kernel
theorem dMod_stepCode_57 : decode cMod_stepCode 57 = .ok (.aload_n 0, 1) := by decide +kernel
theorem dMod_stepCode_58 : decode cMod_stepCode 58 = .ok (.getfield 13, 3) := by decide +kernel
theorem dMod_stepCode_61 : decode cMod_stepCode 61 = .ok (.iload_n 2, 1) := by decide +kernel
theorem dMod_stepCode_62 : decode cMod_stepCode 62 = .ok (.faload, 1) := by decide +kernel
theorem dMod_stepCode_63 : decode cMod_stepCode 63 = .ok (.fload_n 3, 1) := by decide +kernel
theorem dMod_stepCode_64 : decode cMod_stepCode 64 = .ok (.fsub, 1) := by decide +kernel
theorem dMod_stepCode_65 : decode cMod_stepCode 65 = .ok (.fstore 4, 2) := by decide +kernel
theorem dMod_stepCode_67 : decode cMod_stepCode 67 = .ok (.fload 4, 2) := by decide +kernel
theorem dMod_stepCode_69 : decode cMod_stepCode 69 = .ok (.fconst 0, 1) := by decide +kernel
theorem dMod_stepCode_70 : decode cMod_stepCode 70 = .ok (.fcmp .g, 1) := by decide +kernel
theorem dMod_stepCode_71 : decode cMod_stepCode 71 = .ok (.ifCond .ge 8, 3) := by decide +kernel
theorem dMod_stepCode_74 : decode cMod_stepCode 74 = .ok (.fload 4, 2) := by decide +kernel
theorem dMod_stepCode_76 : decode cMod_stepCode 76 = .ok (.fneg, 1) := by decide +kernel
theorem dMod_stepCode_77 : decode cMod_stepCode 77 = .ok (.fstore 4, 2) := by decide +kernel
theorem dMod_stepCode_79 : decode cMod_stepCode 79 = .ok (.fload 4, 2) := by decide +kernel
theorem dMod_stepCode_81 : decode cMod_stepCode 81 = .ok (.fload_n 1, 1) := by decide +kernel
theorem dMod_stepCode_82 : decode cMod_stepCode 82 = .ok (.fcmp .l, 1) := by decide +kernel
theorem dMod_stepCode_83 : decode cMod_stepCode 83 = .ok (.ifCond .le 6, 3) := by decide +kernel
theorem dMod_stepCode_86 : decode cMod_stepCode 86 = .ok (.fload 4, 2) := by decide +kernel
theorem dMod_stepCode_88 : decode cMod_stepCode 88 = .ok (.fstore_n 1, 1) := by decide +kernel
theorem dMod_stepCode_89 : decode cMod_stepCode 89 = .ok (.iinc 2 1, 3) := by decide +kernel
theorem dMod_stepCode_92 : decode cMod_stepCode 92 = .ok (.goto (-88), 3) := by decide +kernel
theorem dMod_stepCode_95 : decode cMod_stepCode 95 = .ok (.iconst 0, 1) := by decide +kernel
theorem dMod_stepCode_96 : decode cMod_stepCode 96 = .ok (.istore_n 2, 1) := by decide +kernel
theorem dMod_stepCode_97 : decode cMod_stepCode 97 = .ok (.iload_n 2, 1) := by decide +kernel
theorem dMod_stepCode_98 : decode cMod_stepCode 98 = .ok (.bipush 15, 2) := by decide +kernel
theorem dMod_stepCode_100 : decode cMod_stepCode 100 = .ok (.if_icmp .ge 25, 3) := by decide +kernel
theorem dMod_stepCode_103 : decode cMod_stepCode 103 = .ok (.ldc 88, 2) := by decide +kernel
theorem dMod_stepCode_105 : decode cMod_stepCode 105 = .ok (.iload_n 2, 1) := by decide +kernel
theorem dMod_stepCode_106 : decode cMod_stepCode 106 = .ok (.aload_n 0, 1) := by decide +kernel
theorem dMod_stepCode_107 : decode cMod_stepCode 107 = .ok (.getfield 71, 3) := by decide +kernel
theorem dMod_stepCode_110 : decode cMod_stepCode 110 = .ok (.invokestatic 89, 3) := by decide +kernel
theorem dMod_stepCode_113 : decode cMod_stepCode 113 = .ok (.fmul, 1) := by decide +kernel
theorem dMod_stepCode_114 : decode cMod_stepCode 114 = .ok (.fload_n 1, 1) := by decide +kernel
theorem dMod_stepCode_115 : decode cMod_stepCode 115 = .ok (.fcmp .g, 1) := by decide +kernel
theorem dMod_stepCode_116 : decode cMod_stepCode 116 = .ok (.ifCond .ge 9, 3) := by decide +kernel
theorem dMod_stepCode_119 : decode cMod_stepCode 119 = .ok (.iinc 2 1, 3) := by decide +kernel
theorem dMod_stepCode_122 : decode cMod_stepCode 122 = .ok (.goto (-25), 3) := by decide +kernel
theorem dMod_stepCode_125 : decode cMod_stepCode 125 = .ok (.iload_n 2, 1) := by decide +kernel
theorem dMod_stepCode_126 : decode cMod_stepCode 126 = .ok (.ireturn, 1) := by decide +kernel
theorem dMod_size_0 : decode cMod_size 0 = .ok (.iload_n 1, 1) := by decide +kernel
theorem dMod_size_1 : decode cMod_size 1 = .ok (.ifCond .eq 11, 3) := by decide +kernel
theorem dMod_size_4 : decode cMod_size 4 = .ok (.bipush 16, 2) := by decide +kernel
theorem dMod_size_6 : decode cMod_size 6 = .ok (.iload_n 0, 1) := by decide +kernel
theorem dMod_size_7 : decode cMod_size 7 = .ok (.imul, 1) := by decide +kernel
theorem dMod_size_8 : decode cMod_size 8 = .ok (.iconst 1, 1) := by decide +kernel
theorem dMod_size_9 : decode cMod_size 9 = .ok (.iadd, 1) := by decide +kernel
theorem dMod_size_10 : decode cMod_size 10 = .ok (.i2f, 1) := by decide +kernel
theorem dMod_size_11 : decode cMod_size 11 = .ok (.freturn, 1) := by decide +kernel
theorem dMod_size_12 : decode cMod_size 12 = .ok (.fconst 1, 1) := by decide +kernel
theorem dMod_size_13 : decode cMod_size 13 = .ok (.fstore_n 2, 1) := by decide +kernel
theorem dMod_size_14 : decode cMod_size 14 = .ok (.iconst 0, 1) := by decide +kernel
theorem dMod_size_15 : decode cMod_size 15 = .ok (.istore_n 3, 1) := by decide +kernel
theorem dMod_size_16 : decode cMod_size 16 = .ok (.iload_n 3, 1) := by decide +kernel
theorem dMod_size_17 : decode cMod_size 17 = .ok (.iload_n 0, 1) := by decide +kernel
theorem dMod_size_18 : decode cMod_size 18 = .ok (.if_icmp .ge 13, 3) := by decide +kernel
theorem dMod_size_21 : decode cMod_size 21 = .ok (.fload_n 2, 1) := by decide +kernel
theorem dMod_size_22 : decode cMod_size 22 = .ok (.fconst 2, 1) := by decide +kernel
theorem dMod_size_23 : decode cMod_size 23 = .ok (.fmul, 1) := by decide +kernel
theorem dMod_size_24 : decode cMod_size 24 = .ok (.fstore_n 2, 1) := by decide +kernel
theorem dMod_size_25 : decode cMod_size 25 = .ok (.iinc 3 1, 3) := by decide +kernel
theorem dMod_size_28 : decode cMod_size 28 = .ok (.goto (-12), 3) := by decide +kernel
theorem dMod_size_31 : decode cMod_size 31 = .ok (.fload_n 2, 1) := by decide +kernel
theorem dMod_size_32 : decode cMod_size 32 = .ok (.ldc 75, 2) := by decide +kernel
theorem dMod_size_34 : decode cMod_size 34 = .ok (.fdiv, 1) := by decide +kernel
theorem dMod_size_35 : decode cMod_size 35 = .ok (.freturn, 1) := by decide +kernel
theorem dMod_lay_0 : decode cMod_lay 0 = .ok (.iload_n 1, 1) := by decide +kernel
theorem dMod_lay_1 : decode cMod_lay 1 = .ok (.aload_n 0, 1) := by decide +kernel
theorem dMod_lay_2 : decode cMod_lay 2 = .ok (.getfield 71, 3) := by decide +kernel
theorem dMod_lay_5 : decode cMod_lay 5 = .ok (.invokestatic 89, 3) := by decide +kernel
theorem dMod_lay_8 : decode cMod_lay 8 = .ok (.fstore_n 2, 1) := by decide +kernel
theorem dMod_lay_9 : decode cMod_lay 9 = .ok (.aload_n 0, 1) := by decide +kernel
theorem dMod_lay_10 : decode cMod_lay 10 = .ok (.getfield 53, 3) := by decide +kernel
theorem dMod_lay_13 : decode cMod_lay 13 = .ok (.iconst 5, 1) := by decide +kernel
theorem dMod_lay_14 : decode cMod_lay 14 = .ok (.iconst 0, 1) := by decide +kernel
theorem dMod_lay_15 : decode cMod_lay 15 = .ok (.iastore, 1) := by decide +kernel
theorem dMod_lay_16 : decode cMod_lay 16 = .ok (.iconst 0, 1) := by decide +kernel
theorem dMod_lay_17 : decode cMod_lay 17 = .ok (.istore_n 3, 1) := by decide +kernel
theorem dMod_lay_18 : decode cMod_lay 18 = .ok (.iload_n 3, 1) := by decide +kernel
theorem dMod_lay_19 : decode cMod_lay 19 = .ok (.bipush 16, 2) := by decide +kernel
theorem dMod_lay_21 : decode cMod_lay 21 = .ok (.if_icmp .ge 130, 3) := by decide +kernel
theorem dMod_lay_24 : decode cMod_lay 24 = .ok (.aload_n 0, 1) := by decide +kernel
theorem dMod_lay_25 : decode cMod_lay 25 = .ok (.iload_n 3, 1) := by decide +kernel
theorem dMod_lay_26 : decode cMod_lay 26 = .ok (.iconst 1, 1) := by decide +kernel
theorem dMod_lay_27 : decode cMod_lay 27 = .ok (.invokevirtual 92, 3) := by decide +kernel
theorem dMod_lay_30 : decode cMod_lay 30 = .ok (.fstore 4, 2) := by decide +kernel
theorem dMod_lay_32 : decode cMod_lay 32 = .ok (.aload_n 0, 1) := by decide +kernel
theorem dMod_lay_33 : decode cMod_lay 33 = .ok (.getfield 13, 3) := by decide +kernel
theorem dMod_lay_36 : decode cMod_lay 36 = .ok (.iload_n 3, 1) := by decide +kernel
theorem dMod_lay_37 : decode cMod_lay 37 = .ok (.faload, 1) := by decide +kernel
theorem dMod_lay_38 : decode cMod_lay 38 = .ok (.fload 4, 2) := by decide +kernel
theorem dMod_lay_40 : decode cMod_lay 40 = .ok (.fsub, 1) := by decide +kernel
theorem dMod_lay_41 : decode cMod_lay 41 = .ok (.fload_n 2, 1) := by decide +kernel
theorem dMod_lay_42 : decode cMod_lay 42 = .ok (.fdiv, 1) := by decide +kernel
theorem dMod_lay_43 : decode cMod_lay 43 = .ok (.fstore 5, 2) := by decide +kernel
theorem dMod_lay_45 : decode cMod_lay 45 = .ok (.fload 5, 2) := by decide +kernel
theorem dMod_lay_47 : decode cMod_lay 47 = .ok (.invokestatic 95, 3) := by decide +kernel
theorem dMod_lay_50 : decode cMod_lay 50 = .ok (.istore 6, 2) := by decide +kernel
theorem dMod_lay_52 : decode cMod_lay 52 = .ok (.iload 6, 2) := by decide +kernel
theorem dMod_lay_54 : decode cMod_lay 54 = .ok (.bipush (-4), 2) := by decide +kernel
theorem dMod_lay_56 : decode cMod_lay 56 = .ok (.if_icmp .ge 8, 3) := by decide +kernel
theorem dMod_lay_59 : decode cMod_lay 59 = .ok (.bipush (-4), 2) := by decide +kernel
theorem dMod_lay_61 : decode cMod_lay 61 = .ok (.goto 15, 3) := by decide +kernel
theorem dMod_lay_64 : decode cMod_lay 64 = .ok (.iload 6, 2) := by decide +kernel
theorem dMod_lay_66 : decode cMod_lay 66 = .ok (.iconst 3, 1) := by decide +kernel
theorem dMod_lay_67 : decode cMod_lay 67 = .ok (.if_icmp .le 7, 3) := by decide +kernel
theorem dMod_lay_70 : decode cMod_lay 70 = .ok (.iconst 3, 1) := by decide +kernel
theorem dMod_lay_71 : decode cMod_lay 71 = .ok (.goto 5, 3) := by decide +kernel
theorem dMod_lay_74 : decode cMod_lay 74 = .ok (.iload 6, 2) := by decide +kernel
theorem dMod_lay_76 : decode cMod_lay 76 = .ok (.istore 6, 2) := by decide +kernel
theorem dMod_lay_78 : decode cMod_lay 78 = .ok (.aload_n 0, 1) := by decide +kernel
theorem dMod_lay_79 : decode cMod_lay 79 = .ok (.getfield 47, 3) := by decide +kernel
theorem dMod_lay_82 : decode cMod_lay 82 = .ok (.iload_n 3, 1) := by decide +kernel
theorem dMod_lay_83 : decode cMod_lay 83 = .ok (.iload 6, 2) := by decide +kernel
theorem dMod_lay_85 : decode cMod_lay 85 = .ok (.iastore, 1) := by decide +kernel
theorem dMod_lay_86 : decode cMod_lay 86 = .ok (.iload 6, 2) := by decide +kernel
theorem dMod_lay_88 : decode cMod_lay 88 = .ok (.aload_n 0, 1) := by decide +kernel
theorem dMod_lay_89 : decode cMod_lay 89 = .ok (.getfield 53, 3) := by decide +kernel
theorem dMod_lay_92 : decode cMod_lay 92 = .ok (.iconst 5, 1) := by decide +kernel
theorem dMod_lay_93 : decode cMod_lay 93 = .ok (.iaload, 1) := by decide +kernel
theorem dMod_lay_94 : decode cMod_lay 94 = .ok (.if_icmp .gt 15, 3) := by decide +kernel
theorem dMod_lay_97 : decode cMod_lay 97 = .ok (.iload 6, 2) := by decide +kernel
theorem dMod_lay_99 : decode cMod_lay 99 = .ok (.ineg, 1) := by decide +kernel
theorem dMod_lay_100 : decode cMod_lay 100 = .ok (.aload_n 0, 1) := by decide +kernel
theorem dMod_lay_101 : decode cMod_lay 101 = .ok (.getfield 53, 3) := by decide +kernel
theorem dMod_lay_104 : decode cMod_lay 104 = .ok (.iconst 5, 1) := by decide +kernel
theorem dMod_lay_105 : decode cMod_lay 105 = .ok (.iaload, 1) := by decide +kernel
theorem dMod_lay_106 : decode cMod_lay 106 = .ok (.if_icmp .le 22, 3) := by decide +kernel
theorem dMod_lay_109 : decode cMod_lay 109 = .ok (.aload_n 0, 1) := by decide +kernel
theorem dMod_lay_110 : decode cMod_lay 110 = .ok (.getfield 53, 3) := by decide +kernel
theorem dMod_lay_113 : decode cMod_lay 113 = .ok (.iconst 5, 1) := by decide +kernel
theorem dMod_lay_114 : decode cMod_lay 114 = .ok (.iload 6, 2) := by decide +kernel
theorem dMod_lay_116 : decode cMod_lay 116 = .ok (.ifCond .ge 9, 3) := by decide +kernel
theorem dMod_lay_119 : decode cMod_lay 119 = .ok (.iload 6, 2) := by decide +kernel
theorem dMod_lay_121 : decode cMod_lay 121 = .ok (.ineg, 1) := by decide +kernel
theorem dMod_lay_122 : decode cMod_lay 122 = .ok (.goto 5, 3) := by decide +kernel
theorem dMod_lay_125 : decode cMod_lay 125 = .ok (.iload 6, 2) := by decide +kernel
theorem dMod_lay_127 : decode cMod_lay 127 = .ok (.iastore, 1) := by decide +kernel
theorem dMod_lay_128 : decode cMod_lay 128 = .ok (.aload_n 0, 1) := by decide +kernel
theorem dMod_lay_129 : decode cMod_lay 129 = .ok (.getfield 16, 3) := by decide +kernel
theorem dMod_lay_132 : decode cMod_lay 132 = .ok (.iload_n 3, 1) := by decide +kernel
theorem dMod_lay_133 : decode cMod_lay 133 = .ok (.fload 4, 2) := by decide +kernel
theorem dMod_lay_135 : decode cMod_lay 135 = .ok (.iload 6, 2) := by decide +kernel
theorem dMod_lay_137 : decode cMod_lay 137 = .ok (.i2f, 1) := by decide +kernel
theorem dMod_lay_138 : decode cMod_lay 138 = .ok (.fload_n 2, 1) := by decide +kernel
theorem dMod_lay_139 : decode cMod_lay 139 = .ok (.fmul, 1) := by decide +kernel
theorem dMod_lay_140 : decode cMod_lay 140 = .ok (.fadd, 1) := by decide +kernel
theorem dMod_lay_141 : decode cMod_lay 141 = .ok (.invokestatic 99, 3) := by decide +kernel
theorem dMod_lay_144 : decode cMod_lay 144 = .ok (.fastore, 1) := by decide +kernel
theorem dMod_lay_145 : decode cMod_lay 145 = .ok (.iinc 3 1, 3) := by decide +kernel
theorem dMod_lay_148 : decode cMod_lay 148 = .ok (.goto (-130), 3) := by decide +kernel
theorem dMod_lay_151 : decode cMod_lay 151 = .ok (.aload_n 0, 1) := by decide +kernel
theorem dMod_lay_152 : decode cMod_lay 152 = .ok (.getfield 53, 3) := by decide +kernel
theorem dMod_lay_155 : decode cMod_lay 155 = .ok (.iconst 0, 1) := by decide +kernel
theorem dMod_lay_156 : decode cMod_lay 156 = .ok (.iload_n 1, 1) := by decide +kernel
theorem dMod_lay_157 : decode cMod_lay 157 = .ok (.iastore, 1) := by decide +kernel
theorem dMod_lay_158 : decode cMod_lay 158 = .ok (.iconst 1, 1) := by decide +kernel
theorem dMod_lay_159 : decode cMod_lay 159 = .ok (.istore_n 3, 1) := by decide +kernel
theorem dMod_lay_160 : decode cMod_lay 160 = .ok (.iload_n 3, 1) := by decide +kernel
theorem dMod_lay_161 : decode cMod_lay 161 = .ok (.iconst 5, 1) := by decide +kernel
theorem dMod_lay_162 : decode cMod_lay 162 = .ok (.if_icmp .ge 21, 3) := by decide +kernel
theorem dMod_lay_165 : decode cMod_lay 165 = .ok (.aload_n 0, 1) := by decide +kernel
theorem dMod_lay_166 : decode cMod_lay 166 = .ok (.getfield 53, 3) := by decide +kernel
theorem dMod_lay_169 : decode cMod_lay 169 = .ok (.iload_n 3, 1) := by decide +kernel
theorem dMod_lay_170 : decode cMod_lay 170 = .ok (.aload_n 0, 1) := by decide +kernel
theorem dMod_lay_171 : decode cMod_lay 171 = .ok (.getfield 50, 3) := by decide +kernel
theorem dMod_lay_174 : decode cMod_lay 174 = .ok (.iload_n 3, 1) := by decide +kernel
theorem dMod_lay_175 : decode cMod_lay 175 = .ok (.iaload, 1) := by decide +kernel
theorem dMod_lay_176 : decode cMod_lay 176 = .ok (.iastore, 1) := by decide +kernel
theorem dMod_lay_177 : decode cMod_lay 177 = .ok (.iinc 3 1, 3) := by decide +kernel
theorem dMod_lay_180 : decode cMod_lay 180 = .ok (.goto (-20), 3) := by decide +kernel
theorem dMod_lay_183 : decode cMod_lay 183 = .ok (.aload_n 0, 1) := by decide +kernel
theorem dMod_lay_184 : decode cMod_lay 184 = .ok (.getfield 53, 3) := by decide +kernel
theorem dMod_lay_187 : decode cMod_lay 187 = .ok (.bipush 6, 2) := by decide +kernel
theorem dMod_lay_189 : decode cMod_lay 189 = .ok (.aload_n 0, 1) := by decide +kernel
theorem dMod_lay_190 : decode cMod_lay 190 = .ok (.getfield 31, 3) := by decide +kernel
theorem dMod_lay_193 : decode cMod_lay 193 = .ok (.iconst 1, 1) := by decide +kernel
theorem dMod_lay_194 : decode cMod_lay 194 = .ok (.faload, 1) := by decide +kernel
theorem dMod_lay_195 : decode cMod_lay 195 = .ok (.ldc 103, 2) := by decide +kernel
theorem dMod_lay_197 : decode cMod_lay 197 = .ok (.fmul, 1) := by decide +kernel
theorem dMod_lay_198 : decode cMod_lay 198 = .ok (.f2i, 1) := by decide +kernel
theorem dMod_lay_199 : decode cMod_lay 199 = .ok (.iastore, 1) := by decide +kernel
theorem dMod_lay_200 : decode cMod_lay 200 = .ok (.return_, 1) := by decide +kernel
theorem dMod_foretold_0 : decode cMod_foretold 0 = .ok (.fconst 0, 1) := by decide +kernel
theorem dMod_foretold_1 : decode cMod_foretold 1 = .ok (.fstore_n 3, 1) := by decide +kernel
theorem dMod_foretold_2 : decode cMod_foretold 2 = .ok (.iconst 1, 1) := by decide +kernel
theorem dMod_foretold_3 : decode cMod_foretold 3 = .ok (.istore 4, 2) := by decide +kernel
theorem dMod_foretold_5 : decode cMod_foretold 5 = .ok (.iload 4, 2) := by decide +kernel
theorem dMod_foretold_7 : decode cMod_foretold 7 = .ok (.iconst 5, 1) := by decide +kernel
theorem dMod_foretold_8 : decode cMod_foretold 8 = .ok (.if_icmp .ge 29, 3) := by decide +kernel
theorem dMod_foretold_11 : decode cMod_foretold 11 = .ok (.fload_n 3, 1) := by decide +kernel
theorem dMod_foretold_12 : decode cMod_foretold 12 = .ok (.aload_n 0, 1) := by decide +kernel
theorem dMod_foretold_13 : decode cMod_foretold 13 = .ok (.getfield 31, 3) := by decide +kernel
theorem dMod_foretold_16 : decode cMod_foretold 16 = .ok (.iload 4, 2) := by decide +kernel
theorem dMod_foretold_18 : decode cMod_foretold 18 = .ok (.faload, 1) := by decide +kernel
theorem dMod_foretold_19 : decode cMod_foretold 19 = .ok (.aload_n 0, 1) := by decide +kernel
theorem dMod_foretold_20 : decode cMod_foretold 20 = .ok (.iload_n 1, 1) := by decide +kernel
theorem dMod_foretold_21 : decode cMod_foretold 21 = .ok (.iload 4, 2) := by decide +kernel
theorem dMod_foretold_23 : decode cMod_foretold 23 = .ok (.isub, 1) := by decide +kernel
theorem dMod_foretold_24 : decode cMod_foretold 24 = .ok (.iload_n 2, 1) := by decide +kernel
theorem dMod_foretold_25 : decode cMod_foretold 25 = .ok (.invokevirtual 80, 3) := by decide +kernel
theorem dMod_foretold_28 : decode cMod_foretold 28 = .ok (.fmul, 1) := by decide +kernel
theorem dMod_foretold_29 : decode cMod_foretold 29 = .ok (.fadd, 1) := by decide +kernel
theorem dMod_foretold_30 : decode cMod_foretold 30 = .ok (.fstore_n 3, 1) := by decide +kernel
theorem dMod_foretold_31 : decode cMod_foretold 31 = .ok (.iinc 4 1, 3) := by decide +kernel
theorem dMod_foretold_34 : decode cMod_foretold 34 = .ok (.goto (-29), 3) := by decide +kernel
theorem dMod_foretold_37 : decode cMod_foretold 37 = .ok (.fload_n 3, 1) := by decide +kernel
theorem dMod_foretold_38 : decode cMod_foretold 38 = .ok (.freturn, 1) := by decide +kernel
theorem dMod_before_0 : decode cMod_before 0 = .ok (.iload_n 1, 1) := by decide +kernel
theorem dMod_before_1 : decode cMod_before 1 = .ok (.ifCond .lt 12, 3) := by decide +kernel
theorem dMod_before_4 : decode cMod_before 4 = .ok (.aload_n 0, 1) := by decide +kernel
theorem dMod_before_5 : decode cMod_before 5 = .ok (.getfield 16, 3) := by decide +kernel
theorem dMod_before_8 : decode cMod_before 8 = .ok (.iload_n 1, 1) := by decide +kernel
theorem dMod_before_9 : decode cMod_before 9 = .ok (.faload, 1) := by decide +kernel
theorem dMod_before_10 : decode cMod_before 10 = .ok (.goto 26, 3) := by decide +kernel
theorem dMod_before_13 : decode cMod_before 13 = .ok (.iload_n 2, 1) := by decide +kernel
theorem dMod_before_14 : decode cMod_before 14 = .ok (.ifCond .eq 14, 3) := by decide +kernel
theorem dMod_before_17 : decode cMod_before 17 = .ok (.aload_n 0, 1) := by decide +kernel
theorem dMod_before_18 : decode cMod_before 18 = .ok (.getfield 25, 3) := by decide +kernel
theorem dMod_before_21 : decode cMod_before 21 = .ok (.iconst (-1), 1) := by decide +kernel
theorem dMod_before_22 : decode cMod_before 22 = .ok (.iload_n 1, 1) := by decide +kernel
theorem dMod_before_23 : decode cMod_before 23 = .ok (.isub, 1) := by decide +kernel
theorem dMod_before_24 : decode cMod_before 24 = .ok (.faload, 1) := by decide +kernel
theorem dMod_before_25 : decode cMod_before 25 = .ok (.goto 11, 3) := by decide +kernel
theorem dMod_before_28 : decode cMod_before 28 = .ok (.aload_n 0, 1) := by decide +kernel
theorem dMod_before_29 : decode cMod_before 29 = .ok (.getfield 28, 3) := by decide +kernel
theorem dMod_before_32 : decode cMod_before 32 = .ok (.iconst (-1), 1) := by decide +kernel
theorem dMod_before_33 : decode cMod_before 33 = .ok (.iload_n 1, 1) := by decide +kernel
theorem dMod_before_34 : decode cMod_before 34 = .ok (.isub, 1) := by decide +kernel
theorem dMod_before_35 : decode cMod_before 35 = .ok (.faload, 1) := by decide +kernel
theorem dMod_before_36 : decode cMod_before 36 = .ok (.freturn, 1) := by decide +kernel
theorem dMod_whole_0 : decode cMod_whole 0 = .ok (.fload_n 0, 1) := by decide +kernel
theorem dMod_whole_1 : decode cMod_whole 1 = .ok (.fconst 0, 1) := by decide +kernel
theorem dMod_whole_2 : decode cMod_whole 2 = .ok (.fcmp .g, 1) := by decide +kernel
theorem dMod_whole_3 : decode cMod_whole 3 = .ok (.ifCond .ge 11, 3) := by decide +kernel
theorem dMod_whole_6 : decode cMod_whole 6 = .ok (.fload_n 0, 1) := by decide +kernel
theorem dMod_whole_7 : decode cMod_whole 7 = .ok (.ldc 79, 2) := by decide +kernel
theorem dMod_whole_9 : decode cMod_whole 9 = .ok (.fsub, 1) := by decide +kernel
theorem dMod_whole_10 : decode cMod_whole 10 = .ok (.f2i, 1) := by decide +kernel
theorem dMod_whole_11 : decode cMod_whole 11 = .ok (.goto 8, 3) := by decide +kernel
theorem dMod_whole_14 : decode cMod_whole 14 = .ok (.fload_n 0, 1) := by decide +kernel
theorem dMod_whole_15 : decode cMod_whole 15 = .ok (.ldc 79, 2) := by decide +kernel
theorem dMod_whole_17 : decode cMod_whole 17 = .ok (.fadd, 1) := by decide +kernel
theorem dMod_whole_18 : decode cMod_whole 18 = .ok (.f2i, 1) := by decide +kernel
theorem dMod_whole_19 : decode cMod_whole 19 = .ok (.ireturn, 1) := by decide +kernel
theorem dMod_clip_0 : decode cMod_clip 0 = .ok (.fload_n 0, 1) := by decide +kernel
theorem dMod_clip_1 : decode cMod_clip 1 = .ok (.ldc 77, 2) := by decide +kernel
theorem dMod_clip_3 : decode cMod_clip 3 = .ok (.fcmp .l, 1) := by decide +kernel
theorem dMod_clip_4 : decode cMod_clip 4 = .ok (.ifCond .le 8, 3) := by decide +kernel
theorem dMod_clip_7 : decode cMod_clip 7 = .ok (.ldc 77, 2) := by decide +kernel
theorem dMod_clip_9 : decode cMod_clip 9 = .ok (.goto 16, 3) := by decide +kernel
theorem dMod_clip_12 : decode cMod_clip 12 = .ok (.fload_n 0, 1) := by decide +kernel
theorem dMod_clip_13 : decode cMod_clip 13 = .ok (.ldc 78, 2) := by decide +kernel
theorem dMod_clip_15 : decode cMod_clip 15 = .ok (.fcmp .g, 1) := by decide +kernel
theorem dMod_clip_16 : decode cMod_clip 16 = .ok (.ifCond .ge 8, 3) := by decide +kernel
theorem dMod_clip_19 : decode cMod_clip 19 = .ok (.ldc 78, 2) := by decide +kernel
theorem dMod_clip_21 : decode cMod_clip 21 = .ok (.goto 4, 3) := by decide +kernel
theorem dMod_clip_24 : decode cMod_clip 24 = .ok (.fload_n 0, 1) := by decide +kernel
theorem dMod_clip_25 : decode cMod_clip 25 = .ok (.freturn, 1) := by decide +kernel
theorem dMod_keep_0 : decode cMod_keep 0 = .ok (.iconst 0, 1) := by decide +kernel
theorem dMod_keep_1 : decode cMod_keep 1 = .ok (.istore_n 2, 1) := by decide +kernel
theorem dMod_keep_2 : decode cMod_keep 2 = .ok (.iload_n 2, 1) := by decide +kernel
theorem dMod_keep_3 : decode cMod_keep 3 = .ok (.bipush 16, 2) := by decide +kernel
theorem dMod_keep_5 : decode cMod_keep 5 = .ok (.if_icmp .ge 40, 3) := by decide +kernel
theorem dMod_keep_8 : decode cMod_keep 8 = .ok (.iload_n 1, 1) := by decide +kernel
theorem dMod_keep_9 : decode cMod_keep 9 = .ok (.ifCond .eq 18, 3) := by decide +kernel
theorem dMod_keep_12 : decode cMod_keep 12 = .ok (.aload_n 0, 1) := by decide +kernel
theorem dMod_keep_13 : decode cMod_keep 13 = .ok (.getfield 19, 3) := by decide +kernel
theorem dMod_keep_16 : decode cMod_keep 16 = .ok (.iload_n 2, 1) := by decide +kernel
theorem dMod_keep_17 : decode cMod_keep 17 = .ok (.aload_n 0, 1) := by decide +kernel
theorem dMod_keep_18 : decode cMod_keep 18 = .ok (.getfield 16, 3) := by decide +kernel
theorem dMod_keep_21 : decode cMod_keep 21 = .ok (.iload_n 2, 1) := by decide +kernel
theorem dMod_keep_22 : decode cMod_keep 22 = .ok (.faload, 1) := by decide +kernel
theorem dMod_keep_23 : decode cMod_keep 23 = .ok (.fastore, 1) := by decide +kernel
theorem dMod_keep_24 : decode cMod_keep 24 = .ok (.goto 15, 3) := by decide +kernel
theorem dMod_keep_27 : decode cMod_keep 27 = .ok (.aload_n 0, 1) := by decide +kernel
theorem dMod_keep_28 : decode cMod_keep 28 = .ok (.getfield 22, 3) := by decide +kernel
theorem dMod_keep_31 : decode cMod_keep 31 = .ok (.iload_n 2, 1) := by decide +kernel
theorem dMod_keep_32 : decode cMod_keep 32 = .ok (.aload_n 0, 1) := by decide +kernel
theorem dMod_keep_33 : decode cMod_keep 33 = .ok (.getfield 16, 3) := by decide +kernel
theorem dMod_keep_36 : decode cMod_keep 36 = .ok (.iload_n 2, 1) := by decide +kernel
theorem dMod_keep_37 : decode cMod_keep 37 = .ok (.faload, 1) := by decide +kernel
theorem dMod_keep_38 : decode cMod_keep 38 = .ok (.fastore, 1) := by decide +kernel
theorem dMod_keep_39 : decode cMod_keep 39 = .ok (.iinc 2 1, 3) := by decide +kernel
theorem dMod_keep_42 : decode cMod_keep 42 = .ok (.goto (-40), 3) := by decide +kernel
theorem dMod_keep_45 : decode cMod_keep 45 = .ok (.iconst 0, 1) := by decide +kernel
theorem dMod_keep_46 : decode cMod_keep 46 = .ok (.istore_n 2, 1) := by decide +kernel
theorem dMod_keep_47 : decode cMod_keep 47 = .ok (.iload_n 2, 1) := by decide +kernel
theorem dMod_keep_48 : decode cMod_keep 48 = .ok (.iconst 4, 1) := by decide +kernel
theorem dMod_keep_49 : decode cMod_keep 49 = .ok (.if_icmp .ge 46, 3) := by decide +kernel
theorem dMod_keep_52 : decode cMod_keep 52 = .ok (.iload_n 1, 1) := by decide +kernel
theorem dMod_keep_53 : decode cMod_keep 53 = .ok (.ifCond .eq 21, 3) := by decide +kernel
theorem dMod_keep_56 : decode cMod_keep 56 = .ok (.aload_n 0, 1) := by decide +kernel
theorem dMod_keep_57 : decode cMod_keep 57 = .ok (.getfield 25, 3) := by decide +kernel
theorem dMod_keep_60 : decode cMod_keep 60 = .ok (.iload_n 2, 1) := by decide +kernel
theorem dMod_keep_61 : decode cMod_keep 61 = .ok (.aload_n 0, 1) := by decide +kernel
theorem dMod_keep_62 : decode cMod_keep 62 = .ok (.getfield 16, 3) := by decide +kernel
theorem dMod_keep_65 : decode cMod_keep 65 = .ok (.bipush 15, 2) := by decide +kernel
theorem dMod_keep_67 : decode cMod_keep 67 = .ok (.iload_n 2, 1) := by decide +kernel
theorem dMod_keep_68 : decode cMod_keep 68 = .ok (.isub, 1) := by decide +kernel
theorem dMod_keep_69 : decode cMod_keep 69 = .ok (.faload, 1) := by decide +kernel
theorem dMod_keep_70 : decode cMod_keep 70 = .ok (.fastore, 1) := by decide +kernel
theorem dMod_keep_71 : decode cMod_keep 71 = .ok (.goto 18, 3) := by decide +kernel
theorem dMod_keep_74 : decode cMod_keep 74 = .ok (.aload_n 0, 1) := by decide +kernel
theorem dMod_keep_75 : decode cMod_keep 75 = .ok (.getfield 28, 3) := by decide +kernel
theorem dMod_keep_78 : decode cMod_keep 78 = .ok (.iload_n 2, 1) := by decide +kernel
theorem dMod_keep_79 : decode cMod_keep 79 = .ok (.aload_n 0, 1) := by decide +kernel
theorem dMod_keep_80 : decode cMod_keep 80 = .ok (.getfield 16, 3) := by decide +kernel
theorem dMod_keep_83 : decode cMod_keep 83 = .ok (.bipush 15, 2) := by decide +kernel
theorem dMod_keep_85 : decode cMod_keep 85 = .ok (.iload_n 2, 1) := by decide +kernel
theorem dMod_keep_86 : decode cMod_keep 86 = .ok (.isub, 1) := by decide +kernel
theorem dMod_keep_87 : decode cMod_keep 87 = .ok (.faload, 1) := by decide +kernel
theorem dMod_keep_88 : decode cMod_keep 88 = .ok (.fastore, 1) := by decide +kernel
theorem dMod_keep_89 : decode cMod_keep 89 = .ok (.iinc 2 1, 3) := by decide +kernel
theorem dMod_keep_92 : decode cMod_keep 92 = .ok (.goto (-45), 3) := by decide +kernel
theorem dMod_keep_95 : decode cMod_keep 95 = .ok (.return_, 1) := by decide +kernel
theorem dMod_decode_0 : decode cMod_decode 0 = .ok (.aload_n 0, 1) := by decide +kernel
theorem dMod_decode_1 : decode cMod_decode 1 = .ok (.getfield 134, 3) := by decide +kernel
theorem dMod_decode_4 : decode cMod_decode 4 = .ok (.aload_n 0, 1) := by decide +kernel
theorem dMod_decode_5 : decode cMod_decode 5 = .ok (.getfield 104, 3) := by decide +kernel
theorem dMod_decode_8 : decode cMod_decode 8 = .ok (.if_icmp .ne 9, 3) := by decide +kernel
theorem dMod_decode_11 : decode cMod_decode 11 = .ok (.aload_n 0, 1) := by decide +kernel
theorem dMod_decode_12 : decode cMod_decode 12 = .ok (.iconst 1, 1) := by decide +kernel
theorem dMod_decode_13 : decode cMod_decode 13 = .ok (.invokevirtual 64, 3) := by decide +kernel
theorem dMod_decode_16 : decode cMod_decode 16 = .ok (.ireturn, 1) := by decide +kernel
theorem dMod_decode_17 : decode cMod_decode 17 = .ok (.aload_n 0, 1) := by decide +kernel
theorem dMod_decode_18 : decode cMod_decode 18 = .ok (.getfield 43, 3) := by decide +kernel
theorem dMod_decode_21 : decode cMod_decode 21 = .ok (.aload_n 0, 1) := by decide +kernel
theorem dMod_decode_22 : decode cMod_decode 22 = .ok (.getfield 134, 3) := by decide +kernel
theorem dMod_decode_25 : decode cMod_decode 25 = .ok (.iaload, 1) := by decide +kernel
theorem dMod_decode_26 : decode cMod_decode 26 = .ok (.istore_n 1, 1) := by decide +kernel
theorem dMod_decode_27 : decode cMod_decode 27 = .ok (.iconst 2, 1) := by decide +kernel
theorem dMod_decode_28 : decode cMod_decode 28 = .ok (.istore_n 2, 1) := by decide +kernel
theorem dMod_decode_29 : decode cMod_decode 29 = .ok (.iload_n 1, 1) := by decide +kernel
theorem dMod_decode_30 : decode cMod_decode 30 = .ok (.bipush 16, 2) := by decide +kernel
theorem dMod_decode_32 : decode cMod_decode 32 = .ok (.bipush 31, 2) := by decide +kernel
theorem dMod_decode_34 : decode cMod_decode 34 = .ok (.invokestatic 141, 3) := by decide +kernel
theorem dMod_decode_37 : decode cMod_decode 37 = .ok (.ifCond .ne 16, 3) := by decide +kernel
theorem dMod_decode_40 : decode cMod_decode 40 = .ok (.iload_n 1, 1) := by decide +kernel
theorem dMod_decode_41 : decode cMod_decode 41 = .ok (.sipush 144, 3) := by decide +kernel
theorem dMod_decode_44 : decode cMod_decode 44 = .ok (.sipush 159, 3) := by decide +kernel
theorem dMod_decode_47 : decode cMod_decode 47 = .ok (.invokestatic 141, 3) := by decide +kernel
theorem dMod_decode_50 : decode cMod_decode 50 = .ok (.ifCond .eq 7, 3) := by decide +kernel
theorem dMod_decode_53 : decode cMod_decode 53 = .ok (.iconst 1, 1) := by decide +kernel
theorem dMod_decode_54 : decode cMod_decode 54 = .ok (.goto 4, 3) := by decide +kernel
theorem dMod_decode_57 : decode cMod_decode 57 = .ok (.iconst 0, 1) := by decide +kernel
theorem dMod_decode_58 : decode cMod_decode 58 = .ok (.istore_n 3, 1) := by decide +kernel
theorem dMod_decode_59 : decode cMod_decode 59 = .ok (.iload_n 3, 1) := by decide +kernel
theorem dMod_decode_60 : decode cMod_decode 60 = .ok (.ifCond .eq 23, 3) := by decide +kernel
theorem dMod_decode_63 : decode cMod_decode 63 = .ok (.aload_n 0, 1) := by decide +kernel
theorem dMod_decode_64 : decode cMod_decode 64 = .ok (.getfield 134, 3) := by decide +kernel
theorem dMod_decode_67 : decode cMod_decode 67 = .ok (.bipush 14, 2) := by decide +kernel
theorem dMod_decode_69 : decode cMod_decode 69 = .ok (.iadd, 1) := by decide +kernel
theorem dMod_decode_70 : decode cMod_decode 70 = .ok (.aload_n 0, 1) := by decide +kernel
theorem dMod_decode_71 : decode cMod_decode 71 = .ok (.getfield 104, 3) := by decide +kernel
theorem dMod_decode_74 : decode cMod_decode 74 = .ok (.if_icmp .le 9, 3) := by decide +kernel
theorem dMod_decode_77 : decode cMod_decode 77 = .ok (.aload_n 0, 1) := by decide +kernel
theorem dMod_decode_78 : decode cMod_decode 78 = .ok (.iconst 2, 1) := by decide +kernel
theorem dMod_decode_79 : decode cMod_decode 79 = .ok (.invokevirtual 64, 3) := by decide +kernel
theorem dMod_decode_82 : decode cMod_decode 82 = .ok (.ireturn, 1) := by decide +kernel
theorem dMod_decode_83 : decode cMod_decode 83 = .ok (.aload_n 0, 1) := by decide +kernel
theorem dMod_decode_84 : decode cMod_decode 84 = .ok (.iconst 0, 1) := by decide +kernel
theorem dMod_decode_85 : decode cMod_decode 85 = .ok (.putfield 56, 3) := by decide +kernel
theorem dMod_decode_88 : decode cMod_decode 88 = .ok (.iload_n 3, 1) := by decide +kernel
theorem dMod_decode_89 : decode cMod_decode 89 = .ok (.ifCond .eq 14, 3) := by decide +kernel
theorem dMod_decode_92 : decode cMod_decode 92 = .ok (.aload_n 0, 1) := by decide +kernel
theorem dMod_decode_93 : decode cMod_decode 93 = .ok (.invokevirtual 145, 3) := by decide +kernel
theorem dMod_decode_96 : decode cMod_decode 96 = .ok (.ifCond .eq 7, 3) := by decide +kernel
theorem dMod_decode_99 : decode cMod_decode 99 = .ok (.iconst 1, 1) := by decide +kernel
theorem dMod_decode_100 : decode cMod_decode 100 = .ok (.goto 4, 3) := by decide +kernel
theorem dMod_decode_103 : decode cMod_decode 103 = .ok (.iconst 0, 1) := by decide +kernel
theorem dMod_decode_104 : decode cMod_decode 104 = .ok (.istore 4, 2) := by decide +kernel
theorem dMod_decode_106 : decode cMod_decode 106 = .ok (.iload_n 1, 1) := by decide +kernel
theorem dMod_decode_107 : decode cMod_decode 107 = .ok (.ifCond .ne 22, 3) := by decide +kernel
theorem dMod_decode_110 : decode cMod_decode 110 = .ok (.aload_n 0, 1) := by decide +kernel
theorem dMod_decode_111 : decode cMod_decode 111 = .ok (.invokevirtual 107, 3) := by decide +kernel
theorem dMod_decode_114 : decode cMod_decode 114 = .ok (.aload_n 0, 1) := by decide +kernel
theorem dMod_decode_115 : decode cMod_decode 115 = .ok (.dup, 1) := by decide +kernel
theorem dMod_decode_116 : decode cMod_decode 116 = .ok (.getfield 149, 3) := by decide +kernel
theorem dMod_decode_119 : decode cMod_decode 119 = .ok (.iconst 1, 1) := by decide +kernel
theorem dMod_decode_120 : decode cMod_decode 120 = .ok (.iadd, 1) := by decide +kernel
theorem dMod_decode_121 : decode cMod_decode 121 = .ok (.putfield 149, 3) := by decide +kernel
theorem dMod_decode_124 : decode cMod_decode 124 = .ok (.iconst 0, 1) := by decide +kernel
theorem dMod_decode_125 : decode cMod_decode 125 = .ok (.istore_n 2, 1) := by decide +kernel
theorem dMod_decode_126 : decode cMod_decode 126 = .ok (.goto 21, 3) := by decide +kernel
theorem dMod_decode_129 : decode cMod_decode 129 = .ok (.iload 4, 2) := by decide +kernel
theorem dMod_decode_131 : decode cMod_decode 131 = .ok (.ifCond .eq 12, 3) := by decide +kernel
theorem dMod_decode_134 : decode cMod_decode 134 = .ok (.aload_n 0, 1) := by decide +kernel
theorem dMod_decode_135 : decode cMod_decode 135 = .ok (.invokevirtual 152, 3) := by decide +kernel
theorem dMod_decode_138 : decode cMod_decode 138 = .ok (.iconst 1, 1) := by decide +kernel
theorem dMod_decode_139 : decode cMod_decode 139 = .ok (.istore_n 2, 1) := by decide +kernel
theorem dMod_decode_140 : decode cMod_decode 140 = .ok (.goto 7, 3) := by decide +kernel
theorem dMod_decode_143 : decode cMod_decode 143 = .ok (.aload_n 0, 1) := by decide +kernel
theorem dMod_decode_144 : decode cMod_decode 144 = .ok (.invokevirtual 155, 3) := by decide +kernel
theorem dMod_decode_147 : decode cMod_decode 147 = .ok (.aload_n 0, 1) := by decide +kernel
theorem dMod_decode_148 : decode cMod_decode 148 = .ok (.dup, 1) := by decide +kernel
theorem dMod_decode_149 : decode cMod_decode 149 = .ok (.getfield 134, 3) := by decide +kernel
theorem dMod_decode_152 : decode cMod_decode 152 = .ok (.iload_n 3, 1) := by decide +kernel
theorem dMod_decode_153 : decode cMod_decode 153 = .ok (.ifCond .eq 8, 3) := by decide +kernel
theorem dMod_decode_156 : decode cMod_decode 156 = .ok (.bipush 14, 2) := by decide +kernel
theorem dMod_decode_158 : decode cMod_decode 158 = .ok (.goto 4, 3) := by decide +kernel
theorem dMod_decode_161 : decode cMod_decode 161 = .ok (.iconst 1, 1) := by decide +kernel
theorem dMod_decode_162 : decode cMod_decode 162 = .ok (.iadd, 1) := by decide +kernel
theorem dMod_decode_163 : decode cMod_decode 163 = .ok (.putfield 134, 3) := by decide +kernel
theorem dMod_decode_166 : decode cMod_decode 166 = .ok (.aload_n 0, 1) := by decide +kernel
theorem dMod_decode_167 : decode cMod_decode 167 = .ok (.iconst 0, 1) := by decide +kernel
theorem dMod_decode_168 : decode cMod_decode 168 = .ok (.invokevirtual 124, 3) := by decide +kernel
theorem dMod_decode_171 : decode cMod_decode 171 = .ok (.aload_n 0, 1) := by decide +kernel
theorem dMod_decode_172 : decode cMod_decode 172 = .ok (.iconst 1, 1) := by decide +kernel
theorem dMod_decode_173 : decode cMod_decode 173 = .ok (.putfield 158, 3) := by decide +kernel
theorem dMod_decode_176 : decode cMod_decode 176 = .ok (.aload_n 0, 1) := by decide +kernel
theorem dMod_decode_177 : decode cMod_decode 177 = .ok (.dup, 1) := by decide +kernel
theorem dMod_decode_178 : decode cMod_decode 178 = .ok (.getfield 161, 3) := by decide +kernel
theorem dMod_decode_181 : decode cMod_decode 181 = .ok (.iconst 1, 1) := by decide +kernel
theorem dMod_decode_182 : decode cMod_decode 182 = .ok (.iadd, 1) := by decide +kernel
theorem dMod_decode_183 : decode cMod_decode 183 = .ok (.putfield 161, 3) := by decide +kernel
theorem dMod_decode_186 : decode cMod_decode 186 = .ok (.iload_n 2, 1) := by decide +kernel
theorem dMod_decode_187 : decode cMod_decode 187 = .ok (.ireturn, 1) := by decide +kernel
theorem dMod_in_0 : decode cMod_in 0 = .ok (.iload_n 0, 1) := by decide +kernel
theorem dMod_in_1 : decode cMod_in 1 = .ok (.iload_n 1, 1) := by decide +kernel
theorem dMod_in_2 : decode cMod_in 2 = .ok (.if_icmp .lt 12, 3) := by decide +kernel
theorem dMod_in_5 : decode cMod_in 5 = .ok (.iload_n 0, 1) := by decide +kernel
theorem dMod_in_6 : decode cMod_in 6 = .ok (.iload_n 2, 1) := by decide +kernel
theorem dMod_in_7 : decode cMod_in 7 = .ok (.if_icmp .gt 7, 3) := by decide +kernel
theorem dMod_in_10 : decode cMod_in 10 = .ok (.iconst 1, 1) := by decide +kernel
theorem dMod_in_11 : decode cMod_in 11 = .ok (.goto 4, 3) := by decide +kernel
theorem dMod_in_14 : decode cMod_in 14 = .ok (.iconst 0, 1) := by decide +kernel
theorem dMod_in_15 : decode cMod_in 15 = .ok (.ireturn, 1) := by decide +kernel
theorem dMod_isSound_0 : decode cMod_isSound 0 = .ok (.iconst 0, 1) := by decide +kernel
theorem dMod_isSound_1 : decode cMod_isSound 1 = .ok (.istore_n 1, 1) := by decide +kernel
theorem dMod_isSound_2 : decode cMod_isSound 2 = .ok (.iconst 0, 1) := by decide +kernel
theorem dMod_isSound_3 : decode cMod_isSound 3 = .ok (.istore_n 2, 1) := by decide +kernel
theorem dMod_isSound_4 : decode cMod_isSound 4 = .ok (.iload_n 2, 1) := by decide +kernel
theorem dMod_isSound_5 : decode cMod_isSound 5 = .ok (.bipush 13, 2) := by decide +kernel
theorem dMod_isSound_7 : decode cMod_isSound 7 = .ok (.if_icmp .ge 23, 3) := by decide +kernel
theorem dMod_isSound_10 : decode cMod_isSound 10 = .ok (.iload_n 1, 1) := by decide +kernel
theorem dMod_isSound_11 : decode cMod_isSound 11 = .ok (.aload_n 0, 1) := by decide +kernel
theorem dMod_isSound_12 : decode cMod_isSound 12 = .ok (.getfield 43, 3) := by decide +kernel
theorem dMod_isSound_15 : decode cMod_isSound 15 = .ok (.aload_n 0, 1) := by decide +kernel
theorem dMod_isSound_16 : decode cMod_isSound 16 = .ok (.getfield 134, 3) := by decide +kernel
theorem dMod_isSound_19 : decode cMod_isSound 19 = .ok (.iload_n 2, 1) := by decide +kernel
theorem dMod_isSound_20 : decode cMod_isSound 20 = .ok (.iadd, 1) := by decide +kernel
theorem dMod_isSound_21 : decode cMod_isSound 21 = .ok (.iaload, 1) := by decide +kernel
theorem dMod_isSound_22 : decode cMod_isSound 22 = .ok (.iadd, 1) := by decide +kernel
theorem dMod_isSound_23 : decode cMod_isSound 23 = .ok (.istore_n 1, 1) := by decide +kernel
theorem dMod_isSound_24 : decode cMod_isSound 24 = .ok (.iinc 2 1, 3) := by decide +kernel
theorem dMod_isSound_27 : decode cMod_isSound 27 = .ok (.goto (-23), 3) := by decide +kernel
theorem dMod_isSound_30 : decode cMod_isSound 30 = .ok (.iload_n 1, 1) := by decide +kernel
theorem dMod_isSound_31 : decode cMod_isSound 31 = .ok (.sipush 255, 3) := by decide +kernel
theorem dMod_isSound_34 : decode cMod_isSound 34 = .ok (.iand, 1) := by decide +kernel
theorem dMod_isSound_35 : decode cMod_isSound 35 = .ok (.aload_n 0, 1) := by decide +kernel
theorem dMod_isSound_36 : decode cMod_isSound 36 = .ok (.getfield 43, 3) := by decide +kernel
theorem dMod_isSound_39 : decode cMod_isSound 39 = .ok (.aload_n 0, 1) := by decide +kernel
theorem dMod_isSound_40 : decode cMod_isSound 40 = .ok (.getfield 134, 3) := by decide +kernel
theorem dMod_isSound_43 : decode cMod_isSound 43 = .ok (.bipush 13, 2) := by decide +kernel
theorem dMod_isSound_45 : decode cMod_isSound 45 = .ok (.iadd, 1) := by decide +kernel
theorem dMod_isSound_46 : decode cMod_isSound 46 = .ok (.iaload, 1) := by decide +kernel
theorem dMod_isSound_47 : decode cMod_isSound 47 = .ok (.if_icmp .eq 5, 3) := by decide +kernel
theorem dMod_isSound_50 : decode cMod_isSound 50 = .ok (.iconst 0, 1) := by decide +kernel
theorem dMod_isSound_51 : decode cMod_isSound 51 = .ok (.ireturn, 1) := by decide +kernel
theorem dMod_isSound_52 : decode cMod_isSound 52 = .ok (.iconst 1, 1) := by decide +kernel
theorem dMod_isSound_53 : decode cMod_isSound 53 = .ok (.istore_n 2, 1) := by decide +kernel
theorem dMod_isSound_54 : decode cMod_isSound 54 = .ok (.iload_n 2, 1) := by decide +kernel
theorem dMod_isSound_55 : decode cMod_isSound 55 = .ok (.bipush 13, 2) := by decide +kernel
theorem dMod_isSound_57 : decode cMod_isSound 57 = .ok (.if_icmp .ge 37, 3) := by decide +kernel
theorem dMod_isSound_60 : decode cMod_isSound 60 = .ok (.aload_n 0, 1) := by decide +kernel
theorem dMod_isSound_61 : decode cMod_isSound 61 = .ok (.getfield 43, 3) := by decide +kernel
theorem dMod_isSound_64 : decode cMod_isSound 64 = .ok (.aload_n 0, 1) := by decide +kernel
theorem dMod_isSound_65 : decode cMod_isSound 65 = .ok (.getfield 134, 3) := by decide +kernel
theorem dMod_isSound_68 : decode cMod_isSound 68 = .ok (.iload_n 2, 1) := by decide +kernel
theorem dMod_isSound_69 : decode cMod_isSound 69 = .ok (.iadd, 1) := by decide +kernel
theorem dMod_isSound_70 : decode cMod_isSound 70 = .ok (.iaload, 1) := by decide +kernel
theorem dMod_isSound_71 : decode cMod_isSound 71 = .ok (.iload_n 2, 1) := by decide +kernel
theorem dMod_isSound_72 : decode cMod_isSound 72 = .ok (.iconst 5, 1) := by decide +kernel
theorem dMod_isSound_73 : decode cMod_isSound 73 = .ok (.if_icmp .ge 8, 3) := by decide +kernel
theorem dMod_isSound_76 : decode cMod_isSound 76 = .ok (.bipush 30, 2) := by decide +kernel
theorem dMod_isSound_78 : decode cMod_isSound 78 = .ok (.goto 5, 3) := by decide +kernel
theorem dMod_isSound_81 : decode cMod_isSound 81 = .ok (.bipush 63, 2) := by decide +kernel
theorem dMod_isSound_83 : decode cMod_isSound 83 = .ok (.if_icmp .le 5, 3) := by decide +kernel
theorem dMod_isSound_86 : decode cMod_isSound 86 = .ok (.iconst 0, 1) := by decide +kernel
theorem dMod_isSound_87 : decode cMod_isSound 87 = .ok (.ireturn, 1) := by decide +kernel
theorem dMod_isSound_88 : decode cMod_isSound 88 = .ok (.iinc 2 1, 3) := by decide +kernel
theorem dMod_isSound_91 : decode cMod_isSound 91 = .ok (.goto (-37), 3) := by decide +kernel
theorem dMod_isSound_94 : decode cMod_isSound 94 = .ok (.iconst 1, 1) := by decide +kernel
theorem dMod_isSound_95 : decode cMod_isSound 95 = .ok (.ireturn, 1) := by decide +kernel
theorem dMod_restore_0 : decode cMod_restore 0 = .ok (.aload_n 0, 1) := by decide +kernel
theorem dMod_restore_1 : decode cMod_restore 1 = .ok (.getfield 43, 3) := by decide +kernel
theorem dMod_restore_4 : decode cMod_restore 4 = .ok (.aload_n 0, 1) := by decide +kernel
theorem dMod_restore_5 : decode cMod_restore 5 = .ok (.getfield 134, 3) := by decide +kernel
theorem dMod_restore_8 : decode cMod_restore 8 = .ok (.iaload, 1) := by decide +kernel
theorem dMod_restore_9 : decode cMod_restore 9 = .ok (.istore_n 1, 1) := by decide +kernel
theorem dMod_restore_10 : decode cMod_restore 10 = .ok (.iconst 0, 1) := by decide +kernel
theorem dMod_restore_11 : decode cMod_restore 11 = .ok (.istore_n 2, 1) := by decide +kernel
theorem dMod_restore_12 : decode cMod_restore 12 = .ok (.iload_n 2, 1) := by decide +kernel
theorem dMod_restore_13 : decode cMod_restore 13 = .ok (.iconst 5, 1) := by decide +kernel
theorem dMod_restore_14 : decode cMod_restore 14 = .ok (.if_icmp .ge 16, 3) := by decide +kernel
theorem dMod_restore_17 : decode cMod_restore 17 = .ok (.aload_n 0, 1) := by decide +kernel
theorem dMod_restore_18 : decode cMod_restore 18 = .ok (.getfield 31, 3) := by decide +kernel
theorem dMod_restore_21 : decode cMod_restore 21 = .ok (.iload_n 2, 1) := by decide +kernel
theorem dMod_restore_22 : decode cMod_restore 22 = .ok (.fconst 0, 1) := by decide +kernel
theorem dMod_restore_23 : decode cMod_restore 23 = .ok (.fastore, 1) := by decide +kernel
theorem dMod_restore_24 : decode cMod_restore 24 = .ok (.iinc 2 1, 3) := by decide +kernel
theorem dMod_restore_27 : decode cMod_restore 27 = .ok (.goto (-15), 3) := by decide +kernel
theorem dMod_restore_30 : decode cMod_restore 30 = .ok (.iconst 1, 1) := by decide +kernel
theorem dMod_restore_31 : decode cMod_restore 31 = .ok (.istore_n 2, 1) := by decide +kernel
theorem dMod_restore_32 : decode cMod_restore 32 = .ok (.iload_n 2, 1) := by decide +kernel
theorem dMod_restore_33 : decode cMod_restore 33 = .ok (.iconst 5, 1) := by decide +kernel
theorem dMod_restore_34 : decode cMod_restore 34 = .ok (.if_icmp .ge 28, 3) := by decide +kernel
theorem dMod_restore_37 : decode cMod_restore 37 = .ok (.aload_n 0, 1) := by decide +kernel
theorem dMod_restore_38 : decode cMod_restore 38 = .ok (.iload_n 2, 1) := by decide +kernel
theorem dMod_restore_39 : decode cMod_restore 39 = .ok (.aload_n 0, 1) := by decide +kernel
theorem dMod_restore_40 : decode cMod_restore 40 = .ok (.getfield 43, 3) := by decide +kernel
theorem dMod_restore_43 : decode cMod_restore 43 = .ok (.aload_n 0, 1) := by decide +kernel
theorem dMod_restore_44 : decode cMod_restore 44 = .ok (.getfield 134, 3) := by decide +kernel
theorem dMod_restore_47 : decode cMod_restore 47 = .ok (.iload_n 2, 1) := by decide +kernel
theorem dMod_restore_48 : decode cMod_restore 48 = .ok (.iadd, 1) := by decide +kernel
theorem dMod_restore_49 : decode cMod_restore 49 = .ok (.iaload, 1) := by decide +kernel
theorem dMod_restore_50 : decode cMod_restore 50 = .ok (.bipush 15, 2) := by decide +kernel
theorem dMod_restore_52 : decode cMod_restore 52 = .ok (.isub, 1) := by decide +kernel
theorem dMod_restore_53 : decode cMod_restore 53 = .ok (.invokevirtual 84, 3) := by decide +kernel
theorem dMod_restore_56 : decode cMod_restore 56 = .ok (.iinc 2 1, 3) := by decide +kernel
theorem dMod_restore_59 : decode cMod_restore 59 = .ok (.goto (-27), 3) := by decide +kernel
theorem dMod_restore_62 : decode cMod_restore 62 = .ok (.iload_n 1, 1) := by decide +kernel
theorem dMod_restore_63 : decode cMod_restore 63 = .ok (.bipush 15, 2) := by decide +kernel
theorem dMod_restore_65 : decode cMod_restore 65 = .ok (.iand, 1) := by decide +kernel
theorem dMod_restore_66 : decode cMod_restore 66 = .ok (.iload_n 1, 1) := by decide +kernel
theorem dMod_restore_67 : decode cMod_restore 67 = .ok (.sipush 128, 3) := by decide +kernel
theorem dMod_restore_70 : decode cMod_restore 70 = .ok (.if_icmp .le 7, 3) := by decide +kernel
theorem dMod_restore_73 : decode cMod_restore 73 = .ok (.iconst 1, 1) := by decide +kernel
theorem dMod_restore_74 : decode cMod_restore 74 = .ok (.goto 4, 3) := by decide +kernel
theorem dMod_restore_77 : decode cMod_restore 77 = .ok (.iconst 0, 1) := by decide +kernel
theorem dMod_restore_78 : decode cMod_restore 78 = .ok (.invokestatic 89, 3) := by decide +kernel
theorem dMod_restore_81 : decode cMod_restore 81 = .ok (.fstore_n 2, 1) := by decide +kernel
theorem dMod_restore_82 : decode cMod_restore 82 = .ok (.iconst 0, 1) := by decide +kernel
theorem dMod_restore_83 : decode cMod_restore 83 = .ok (.istore_n 3, 1) := by decide +kernel
theorem dMod_restore_84 : decode cMod_restore 84 = .ok (.iload_n 3, 1) := by decide +kernel
theorem dMod_restore_85 : decode cMod_restore 85 = .ok (.bipush 16, 2) := by decide +kernel
theorem dMod_restore_87 : decode cMod_restore 87 = .ok (.if_icmp .ge 74, 3) := by decide +kernel
theorem dMod_restore_90 : decode cMod_restore 90 = .ok (.aload_n 0, 1) := by decide +kernel
theorem dMod_restore_91 : decode cMod_restore 91 = .ok (.getfield 43, 3) := by decide +kernel
theorem dMod_restore_94 : decode cMod_restore 94 = .ok (.aload_n 0, 1) := by decide +kernel
theorem dMod_restore_95 : decode cMod_restore 95 = .ok (.getfield 134, 3) := by decide +kernel
theorem dMod_restore_98 : decode cMod_restore 98 = .ok (.iconst 5, 1) := by decide +kernel
theorem dMod_restore_99 : decode cMod_restore 99 = .ok (.iadd, 1) := by decide +kernel
theorem dMod_restore_100 : decode cMod_restore 100 = .ok (.iload_n 3, 1) := by decide +kernel
theorem dMod_restore_101 : decode cMod_restore 101 = .ok (.iconst 2, 1) := by decide +kernel
theorem dMod_restore_102 : decode cMod_restore 102 = .ok (.idiv, 1) := by decide +kernel
theorem dMod_restore_103 : decode cMod_restore 103 = .ok (.iadd, 1) := by decide +kernel
theorem dMod_restore_104 : decode cMod_restore 104 = .ok (.iaload, 1) := by decide +kernel
theorem dMod_restore_105 : decode cMod_restore 105 = .ok (.istore 4, 2) := by decide +kernel
theorem dMod_restore_107 : decode cMod_restore 107 = .ok (.iload_n 3, 1) := by decide +kernel
theorem dMod_restore_108 : decode cMod_restore 108 = .ok (.iconst 2, 1) := by decide +kernel
theorem dMod_restore_109 : decode cMod_restore 109 = .ok (.irem, 1) := by decide +kernel
theorem dMod_restore_110 : decode cMod_restore 110 = .ok (.ifCond .ne 11, 3) := by decide +kernel
theorem dMod_restore_113 : decode cMod_restore 113 = .ok (.iload 4, 2) := by decide +kernel
theorem dMod_restore_115 : decode cMod_restore 115 = .ok (.bipush 8, 2) := by decide +kernel
theorem dMod_restore_117 : decode cMod_restore 117 = .ok (.idiv, 1) := by decide +kernel
theorem dMod_restore_118 : decode cMod_restore 118 = .ok (.goto 8, 3) := by decide +kernel
theorem dMod_restore_121 : decode cMod_restore 121 = .ok (.iload 4, 2) := by decide +kernel
theorem dMod_restore_123 : decode cMod_restore 123 = .ok (.bipush 8, 2) := by decide +kernel
theorem dMod_restore_125 : decode cMod_restore 125 = .ok (.irem, 1) := by decide +kernel
theorem dMod_restore_126 : decode cMod_restore 126 = .ok (.iconst 4, 1) := by decide +kernel
theorem dMod_restore_127 : decode cMod_restore 127 = .ok (.isub, 1) := by decide +kernel
theorem dMod_restore_128 : decode cMod_restore 128 = .ok (.istore 5, 2) := by decide +kernel
theorem dMod_restore_130 : decode cMod_restore 130 = .ok (.aload_n 0, 1) := by decide +kernel
theorem dMod_restore_131 : decode cMod_restore 131 = .ok (.iload_n 3, 1) := by decide +kernel
theorem dMod_restore_132 : decode cMod_restore 132 = .ok (.iconst 0, 1) := by decide +kernel
theorem dMod_restore_133 : decode cMod_restore 133 = .ok (.invokevirtual 92, 3) := by decide +kernel
theorem dMod_restore_136 : decode cMod_restore 136 = .ok (.fstore 6, 2) := by decide +kernel
theorem dMod_restore_138 : decode cMod_restore 138 = .ok (.aload_n 0, 1) := by decide +kernel
theorem dMod_restore_139 : decode cMod_restore 139 = .ok (.getfield 16, 3) := by decide +kernel
theorem dMod_restore_142 : decode cMod_restore 142 = .ok (.iload_n 3, 1) := by decide +kernel
theorem dMod_restore_143 : decode cMod_restore 143 = .ok (.fload 6, 2) := by decide +kernel
theorem dMod_restore_145 : decode cMod_restore 145 = .ok (.iload 5, 2) := by decide +kernel
theorem dMod_restore_147 : decode cMod_restore 147 = .ok (.i2f, 1) := by decide +kernel
theorem dMod_restore_148 : decode cMod_restore 148 = .ok (.fload_n 2, 1) := by decide +kernel
theorem dMod_restore_149 : decode cMod_restore 149 = .ok (.fmul, 1) := by decide +kernel
theorem dMod_restore_150 : decode cMod_restore 150 = .ok (.fadd, 1) := by decide +kernel
theorem dMod_restore_151 : decode cMod_restore 151 = .ok (.invokestatic 99, 3) := by decide +kernel
theorem dMod_restore_154 : decode cMod_restore 154 = .ok (.fastore, 1) := by decide +kernel
theorem dMod_restore_155 : decode cMod_restore 155 = .ok (.iinc 3 1, 3) := by decide +kernel
theorem dMod_restore_158 : decode cMod_restore 158 = .ok (.goto (-74), 3) := by decide +kernel
theorem dMod_restore_161 : decode cMod_restore 161 = .ok (.iconst 0, 1) := by decide +kernel
theorem dMod_restore_162 : decode cMod_restore 162 = .ok (.istore_n 3, 1) := by decide +kernel
theorem dMod_restore_163 : decode cMod_restore 163 = .ok (.iload_n 3, 1) := by decide +kernel
theorem dMod_restore_164 : decode cMod_restore 164 = .ok (.iconst 5, 1) := by decide +kernel
theorem dMod_restore_165 : decode cMod_restore 165 = .ok (.if_icmp .ge 21, 3) := by decide +kernel
theorem dMod_restore_168 : decode cMod_restore 168 = .ok (.aload_n 0, 1) := by decide +kernel
theorem dMod_restore_169 : decode cMod_restore 169 = .ok (.getfield 37, 3) := by decide +kernel
theorem dMod_restore_172 : decode cMod_restore 172 = .ok (.iload_n 3, 1) := by decide +kernel
theorem dMod_restore_173 : decode cMod_restore 173 = .ok (.aload_n 0, 1) := by decide +kernel
theorem dMod_restore_174 : decode cMod_restore 174 = .ok (.getfield 31, 3) := by decide +kernel
theorem dMod_restore_177 : decode cMod_restore 177 = .ok (.iload_n 3, 1) := by decide +kernel
theorem dMod_restore_178 : decode cMod_restore 178 = .ok (.faload, 1) := by decide +kernel
theorem dMod_restore_179 : decode cMod_restore 179 = .ok (.fastore, 1) := by decide +kernel
theorem dMod_restore_180 : decode cMod_restore 180 = .ok (.iinc 3 1, 3) := by decide +kernel
theorem dMod_restore_183 : decode cMod_restore 183 = .ok (.goto (-20), 3) := by decide +kernel
theorem dMod_restore_186 : decode cMod_restore 186 = .ok (.return_, 1) := by decide +kernel
theorem dMod_makeUp_0 : decode cMod_makeUp 0 = .ok (.iconst 0, 1) := by decide +kernel
theorem dMod_makeUp_1 : decode cMod_makeUp 1 = .ok (.istore_n 1, 1) := by decide +kernel
theorem dMod_makeUp_2 : decode cMod_makeUp 2 = .ok (.iload_n 1, 1) := by decide +kernel
theorem dMod_makeUp_3 : decode cMod_makeUp 3 = .ok (.iconst 5, 1) := by decide +kernel
theorem dMod_makeUp_4 : decode cMod_makeUp 4 = .ok (.if_icmp .ge 21, 3) := by decide +kernel
theorem dMod_makeUp_7 : decode cMod_makeUp 7 = .ok (.aload_n 0, 1) := by decide +kernel
theorem dMod_makeUp_8 : decode cMod_makeUp 8 = .ok (.getfield 31, 3) := by decide +kernel
theorem dMod_makeUp_11 : decode cMod_makeUp 11 = .ok (.iload_n 1, 1) := by decide +kernel
theorem dMod_makeUp_12 : decode cMod_makeUp 12 = .ok (.aload_n 0, 1) := by decide +kernel
theorem dMod_makeUp_13 : decode cMod_makeUp 13 = .ok (.getfield 37, 3) := by decide +kernel
theorem dMod_makeUp_16 : decode cMod_makeUp 16 = .ok (.iload_n 1, 1) := by decide +kernel
theorem dMod_makeUp_17 : decode cMod_makeUp 17 = .ok (.faload, 1) := by decide +kernel
theorem dMod_makeUp_18 : decode cMod_makeUp 18 = .ok (.fastore, 1) := by decide +kernel
theorem dMod_makeUp_19 : decode cMod_makeUp 19 = .ok (.iinc 1 1, 3) := by decide +kernel
theorem dMod_makeUp_22 : decode cMod_makeUp 22 = .ok (.goto (-20), 3) := by decide +kernel
theorem dMod_makeUp_25 : decode cMod_makeUp 25 = .ok (.iconst 0, 1) := by decide +kernel
theorem dMod_makeUp_26 : decode cMod_makeUp 26 = .ok (.istore_n 1, 1) := by decide +kernel
theorem dMod_makeUp_27 : decode cMod_makeUp 27 = .ok (.iload_n 1, 1) := by decide +kernel
theorem dMod_makeUp_28 : decode cMod_makeUp 28 = .ok (.bipush 16, 2) := by decide +kernel
theorem dMod_makeUp_30 : decode cMod_makeUp 30 = .ok (.if_icmp .ge 29, 3) := by decide +kernel
theorem dMod_makeUp_33 : decode cMod_makeUp 33 = .ok (.aload_n 0, 1) := by decide +kernel
theorem dMod_makeUp_34 : decode cMod_makeUp 34 = .ok (.iload_n 1, 1) := by decide +kernel
theorem dMod_makeUp_35 : decode cMod_makeUp 35 = .ok (.iconst 0, 1) := by decide +kernel
theorem dMod_makeUp_36 : decode cMod_makeUp 36 = .ok (.invokevirtual 92, 3) := by decide +kernel
theorem dMod_makeUp_39 : decode cMod_makeUp 39 = .ok (.fstore_n 2, 1) := by decide +kernel
theorem dMod_makeUp_40 : decode cMod_makeUp 40 = .ok (.aload_n 0, 1) := by decide +kernel
theorem dMod_makeUp_41 : decode cMod_makeUp 41 = .ok (.getfield 16, 3) := by decide +kernel
theorem dMod_makeUp_44 : decode cMod_makeUp 44 = .ok (.iload_n 1, 1) := by decide +kernel
theorem dMod_makeUp_45 : decode cMod_makeUp 45 = .ok (.fload_n 2, 1) := by decide +kernel
theorem dMod_makeUp_46 : decode cMod_makeUp 46 = .ok (.ldc 137, 2) := by decide +kernel
theorem dMod_makeUp_48 : decode cMod_makeUp 48 = .ok (.fmul, 1) := by decide +kernel
theorem dMod_makeUp_49 : decode cMod_makeUp 49 = .ok (.invokestatic 99, 3) := by decide +kernel
theorem dMod_makeUp_52 : decode cMod_makeUp 52 = .ok (.fastore, 1) := by decide +kernel
theorem dMod_makeUp_53 : decode cMod_makeUp 53 = .ok (.iinc 1 1, 3) := by decide +kernel
theorem dMod_makeUp_56 : decode cMod_makeUp 56 = .ok (.goto (-29), 3) := by decide +kernel
theorem dMod_makeUp_59 : decode cMod_makeUp 59 = .ok (.aload_n 0, 1) := by decide +kernel
theorem dMod_makeUp_60 : decode cMod_makeUp 60 = .ok (.dup, 1) := by decide +kernel
theorem dMod_makeUp_61 : decode cMod_makeUp 61 = .ok (.getfield 138, 3) := by decide +kernel
theorem dMod_makeUp_64 : decode cMod_makeUp 64 = .ok (.iconst 1, 1) := by decide +kernel
theorem dMod_makeUp_65 : decode cMod_makeUp 65 = .ok (.iadd, 1) := by decide +kernel
theorem dMod_makeUp_66 : decode cMod_makeUp 66 = .ok (.putfield 138, 3) := by decide +kernel
theorem dMod_makeUp_69 : decode cMod_makeUp 69 = .ok (.return_, 1) := by decide +kernel
theorem dMod_out_0 : decode cMod_out 0 = .ok (.aload_n 0, 1) := by decide +kernel
theorem dMod_out_1 : decode cMod_out 1 = .ok (.iload_n 2, 1) := by decide +kernel
theorem dMod_out_2 : decode cMod_out 2 = .ok (.iconst 0, 1) := by decide +kernel
theorem dMod_out_3 : decode cMod_out 3 = .ok (.bipush 15, 2) := by decide +kernel
theorem dMod_out_5 : decode cMod_out 5 = .ok (.invokestatic 141, 3) := by decide +kernel
theorem dMod_out_8 : decode cMod_out 8 = .ok (.ifCond .eq 28, 3) := by decide +kernel
theorem dMod_out_11 : decode cMod_out 11 = .ok (.iload_n 1, 1) := by decide +kernel
theorem dMod_out_12 : decode cMod_out 12 = .ok (.ifCond .eq 13, 3) := by decide +kernel
theorem dMod_out_15 : decode cMod_out 15 = .ok (.aload_n 0, 1) := by decide +kernel
theorem dMod_out_16 : decode cMod_out 16 = .ok (.getfield 158, 3) := by decide +kernel
theorem dMod_out_19 : decode cMod_out 19 = .ok (.ifCond .eq 17, 3) := by decide +kernel
theorem dMod_out_22 : decode cMod_out 22 = .ok (.goto 10, 3) := by decide +kernel
theorem dMod_out_25 : decode cMod_out 25 = .ok (.aload_n 0, 1) := by decide +kernel
theorem dMod_out_26 : decode cMod_out 26 = .ok (.getfield 128, 3) := by decide +kernel
theorem dMod_out_29 : decode cMod_out 29 = .ok (.ifCond .eq 7, 3) := by decide +kernel
theorem dMod_out_32 : decode cMod_out 32 = .ok (.iconst 0, 1) := by decide +kernel
theorem dMod_out_33 : decode cMod_out 33 = .ok (.goto 4, 3) := by decide +kernel
theorem dMod_out_36 : decode cMod_out 36 = .ok (.iconst 1, 1) := by decide +kernel
theorem dMod_out_37 : decode cMod_out 37 = .ok (.putfield 56, 3) := by decide +kernel
theorem dMod_out_40 : decode cMod_out 40 = .ok (.aload_n 0, 1) := by decide +kernel
theorem dMod_out_41 : decode cMod_out 41 = .ok (.getfield 56, 3) := by decide +kernel
theorem dMod_out_44 : decode cMod_out 44 = .ok (.ifCond .le 7, 3) := by decide +kernel
theorem dMod_out_47 : decode cMod_out 47 = .ok (.dconst 0, 1) := by decide +kernel
theorem dMod_out_48 : decode cMod_out 48 = .ok (.goto 24, 3) := by decide +kernel
theorem dMod_out_51 : decode cMod_out 51 = .ok (.iload_n 1, 1) := by decide +kernel
theorem dMod_out_52 : decode cMod_out 52 = .ok (.ifCond .eq 13, 3) := by decide +kernel
theorem dMod_out_55 : decode cMod_out 55 = .ok (.aload_n 0, 1) := by decide +kernel
theorem dMod_out_56 : decode cMod_out 56 = .ok (.getfield 22, 3) := by decide +kernel
theorem dMod_out_59 : decode cMod_out 59 = .ok (.iload_n 2, 1) := by decide +kernel
theorem dMod_out_60 : decode cMod_out 60 = .ok (.faload, 1) := by decide +kernel
theorem dMod_out_61 : decode cMod_out 61 = .ok (.f2d, 1) := by decide +kernel
theorem dMod_out_62 : decode cMod_out 62 = .ok (.goto 10, 3) := by decide +kernel
theorem dMod_out_65 : decode cMod_out 65 = .ok (.aload_n 0, 1) := by decide +kernel
theorem dMod_out_66 : decode cMod_out 66 = .ok (.getfield 19, 3) := by decide +kernel
theorem dMod_out_69 : decode cMod_out 69 = .ok (.iload_n 2, 1) := by decide +kernel
theorem dMod_out_70 : decode cMod_out 70 = .ok (.faload, 1) := by decide +kernel
theorem dMod_out_71 : decode cMod_out 71 = .ok (.f2d, 1) := by decide +kernel
theorem dMod_out_72 : decode cMod_out 72 = .ok (.dreturn, 1) := by decide +kernel
theorem dMod_code_0 : decode cMod_code 0 = .ok (.iload_n 1, 1) := by decide +kernel
theorem dMod_code_1 : decode cMod_code 1 = .ok (.iconst 0, 1) := by decide +kernel
theorem dMod_code_2 : decode cMod_code 2 = .ok (.bipush 6, 2) := by decide +kernel
theorem dMod_code_4 : decode cMod_code 4 = .ok (.invokestatic 141, 3) := by decide +kernel
theorem dMod_code_7 : decode cMod_code 7 = .ok (.ifCond .ne 9, 3) := by decide +kernel
theorem dMod_code_10 : decode cMod_code 10 = .ok (.aload_n 0, 1) := by decide +kernel
theorem dMod_code_11 : decode cMod_code 11 = .ok (.iconst 1, 1) := by decide +kernel
theorem dMod_code_12 : decode cMod_code 12 = .ok (.invokevirtual 64, 3) := by decide +kernel
theorem dMod_code_15 : decode cMod_code 15 = .ok (.ireturn, 1) := by decide +kernel
theorem dMod_code_16 : decode cMod_code 16 = .ok (.aload_n 0, 1) := by decide +kernel
theorem dMod_code_17 : decode cMod_code 17 = .ok (.iconst 0, 1) := by decide +kernel
theorem dMod_code_18 : decode cMod_code 18 = .ok (.putfield 56, 3) := by decide +kernel
theorem dMod_code_21 : decode cMod_code 21 = .ok (.aload_n 0, 1) := by decide +kernel
theorem dMod_code_22 : decode cMod_code 22 = .ok (.getfield 53, 3) := by decide +kernel
theorem dMod_code_25 : decode cMod_code 25 = .ok (.iload_n 1, 1) := by decide +kernel
theorem dMod_code_26 : decode cMod_code 26 = .ok (.iaload, 1) := by decide +kernel
theorem dMod_code_27 : decode cMod_code 27 = .ok (.ireturn, 1) := by decide +kernel
theorem dMod_stream_0 : decode cMod_stream 0 = .ok (.aload_n 0, 1) := by decide +kernel
theorem dMod_stream_1 : decode cMod_stream 1 = .ok (.iload_n 1, 1) := by decide +kernel
theorem dMod_stream_2 : decode cMod_stream 2 = .ok (.iconst (-1), 1) := by decide +kernel
theorem dMod_stream_3 : decode cMod_stream 3 = .ok (.aload_n 0, 1) := by decide +kernel
theorem dMod_stream_4 : decode cMod_stream 4 = .ok (.getfield 104, 3) := by decide +kernel
theorem dMod_stream_7 : decode cMod_stream 7 = .ok (.iconst 1, 1) := by decide +kernel
theorem dMod_stream_8 : decode cMod_stream 8 = .ok (.isub, 1) := by decide +kernel
theorem dMod_stream_9 : decode cMod_stream 9 = .ok (.invokestatic 141, 3) := by decide +kernel
theorem dMod_stream_12 : decode cMod_stream 12 = .ok (.ifCond .eq 7, 3) := by decide +kernel
theorem dMod_stream_15 : decode cMod_stream 15 = .ok (.iconst 0, 1) := by decide +kernel
theorem dMod_stream_16 : decode cMod_stream 16 = .ok (.goto 4, 3) := by decide +kernel
theorem dMod_stream_19 : decode cMod_stream 19 = .ok (.iconst 1, 1) := by decide +kernel
theorem dMod_stream_20 : decode cMod_stream 20 = .ok (.putfield 56, 3) := by decide +kernel
theorem dMod_stream_23 : decode cMod_stream 23 = .ok (.aload_n 0, 1) := by decide +kernel
theorem dMod_stream_24 : decode cMod_stream 24 = .ok (.getfield 56, 3) := by decide +kernel
theorem dMod_stream_27 : decode cMod_stream 27 = .ok (.ifCond .le 7, 3) := by decide +kernel
theorem dMod_stream_30 : decode cMod_stream 30 = .ok (.iconst 0, 1) := by decide +kernel
theorem dMod_stream_31 : decode cMod_stream 31 = .ok (.goto 20, 3) := by decide +kernel
theorem dMod_stream_34 : decode cMod_stream 34 = .ok (.iload_n 1, 1) := by decide +kernel
theorem dMod_stream_35 : decode cMod_stream 35 = .ok (.ifCond .ge 10, 3) := by decide +kernel
theorem dMod_stream_38 : decode cMod_stream 38 = .ok (.aload_n 0, 1) := by decide +kernel
theorem dMod_stream_39 : decode cMod_stream 39 = .ok (.getfield 104, 3) := by decide +kernel
theorem dMod_stream_42 : decode cMod_stream 42 = .ok (.goto 9, 3) := by decide +kernel
theorem dMod_stream_45 : decode cMod_stream 45 = .ok (.aload_n 0, 1) := by decide +kernel
theorem dMod_stream_46 : decode cMod_stream 46 = .ok (.getfield 43, 3) := by decide +kernel
theorem dMod_stream_49 : decode cMod_stream 49 = .ok (.iload_n 1, 1) := by decide +kernel
theorem dMod_stream_50 : decode cMod_stream 50 = .ok (.iaload, 1) := by decide +kernel
theorem dMod_stream_51 : decode cMod_stream 51 = .ok (.ireturn, 1) := by decide +kernel
theorem dMod_damage_0 : decode cMod_damage 0 = .ok (.iload_n 2, 1) := by decide +kernel
theorem dMod_damage_1 : decode cMod_damage 1 = .ok (.iconst 0, 1) := by decide +kernel
theorem dMod_damage_2 : decode cMod_damage 2 = .ok (.sipush 255, 3) := by decide +kernel
theorem dMod_damage_5 : decode cMod_damage 5 = .ok (.invokestatic 141, 3) := by decide +kernel
theorem dMod_damage_8 : decode cMod_damage 8 = .ok (.ifCond .ne 9, 3) := by decide +kernel
theorem dMod_damage_11 : decode cMod_damage 11 = .ok (.aload_n 0, 1) := by decide +kernel
theorem dMod_damage_12 : decode cMod_damage 12 = .ok (.iconst 1, 1) := by decide +kernel
theorem dMod_damage_13 : decode cMod_damage 13 = .ok (.invokevirtual 64, 3) := by decide +kernel
theorem dMod_damage_16 : decode cMod_damage 16 = .ok (.ireturn, 1) := by decide +kernel
theorem dMod_damage_17 : decode cMod_damage 17 = .ok (.iload_n 1, 1) := by decide +kernel
theorem dMod_damage_18 : decode cMod_damage 18 = .ok (.iconst 0, 1) := by decide +kernel
theorem dMod_damage_19 : decode cMod_damage 19 = .ok (.aload_n 0, 1) := by decide +kernel
theorem dMod_damage_20 : decode cMod_damage 20 = .ok (.getfield 104, 3) := by decide +kernel
theorem dMod_damage_23 : decode cMod_damage 23 = .ok (.iconst 1, 1) := by decide +kernel
theorem dMod_damage_24 : decode cMod_damage 24 = .ok (.isub, 1) := by decide +kernel
theorem dMod_damage_25 : decode cMod_damage 25 = .ok (.invokestatic 141, 3) := by decide +kernel
theorem dMod_damage_28 : decode cMod_damage 28 = .ok (.ifCond .ne 9, 3) := by decide +kernel
theorem dMod_damage_31 : decode cMod_damage 31 = .ok (.aload_n 0, 1) := by decide +kernel
theorem dMod_damage_32 : decode cMod_damage 32 = .ok (.iconst 2, 1) := by decide +kernel
theorem dMod_damage_33 : decode cMod_damage 33 = .ok (.invokevirtual 64, 3) := by decide +kernel
theorem dMod_damage_36 : decode cMod_damage 36 = .ok (.ireturn, 1) := by decide +kernel
theorem dMod_damage_37 : decode cMod_damage 37 = .ok (.aload_n 0, 1) := by decide +kernel
theorem dMod_damage_38 : decode cMod_damage 38 = .ok (.iconst 0, 1) := by decide +kernel
theorem dMod_damage_39 : decode cMod_damage 39 = .ok (.putfield 56, 3) := by decide +kernel
theorem dMod_damage_42 : decode cMod_damage 42 = .ok (.aload_n 0, 1) := by decide +kernel
theorem dMod_damage_43 : decode cMod_damage 43 = .ok (.getfield 43, 3) := by decide +kernel
theorem dMod_damage_46 : decode cMod_damage 46 = .ok (.iload_n 1, 1) := by decide +kernel
theorem dMod_damage_47 : decode cMod_damage 47 = .ok (.iaload, 1) := by decide +kernel
theorem dMod_damage_48 : decode cMod_damage 48 = .ok (.istore_n 3, 1) := by decide +kernel
theorem dMod_damage_49 : decode cMod_damage 49 = .ok (.aload_n 0, 1) := by decide +kernel
theorem dMod_damage_50 : decode cMod_damage 50 = .ok (.getfield 43, 3) := by decide +kernel
theorem dMod_damage_53 : decode cMod_damage 53 = .ok (.iload_n 1, 1) := by decide +kernel
theorem dMod_damage_54 : decode cMod_damage 54 = .ok (.iload_n 2, 1) := by decide +kernel
theorem dMod_damage_55 : decode cMod_damage 55 = .ok (.iastore, 1) := by decide +kernel
theorem dMod_damage_56 : decode cMod_damage 56 = .ok (.iload_n 3, 1) := by decide +kernel
theorem dMod_damage_57 : decode cMod_damage 57 = .ok (.ireturn, 1) := by decide +kernel
theorem dMod_cut_0 : decode cMod_cut 0 = .ok (.iload_n 1, 1) := by decide +kernel
theorem dMod_cut_1 : decode cMod_cut 1 = .ok (.iconst 0, 1) := by decide +kernel
theorem dMod_cut_2 : decode cMod_cut 2 = .ok (.aload_n 0, 1) := by decide +kernel
theorem dMod_cut_3 : decode cMod_cut 3 = .ok (.getfield 104, 3) := by decide +kernel
theorem dMod_cut_6 : decode cMod_cut 6 = .ok (.aload_n 0, 1) := by decide +kernel
theorem dMod_cut_7 : decode cMod_cut 7 = .ok (.getfield 134, 3) := by decide +kernel
theorem dMod_cut_10 : decode cMod_cut 10 = .ok (.isub, 1) := by decide +kernel
theorem dMod_cut_11 : decode cMod_cut 11 = .ok (.invokestatic 141, 3) := by decide +kernel
theorem dMod_cut_14 : decode cMod_cut 14 = .ok (.ifCond .ne 9, 3) := by decide +kernel
theorem dMod_cut_17 : decode cMod_cut 17 = .ok (.aload_n 0, 1) := by decide +kernel
theorem dMod_cut_18 : decode cMod_cut 18 = .ok (.iconst 1, 1) := by decide +kernel
theorem dMod_cut_19 : decode cMod_cut 19 = .ok (.invokevirtual 64, 3) := by decide +kernel
theorem dMod_cut_22 : decode cMod_cut 22 = .ok (.ireturn, 1) := by decide +kernel
theorem dMod_cut_23 : decode cMod_cut 23 = .ok (.aload_n 0, 1) := by decide +kernel
theorem dMod_cut_24 : decode cMod_cut 24 = .ok (.iconst 0, 1) := by decide +kernel
theorem dMod_cut_25 : decode cMod_cut 25 = .ok (.putfield 56, 3) := by decide +kernel
theorem dMod_cut_28 : decode cMod_cut 28 = .ok (.aload_n 0, 1) := by decide +kernel
theorem dMod_cut_29 : decode cMod_cut 29 = .ok (.dup, 1) := by decide +kernel
theorem dMod_cut_30 : decode cMod_cut 30 = .ok (.getfield 104, 3) := by decide +kernel
theorem dMod_cut_33 : decode cMod_cut 33 = .ok (.iload_n 1, 1) := by decide +kernel
theorem dMod_cut_34 : decode cMod_cut 34 = .ok (.isub, 1) := by decide +kernel
theorem dMod_cut_35 : decode cMod_cut 35 = .ok (.putfield 104, 3) := by decide +kernel
theorem dMod_cut_38 : decode cMod_cut 38 = .ok (.aload_n 0, 1) := by decide +kernel
theorem dMod_cut_39 : decode cMod_cut 39 = .ok (.getfield 104, 3) := by decide +kernel
theorem dMod_cut_42 : decode cMod_cut 42 = .ok (.ireturn, 1) := by decide +kernel
theorem dMod_reset_0 : decode cMod_reset 0 = .ok (.aload_n 0, 1) := by decide +kernel
theorem dMod_reset_1 : decode cMod_reset 1 = .ok (.iconst 0, 1) := by decide +kernel
theorem dMod_reset_2 : decode cMod_reset 2 = .ok (.putfield 56, 3) := by decide +kernel
theorem dMod_reset_5 : decode cMod_reset 5 = .ok (.aload_n 0, 1) := by decide +kernel
theorem dMod_reset_6 : decode cMod_reset 6 = .ok (.getfield 104, 3) := by decide +kernel
theorem dMod_reset_9 : decode cMod_reset 9 = .ok (.istore_n 1, 1) := by decide +kernel
theorem dMod_reset_10 : decode cMod_reset 10 = .ok (.aload_n 0, 1) := by decide +kernel
theorem dMod_reset_11 : decode cMod_reset 11 = .ok (.iconst 0, 1) := by decide +kernel
theorem dMod_reset_12 : decode cMod_reset 12 = .ok (.putfield 104, 3) := by decide +kernel
theorem dMod_reset_15 : decode cMod_reset 15 = .ok (.aload_n 0, 1) := by decide +kernel
theorem dMod_reset_16 : decode cMod_reset 16 = .ok (.iconst 0, 1) := by decide +kernel
theorem dMod_reset_17 : decode cMod_reset 17 = .ok (.putfield 134, 3) := by decide +kernel
theorem dMod_reset_20 : decode cMod_reset 20 = .ok (.aload_n 0, 1) := by decide +kernel
theorem dMod_reset_21 : decode cMod_reset 21 = .ok (.iconst 0, 1) := by decide +kernel
theorem dMod_reset_22 : decode cMod_reset 22 = .ok (.putfield 131, 3) := by decide +kernel
theorem dMod_reset_25 : decode cMod_reset 25 = .ok (.aload_n 0, 1) := by decide +kernel
theorem dMod_reset_26 : decode cMod_reset 26 = .ok (.iconst 0, 1) := by decide +kernel
theorem dMod_reset_27 : decode cMod_reset 27 = .ok (.putfield 161, 3) := by decide +kernel
theorem dMod_reset_30 : decode cMod_reset 30 = .ok (.aload_n 0, 1) := by decide +kernel
theorem dMod_reset_31 : decode cMod_reset 31 = .ok (.iconst 0, 1) := by decide +kernel
theorem dMod_reset_32 : decode cMod_reset 32 = .ok (.putfield 149, 3) := by decide +kernel
theorem dMod_reset_35 : decode cMod_reset 35 = .ok (.aload_n 0, 1) := by decide +kernel
theorem dMod_reset_36 : decode cMod_reset 36 = .ok (.iconst 0, 1) := by decide +kernel
theorem dMod_reset_37 : decode cMod_reset 37 = .ok (.putfield 138, 3) := by decide +kernel
theorem dMod_reset_40 : decode cMod_reset 40 = .ok (.aload_n 0, 1) := by decide +kernel
theorem dMod_reset_41 : decode cMod_reset 41 = .ok (.iconst 0, 1) := by decide +kernel
theorem dMod_reset_42 : decode cMod_reset 42 = .ok (.putfield 128, 3) := by decide +kernel
theorem dMod_reset_45 : decode cMod_reset 45 = .ok (.aload_n 0, 1) := by decide +kernel
theorem dMod_reset_46 : decode cMod_reset 46 = .ok (.iconst 0, 1) := by decide +kernel
theorem dMod_reset_47 : decode cMod_reset 47 = .ok (.putfield 158, 3) := by decide +kernel
theorem dMod_reset_50 : decode cMod_reset 50 = .ok (.iconst 0, 1) := by decide +kernel
theorem dMod_reset_51 : decode cMod_reset 51 = .ok (.istore_n 2, 1) := by decide +kernel
theorem dMod_reset_52 : decode cMod_reset 52 = .ok (.iload_n 2, 1) := by decide +kernel
theorem dMod_reset_53 : decode cMod_reset 53 = .ok (.iconst 4, 1) := by decide +kernel
theorem dMod_reset_54 : decode cMod_reset 54 = .ok (.if_icmp .ge 23, 3) := by decide +kernel
theorem dMod_reset_57 : decode cMod_reset 57 = .ok (.aload_n 0, 1) := by decide +kernel
theorem dMod_reset_58 : decode cMod_reset 58 = .ok (.getfield 25, 3) := by decide +kernel
theorem dMod_reset_61 : decode cMod_reset 61 = .ok (.iload_n 2, 1) := by decide +kernel
theorem dMod_reset_62 : decode cMod_reset 62 = .ok (.fconst 0, 1) := by decide +kernel
theorem dMod_reset_63 : decode cMod_reset 63 = .ok (.fastore, 1) := by decide +kernel
theorem dMod_reset_64 : decode cMod_reset 64 = .ok (.aload_n 0, 1) := by decide +kernel
theorem dMod_reset_65 : decode cMod_reset 65 = .ok (.getfield 28, 3) := by decide +kernel
theorem dMod_reset_68 : decode cMod_reset 68 = .ok (.iload_n 2, 1) := by decide +kernel
theorem dMod_reset_69 : decode cMod_reset 69 = .ok (.fconst 0, 1) := by decide +kernel
theorem dMod_reset_70 : decode cMod_reset 70 = .ok (.fastore, 1) := by decide +kernel
theorem dMod_reset_71 : decode cMod_reset 71 = .ok (.iinc 2 1, 3) := by decide +kernel
theorem dMod_reset_74 : decode cMod_reset 74 = .ok (.goto (-22), 3) := by decide +kernel
theorem dMod_reset_77 : decode cMod_reset 77 = .ok (.iconst 0, 1) := by decide +kernel
theorem dMod_reset_78 : decode cMod_reset 78 = .ok (.istore_n 2, 1) := by decide +kernel
theorem dMod_reset_79 : decode cMod_reset 79 = .ok (.iload_n 2, 1) := by decide +kernel
theorem dMod_reset_80 : decode cMod_reset 80 = .ok (.iconst 5, 1) := by decide +kernel
theorem dMod_reset_81 : decode cMod_reset 81 = .ok (.if_icmp .ge 16, 3) := by decide +kernel
theorem dMod_reset_84 : decode cMod_reset 84 = .ok (.aload_n 0, 1) := by decide +kernel
theorem dMod_reset_85 : decode cMod_reset 85 = .ok (.getfield 37, 3) := by decide +kernel
theorem dMod_reset_88 : decode cMod_reset 88 = .ok (.iload_n 2, 1) := by decide +kernel
theorem dMod_reset_89 : decode cMod_reset 89 = .ok (.fconst 0, 1) := by decide +kernel
theorem dMod_reset_90 : decode cMod_reset 90 = .ok (.fastore, 1) := by decide +kernel
theorem dMod_reset_91 : decode cMod_reset 91 = .ok (.iinc 2 1, 3) := by decide +kernel
theorem dMod_reset_94 : decode cMod_reset 94 = .ok (.goto (-15), 3) := by decide +kernel
theorem dMod_reset_97 : decode cMod_reset 97 = .ok (.iconst 0, 1) := by decide +kernel
theorem dMod_reset_98 : decode cMod_reset 98 = .ok (.istore_n 2, 1) := by decide +kernel
theorem dMod_reset_99 : decode cMod_reset 99 = .ok (.iload_n 2, 1) := by decide +kernel
theorem dMod_reset_100 : decode cMod_reset 100 = .ok (.bipush 7, 2) := by decide +kernel
theorem dMod_reset_102 : decode cMod_reset 102 = .ok (.if_icmp .ge 16, 3) := by decide +kernel
theorem dMod_reset_105 : decode cMod_reset 105 = .ok (.aload_n 0, 1) := by decide +kernel
theorem dMod_reset_106 : decode cMod_reset 106 = .ok (.getfield 53, 3) := by decide +kernel
theorem dMod_reset_109 : decode cMod_reset 109 = .ok (.iload_n 2, 1) := by decide +kernel
theorem dMod_reset_110 : decode cMod_reset 110 = .ok (.iconst 0, 1) := by decide +kernel
theorem dMod_reset_111 : decode cMod_reset 111 = .ok (.iastore, 1) := by decide +kernel
theorem dMod_reset_112 : decode cMod_reset 112 = .ok (.iinc 2 1, 3) := by decide +kernel
theorem dMod_reset_115 : decode cMod_reset 115 = .ok (.goto (-16), 3) := by decide +kernel
theorem dMod_reset_118 : decode cMod_reset 118 = .ok (.iload_n 1, 1) := by decide +kernel
theorem dMod_reset_119 : decode cMod_reset 119 = .ok (.ireturn, 1) := by decide +kernel
theorem dMod_apart_0 : decode cMod_apart 0 = .ok (.aload_n 0, 1) := by decide +kernel
theorem dMod_apart_1 : decode cMod_apart 1 = .ok (.aload_n 0, 1) := by decide +kernel
theorem dMod_apart_2 : decode cMod_apart 2 = .ok (.getfield 128, 3) := by decide +kernel
theorem dMod_apart_5 : decode cMod_apart 5 = .ok (.ifCond .eq 14, 3) := by decide +kernel
theorem dMod_apart_8 : decode cMod_apart 8 = .ok (.aload_n 0, 1) := by decide +kernel
theorem dMod_apart_9 : decode cMod_apart 9 = .ok (.getfield 158, 3) := by decide +kernel
theorem dMod_apart_12 : decode cMod_apart 12 = .ok (.ifCond .eq 7, 3) := by decide +kernel
theorem dMod_apart_15 : decode cMod_apart 15 = .ok (.iconst 0, 1) := by decide +kernel
theorem dMod_apart_16 : decode cMod_apart 16 = .ok (.goto 4, 3) := by decide +kernel
theorem dMod_apart_19 : decode cMod_apart 19 = .ok (.iconst 1, 1) := by decide +kernel
theorem dMod_apart_20 : decode cMod_apart 20 = .ok (.putfield 56, 3) := by decide +kernel
theorem dMod_apart_23 : decode cMod_apart 23 = .ok (.aload_n 0, 1) := by decide +kernel
theorem dMod_apart_24 : decode cMod_apart 24 = .ok (.getfield 56, 3) := by decide +kernel
theorem dMod_apart_27 : decode cMod_apart 27 = .ok (.ifCond .le 5, 3) := by decide +kernel
theorem dMod_apart_30 : decode cMod_apart 30 = .ok (.dconst 0, 1) := by decide +kernel
theorem dMod_apart_31 : decode cMod_apart 31 = .ok (.dreturn, 1) := by decide +kernel
theorem dMod_apart_32 : decode cMod_apart 32 = .ok (.fconst 0, 1) := by decide +kernel
theorem dMod_apart_33 : decode cMod_apart 33 = .ok (.fstore_n 1, 1) := by decide +kernel
theorem dMod_apart_34 : decode cMod_apart 34 = .ok (.iconst 0, 1) := by decide +kernel
theorem dMod_apart_35 : decode cMod_apart 35 = .ok (.istore_n 2, 1) := by decide +kernel
theorem dMod_apart_36 : decode cMod_apart 36 = .ok (.iload_n 2, 1) := by decide +kernel
theorem dMod_apart_37 : decode cMod_apart 37 = .ok (.bipush 16, 2) := by decide +kernel
theorem dMod_apart_39 : decode cMod_apart 39 = .ok (.if_icmp .ge 40, 3) := by decide +kernel
theorem dMod_apart_42 : decode cMod_apart 42 = .ok (.aload_n 0, 1) := by decide +kernel
theorem dMod_apart_43 : decode cMod_apart 43 = .ok (.getfield 19, 3) := by decide +kernel
theorem dMod_apart_46 : decode cMod_apart 46 = .ok (.iload_n 2, 1) := by decide +kernel
theorem dMod_apart_47 : decode cMod_apart 47 = .ok (.faload, 1) := by decide +kernel
theorem dMod_apart_48 : decode cMod_apart 48 = .ok (.aload_n 0, 1) := by decide +kernel
theorem dMod_apart_49 : decode cMod_apart 49 = .ok (.getfield 22, 3) := by decide +kernel
theorem dMod_apart_52 : decode cMod_apart 52 = .ok (.iload_n 2, 1) := by decide +kernel
theorem dMod_apart_53 : decode cMod_apart 53 = .ok (.faload, 1) := by decide +kernel
theorem dMod_apart_54 : decode cMod_apart 54 = .ok (.fsub, 1) := by decide +kernel
theorem dMod_apart_55 : decode cMod_apart 55 = .ok (.fstore_n 3, 1) := by decide +kernel
theorem dMod_apart_56 : decode cMod_apart 56 = .ok (.fload_n 3, 1) := by decide +kernel
theorem dMod_apart_57 : decode cMod_apart 57 = .ok (.fconst 0, 1) := by decide +kernel
theorem dMod_apart_58 : decode cMod_apart 58 = .ok (.fcmp .g, 1) := by decide +kernel
theorem dMod_apart_59 : decode cMod_apart 59 = .ok (.ifCond .ge 6, 3) := by decide +kernel
theorem dMod_apart_62 : decode cMod_apart 62 = .ok (.fload_n 3, 1) := by decide +kernel
theorem dMod_apart_63 : decode cMod_apart 63 = .ok (.fneg, 1) := by decide +kernel
theorem dMod_apart_64 : decode cMod_apart 64 = .ok (.fstore_n 3, 1) := by decide +kernel
theorem dMod_apart_65 : decode cMod_apart 65 = .ok (.fload_n 3, 1) := by decide +kernel
theorem dMod_apart_66 : decode cMod_apart 66 = .ok (.fload_n 1, 1) := by decide +kernel
theorem dMod_apart_67 : decode cMod_apart 67 = .ok (.fcmp .l, 1) := by decide +kernel
theorem dMod_apart_68 : decode cMod_apart 68 = .ok (.ifCond .le 5, 3) := by decide +kernel
theorem dMod_apart_71 : decode cMod_apart 71 = .ok (.fload_n 3, 1) := by decide +kernel
theorem dMod_apart_72 : decode cMod_apart 72 = .ok (.fstore_n 1, 1) := by decide +kernel
theorem dMod_apart_73 : decode cMod_apart 73 = .ok (.iinc 2 1, 3) := by decide +kernel
theorem dMod_apart_76 : decode cMod_apart 76 = .ok (.goto (-40), 3) := by decide +kernel
theorem dMod_apart_79 : decode cMod_apart 79 = .ok (.fload_n 1, 1) := by decide +kernel
theorem dMod_apart_80 : decode cMod_apart 80 = .ok (.f2d, 1) := by decide +kernel
theorem dMod_apart_81 : decode cMod_apart 81 = .ok (.dreturn, 1) := by decide +kernel
theorem dMod_count_0 : decode cMod_count 0 = .ok (.iload_n 1, 1) := by decide +kernel
theorem dMod_count_1 : decode cMod_count 1 = .ok (.iconst 0, 1) := by decide +kernel
theorem dMod_count_2 : decode cMod_count 2 = .ok (.bipush 6, 2) := by decide +kernel
theorem dMod_count_4 : decode cMod_count 4 = .ok (.invokestatic 141, 3) := by decide +kernel
theorem dMod_count_7 : decode cMod_count 7 = .ok (.ifCond .ne 9, 3) := by decide +kernel
theorem dMod_count_10 : decode cMod_count 10 = .ok (.aload_n 0, 1) := by decide +kernel
theorem dMod_count_11 : decode cMod_count 11 = .ok (.iconst 1, 1) := by decide +kernel
theorem dMod_count_12 : decode cMod_count 12 = .ok (.invokevirtual 64, 3) := by decide +kernel
theorem dMod_count_15 : decode cMod_count 15 = .ok (.ireturn, 1) := by decide +kernel
theorem dMod_count_16 : decode cMod_count 16 = .ok (.aload_n 0, 1) := by decide +kernel
theorem dMod_count_17 : decode cMod_count 17 = .ok (.iconst 0, 1) := by decide +kernel
theorem dMod_count_18 : decode cMod_count 18 = .ok (.putfield 56, 3) := by decide +kernel
theorem dMod_count_21 : decode cMod_count 21 = .ok (.iload_n 1, 1) := by decide +kernel
theorem dMod_count_22 : decode cMod_count 22 = .ok (.ifCond .ne 10, 3) := by decide +kernel
theorem dMod_count_25 : decode cMod_count 25 = .ok (.aload_n 0, 1) := by decide +kernel
theorem dMod_count_26 : decode cMod_count 26 = .ok (.getfield 68, 3) := by decide +kernel
theorem dMod_count_29 : decode cMod_count 29 = .ok (.goto 75, 3) := by decide +kernel
theorem dMod_count_32 : decode cMod_count 32 = .ok (.iload_n 1, 1) := by decide +kernel
theorem dMod_count_33 : decode cMod_count 33 = .ok (.iconst 1, 1) := by decide +kernel
theorem dMod_count_34 : decode cMod_count 34 = .ok (.if_icmp .ne 10, 3) := by decide +kernel
theorem dMod_count_37 : decode cMod_count 37 = .ok (.aload_n 0, 1) := by decide +kernel
theorem dMod_count_38 : decode cMod_count 38 = .ok (.getfield 134, 3) := by decide +kernel
theorem dMod_count_41 : decode cMod_count 41 = .ok (.goto 63, 3) := by decide +kernel
theorem dMod_count_44 : decode cMod_count 44 = .ok (.iload_n 1, 1) := by decide +kernel
theorem dMod_count_45 : decode cMod_count 45 = .ok (.iconst 2, 1) := by decide +kernel
theorem dMod_count_46 : decode cMod_count 46 = .ok (.if_icmp .ne 10, 3) := by decide +kernel
theorem dMod_count_49 : decode cMod_count 49 = .ok (.aload_n 0, 1) := by decide +kernel
theorem dMod_count_50 : decode cMod_count 50 = .ok (.getfield 131, 3) := by decide +kernel
theorem dMod_count_53 : decode cMod_count 53 = .ok (.goto 51, 3) := by decide +kernel
theorem dMod_count_56 : decode cMod_count 56 = .ok (.iload_n 1, 1) := by decide +kernel
theorem dMod_count_57 : decode cMod_count 57 = .ok (.iconst 3, 1) := by decide +kernel
theorem dMod_count_58 : decode cMod_count 58 = .ok (.if_icmp .ne 10, 3) := by decide +kernel
theorem dMod_count_61 : decode cMod_count 61 = .ok (.aload_n 0, 1) := by decide +kernel
theorem dMod_count_62 : decode cMod_count 62 = .ok (.getfield 161, 3) := by decide +kernel
theorem dMod_count_65 : decode cMod_count 65 = .ok (.goto 39, 3) := by decide +kernel
theorem dMod_count_68 : decode cMod_count 68 = .ok (.iload_n 1, 1) := by decide +kernel
theorem dMod_count_69 : decode cMod_count 69 = .ok (.iconst 4, 1) := by decide +kernel
theorem dMod_count_70 : decode cMod_count 70 = .ok (.if_icmp .ne 10, 3) := by decide +kernel
theorem dMod_count_73 : decode cMod_count 73 = .ok (.aload_n 0, 1) := by decide +kernel
theorem dMod_count_74 : decode cMod_count 74 = .ok (.getfield 149, 3) := by decide +kernel
theorem dMod_count_77 : decode cMod_count 77 = .ok (.goto 27, 3) := by decide +kernel
theorem dMod_count_80 : decode cMod_count 80 = .ok (.iload_n 1, 1) := by decide +kernel
theorem dMod_count_81 : decode cMod_count 81 = .ok (.iconst 5, 1) := by decide +kernel
theorem dMod_count_82 : decode cMod_count 82 = .ok (.if_icmp .ne 10, 3) := by decide +kernel
theorem dMod_count_85 : decode cMod_count 85 = .ok (.aload_n 0, 1) := by decide +kernel
theorem dMod_count_86 : decode cMod_count 86 = .ok (.getfield 138, 3) := by decide +kernel
theorem dMod_count_89 : decode cMod_count 89 = .ok (.goto 15, 3) := by decide +kernel
theorem dMod_count_92 : decode cMod_count 92 = .ok (.aload_n 0, 1) := by decide +kernel
theorem dMod_count_93 : decode cMod_count 93 = .ok (.getfield 71, 3) := by decide +kernel
theorem dMod_count_96 : decode cMod_count 96 = .ok (.ifCond .eq 7, 3) := by decide +kernel
theorem dMod_count_99 : decode cMod_count 99 = .ok (.iconst 1, 1) := by decide +kernel
theorem dMod_count_100 : decode cMod_count 100 = .ok (.goto 4, 3) := by decide +kernel
theorem dMod_count_103 : decode cMod_count 103 = .ok (.iconst 0, 1) := by decide +kernel
theorem dMod_count_104 : decode cMod_count 104 = .ok (.ireturn, 1) := by decide +kernel
theorem dLaw_law_0 : decode cLaw_law 0 = .ok (.new 8, 3) := by decide +kernel
theorem dLaw_law_3 : decode cLaw_law 3 = .ok (.dup, 1) := by decide +kernel
theorem dLaw_law_4 : decode cLaw_law 4 = .ok (.invokespecial 53, 3) := by decide +kernel
theorem dLaw_law_7 : decode cLaw_law 7 = .ok (.astore_n 1, 1) := by decide +kernel
theorem dLaw_law_8 : decode cLaw_law 8 = .ok (.new 54, 3) := by decide +kernel
theorem dLaw_law_11 : decode cLaw_law 11 = .ok (.dup, 1) := by decide +kernel
theorem dLaw_law_12 : decode cLaw_law 12 = .ok (.invokespecial 56, 3) := by decide +kernel
theorem dLaw_law_15 : decode cLaw_law 15 = .ok (.astore_n 2, 1) := by decide +kernel
theorem dLaw_law_16 : decode cLaw_law 16 = .ok (.iconst 1, 1) := by decide +kernel
theorem dLaw_law_17 : decode cLaw_law 17 = .ok (.newarray .long, 2) := by decide +kernel
theorem dLaw_law_19 : decode cLaw_law 19 = .ok (.astore_n 3, 1) := by decide +kernel
theorem dLaw_law_20 : decode cLaw_law 20 = .ok (.iconst 1, 1) := by decide +kernel
theorem dLaw_law_21 : decode cLaw_law 21 = .ok (.newarray .double, 2) := by decide +kernel
theorem dLaw_law_23 : decode cLaw_law 23 = .ok (.astore 4, 2) := by decide +kernel
theorem dLaw_law_25 : decode cLaw_law 25 = .ok (.iconst 0, 1) := by decide +kernel
theorem dLaw_law_26 : decode cLaw_law 26 = .ok (.istore 5, 2) := by decide +kernel
theorem dLaw_law_28 : decode cLaw_law 28 = .ok (.iload 5, 2) := by decide +kernel
theorem dLaw_law_30 : decode cLaw_law 30 = .ok (.aload_n 0, 1) := by decide +kernel
theorem dLaw_law_31 : decode cLaw_law 31 = .ok (.arraylength, 1) := by decide +kernel
theorem dLaw_law_32 : decode cLaw_law 32 = .ok (.iconst 3, 1) := by decide +kernel
theorem dLaw_law_33 : decode cLaw_law 33 = .ok (.isub, 1) := by decide +kernel
theorem dLaw_law_34 : decode cLaw_law 34 = .ok (.if_icmp .gt 750, 3) := by decide +kernel
theorem dLaw_law_37 : decode cLaw_law 37 = .ok (.aload_n 0, 1) := by decide +kernel
theorem dLaw_law_38 : decode cLaw_law 38 = .ok (.iload 5, 2) := by decide +kernel
theorem dLaw_law_40 : decode cLaw_law 40 = .ok (.iaload, 1) := by decide +kernel
theorem dLaw_law_41 : decode cLaw_law 41 = .ok (.bipush 15, 2) := by decide +kernel
theorem dLaw_law_43 : decode cLaw_law 43 = .ok (.iand, 1) := by decide +kernel
theorem dLaw_law_44 : decode cLaw_law 44 = .ok (.tableswitch 734 0 11 #[64, 130, 171, 215, 259, 364, 420, 476, 544, 600, 613, 678], 64) := by decide +kernel
theorem dLaw_law_108 : decode cLaw_law 108 = .ok (.aload_n 1, 1) := by decide +kernel
theorem dLaw_law_109 : decode cLaw_law 109 = .ok (.aload_n 0, 1) := by decide +kernel
theorem dLaw_law_110 : decode cLaw_law 110 = .ok (.iload 5, 2) := by decide +kernel
theorem dLaw_law_112 : decode cLaw_law 112 = .ok (.iconst 1, 1) := by decide +kernel
theorem dLaw_law_113 : decode cLaw_law 113 = .ok (.iadd, 1) := by decide +kernel
theorem dLaw_law_114 : decode cLaw_law 114 = .ok (.iaload, 1) := by decide +kernel
theorem dLaw_law_115 : decode cLaw_law 115 = .ok (.i2d, 1) := by decide +kernel
theorem dLaw_law_116 : decode cLaw_law 116 = .ok (.ldc2_w 57, 3) := by decide +kernel
theorem dLaw_law_119 : decode cLaw_law 119 = .ok (.dmul, 1) := by decide +kernel
theorem dLaw_law_120 : decode cLaw_law 120 = .ok (.aload_n 3, 1) := by decide +kernel
theorem dLaw_law_121 : decode cLaw_law 121 = .ok (.invokestatic 59, 3) := by decide +kernel
theorem dLaw_law_124 : decode cLaw_law 124 = .ok (.istore 6, 2) := by decide +kernel
theorem dLaw_law_126 : decode cLaw_law 126 = .ok (.aload_n 2, 1) := by decide +kernel
theorem dLaw_law_127 : decode cLaw_law 127 = .ok (.aload_n 0, 1) := by decide +kernel
theorem dLaw_law_128 : decode cLaw_law 128 = .ok (.iload 5, 2) := by decide +kernel
theorem dLaw_law_130 : decode cLaw_law 130 = .ok (.iconst 1, 1) := by decide +kernel
theorem dLaw_law_131 : decode cLaw_law 131 = .ok (.iadd, 1) := by decide +kernel
theorem dLaw_law_132 : decode cLaw_law 132 = .ok (.iaload, 1) := by decide +kernel
theorem dLaw_law_133 : decode cLaw_law 133 = .ok (.i2d, 1) := by decide +kernel
theorem dLaw_law_134 : decode cLaw_law 134 = .ok (.ldc2_w 57, 3) := by decide +kernel
theorem dLaw_law_137 : decode cLaw_law 137 = .ok (.dmul, 1) := by decide +kernel
theorem dLaw_law_138 : decode cLaw_law 138 = .ok (.invokevirtual 64, 3) := by decide +kernel
theorem dLaw_law_141 : decode cLaw_law 141 = .ok (.istore 7, 2) := by decide +kernel
theorem dLaw_law_143 : decode cLaw_law 143 = .ok (.aload_n 2, 1) := by decide +kernel
theorem dLaw_law_144 : decode cLaw_law 144 = .ok (.invokevirtual 65, 3) := by decide +kernel
theorem dLaw_law_147 : decode cLaw_law 147 = .ok (.iload 6, 2) := by decide +kernel
theorem dLaw_law_149 : decode cLaw_law 149 = .ok (.if_icmp .eq 5, 3) := by decide +kernel
theorem dLaw_law_152 : decode cLaw_law 152 = .ok (.iconst 0, 1) := by decide +kernel
theorem dLaw_law_153 : decode cLaw_law 153 = .ok (.ireturn, 1) := by decide +kernel
theorem dLaw_law_154 : decode cLaw_law 154 = .ok (.iload 6, 2) := by decide +kernel
theorem dLaw_law_156 : decode cLaw_law 156 = .ok (.ifCond .ne 15, 3) := by decide +kernel
theorem dLaw_law_159 : decode cLaw_law 159 = .ok (.aload_n 3, 1) := by decide +kernel
theorem dLaw_law_160 : decode cLaw_law 160 = .ok (.iconst 0, 1) := by decide +kernel
theorem dLaw_law_161 : decode cLaw_law 161 = .ok (.laload, 1) := by decide +kernel
theorem dLaw_law_162 : decode cLaw_law 162 = .ok (.iload 7, 2) := by decide +kernel
theorem dLaw_law_164 : decode cLaw_law 164 = .ok (.i2l, 1) := by decide +kernel
theorem dLaw_law_165 : decode cLaw_law 165 = .ok (.lcmp, 1) := by decide +kernel
theorem dLaw_law_166 : decode cLaw_law 166 = .ok (.ifCond .eq 5, 3) := by decide +kernel
theorem dLaw_law_169 : decode cLaw_law 169 = .ok (.iconst 0, 1) := by decide +kernel
theorem dLaw_law_170 : decode cLaw_law 170 = .ok (.ireturn, 1) := by decide +kernel
theorem dLaw_law_171 : decode cLaw_law 171 = .ok (.goto 607, 3) := by decide +kernel
theorem dLaw_law_174 : decode cLaw_law 174 = .ok (.aload_n 1, 1) := by decide +kernel
theorem dLaw_law_175 : decode cLaw_law 175 = .ok (.aload_n 0, 1) := by decide +kernel
theorem dLaw_law_176 : decode cLaw_law 176 = .ok (.iload 5, 2) := by decide +kernel
theorem dLaw_law_178 : decode cLaw_law 178 = .ok (.iconst 1, 1) := by decide +kernel
theorem dLaw_law_179 : decode cLaw_law 179 = .ok (.iadd, 1) := by decide +kernel
theorem dLaw_law_180 : decode cLaw_law 180 = .ok (.iaload, 1) := by decide +kernel
theorem dLaw_law_181 : decode cLaw_law 181 = .ok (.ifCond .eq 7, 3) := by decide +kernel
theorem dLaw_law_184 : decode cLaw_law 184 = .ok (.iconst 1, 1) := by decide +kernel
theorem dLaw_law_185 : decode cLaw_law 185 = .ok (.goto 4, 3) := by decide +kernel
theorem dLaw_law_188 : decode cLaw_law 188 = .ok (.iconst 0, 1) := by decide +kernel
theorem dLaw_law_189 : decode cLaw_law 189 = .ok (.invokevirtual 68, 3) := by decide +kernel
theorem dLaw_law_192 : decode cLaw_law 192 = .ok (.aload_n 2, 1) := by decide +kernel
theorem dLaw_law_193 : decode cLaw_law 193 = .ok (.aload_n 0, 1) := by decide +kernel
theorem dLaw_law_194 : decode cLaw_law 194 = .ok (.iload 5, 2) := by decide +kernel
theorem dLaw_law_196 : decode cLaw_law 196 = .ok (.iconst 1, 1) := by decide +kernel
theorem dLaw_law_197 : decode cLaw_law 197 = .ok (.iadd, 1) := by decide +kernel
theorem dLaw_law_198 : decode cLaw_law 198 = .ok (.iaload, 1) := by decide +kernel
theorem dLaw_law_199 : decode cLaw_law 199 = .ok (.ifCond .eq 7, 3) := by decide +kernel
theorem dLaw_law_202 : decode cLaw_law 202 = .ok (.iconst 1, 1) := by decide +kernel
theorem dLaw_law_203 : decode cLaw_law 203 = .ok (.goto 4, 3) := by decide +kernel
theorem dLaw_law_206 : decode cLaw_law 206 = .ok (.iconst 0, 1) := by decide +kernel
theorem dLaw_law_207 : decode cLaw_law 207 = .ok (.invokevirtual 72, 3) := by decide +kernel
theorem dLaw_law_210 : decode cLaw_law 210 = .ok (.if_icmp .eq 568, 3) := by decide +kernel
theorem dLaw_law_213 : decode cLaw_law 213 = .ok (.iconst 0, 1) := by decide +kernel
theorem dLaw_law_214 : decode cLaw_law 214 = .ok (.ireturn, 1) := by decide +kernel
theorem dLaw_law_215 : decode cLaw_law 215 = .ok (.aload_n 1, 1) := by decide +kernel
theorem dLaw_law_216 : decode cLaw_law 216 = .ok (.aload_n 3, 1) := by decide +kernel
theorem dLaw_law_217 : decode cLaw_law 217 = .ok (.invokestatic 73, 3) := by decide +kernel
theorem dLaw_law_220 : decode cLaw_law 220 = .ok (.istore 6, 2) := by decide +kernel
theorem dLaw_law_222 : decode cLaw_law 222 = .ok (.aload_n 2, 1) := by decide +kernel
theorem dLaw_law_223 : decode cLaw_law 223 = .ok (.invokevirtual 76, 3) := by decide +kernel
theorem dLaw_law_226 : decode cLaw_law 226 = .ok (.istore 7, 2) := by decide +kernel
theorem dLaw_law_228 : decode cLaw_law 228 = .ok (.aload_n 2, 1) := by decide +kernel
theorem dLaw_law_229 : decode cLaw_law 229 = .ok (.invokevirtual 65, 3) := by decide +kernel
theorem dLaw_law_232 : decode cLaw_law 232 = .ok (.iload 6, 2) := by decide +kernel
theorem dLaw_law_234 : decode cLaw_law 234 = .ok (.if_icmp .eq 5, 3) := by decide +kernel
theorem dLaw_law_237 : decode cLaw_law 237 = .ok (.iconst 0, 1) := by decide +kernel
theorem dLaw_law_238 : decode cLaw_law 238 = .ok (.ireturn, 1) := by decide +kernel
theorem dLaw_law_239 : decode cLaw_law 239 = .ok (.iload 6, 2) := by decide +kernel
theorem dLaw_law_241 : decode cLaw_law 241 = .ok (.ifCond .ne 15, 3) := by decide +kernel
theorem dLaw_law_244 : decode cLaw_law 244 = .ok (.aload_n 3, 1) := by decide +kernel
theorem dLaw_law_245 : decode cLaw_law 245 = .ok (.iconst 0, 1) := by decide +kernel
theorem dLaw_law_246 : decode cLaw_law 246 = .ok (.laload, 1) := by decide +kernel
theorem dLaw_law_247 : decode cLaw_law 247 = .ok (.iload 7, 2) := by decide +kernel
theorem dLaw_law_249 : decode cLaw_law 249 = .ok (.i2l, 1) := by decide +kernel
theorem dLaw_law_250 : decode cLaw_law 250 = .ok (.lcmp, 1) := by decide +kernel
theorem dLaw_law_251 : decode cLaw_law 251 = .ok (.ifCond .eq 5, 3) := by decide +kernel
theorem dLaw_law_254 : decode cLaw_law 254 = .ok (.iconst 0, 1) := by decide +kernel
theorem dLaw_law_255 : decode cLaw_law 255 = .ok (.ireturn, 1) := by decide +kernel
theorem dLaw_law_256 : decode cLaw_law 256 = .ok (.goto 522, 3) := by decide +kernel
theorem dLaw_law_259 : decode cLaw_law 259 = .ok (.aload_n 1, 1) := by decide +kernel
theorem dLaw_law_260 : decode cLaw_law 260 = .ok (.aload_n 3, 1) := by decide +kernel
theorem dLaw_law_261 : decode cLaw_law 261 = .ok (.invokestatic 77, 3) := by decide +kernel
theorem dLaw_law_264 : decode cLaw_law 264 = .ok (.istore 6, 2) := by decide +kernel
theorem dLaw_law_266 : decode cLaw_law 266 = .ok (.aload_n 2, 1) := by decide +kernel
theorem dLaw_law_267 : decode cLaw_law 267 = .ok (.invokevirtual 79, 3) := by decide +kernel
theorem dLaw_law_270 : decode cLaw_law 270 = .ok (.istore 7, 2) := by decide +kernel
theorem dLaw_law_272 : decode cLaw_law 272 = .ok (.aload_n 2, 1) := by decide +kernel
theorem dLaw_law_273 : decode cLaw_law 273 = .ok (.invokevirtual 65, 3) := by decide +kernel
theorem dLaw_law_276 : decode cLaw_law 276 = .ok (.iload 6, 2) := by decide +kernel
theorem dLaw_law_278 : decode cLaw_law 278 = .ok (.if_icmp .eq 5, 3) := by decide +kernel
theorem dLaw_law_281 : decode cLaw_law 281 = .ok (.iconst 0, 1) := by decide +kernel
theorem dLaw_law_282 : decode cLaw_law 282 = .ok (.ireturn, 1) := by decide +kernel
theorem dLaw_law_283 : decode cLaw_law 283 = .ok (.iload 6, 2) := by decide +kernel
theorem dLaw_law_285 : decode cLaw_law 285 = .ok (.ifCond .ne 15, 3) := by decide +kernel
theorem dLaw_law_288 : decode cLaw_law 288 = .ok (.aload_n 3, 1) := by decide +kernel
theorem dLaw_law_289 : decode cLaw_law 289 = .ok (.iconst 0, 1) := by decide +kernel
theorem dLaw_law_290 : decode cLaw_law 290 = .ok (.laload, 1) := by decide +kernel
theorem dLaw_law_291 : decode cLaw_law 291 = .ok (.iload 7, 2) := by decide +kernel
theorem dLaw_law_293 : decode cLaw_law 293 = .ok (.i2l, 1) := by decide +kernel
theorem dLaw_law_294 : decode cLaw_law 294 = .ok (.lcmp, 1) := by decide +kernel
theorem dLaw_law_295 : decode cLaw_law 295 = .ok (.ifCond .eq 5, 3) := by decide +kernel
theorem dLaw_law_298 : decode cLaw_law 298 = .ok (.iconst 0, 1) := by decide +kernel
theorem dLaw_law_299 : decode cLaw_law 299 = .ok (.ireturn, 1) := by decide +kernel
theorem dLaw_law_300 : decode cLaw_law 300 = .ok (.goto 478, 3) := by decide +kernel
theorem dLaw_law_303 : decode cLaw_law 303 = .ok (.aload_n 1, 1) := by decide +kernel
theorem dLaw_law_304 : decode cLaw_law 304 = .ok (.aload_n 0, 1) := by decide +kernel
theorem dLaw_law_305 : decode cLaw_law 305 = .ok (.iload 5, 2) := by decide +kernel
theorem dLaw_law_307 : decode cLaw_law 307 = .ok (.iconst 1, 1) := by decide +kernel
theorem dLaw_law_308 : decode cLaw_law 308 = .ok (.iadd, 1) := by decide +kernel
theorem dLaw_law_309 : decode cLaw_law 309 = .ok (.iaload, 1) := by decide +kernel
theorem dLaw_law_310 : decode cLaw_law 310 = .ok (.ifCond .eq 7, 3) := by decide +kernel
theorem dLaw_law_313 : decode cLaw_law 313 = .ok (.iconst 1, 1) := by decide +kernel
theorem dLaw_law_314 : decode cLaw_law 314 = .ok (.goto 4, 3) := by decide +kernel
theorem dLaw_law_317 : decode cLaw_law 317 = .ok (.iconst 0, 1) := by decide +kernel
theorem dLaw_law_318 : decode cLaw_law 318 = .ok (.aload_n 0, 1) := by decide +kernel
theorem dLaw_law_319 : decode cLaw_law 319 = .ok (.iload 5, 2) := by decide +kernel
theorem dLaw_law_321 : decode cLaw_law 321 = .ok (.iconst 2, 1) := by decide +kernel
theorem dLaw_law_322 : decode cLaw_law 322 = .ok (.iadd, 1) := by decide +kernel
theorem dLaw_law_323 : decode cLaw_law 323 = .ok (.iaload, 1) := by decide +kernel
theorem dLaw_law_324 : decode cLaw_law 324 = .ok (.aload 4, 2) := by decide +kernel
theorem dLaw_law_326 : decode cLaw_law 326 = .ok (.invokestatic 80, 3) := by decide +kernel
theorem dLaw_law_329 : decode cLaw_law 329 = .ok (.istore 6, 2) := by decide +kernel
theorem dLaw_law_331 : decode cLaw_law 331 = .ok (.aload_n 2, 1) := by decide +kernel
theorem dLaw_law_332 : decode cLaw_law 332 = .ok (.aload_n 0, 1) := by decide +kernel
theorem dLaw_law_333 : decode cLaw_law 333 = .ok (.iload 5, 2) := by decide +kernel
theorem dLaw_law_335 : decode cLaw_law 335 = .ok (.iconst 1, 1) := by decide +kernel
theorem dLaw_law_336 : decode cLaw_law 336 = .ok (.iadd, 1) := by decide +kernel
theorem dLaw_law_337 : decode cLaw_law 337 = .ok (.iaload, 1) := by decide +kernel
theorem dLaw_law_338 : decode cLaw_law 338 = .ok (.ifCond .eq 7, 3) := by decide +kernel
theorem dLaw_law_341 : decode cLaw_law 341 = .ok (.iconst 1, 1) := by decide +kernel
theorem dLaw_law_342 : decode cLaw_law 342 = .ok (.goto 4, 3) := by decide +kernel
theorem dLaw_law_345 : decode cLaw_law 345 = .ok (.iconst 0, 1) := by decide +kernel
theorem dLaw_law_346 : decode cLaw_law 346 = .ok (.aload_n 0, 1) := by decide +kernel
theorem dLaw_law_347 : decode cLaw_law 347 = .ok (.iload 5, 2) := by decide +kernel
theorem dLaw_law_349 : decode cLaw_law 349 = .ok (.iconst 2, 1) := by decide +kernel
theorem dLaw_law_350 : decode cLaw_law 350 = .ok (.iadd, 1) := by decide +kernel
theorem dLaw_law_351 : decode cLaw_law 351 = .ok (.iaload, 1) := by decide +kernel
theorem dLaw_law_352 : decode cLaw_law 352 = .ok (.invokevirtual 83, 3) := by decide +kernel
theorem dLaw_law_355 : decode cLaw_law 355 = .ok (.dstore 7, 2) := by decide +kernel
theorem dLaw_law_357 : decode cLaw_law 357 = .ok (.aload_n 2, 1) := by decide +kernel
theorem dLaw_law_358 : decode cLaw_law 358 = .ok (.invokevirtual 65, 3) := by decide +kernel
theorem dLaw_law_361 : decode cLaw_law 361 = .ok (.iload 6, 2) := by decide +kernel
theorem dLaw_law_363 : decode cLaw_law 363 = .ok (.if_icmp .eq 5, 3) := by decide +kernel
theorem dLaw_law_366 : decode cLaw_law 366 = .ok (.iconst 0, 1) := by decide +kernel
theorem dLaw_law_367 : decode cLaw_law 367 = .ok (.ireturn, 1) := by decide +kernel
theorem dLaw_law_368 : decode cLaw_law 368 = .ok (.iload 6, 2) := by decide +kernel
theorem dLaw_law_370 : decode cLaw_law 370 = .ok (.ifCond .ne 35, 3) := by decide +kernel
theorem dLaw_law_373 : decode cLaw_law 373 = .ok (.aload 4, 2) := by decide +kernel
theorem dLaw_law_375 : decode cLaw_law 375 = .ok (.iconst 0, 1) := by decide +kernel
theorem dLaw_law_376 : decode cLaw_law 376 = .ok (.daload, 1) := by decide +kernel
theorem dLaw_law_377 : decode cLaw_law 377 = .ok (.dload 7, 2) := by decide +kernel
theorem dLaw_law_379 : decode cLaw_law 379 = .ok (.dcmp .l, 1) := by decide +kernel
theorem dLaw_law_380 : decode cLaw_law 380 = .ok (.ifCond .eq 25, 3) := by decide +kernel
theorem dLaw_law_383 : decode cLaw_law 383 = .ok (.aload 4, 2) := by decide +kernel
theorem dLaw_law_385 : decode cLaw_law 385 = .ok (.iconst 0, 1) := by decide +kernel
theorem dLaw_law_386 : decode cLaw_law 386 = .ok (.daload, 1) := by decide +kernel
theorem dLaw_law_387 : decode cLaw_law 387 = .ok (.aload 4, 2) := by decide +kernel
theorem dLaw_law_389 : decode cLaw_law 389 = .ok (.iconst 0, 1) := by decide +kernel
theorem dLaw_law_390 : decode cLaw_law 390 = .ok (.daload, 1) := by decide +kernel
theorem dLaw_law_391 : decode cLaw_law 391 = .ok (.dcmp .l, 1) := by decide +kernel
theorem dLaw_law_392 : decode cLaw_law 392 = .ok (.ifCond .eq 11, 3) := by decide +kernel
theorem dLaw_law_395 : decode cLaw_law 395 = .ok (.dload 7, 2) := by decide +kernel
theorem dLaw_law_397 : decode cLaw_law 397 = .ok (.dload 7, 2) := by decide +kernel
theorem dLaw_law_399 : decode cLaw_law 399 = .ok (.dcmp .l, 1) := by decide +kernel
theorem dLaw_law_400 : decode cLaw_law 400 = .ok (.ifCond .ne 5, 3) := by decide +kernel
theorem dLaw_law_403 : decode cLaw_law 403 = .ok (.iconst 0, 1) := by decide +kernel
theorem dLaw_law_404 : decode cLaw_law 404 = .ok (.ireturn, 1) := by decide +kernel
theorem dLaw_law_405 : decode cLaw_law 405 = .ok (.goto 373, 3) := by decide +kernel
theorem dLaw_law_408 : decode cLaw_law 408 = .ok (.aload_n 1, 1) := by decide +kernel
theorem dLaw_law_409 : decode cLaw_law 409 = .ok (.aload_n 0, 1) := by decide +kernel
theorem dLaw_law_410 : decode cLaw_law 410 = .ok (.iload 5, 2) := by decide +kernel
theorem dLaw_law_412 : decode cLaw_law 412 = .ok (.iconst 1, 1) := by decide +kernel
theorem dLaw_law_413 : decode cLaw_law 413 = .ok (.iadd, 1) := by decide +kernel
theorem dLaw_law_414 : decode cLaw_law 414 = .ok (.iaload, 1) := by decide +kernel
theorem dLaw_law_415 : decode cLaw_law 415 = .ok (.aload_n 3, 1) := by decide +kernel
theorem dLaw_law_416 : decode cLaw_law 416 = .ok (.invokestatic 84, 3) := by decide +kernel
theorem dLaw_law_419 : decode cLaw_law 419 = .ok (.istore 6, 2) := by decide +kernel
theorem dLaw_law_421 : decode cLaw_law 421 = .ok (.aload_n 2, 1) := by decide +kernel
theorem dLaw_law_422 : decode cLaw_law 422 = .ok (.aload_n 0, 1) := by decide +kernel
theorem dLaw_law_423 : decode cLaw_law 423 = .ok (.iload 5, 2) := by decide +kernel
theorem dLaw_law_425 : decode cLaw_law 425 = .ok (.iconst 1, 1) := by decide +kernel
theorem dLaw_law_426 : decode cLaw_law 426 = .ok (.iadd, 1) := by decide +kernel
theorem dLaw_law_427 : decode cLaw_law 427 = .ok (.iaload, 1) := by decide +kernel
theorem dLaw_law_428 : decode cLaw_law 428 = .ok (.invokevirtual 87, 3) := by decide +kernel
theorem dLaw_law_431 : decode cLaw_law 431 = .ok (.istore 7, 2) := by decide +kernel
theorem dLaw_law_433 : decode cLaw_law 433 = .ok (.aload_n 2, 1) := by decide +kernel
theorem dLaw_law_434 : decode cLaw_law 434 = .ok (.invokevirtual 65, 3) := by decide +kernel
theorem dLaw_law_437 : decode cLaw_law 437 = .ok (.iload 6, 2) := by decide +kernel
theorem dLaw_law_439 : decode cLaw_law 439 = .ok (.if_icmp .eq 5, 3) := by decide +kernel
theorem dLaw_law_442 : decode cLaw_law 442 = .ok (.iconst 0, 1) := by decide +kernel
theorem dLaw_law_443 : decode cLaw_law 443 = .ok (.ireturn, 1) := by decide +kernel
theorem dLaw_law_444 : decode cLaw_law 444 = .ok (.iload 6, 2) := by decide +kernel
theorem dLaw_law_446 : decode cLaw_law 446 = .ok (.ifCond .ne 15, 3) := by decide +kernel
theorem dLaw_law_449 : decode cLaw_law 449 = .ok (.aload_n 3, 1) := by decide +kernel
theorem dLaw_law_450 : decode cLaw_law 450 = .ok (.iconst 0, 1) := by decide +kernel
theorem dLaw_law_451 : decode cLaw_law 451 = .ok (.laload, 1) := by decide +kernel
theorem dLaw_law_452 : decode cLaw_law 452 = .ok (.iload 7, 2) := by decide +kernel
theorem dLaw_law_454 : decode cLaw_law 454 = .ok (.i2l, 1) := by decide +kernel
theorem dLaw_law_455 : decode cLaw_law 455 = .ok (.lcmp, 1) := by decide +kernel
theorem dLaw_law_456 : decode cLaw_law 456 = .ok (.ifCond .eq 5, 3) := by decide +kernel
theorem dLaw_law_459 : decode cLaw_law 459 = .ok (.iconst 0, 1) := by decide +kernel
theorem dLaw_law_460 : decode cLaw_law 460 = .ok (.ireturn, 1) := by decide +kernel
theorem dLaw_law_461 : decode cLaw_law 461 = .ok (.goto 317, 3) := by decide +kernel
theorem dLaw_law_464 : decode cLaw_law 464 = .ok (.aload_n 1, 1) := by decide +kernel
theorem dLaw_law_465 : decode cLaw_law 465 = .ok (.aload_n 0, 1) := by decide +kernel
theorem dLaw_law_466 : decode cLaw_law 466 = .ok (.iload 5, 2) := by decide +kernel
theorem dLaw_law_468 : decode cLaw_law 468 = .ok (.iconst 1, 1) := by decide +kernel
theorem dLaw_law_469 : decode cLaw_law 469 = .ok (.iadd, 1) := by decide +kernel
theorem dLaw_law_470 : decode cLaw_law 470 = .ok (.iaload, 1) := by decide +kernel
theorem dLaw_law_471 : decode cLaw_law 471 = .ok (.aload_n 3, 1) := by decide +kernel
theorem dLaw_law_472 : decode cLaw_law 472 = .ok (.invokestatic 88, 3) := by decide +kernel
theorem dLaw_law_475 : decode cLaw_law 475 = .ok (.istore 6, 2) := by decide +kernel
theorem dLaw_law_477 : decode cLaw_law 477 = .ok (.aload_n 2, 1) := by decide +kernel
theorem dLaw_law_478 : decode cLaw_law 478 = .ok (.aload_n 0, 1) := by decide +kernel
theorem dLaw_law_479 : decode cLaw_law 479 = .ok (.iload 5, 2) := by decide +kernel
theorem dLaw_law_481 : decode cLaw_law 481 = .ok (.iconst 1, 1) := by decide +kernel
theorem dLaw_law_482 : decode cLaw_law 482 = .ok (.iadd, 1) := by decide +kernel
theorem dLaw_law_483 : decode cLaw_law 483 = .ok (.iaload, 1) := by decide +kernel
theorem dLaw_law_484 : decode cLaw_law 484 = .ok (.invokevirtual 90, 3) := by decide +kernel
theorem dLaw_law_487 : decode cLaw_law 487 = .ok (.istore 7, 2) := by decide +kernel
theorem dLaw_law_489 : decode cLaw_law 489 = .ok (.aload_n 2, 1) := by decide +kernel
theorem dLaw_law_490 : decode cLaw_law 490 = .ok (.invokevirtual 65, 3) := by decide +kernel
theorem dLaw_law_493 : decode cLaw_law 493 = .ok (.iload 6, 2) := by decide +kernel
theorem dLaw_law_495 : decode cLaw_law 495 = .ok (.if_icmp .eq 5, 3) := by decide +kernel
theorem dLaw_law_498 : decode cLaw_law 498 = .ok (.iconst 0, 1) := by decide +kernel
theorem dLaw_law_499 : decode cLaw_law 499 = .ok (.ireturn, 1) := by decide +kernel
theorem dLaw_law_500 : decode cLaw_law 500 = .ok (.iload 6, 2) := by decide +kernel
theorem dLaw_law_502 : decode cLaw_law 502 = .ok (.ifCond .ne 15, 3) := by decide +kernel
theorem dLaw_law_505 : decode cLaw_law 505 = .ok (.aload_n 3, 1) := by decide +kernel
theorem dLaw_law_506 : decode cLaw_law 506 = .ok (.iconst 0, 1) := by decide +kernel
theorem dLaw_law_507 : decode cLaw_law 507 = .ok (.laload, 1) := by decide +kernel
theorem dLaw_law_508 : decode cLaw_law 508 = .ok (.iload 7, 2) := by decide +kernel
theorem dLaw_law_510 : decode cLaw_law 510 = .ok (.i2l, 1) := by decide +kernel
theorem dLaw_law_511 : decode cLaw_law 511 = .ok (.lcmp, 1) := by decide +kernel
theorem dLaw_law_512 : decode cLaw_law 512 = .ok (.ifCond .eq 5, 3) := by decide +kernel
theorem dLaw_law_515 : decode cLaw_law 515 = .ok (.iconst 0, 1) := by decide +kernel
theorem dLaw_law_516 : decode cLaw_law 516 = .ok (.ireturn, 1) := by decide +kernel
theorem dLaw_law_517 : decode cLaw_law 517 = .ok (.goto 261, 3) := by decide +kernel
theorem dLaw_law_520 : decode cLaw_law 520 = .ok (.aload_n 1, 1) := by decide +kernel
theorem dLaw_law_521 : decode cLaw_law 521 = .ok (.aload_n 0, 1) := by decide +kernel
theorem dLaw_law_522 : decode cLaw_law 522 = .ok (.iload 5, 2) := by decide +kernel
theorem dLaw_law_524 : decode cLaw_law 524 = .ok (.iconst 1, 1) := by decide +kernel
theorem dLaw_law_525 : decode cLaw_law 525 = .ok (.iadd, 1) := by decide +kernel
theorem dLaw_law_526 : decode cLaw_law 526 = .ok (.iaload, 1) := by decide +kernel
theorem dLaw_law_527 : decode cLaw_law 527 = .ok (.aload_n 0, 1) := by decide +kernel
theorem dLaw_law_528 : decode cLaw_law 528 = .ok (.iload 5, 2) := by decide +kernel
theorem dLaw_law_530 : decode cLaw_law 530 = .ok (.iconst 2, 1) := by decide +kernel
theorem dLaw_law_531 : decode cLaw_law 531 = .ok (.iadd, 1) := by decide +kernel
theorem dLaw_law_532 : decode cLaw_law 532 = .ok (.iaload, 1) := by decide +kernel
theorem dLaw_law_533 : decode cLaw_law 533 = .ok (.aload_n 3, 1) := by decide +kernel
theorem dLaw_law_534 : decode cLaw_law 534 = .ok (.invokestatic 91, 3) := by decide +kernel
theorem dLaw_law_537 : decode cLaw_law 537 = .ok (.istore 6, 2) := by decide +kernel
theorem dLaw_law_539 : decode cLaw_law 539 = .ok (.aload_n 2, 1) := by decide +kernel
theorem dLaw_law_540 : decode cLaw_law 540 = .ok (.aload_n 0, 1) := by decide +kernel
theorem dLaw_law_541 : decode cLaw_law 541 = .ok (.iload 5, 2) := by decide +kernel
theorem dLaw_law_543 : decode cLaw_law 543 = .ok (.iconst 1, 1) := by decide +kernel
theorem dLaw_law_544 : decode cLaw_law 544 = .ok (.iadd, 1) := by decide +kernel
theorem dLaw_law_545 : decode cLaw_law 545 = .ok (.iaload, 1) := by decide +kernel
theorem dLaw_law_546 : decode cLaw_law 546 = .ok (.aload_n 0, 1) := by decide +kernel
theorem dLaw_law_547 : decode cLaw_law 547 = .ok (.iload 5, 2) := by decide +kernel
theorem dLaw_law_549 : decode cLaw_law 549 = .ok (.iconst 2, 1) := by decide +kernel
theorem dLaw_law_550 : decode cLaw_law 550 = .ok (.iadd, 1) := by decide +kernel
theorem dLaw_law_551 : decode cLaw_law 551 = .ok (.iaload, 1) := by decide +kernel
theorem dLaw_law_552 : decode cLaw_law 552 = .ok (.invokevirtual 94, 3) := by decide +kernel
theorem dLaw_law_555 : decode cLaw_law 555 = .ok (.istore 7, 2) := by decide +kernel
theorem dLaw_law_557 : decode cLaw_law 557 = .ok (.aload_n 2, 1) := by decide +kernel
theorem dLaw_law_558 : decode cLaw_law 558 = .ok (.invokevirtual 65, 3) := by decide +kernel
theorem dLaw_law_561 : decode cLaw_law 561 = .ok (.iload 6, 2) := by decide +kernel
theorem dLaw_law_563 : decode cLaw_law 563 = .ok (.if_icmp .eq 5, 3) := by decide +kernel
theorem dLaw_law_566 : decode cLaw_law 566 = .ok (.iconst 0, 1) := by decide +kernel
theorem dLaw_law_567 : decode cLaw_law 567 = .ok (.ireturn, 1) := by decide +kernel
theorem dLaw_law_568 : decode cLaw_law 568 = .ok (.iload 6, 2) := by decide +kernel
theorem dLaw_law_570 : decode cLaw_law 570 = .ok (.ifCond .ne 15, 3) := by decide +kernel
theorem dLaw_law_573 : decode cLaw_law 573 = .ok (.aload_n 3, 1) := by decide +kernel
theorem dLaw_law_574 : decode cLaw_law 574 = .ok (.iconst 0, 1) := by decide +kernel
theorem dLaw_law_575 : decode cLaw_law 575 = .ok (.laload, 1) := by decide +kernel
theorem dLaw_law_576 : decode cLaw_law 576 = .ok (.iload 7, 2) := by decide +kernel
theorem dLaw_law_578 : decode cLaw_law 578 = .ok (.i2l, 1) := by decide +kernel
theorem dLaw_law_579 : decode cLaw_law 579 = .ok (.lcmp, 1) := by decide +kernel
theorem dLaw_law_580 : decode cLaw_law 580 = .ok (.ifCond .eq 5, 3) := by decide +kernel
theorem dLaw_law_583 : decode cLaw_law 583 = .ok (.iconst 0, 1) := by decide +kernel
theorem dLaw_law_584 : decode cLaw_law 584 = .ok (.ireturn, 1) := by decide +kernel
theorem dLaw_law_585 : decode cLaw_law 585 = .ok (.goto 193, 3) := by decide +kernel
theorem dLaw_law_588 : decode cLaw_law 588 = .ok (.aload_n 1, 1) := by decide +kernel
theorem dLaw_law_589 : decode cLaw_law 589 = .ok (.aload_n 0, 1) := by decide +kernel
theorem dLaw_law_590 : decode cLaw_law 590 = .ok (.iload 5, 2) := by decide +kernel
theorem dLaw_law_592 : decode cLaw_law 592 = .ok (.iconst 1, 1) := by decide +kernel
theorem dLaw_law_593 : decode cLaw_law 593 = .ok (.iadd, 1) := by decide +kernel
theorem dLaw_law_594 : decode cLaw_law 594 = .ok (.iaload, 1) := by decide +kernel
theorem dLaw_law_595 : decode cLaw_law 595 = .ok (.aload_n 3, 1) := by decide +kernel
theorem dLaw_law_596 : decode cLaw_law 596 = .ok (.invokestatic 95, 3) := by decide +kernel
theorem dLaw_law_599 : decode cLaw_law 599 = .ok (.istore 6, 2) := by decide +kernel
theorem dLaw_law_601 : decode cLaw_law 601 = .ok (.aload_n 2, 1) := by decide +kernel
theorem dLaw_law_602 : decode cLaw_law 602 = .ok (.aload_n 0, 1) := by decide +kernel
theorem dLaw_law_603 : decode cLaw_law 603 = .ok (.iload 5, 2) := by decide +kernel
theorem dLaw_law_605 : decode cLaw_law 605 = .ok (.iconst 1, 1) := by decide +kernel
theorem dLaw_law_606 : decode cLaw_law 606 = .ok (.iadd, 1) := by decide +kernel
theorem dLaw_law_607 : decode cLaw_law 607 = .ok (.iaload, 1) := by decide +kernel
theorem dLaw_law_608 : decode cLaw_law 608 = .ok (.invokevirtual 97, 3) := by decide +kernel
theorem dLaw_law_611 : decode cLaw_law 611 = .ok (.istore 7, 2) := by decide +kernel
theorem dLaw_law_613 : decode cLaw_law 613 = .ok (.aload_n 2, 1) := by decide +kernel
theorem dLaw_law_614 : decode cLaw_law 614 = .ok (.invokevirtual 65, 3) := by decide +kernel
theorem dLaw_law_617 : decode cLaw_law 617 = .ok (.iload 6, 2) := by decide +kernel
theorem dLaw_law_619 : decode cLaw_law 619 = .ok (.if_icmp .eq 5, 3) := by decide +kernel
theorem dLaw_law_622 : decode cLaw_law 622 = .ok (.iconst 0, 1) := by decide +kernel
theorem dLaw_law_623 : decode cLaw_law 623 = .ok (.ireturn, 1) := by decide +kernel
theorem dLaw_law_624 : decode cLaw_law 624 = .ok (.iload 6, 2) := by decide +kernel
theorem dLaw_law_626 : decode cLaw_law 626 = .ok (.ifCond .ne 15, 3) := by decide +kernel
theorem dLaw_law_629 : decode cLaw_law 629 = .ok (.aload_n 3, 1) := by decide +kernel
theorem dLaw_law_630 : decode cLaw_law 630 = .ok (.iconst 0, 1) := by decide +kernel
theorem dLaw_law_631 : decode cLaw_law 631 = .ok (.laload, 1) := by decide +kernel
theorem dLaw_law_632 : decode cLaw_law 632 = .ok (.iload 7, 2) := by decide +kernel
theorem dLaw_law_634 : decode cLaw_law 634 = .ok (.i2l, 1) := by decide +kernel
theorem dLaw_law_635 : decode cLaw_law 635 = .ok (.lcmp, 1) := by decide +kernel
theorem dLaw_law_636 : decode cLaw_law 636 = .ok (.ifCond .eq 5, 3) := by decide +kernel
theorem dLaw_law_639 : decode cLaw_law 639 = .ok (.iconst 0, 1) := by decide +kernel
theorem dLaw_law_640 : decode cLaw_law 640 = .ok (.ireturn, 1) := by decide +kernel
theorem dLaw_law_641 : decode cLaw_law 641 = .ok (.goto 137, 3) := by decide +kernel
theorem dLaw_law_644 : decode cLaw_law 644 = .ok (.aload_n 1, 1) := by decide +kernel
theorem dLaw_law_645 : decode cLaw_law 645 = .ok (.invokevirtual 98, 3) := by decide +kernel
theorem dLaw_law_648 : decode cLaw_law 648 = .ok (.aload_n 2, 1) := by decide +kernel
theorem dLaw_law_649 : decode cLaw_law 649 = .ok (.invokevirtual 101, 3) := by decide +kernel
theorem dLaw_law_652 : decode cLaw_law 652 = .ok (.if_icmp .eq 126, 3) := by decide +kernel
theorem dLaw_law_655 : decode cLaw_law 655 = .ok (.iconst 0, 1) := by decide +kernel
theorem dLaw_law_656 : decode cLaw_law 656 = .ok (.ireturn, 1) := by decide +kernel
theorem dLaw_law_657 : decode cLaw_law 657 = .ok (.aload_n 1, 1) := by decide +kernel
theorem dLaw_law_658 : decode cLaw_law 658 = .ok (.aload 4, 2) := by decide +kernel
theorem dLaw_law_660 : decode cLaw_law 660 = .ok (.invokestatic 102, 3) := by decide +kernel
theorem dLaw_law_663 : decode cLaw_law 663 = .ok (.istore 6, 2) := by decide +kernel
theorem dLaw_law_665 : decode cLaw_law 665 = .ok (.aload_n 2, 1) := by decide +kernel
theorem dLaw_law_666 : decode cLaw_law 666 = .ok (.invokevirtual 105, 3) := by decide +kernel
theorem dLaw_law_669 : decode cLaw_law 669 = .ok (.dstore 7, 2) := by decide +kernel
theorem dLaw_law_671 : decode cLaw_law 671 = .ok (.aload_n 2, 1) := by decide +kernel
theorem dLaw_law_672 : decode cLaw_law 672 = .ok (.invokevirtual 65, 3) := by decide +kernel
theorem dLaw_law_675 : decode cLaw_law 675 = .ok (.iload 6, 2) := by decide +kernel
theorem dLaw_law_677 : decode cLaw_law 677 = .ok (.if_icmp .eq 5, 3) := by decide +kernel
theorem dLaw_law_680 : decode cLaw_law 680 = .ok (.iconst 0, 1) := by decide +kernel
theorem dLaw_law_681 : decode cLaw_law 681 = .ok (.ireturn, 1) := by decide +kernel
theorem dLaw_law_682 : decode cLaw_law 682 = .ok (.iload 6, 2) := by decide +kernel
theorem dLaw_law_684 : decode cLaw_law 684 = .ok (.ifCond .ne 35, 3) := by decide +kernel
theorem dLaw_law_687 : decode cLaw_law 687 = .ok (.aload 4, 2) := by decide +kernel
theorem dLaw_law_689 : decode cLaw_law 689 = .ok (.iconst 0, 1) := by decide +kernel
theorem dLaw_law_690 : decode cLaw_law 690 = .ok (.daload, 1) := by decide +kernel
theorem dLaw_law_691 : decode cLaw_law 691 = .ok (.dload 7, 2) := by decide +kernel
theorem dLaw_law_693 : decode cLaw_law 693 = .ok (.dcmp .l, 1) := by decide +kernel
theorem dLaw_law_694 : decode cLaw_law 694 = .ok (.ifCond .eq 25, 3) := by decide +kernel
theorem dLaw_law_697 : decode cLaw_law 697 = .ok (.aload 4, 2) := by decide +kernel
theorem dLaw_law_699 : decode cLaw_law 699 = .ok (.iconst 0, 1) := by decide +kernel
theorem dLaw_law_700 : decode cLaw_law 700 = .ok (.daload, 1) := by decide +kernel
theorem dLaw_law_701 : decode cLaw_law 701 = .ok (.aload 4, 2) := by decide +kernel
theorem dLaw_law_703 : decode cLaw_law 703 = .ok (.iconst 0, 1) := by decide +kernel
theorem dLaw_law_704 : decode cLaw_law 704 = .ok (.daload, 1) := by decide +kernel
theorem dLaw_law_705 : decode cLaw_law 705 = .ok (.dcmp .l, 1) := by decide +kernel
theorem dLaw_law_706 : decode cLaw_law 706 = .ok (.ifCond .eq 11, 3) := by decide +kernel
theorem dLaw_law_709 : decode cLaw_law 709 = .ok (.dload 7, 2) := by decide +kernel
theorem dLaw_law_711 : decode cLaw_law 711 = .ok (.dload 7, 2) := by decide +kernel
theorem dLaw_law_713 : decode cLaw_law 713 = .ok (.dcmp .l, 1) := by decide +kernel
theorem dLaw_law_714 : decode cLaw_law 714 = .ok (.ifCond .ne 5, 3) := by decide +kernel
theorem dLaw_law_717 : decode cLaw_law 717 = .ok (.iconst 0, 1) := by decide +kernel
theorem dLaw_law_718 : decode cLaw_law 718 = .ok (.ireturn, 1) := by decide +kernel
theorem dLaw_law_719 : decode cLaw_law 719 = .ok (.goto 59, 3) := by decide +kernel
theorem dLaw_law_722 : decode cLaw_law 722 = .ok (.aload_n 1, 1) := by decide +kernel
theorem dLaw_law_723 : decode cLaw_law 723 = .ok (.aload_n 0, 1) := by decide +kernel
theorem dLaw_law_724 : decode cLaw_law 724 = .ok (.iload 5, 2) := by decide +kernel
theorem dLaw_law_726 : decode cLaw_law 726 = .ok (.iconst 1, 1) := by decide +kernel
theorem dLaw_law_727 : decode cLaw_law 727 = .ok (.iadd, 1) := by decide +kernel
theorem dLaw_law_728 : decode cLaw_law 728 = .ok (.iaload, 1) := by decide +kernel
theorem dLaw_law_729 : decode cLaw_law 729 = .ok (.aload_n 3, 1) := by decide +kernel
theorem dLaw_law_730 : decode cLaw_law 730 = .ok (.invokestatic 106, 3) := by decide +kernel
theorem dLaw_law_733 : decode cLaw_law 733 = .ok (.istore 6, 2) := by decide +kernel
theorem dLaw_law_735 : decode cLaw_law 735 = .ok (.aload_n 2, 1) := by decide +kernel
theorem dLaw_law_736 : decode cLaw_law 736 = .ok (.aload_n 0, 1) := by decide +kernel
theorem dLaw_law_737 : decode cLaw_law 737 = .ok (.iload 5, 2) := by decide +kernel
theorem dLaw_law_739 : decode cLaw_law 739 = .ok (.iconst 1, 1) := by decide +kernel
theorem dLaw_law_740 : decode cLaw_law 740 = .ok (.iadd, 1) := by decide +kernel
theorem dLaw_law_741 : decode cLaw_law 741 = .ok (.iaload, 1) := by decide +kernel
theorem dLaw_law_742 : decode cLaw_law 742 = .ok (.invokevirtual 108, 3) := by decide +kernel
theorem dLaw_law_745 : decode cLaw_law 745 = .ok (.istore 7, 2) := by decide +kernel
theorem dLaw_law_747 : decode cLaw_law 747 = .ok (.aload_n 2, 1) := by decide +kernel
theorem dLaw_law_748 : decode cLaw_law 748 = .ok (.invokevirtual 65, 3) := by decide +kernel
theorem dLaw_law_751 : decode cLaw_law 751 = .ok (.iload 6, 2) := by decide +kernel
theorem dLaw_law_753 : decode cLaw_law 753 = .ok (.if_icmp .eq 5, 3) := by decide +kernel
theorem dLaw_law_756 : decode cLaw_law 756 = .ok (.iconst 0, 1) := by decide +kernel
theorem dLaw_law_757 : decode cLaw_law 757 = .ok (.ireturn, 1) := by decide +kernel
theorem dLaw_law_758 : decode cLaw_law 758 = .ok (.iload 6, 2) := by decide +kernel
theorem dLaw_law_760 : decode cLaw_law 760 = .ok (.ifCond .ne 15, 3) := by decide +kernel
theorem dLaw_law_763 : decode cLaw_law 763 = .ok (.aload_n 3, 1) := by decide +kernel
theorem dLaw_law_764 : decode cLaw_law 764 = .ok (.iconst 0, 1) := by decide +kernel
theorem dLaw_law_765 : decode cLaw_law 765 = .ok (.laload, 1) := by decide +kernel
theorem dLaw_law_766 : decode cLaw_law 766 = .ok (.iload 7, 2) := by decide +kernel
theorem dLaw_law_768 : decode cLaw_law 768 = .ok (.i2l, 1) := by decide +kernel
theorem dLaw_law_769 : decode cLaw_law 769 = .ok (.lcmp, 1) := by decide +kernel
theorem dLaw_law_770 : decode cLaw_law 770 = .ok (.ifCond .eq 5, 3) := by decide +kernel
theorem dLaw_law_773 : decode cLaw_law 773 = .ok (.iconst 0, 1) := by decide +kernel
theorem dLaw_law_774 : decode cLaw_law 774 = .ok (.ireturn, 1) := by decide +kernel
theorem dLaw_law_775 : decode cLaw_law 775 = .ok (.goto 3, 3) := by decide +kernel
theorem dLaw_law_778 : decode cLaw_law 778 = .ok (.iinc 5 3, 3) := by decide +kernel
theorem dLaw_law_781 : decode cLaw_law 781 = .ok (.goto (-753), 3) := by decide +kernel
theorem dLaw_law_784 : decode cLaw_law 784 = .ok (.iconst 1, 1) := by decide +kernel
theorem dLaw_law_785 : decode cLaw_law 785 = .ok (.ireturn, 1) := by decide +kernel
