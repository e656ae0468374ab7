theorem us_A_fill_5 (n : Nat) : ml_A_fill_5 (n + 1) = mb_A_fill_5 (ml_A_fill_5 n) := rfl
theorem us_S_sum_3 (n : Nat) : ml_S_sum_3 (n + 1) = mb_S_sum_3 (ml_S_sum_3 n) := rfl
theorem us_S_countOfNonZero_4 (n : Nat) : ml_S_countOfNonZero_4 (n + 1) = mb_S_countOfNonZero_4 (ml_S_countOfNonZero_4 n) := rfl
theorem us_S_product_16 (r3 : Nat → Nat → Nat → Int → Int → pw_Sto → Option (Unit × pw_Sto)) (n : Nat) : ml_S_product_16 r3 (n + 1) = mb_S_product_16 r3 (ml_S_product_16 r3 n) := rfl
theorem us_S_product_3 (n : Nat) : ml_S_product_3 (n + 1) = mb_S_product_3 (ml_S_product_3 n) := rfl
theorem us_K_inverse_9 (n : Nat) : ml_K_inverse_9 (n + 1) = mb_K_inverse_9 (ml_K_inverse_9 n) := rfl
theorem us_S_reciprocal_28 (r15 : Nat → Nat → Int → Int → Int → pw_Sto → Option (Unit × pw_Sto)) (n : Nat) : ml_S_reciprocal_28 r15 (n + 1) = mb_S_reciprocal_28 r15 (ml_S_reciprocal_28 r15 n) := rfl
theorem us_S_reciprocal_15 (n : Nat) : ml_S_reciprocal_15 (n + 1) = mb_S_reciprocal_15 (ml_S_reciprocal_15 n) := rfl
theorem us_S_slope_2 (n : Nat) : ml_S_slope_2 (n + 1) = mb_S_slope_2 (ml_S_slope_2 n) := rfl
theorem us_P_measure_6 (n : Nat) : ml_P_measure_6 (n + 1) = mb_P_measure_6 (ml_P_measure_6 n) := rfl
theorem us_P_becomeStart_6 (n : Nat) : ml_P_becomeStart_6 (n + 1) = mb_P_becomeStart_6 (ml_P_becomeStart_6 n) := rfl
theorem us_P_gather_8 (n : Nat) : ml_P_gather_8 (n + 1) = mb_P_gather_8 (ml_P_gather_8 n) := rfl
theorem us_P_valueAt_8 (n : Nat) : ml_P_valueAt_8 (n + 1) = mb_P_valueAt_8 (ml_P_valueAt_8 n) := rfl
theorem us_P_divideByRoot_6 (n : Nat) : ml_P_divideByRoot_6 (n + 1) = mb_P_divideByRoot_6 (ml_P_divideByRoot_6 n) := rfl
theorem us_P_lowest_2 (n : Nat) : ml_P_lowest_2 (n + 1) = mb_P_lowest_2 (ml_P_lowest_2 n) := rfl
theorem us_P_scaleBy_2 (n : Nat) : ml_P_scaleBy_2 (n + 1) = mb_P_scaleBy_2 (ml_P_scaleBy_2 n) := rfl
theorem us_P_multiplyByRoot_10 (n : Nat) : ml_P_multiplyByRoot_10 (n + 1) = mb_P_multiplyByRoot_10 (ml_P_multiplyByRoot_10 n) := rfl
theorem us_E_divide_57 (n : Nat) : ml_E_divide_57 (n + 1) = mb_E_divide_57 (ml_E_divide_57 n) := rfl
theorem us_E_followWithCofactors_2 (n : Nat) : ml_E_followWithCofactors_2 (n + 1) = mb_E_followWithCofactors_2 (ml_E_followWithCofactors_2 n) := rfl
theorem us_E_runDownTo_2 (n : Nat) : ml_E_runDownTo_2 (n + 1) = mb_E_runDownTo_2 (ml_E_runDownTo_2 n) := rfl
theorem us_R_cancelRoot_2 (n : Nat) : ml_R_cancelRoot_2 (n + 1) = mb_R_cancelRoot_2 (ml_R_cancelRoot_2 n) := rfl
theorem us_R_agreement_14 (r2 : Nat → Nat → Int → Int → pw_Sto → Option (Int × pw_Sto)) (n : Nat) : ml_R_agreement_14 r2 (n + 1) = mb_R_agreement_14 r2 (ml_R_agreement_14 r2 n) := rfl
theorem us_R_agreement_2 (n : Nat) : ml_R_agreement_2 (n + 1) = mb_R_agreement_2 (ml_R_agreement_2 n) := rfl
theorem us_E_startWithPoints_25 (n : Nat) : ml_E_startWithPoints_25 (n + 1) = mb_E_startWithPoints_25 (ml_E_startWithPoints_25 n) := rfl
theorem us_Z_copyFrom_10 (n : Nat) : ml_Z_copyFrom_10 (n + 1) = mb_Z_copyFrom_10 (ml_Z_copyFrom_10 n) := rfl
theorem us_Z_restart_7 (n : Nat) : ml_Z_restart_7 (n + 1) = mb_Z_restart_7 (ml_Z_restart_7 n) := rfl
theorem us_T_peek_0 (n : Nat) : ml_T_peek_0 (n + 1) = mb_T_peek_0 (ml_T_peek_0 n) := rfl
theorem us_T_readNumber_4 (n : Nat) : ml_T_readNumber_4 (n + 1) = mb_T_readNumber_4 (ml_T_readNumber_4 n) := rfl
theorem us_T_readPolynomial_9 (n : Nat) : ml_T_readPolynomial_9 (n + 1) = mb_T_readPolynomial_9 (ml_T_readPolynomial_9 n) := rfl
theorem us_Z_hasPointAt_2 (n : Nat) : ml_Z_hasPointAt_2 (n + 1) = mb_Z_hasPointAt_2 (ml_Z_hasPointAt_2 n) := rfl
theorem us_D_fill_19 (r3 : Nat → Nat → Int → Int → Int → pw_Sto → Option (Unit × pw_Sto)) (n : Nat) : ml_D_fill_19 r3 (n + 1) = mb_D_fill_19 r3 (ml_D_fill_19 r3 n) := rfl
theorem us_D_fill_3 (n : Nat) : ml_D_fill_3 (n + 1) = mb_D_fill_3 (ml_D_fill_3 n) := rfl
theorem us_D_pivotRow_2 (n : Nat) : ml_D_pivotRow_2 (n + 1) = mb_D_pivotRow_2 (ml_D_pivotRow_2 n) := rfl
theorem us_D_swapRows_2 (n : Nat) : ml_D_swapRows_2 (n + 1) = mb_D_swapRows_2 (ml_D_swapRows_2 n) := rfl
theorem us_D_clearBelow_54 (r19 : Nat → Int → Int → Int → Int → Int → pw_Sto → Option (Unit × pw_Sto)) (n : Nat) : ml_D_clearBelow_54 r19 (n + 1) = mb_D_clearBelow_54 r19 (ml_D_clearBelow_54 r19 n) := rfl
theorem us_D_clearBelow_19 (n : Nat) : ml_D_clearBelow_19 (n + 1) = mb_D_clearBelow_19 (ml_D_clearBelow_19 n) := rfl
theorem us_D_valueOf_13 (n : Nat) : ml_D_valueOf_13 (n + 1) = mb_D_valueOf_13 (ml_D_valueOf_13 n) := rfl
theorem us_Q_firstColumns_10 (n : Nat) : ml_Q_firstColumns_10 (n + 1) = mb_Q_firstColumns_10 (ml_Q_firstColumns_10 n) := rfl
theorem us_Q_nextE_2 (n : Nat) : ml_Q_nextE_2 (n + 1) = mb_Q_nextE_2 (ml_Q_nextE_2 n) := rfl
theorem us_Q_nextQ_2 (n : Nat) : ml_Q_nextQ_2 (n + 1) = mb_Q_nextQ_2 (ml_Q_nextQ_2 n) := rfl
theorem us_Q_number_10 (n : Nat) : ml_Q_number_10 (n + 1) = mb_Q_number_10 (ml_Q_number_10 n) := rfl
theorem us_B_gapAt_6 (n : Nat) : ml_B_gapAt_6 (n + 1) = mb_B_gapAt_6 (ml_B_gapAt_6 n) := rfl
theorem us_B_correct_18 (n : Nat) : ml_B_correct_18 (n + 1) = mb_B_correct_18 (ml_B_correct_18 n) := rfl
theorem us_B_fit_44 (n : Nat) : ml_B_fit_44 (n + 1) = mb_B_fit_44 (ml_B_fit_44 n) := rfl
theorem us_W_isPrime_16 (n : Nat) : ml_W_isPrime_16 (n + 1) = mb_W_isPrime_16 (ml_W_isPrime_16 n) := rfl
theorem us_W_composeIntoResult_11 (n : Nat) : ml_W_composeIntoResult_11 (n + 1) = mb_W_composeIntoResult_11 (ml_W_composeIntoResult_11 n) := rfl
theorem us_W_normalCount_26 (n : Nat) : ml_W_normalCount_26 (n + 1) = mb_W_normalCount_26 (ml_W_normalCount_26 n) := rfl
theorem us_W_quotientCount_47 (n : Nat) : ml_W_quotientCount_47 (n + 1) = mb_W_quotientCount_47 (ml_W_quotientCount_47 n) := rfl
theorem us_W_quotient_72 (n : Nat) : ml_W_quotient_72 (n + 1) = mb_W_quotient_72 (ml_W_quotient_72 n) := rfl
theorem us_W_interpolate_42 (n : Nat) : ml_W_interpolate_42 (n + 1) = mb_W_interpolate_42 (ml_W_interpolate_42 n) := rfl
theorem us_W_missedPoints_4 (n : Nat) : ml_W_missedPoints_4 (n + 1) = mb_W_missedPoints_4 (ml_W_missedPoints_4 n) := rfl
theorem us_W_mixSeries_48 (n : Nat) : ml_W_mixSeries_48 (n + 1) = mb_W_mixSeries_48 (ml_W_mixSeries_48 n) := rfl
theorem us_W_mixSeries_17 (n : Nat) : ml_W_mixSeries_17 (n + 1) = mb_W_mixSeries_17 (ml_W_mixSeries_17 n) := rfl
theorem us_W_mixPoints_73 (n : Nat) : ml_W_mixPoints_73 (n + 1) = mb_W_mixPoints_73 (ml_W_mixPoints_73 n) := rfl
theorem us_W_mixPoints_15 (n : Nat) : ml_W_mixPoints_15 (n + 1) = mb_W_mixPoints_15 (ml_W_mixPoints_15 n) := rfl
theorem us_W_digest_66 (n : Nat) : ml_W_digest_66 (n + 1) = mb_W_digest_66 (ml_W_digest_66 n) := rfl
theorem us_W_digest_6 (n : Nat) : ml_W_digest_6 (n + 1) = mb_W_digest_6 (ml_W_digest_6 n) := rfl
theorem us_M_inverse_4 (n : Nat) : ml_M_inverse_4 (n + 1) = mb_M_inverse_4 (ml_M_inverse_4 n) := rfl
theorem us_M_isPrime_11 (n : Nat) : ml_M_isPrime_11 (n + 1) = mb_M_isPrime_11 (ml_M_isPrime_11 n) := rfl
theorem us_M_save_50 (n : Nat) : ml_M_save_50 (n + 1) = mb_M_save_50 (ml_M_save_50 n) := rfl
theorem us_M_save_10 (n : Nat) : ml_M_save_10 (n + 1) = mb_M_save_10 (ml_M_save_10 n) := rfl
theorem us_M_setPrime_25 (n : Nat) : ml_M_setPrime_25 (n + 1) = mb_M_setPrime_25 (ml_M_setPrime_25 n) := rfl
theorem us_M_take_2 (n : Nat) : ml_M_take_2 (n + 1) = mb_M_take_2 (ml_M_take_2 n) := rfl
theorem us_M_clear_2 (n : Nat) : ml_M_clear_2 (n + 1) = mb_M_clear_2 (ml_M_clear_2 n) := rfl
theorem us_M_store_8 (n : Nat) : ml_M_store_8 (n + 1) = mb_M_store_8 (ml_M_store_8 n) := rfl
theorem us_M_makeProduct_12 (r2 : Nat → Int → pw_Sto → Option (Unit × pw_Sto)) (n : Nat) : ml_M_makeProduct_12 r2 (n + 1) = mb_M_makeProduct_12 r2 (ml_M_makeProduct_12 r2 n) := rfl
theorem us_M_makeProduct_2 (n : Nat) : ml_M_makeProduct_2 (n + 1) = mb_M_makeProduct_2 (ml_M_makeProduct_2 n) := rfl
theorem us_M_makeQuotient_29 (r13 : Nat → Int → Int → pw_Sto → Option (Unit × pw_Sto)) (n : Nat) : ml_M_makeQuotient_29 r13 (n + 1) = mb_M_makeQuotient_29 r13 (ml_M_makeQuotient_29 r13 n) := rfl
theorem us_M_makeQuotient_13 (n : Nat) : ml_M_makeQuotient_13 (n + 1) = mb_M_makeQuotient_13 (ml_M_makeQuotient_13 n) := rfl
theorem us_M_add_31 (n : Nat) : ml_M_add_31 (n + 1) = mb_M_add_31 (ml_M_add_31 n) := rfl
theorem us_M_substitute_72 (r64 : Nat → Int → Int → Int → pw_Sto → Option (Int × pw_Sto)) (n : Nat) : ml_M_substitute_72 r64 (n + 1) = mb_M_substitute_72 r64 (ml_M_substitute_72 r64 n) := rfl
theorem us_M_substitute_64 (n : Nat) : ml_M_substitute_64 (n + 1) = mb_M_substitute_64 (ml_M_substitute_64 n) := rfl
theorem us_M_derivative_23 (n : Nat) : ml_M_derivative_23 (n + 1) = mb_M_derivative_23 (ml_M_derivative_23 n) := rfl
theorem us_M_skip_0 (n : Nat) : ml_M_skip_0 (n + 1) = mb_M_skip_0 (ml_M_skip_0 n) := rfl
theorem us_M_readTerm_9 (n : Nat) : ml_M_readTerm_9 (n + 1) = mb_M_readTerm_9 (ml_M_readTerm_9 n) := rfl
theorem us_M_readPolynomial_33 (n : Nat) : ml_M_readPolynomial_33 (n + 1) = mb_M_readPolynomial_33 (ml_M_readPolynomial_33 n) := rfl
theorem us_M_exchange_2 (n : Nat) : ml_M_exchange_2 (n + 1) = mb_M_exchange_2 (ml_M_exchange_2 n) := rfl
theorem us_M_lessRow_3 (n : Nat) : ml_M_lessRow_3 (n + 1) = mb_M_lessRow_3 (ml_M_lessRow_3 n) := rfl
theorem us_M_rowWith_3 (n : Nat) : ml_M_rowWith_3 (n + 1) = mb_M_rowWith_3 (ml_M_rowWith_3 n) := rfl
theorem us_M_reduce_118 (r5 : Nat → Int → Int → Int → Int → pw_Sto → Option (Unit × pw_Sto)) (n : Nat) : ml_M_reduce_118 r5 (n + 1) = mb_M_reduce_118 r5 (ml_M_reduce_118 r5 n) := rfl
theorem us_M_reduce_71 (r5 : Nat → Int → Int → Int → Int → pw_Sto → Option (Unit × pw_Sto)) (n : Nat) : ml_M_reduce_71 r5 (n + 1) = mb_M_reduce_71 r5 (ml_M_reduce_71 r5 n) := rfl
theorem us_M_reduce_5 (n : Nat) : ml_M_reduce_5 (n + 1) = mb_M_reduce_5 (ml_M_reduce_5 n) := rfl
theorem us_M_findVector_26 (n : Nat) : ml_M_findVector_26 (n + 1) = mb_M_findVector_26 (ml_M_findVector_26 n) := rfl
theorem us_M_findVector_8 (n : Nat) : ml_M_findVector_8 (n + 1) = mb_M_findVector_8 (ml_M_findVector_8 n) := rfl
theorem us_M_degree_4 (n : Nat) : ml_M_degree_4 (n + 1) = mb_M_degree_4 (ml_M_degree_4 n) := rfl
theorem us_M_copy_2 (n : Nat) : ml_M_copy_2 (n + 1) = mb_M_copy_2 (ml_M_copy_2 n) := rfl
theorem us_M_divide_58 (r26 : Nat → Nat → Nat → Nat → Int → Int → Int → pw_Sto → Option (Unit × pw_Sto)) (n : Nat) : ml_M_divide_58 r26 (n + 1) = mb_M_divide_58 r26 (ml_M_divide_58 r26 n) := rfl
theorem us_M_divide_26 (n : Nat) : ml_M_divide_26 (n + 1) = mb_M_divide_26 (ml_M_divide_26 n) := rfl
theorem us_M_toLowest_193 (n : Nat) : ml_M_toLowest_193 (n + 1) = mb_M_toLowest_193 (ml_M_toLowest_193 n) := rfl
theorem us_M_toLowest_165 (n : Nat) : ml_M_toLowest_165 (n + 1) = mb_M_toLowest_165 (ml_M_toLowest_165 n) := rfl
theorem us_M_toLowest_47 (n : Nat) : ml_M_toLowest_47 (n + 1) = mb_M_toLowest_47 (ml_M_toLowest_47 n) := rfl
theorem us_M_valueAt_6 (n : Nat) : ml_M_valueAt_6 (n + 1) = mb_M_valueAt_6 (ml_M_valueAt_6 n) := rfl
theorem us_M_approximate_140 (r131 : Nat → Int → Int → Int → pw_Sto → Option (Unit × pw_Sto)) (n : Nat) : ml_M_approximate_140 r131 (n + 1) = mb_M_approximate_140 r131 (ml_M_approximate_140 r131 n) := rfl
theorem us_M_approximate_131 (n : Nat) : ml_M_approximate_131 (n + 1) = mb_M_approximate_131 (ml_M_approximate_131 n) := rfl
theorem us_M_approximate_102 (n : Nat) : ml_M_approximate_102 (n + 1) = mb_M_approximate_102 (ml_M_approximate_102 n) := rfl
theorem us_M_approximate_19 (r10 : Nat → Int → Int → Int → Int → pw_Sto → Option (Unit × pw_Sto)) (n : Nat) : ml_M_approximate_19 r10 (n + 1) = mb_M_approximate_19 r10 (ml_M_approximate_19 r10 n) := rfl
theorem us_M_approximate_10 (n : Nat) : ml_M_approximate_10 (n + 1) = mb_M_approximate_10 (ml_M_approximate_10 n) := rfl
theorem us_M_orderOf_44 (n : Nat) : ml_M_orderOf_44 (n + 1) = mb_M_orderOf_44 (ml_M_orderOf_44 n) := rfl
theorem us_M_orderOf_2 (n : Nat) : ml_M_orderOf_2 (n + 1) = mb_M_orderOf_2 (ml_M_orderOf_2 n) := rfl
theorem us_M_normals_5 (n : Nat) : ml_M_normals_5 (n + 1) = mb_M_normals_5 (ml_M_normals_5 n) := rfl
theorem us_M_determinant_204 (r118 : Nat → Int → Int → Int → pw_Sto → Option (Int × pw_Sto)) (n : Nat) : ml_M_determinant_204 r118 (n + 1) = mb_M_determinant_204 r118 (ml_M_determinant_204 r118 n) := rfl
theorem us_M_determinant_118 (n : Nat) : ml_M_determinant_118 (n + 1) = mb_M_determinant_118 (ml_M_determinant_118 n) := rfl
theorem us_M_determinant_55 (r46 : Nat → Int → Int → Int → Int → pw_Sto → Option (Int × pw_Sto)) (n : Nat) : ml_M_determinant_55 r46 (n + 1) = mb_M_determinant_55 r46 (ml_M_determinant_55 r46 n) := rfl
theorem us_M_determinant_46 (n : Nat) : ml_M_determinant_46 (n + 1) = mb_M_determinant_46 (ml_M_determinant_46 n) := rfl
theorem us_M_findScheme_198 (r89 : Nat → Int → pw_Sto → Option (Unit × pw_Sto)) (n : Nat) : ml_M_findScheme_198 r89 (n + 1) = mb_M_findScheme_198 r89 (ml_M_findScheme_198 r89 n) := rfl
theorem us_M_findScheme_97 (r89 : Nat → Int → pw_Sto → Option (Unit × pw_Sto)) (n : Nat) : ml_M_findScheme_97 r89 (n + 1) = mb_M_findScheme_97 r89 (ml_M_findScheme_97 r89 n) := rfl
theorem us_M_findScheme_89 (n : Nat) : ml_M_findScheme_89 (n + 1) = mb_M_findScheme_89 (ml_M_findScheme_89 n) := rfl
theorem us_M_findScheme_2 (n : Nat) : ml_M_findScheme_2 (n + 1) = mb_M_findScheme_2 (ml_M_findScheme_2 n) := rfl
theorem us_M_findQuotients_55 (n : Nat) : ml_M_findQuotients_55 (n + 1) = mb_M_findQuotients_55 (ml_M_findQuotients_55 n) := rfl
theorem us_M_findQuotients_26 (n : Nat) : ml_M_findQuotients_26 (n + 1) = mb_M_findQuotients_26 (ml_M_findQuotients_26 n) := rfl
theorem us_M_isRecurrent_19 (r10 : Nat → Int → Int → Int → Int → pw_Sto → Option (Int × pw_Sto)) (n : Nat) : ml_M_isRecurrent_19 r10 (n + 1) = mb_M_isRecurrent_19 r10 (ml_M_isRecurrent_19 r10 n) := rfl
theorem us_M_isRecurrent_10 (n : Nat) : ml_M_isRecurrent_10 (n + 1) = mb_M_isRecurrent_10 (ml_M_isRecurrent_10 n) := rfl
theorem us_M_complexityOf_2 (n : Nat) : ml_M_complexityOf_2 (n + 1) = mb_M_complexityOf_2 (ml_M_complexityOf_2 n) := rfl
theorem us_M_addPoint_37 (n : Nat) : ml_M_addPoint_37 (n + 1) = mb_M_addPoint_37 (ml_M_addPoint_37 n) := rfl
theorem us_M_clearPoints_12 (n : Nat) : ml_M_clearPoints_12 (n + 1) = mb_M_clearPoints_12 (ml_M_clearPoints_12 n) := rfl
theorem us_M_interpolate_148 (n : Nat) : ml_M_interpolate_148 (n + 1) = mb_M_interpolate_148 (ml_M_interpolate_148 n) := rfl
theorem us_M_interpolate_25 (r14 : Nat → Int → Int → Int → pw_Sto → Option (Unit × pw_Sto)) (n : Nat) : ml_M_interpolate_25 r14 (n + 1) = mb_M_interpolate_25 r14 (ml_M_interpolate_25 r14 n) := rfl
theorem us_M_interpolate_14 (n : Nat) : ml_M_interpolate_14 (n + 1) = mb_M_interpolate_14 (ml_M_interpolate_14 n) := rfl
theorem us_M_missed_9 (n : Nat) : ml_M_missed_9 (n + 1) = mb_M_missed_9 (ml_M_missed_9 n) := rfl
theorem us_M_undo_26 (n : Nat) : ml_M_undo_26 (n + 1) = mb_M_undo_26 (ml_M_undo_26 n) := rfl
theorem us_M_digest_262 (n : Nat) : ml_M_digest_262 (n + 1) = mb_M_digest_262 (ml_M_digest_262 n) := rfl
theorem us_M_digest_212 (n : Nat) : ml_M_digest_212 (n + 1) = mb_M_digest_212 (ml_M_digest_212 n) := rfl
theorem us_M_digest_108 (r69 : Nat → Int64 → Int → pw_Sto → Option (Int64 × pw_Sto)) (n : Nat) : ml_M_digest_108 r69 (n + 1) = mb_M_digest_108 r69 (ml_M_digest_108 r69 n) := rfl
theorem us_M_digest_77 (r69 : Nat → Int64 → Int → pw_Sto → Option (Int64 × pw_Sto)) (n : Nat) : ml_M_digest_77 r69 (n + 1) = mb_M_digest_77 r69 (ml_M_digest_77 r69 n) := rfl
theorem us_M_digest_69 (n : Nat) : ml_M_digest_69 (n + 1) = mb_M_digest_69 (ml_M_digest_69 n) := rfl
theorem us_M_digest_6 (n : Nat) : ml_M_digest_6 (n + 1) = mb_M_digest_6 (ml_M_digest_6 n) := rfl
