def my_Z_init : MethodName := ⟨"PadeWorkbench$State", "<init>", "()V"⟩
def my_H_init : MethodName := ⟨"PadeWorkbench$History", "<init>", "()V"⟩
def my_T_init : MethodName := ⟨"PadeWorkbench$FractionText", "<init>", "()V"⟩
def my_P_init : MethodName := ⟨"PadeWorkbench$Polynomial", "<init>", "()V"⟩
def my_E_init : MethodName := ⟨"PadeWorkbench$Euclid", "<init>", "()V"⟩
def my_R_init : MethodName := ⟨"PadeWorkbench$Fraction", "<init>", "()V"⟩
def my_D_init : MethodName := ⟨"PadeWorkbench$Toeplitz", "<init>", "()V"⟩
def my_Q_init : MethodName := ⟨"PadeWorkbench$Scheme", "<init>", "()V"⟩
def my_B_init : MethodName := ⟨"PadeWorkbench$Register", "<init>", "()V"⟩
def my_W_init : MethodName := ⟨"PadeWorkbench", "<init>", "()V"⟩
def my_W_isPrime : MethodName := ⟨"PadeWorkbench", "isPrime", "(I)Z"⟩
def my_W_fail : MethodName := ⟨"PadeWorkbench", "fail", "(I)I"⟩
def my_Z_copyFrom : MethodName := ⟨"PadeWorkbench$State", "copyFrom", "(LPadeWorkbench$State;)V"⟩
def my_H_keep : MethodName := ⟨"PadeWorkbench$History", "keep", "(LPadeWorkbench$State;)V"⟩
def my_A_fill : MethodName := ⟨"java/util/Arrays", "fill", "([II)V"⟩
def my_Z_restart : MethodName := ⟨"PadeWorkbench$State", "restart", "(I)V"⟩
def my_W_setPrime : MethodName := ⟨"PadeWorkbench", "setPrime", "(I)I"⟩
def my_W_isSlot : MethodName := ⟨"PadeWorkbench", "isSlot", "(I)Z"⟩
def my_W_isTerm : MethodName := ⟨"PadeWorkbench", "isTerm", "(I)Z"⟩
def my_W_isElement : MethodName := ⟨"PadeWorkbench", "isElement", "(I)Z"⟩
def my_W_set : MethodName := ⟨"PadeWorkbench", "set", "(III)I"⟩
def my_W_coefficient : MethodName := ⟨"PadeWorkbench", "coefficient", "(II)I"⟩
def my_K_reduce : MethodName := ⟨"PadeWorkbench$Field", "reduce", "(II)I"⟩
def my_S_sum : MethodName := ⟨"PadeWorkbench$Series", "sum", "([I[I[II)V"⟩
def my_S_countOfNonZero : MethodName := ⟨"PadeWorkbench$Series", "countOfNonZero", "([I)I"⟩
def my_W_store : MethodName := ⟨"PadeWorkbench", "store", "(I)I"⟩
def my_W_add : MethodName := ⟨"PadeWorkbench", "add", "(III)I"⟩
def my_S_product : MethodName := ⟨"PadeWorkbench$Series", "product", "([I[I[II)V"⟩
def my_W_multiply : MethodName := ⟨"PadeWorkbench", "multiply", "(III)I"⟩
def my_K_inverse : MethodName := ⟨"PadeWorkbench$Field", "inverse", "(II)I"⟩
def my_K_times : MethodName := ⟨"PadeWorkbench$Field", "times", "(III)I"⟩
def my_K_negative : MethodName := ⟨"PadeWorkbench$Field", "negative", "(II)I"⟩
def my_S_reciprocal : MethodName := ⟨"PadeWorkbench$Series", "reciprocal", "([I[II)V"⟩
def my_W_invert : MethodName := ⟨"PadeWorkbench", "invert", "(II)I"⟩
def my_W_composeIntoResult : MethodName := ⟨"PadeWorkbench", "composeIntoResult", "([I[I)V"⟩
def my_W_substitute : MethodName := ⟨"PadeWorkbench", "substitute", "(III)I"⟩
def my_S_slope : MethodName := ⟨"PadeWorkbench$Series", "slope", "([I[II)V"⟩
def my_W_derivative : MethodName := ⟨"PadeWorkbench", "derivative", "(II)I"⟩
def my_T_put : MethodName := ⟨"PadeWorkbench$FractionText", "put", "(I)V"⟩
def my_W_append : MethodName := ⟨"PadeWorkbench", "append", "(I)I"⟩
def my_W_clearText : MethodName := ⟨"PadeWorkbench", "clearText", "()I"⟩
def my_T_here : MethodName := ⟨"PadeWorkbench$FractionText", "here", "()I"⟩
def my_T_peek : MethodName := ⟨"PadeWorkbench$FractionText", "peek", "()I"⟩
def my_T_took : MethodName := ⟨"PadeWorkbench$FractionText", "took", "(I)Z"⟩
def my_T_isDigit : MethodName := ⟨"PadeWorkbench$FractionText", "isDigit", "(I)Z"⟩
def my_T_readNumber : MethodName := ⟨"PadeWorkbench$FractionText", "readNumber", "()I"⟩
def my_T_readExponent : MethodName := ⟨"PadeWorkbench$FractionText", "readExponent", "()I"⟩
def my_T_readTerm : MethodName := ⟨"PadeWorkbench$FractionText", "readTerm", "([IZ)Z"⟩
def my_T_readPolynomial : MethodName := ⟨"PadeWorkbench$FractionText", "readPolynomial", "([I)Z"⟩
def my_T_readFraction : MethodName := ⟨"PadeWorkbench$FractionText", "readFraction", "(I)Z"⟩
def my_W_parse : MethodName := ⟨"PadeWorkbench", "parse", "(I)I"⟩
def my_W_isApproximant : MethodName := ⟨"PadeWorkbench", "isApproximant", "(III)Z"⟩
def my_P_becomeZero : MethodName := ⟨"PadeWorkbench$Polynomial", "becomeZero", "()V"⟩
def my_P_becomePower : MethodName := ⟨"PadeWorkbench$Polynomial", "becomePower", "(I)V"⟩
def my_P_measure : MethodName := ⟨"PadeWorkbench$Polynomial", "measure", "()V"⟩
def my_P_becomeStart : MethodName := ⟨"PadeWorkbench$Polynomial", "becomeStart", "([II)V"⟩
def my_E_startCofactors : MethodName := ⟨"PadeWorkbench$Euclid", "startCofactors", "()V"⟩
def my_E_startWithSeries : MethodName := ⟨"PadeWorkbench$Euclid", "startWithSeries", "([III)V"⟩
def my_P_gather : MethodName := ⟨"PadeWorkbench$Polynomial", "gather", "(LPadeWorkbench$Polynomial;III)V"⟩
def my_E_divide : MethodName := ⟨"PadeWorkbench$Euclid", "divide", "()V"⟩
def my_E_followWithCofactors : MethodName := ⟨"PadeWorkbench$Euclid", "followWithCofactors", "()V"⟩
def my_E_runDownTo : MethodName := ⟨"PadeWorkbench$Euclid", "runDownTo", "(I)V"⟩
def my_P_copyFrom : MethodName := ⟨"PadeWorkbench$Polynomial", "copyFrom", "(LPadeWorkbench$Polynomial;)V"⟩
def my_R_take : MethodName := ⟨"PadeWorkbench$Fraction", "take", "(LPadeWorkbench$Polynomial;LPadeWorkbench$Polynomial;)V"⟩
def my_P_valueAt : MethodName := ⟨"PadeWorkbench$Polynomial", "valueAt", "(II)I"⟩
def my_P_divideByRoot : MethodName := ⟨"PadeWorkbench$Polynomial", "divideByRoot", "(II)V"⟩
def my_R_cancelRoot : MethodName := ⟨"PadeWorkbench$Fraction", "cancelRoot", "(II)V"⟩
def my_P_lowest : MethodName := ⟨"PadeWorkbench$Polynomial", "lowest", "()I"⟩
def my_P_scaleBy : MethodName := ⟨"PadeWorkbench$Polynomial", "scaleBy", "(II)V"⟩
def my_R_scale : MethodName := ⟨"PadeWorkbench$Fraction", "scale", "(I)V"⟩
def my_W_approximate : MethodName := ⟨"PadeWorkbench", "approximate", "(III)V"⟩
def my_W_numeratorDegree : MethodName := ⟨"PadeWorkbench", "numeratorDegree", "(III)I"⟩
def my_W_denominatorDegree : MethodName := ⟨"PadeWorkbench", "denominatorDegree", "(III)I"⟩
def my_W_numerator : MethodName := ⟨"PadeWorkbench", "numerator", "(IIII)I"⟩
def my_W_denominator : MethodName := ⟨"PadeWorkbench", "denominator", "(IIII)I"⟩
def my_R_agreement : MethodName := ⟨"PadeWorkbench$Fraction", "agreement", "([II)I"⟩
def my_W_order : MethodName := ⟨"PadeWorkbench", "order", "(III)I"⟩
def my_R_block : MethodName := ⟨"PadeWorkbench$Fraction", "block", "(I)I"⟩
def my_W_blockSize : MethodName := ⟨"PadeWorkbench", "blockSize", "(III)I"⟩
def my_K_over : MethodName := ⟨"PadeWorkbench$Field", "over", "(III)I"⟩
def my_W_evaluate : MethodName := ⟨"PadeWorkbench", "evaluate", "(IIII)I"⟩
def my_W_normalCount : MethodName := ⟨"PadeWorkbench", "normalCount", "(II)I"⟩
def my_D_fill : MethodName := ⟨"PadeWorkbench$Toeplitz", "fill", "([III)V"⟩
def my_D_pivotRow : MethodName := ⟨"PadeWorkbench$Toeplitz", "pivotRow", "(II)I"⟩
def my_D_swapRows : MethodName := ⟨"PadeWorkbench$Toeplitz", "swapRows", "(II)V"⟩
def my_D_clearBelow : MethodName := ⟨"PadeWorkbench$Toeplitz", "clearBelow", "(III)V"⟩
def my_D_valueOf : MethodName := ⟨"PadeWorkbench$Toeplitz", "valueOf", "([IIII)I"⟩
def my_W_determinant : MethodName := ⟨"PadeWorkbench", "determinant", "(III)I"⟩
def my_W_isSchemePlace : MethodName := ⟨"PadeWorkbench", "isSchemePlace", "(III)Z"⟩
def my_Q_ratio : MethodName := ⟨"PadeWorkbench$Scheme", "ratio", "(III)I"⟩
def my_Q_firstColumns : MethodName := ⟨"PadeWorkbench$Scheme", "firstColumns", "([II)V"⟩
def my_Q_nextE : MethodName := ⟨"PadeWorkbench$Scheme", "nextE", "(I)V"⟩
def my_Q_nextQ : MethodName := ⟨"PadeWorkbench$Scheme", "nextQ", "(I)V"⟩
def my_Q_number : MethodName := ⟨"PadeWorkbench$Scheme", "number", "([IIIII)I"⟩
def my_W_quotientDifference : MethodName := ⟨"PadeWorkbench", "quotientDifference", "(IIII)I"⟩
def my_W_quotientCount : MethodName := ⟨"PadeWorkbench", "quotientCount", "(II)I"⟩
def my_W_quotient : MethodName := ⟨"PadeWorkbench", "quotient", "(IIII)I"⟩
def my_B_gapAt : MethodName := ⟨"PadeWorkbench$Register", "gapAt", "([III)I"⟩
def my_B_correct : MethodName := ⟨"PadeWorkbench$Register", "correct", "(III)V"⟩
def my_B_keepOlder : MethodName := ⟨"PadeWorkbench$Register", "keepOlder", "()V"⟩
def my_B_fit : MethodName := ⟨"PadeWorkbench$Register", "fit", "([III)V"⟩
def my_W_complexity : MethodName := ⟨"PadeWorkbench", "complexity", "(II)I"⟩
def my_W_recurrence : MethodName := ⟨"PadeWorkbench", "recurrence", "(III)I"⟩
def my_Z_hasPointAt : MethodName := ⟨"PadeWorkbench$State", "hasPointAt", "(I)Z"⟩
def my_Z_putPoint : MethodName := ⟨"PadeWorkbench$State", "putPoint", "(II)V"⟩
def my_W_addPoint : MethodName := ⟨"PadeWorkbench", "addPoint", "(II)I"⟩
def my_W_clearPoints : MethodName := ⟨"PadeWorkbench", "clearPoints", "()I"⟩
def my_W_isInterpolant : MethodName := ⟨"PadeWorkbench", "isInterpolant", "(I)Z"⟩
def my_P_multiplyByRoot : MethodName := ⟨"PadeWorkbench$Polynomial", "multiplyByRoot", "(II)V"⟩
def my_E_startWithPoints : MethodName := ⟨"PadeWorkbench$Euclid", "startWithPoints", "(LPadeWorkbench$State;)V"⟩
def my_W_interpolate : MethodName := ⟨"PadeWorkbench", "interpolate", "(I)V"⟩
def my_W_interpolant : MethodName := ⟨"PadeWorkbench", "interpolant", "(III)I"⟩
def my_R_passes : MethodName := ⟨"PadeWorkbench$Fraction", "passes", "(III)Z"⟩
def my_W_missedPoints : MethodName := ⟨"PadeWorkbench", "missedPoints", "()I"⟩
def my_W_unattainable : MethodName := ⟨"PadeWorkbench", "unattainable", "(I)I"⟩
def my_H_giveBack : MethodName := ⟨"PadeWorkbench$History", "giveBack", "(LPadeWorkbench$State;)V"⟩
def my_W_undo : MethodName := ⟨"PadeWorkbench", "undo", "()I"⟩
def my_W_errorCount : MethodName := ⟨"PadeWorkbench", "errorCount", "(I)I"⟩
def my_W_mix : MethodName := ⟨"PadeWorkbench", "mix", "(JI)J"⟩
def my_W_mixSeries : MethodName := ⟨"PadeWorkbench", "mixSeries", "(JI)J"⟩
def my_W_mixPoints : MethodName := ⟨"PadeWorkbench", "mixPoints", "(J)J"⟩
def my_W_digest : MethodName := ⟨"PadeWorkbench", "digest", "()J"⟩
def my_M_init : MethodName := ⟨"PadeWorkbenchModel", "<init>", "()V"⟩
def my_M_in : MethodName := ⟨"PadeWorkbenchModel", "in", "(III)Z"⟩
def my_M_fail : MethodName := ⟨"PadeWorkbenchModel", "fail", "(I)I"⟩
def my_M_prime : MethodName := ⟨"PadeWorkbenchModel", "prime", "()I"⟩
def my_M_mod : MethodName := ⟨"PadeWorkbenchModel", "mod", "(I)I"⟩
def my_M_inverse : MethodName := ⟨"PadeWorkbenchModel", "inverse", "(I)I"⟩
def my_M_isPrime : MethodName := ⟨"PadeWorkbenchModel", "isPrime", "(I)Z"⟩
def my_M_isSlot : MethodName := ⟨"PadeWorkbenchModel", "isSlot", "(I)Z"⟩
def my_M_term : MethodName := ⟨"PadeWorkbenchModel", "term", "(II)I"⟩
def my_M_save : MethodName := ⟨"PadeWorkbenchModel", "save", "()V"⟩
def my_M_setPrime : MethodName := ⟨"PadeWorkbenchModel", "setPrime", "(I)I"⟩
def my_M_set : MethodName := ⟨"PadeWorkbenchModel", "set", "(III)I"⟩
def my_M_coefficient : MethodName := ⟨"PadeWorkbenchModel", "coefficient", "(II)I"⟩
def my_M_take : MethodName := ⟨"PadeWorkbenchModel", "take", "(I[I)V"⟩
def my_M_clear : MethodName := ⟨"PadeWorkbenchModel", "clear", "([I)V"⟩
def my_M_store : MethodName := ⟨"PadeWorkbenchModel", "store", "(I)I"⟩
def my_M_makeProduct : MethodName := ⟨"PadeWorkbenchModel", "makeProduct", "()V"⟩
def my_M_makeQuotient : MethodName := ⟨"PadeWorkbenchModel", "makeQuotient", "()V"⟩
def my_M_add : MethodName := ⟨"PadeWorkbenchModel", "add", "(III)I"⟩
def my_M_multiply : MethodName := ⟨"PadeWorkbenchModel", "multiply", "(III)I"⟩
def my_M_invert : MethodName := ⟨"PadeWorkbenchModel", "invert", "(II)I"⟩
def my_M_substitute : MethodName := ⟨"PadeWorkbenchModel", "substitute", "(III)I"⟩
def my_M_derivative : MethodName := ⟨"PadeWorkbenchModel", "derivative", "(II)I"⟩
def my_M_append : MethodName := ⟨"PadeWorkbenchModel", "append", "(I)I"⟩
def my_M_clearText : MethodName := ⟨"PadeWorkbenchModel", "clearText", "()I"⟩
def my_M_here : MethodName := ⟨"PadeWorkbenchModel", "here", "()I"⟩
def my_M_isDigit : MethodName := ⟨"PadeWorkbenchModel", "isDigit", "()Z"⟩
def my_M_skip : MethodName := ⟨"PadeWorkbenchModel", "skip", "()V"⟩
def my_M_readExponent : MethodName := ⟨"PadeWorkbenchModel", "readExponent", "()I"⟩
def my_M_readTerm : MethodName := ⟨"PadeWorkbenchModel", "readTerm", "([II)Z"⟩
def my_M_readPolynomial : MethodName := ⟨"PadeWorkbenchModel", "readPolynomial", "([I)Z"⟩
def my_M_readFraction : MethodName := ⟨"PadeWorkbenchModel", "readFraction", "()Z"⟩
def my_M_parse : MethodName := ⟨"PadeWorkbenchModel", "parse", "(I)I"⟩
def my_M_exchange : MethodName := ⟨"PadeWorkbenchModel", "exchange", "(II)V"⟩
def my_M_lessRow : MethodName := ⟨"PadeWorkbenchModel", "lessRow", "(III)V"⟩
def my_M_rowWith : MethodName := ⟨"PadeWorkbenchModel", "rowWith", "(III)I"⟩
def my_M_reduce : MethodName := ⟨"PadeWorkbenchModel", "reduce", "(II)V"⟩
def my_M_findVector : MethodName := ⟨"PadeWorkbenchModel", "findVector", "(II)V"⟩
def my_M_degree : MethodName := ⟨"PadeWorkbenchModel", "degree", "([I)I"⟩
def my_M_copy : MethodName := ⟨"PadeWorkbenchModel", "copy", "([I[I)V"⟩
def my_M_divide : MethodName := ⟨"PadeWorkbenchModel", "divide", "([I[I[I)V"⟩
def my_M_toLowest : MethodName := ⟨"PadeWorkbenchModel", "toLowest", "()V"⟩
def my_M_valueAt : MethodName := ⟨"PadeWorkbenchModel", "valueAt", "([II)I"⟩
def my_M_isPair : MethodName := ⟨"PadeWorkbenchModel", "isPair", "(III)Z"⟩
def my_M_approximate : MethodName := ⟨"PadeWorkbenchModel", "approximate", "(III)V"⟩
def my_M_orderOf : MethodName := ⟨"PadeWorkbenchModel", "orderOf", "(I)I"⟩
def my_M_sizeOf : MethodName := ⟨"PadeWorkbenchModel", "sizeOf", "(I)I"⟩
def my_M_degreeOrNone : MethodName := ⟨"PadeWorkbenchModel", "degreeOrNone", "([I)I"⟩
def my_M_numeratorDegree : MethodName := ⟨"PadeWorkbenchModel", "numeratorDegree", "(III)I"⟩
def my_M_denominatorDegree : MethodName := ⟨"PadeWorkbenchModel", "denominatorDegree", "(III)I"⟩
def my_M_numerator : MethodName := ⟨"PadeWorkbenchModel", "numerator", "(IIII)I"⟩
def my_M_denominator : MethodName := ⟨"PadeWorkbenchModel", "denominator", "(IIII)I"⟩
def my_M_order : MethodName := ⟨"PadeWorkbenchModel", "order", "(III)I"⟩
def my_M_blockSize : MethodName := ⟨"PadeWorkbenchModel", "blockSize", "(III)I"⟩
def my_M_evaluate : MethodName := ⟨"PadeWorkbenchModel", "evaluate", "(IIII)I"⟩
def my_M_normals : MethodName := ⟨"PadeWorkbenchModel", "normals", "(II)I"⟩
def my_M_normalCount : MethodName := ⟨"PadeWorkbenchModel", "normalCount", "(II)I"⟩
def my_M_determinant : MethodName := ⟨"PadeWorkbenchModel", "determinant", "(III)I"⟩
def my_M_cell : MethodName := ⟨"PadeWorkbenchModel", "cell", "(II)I"⟩
def my_M_findScheme : MethodName := ⟨"PadeWorkbenchModel", "findScheme", "(I)V"⟩
def my_M_quotientDifference : MethodName := ⟨"PadeWorkbenchModel", "quotientDifference", "(IIII)I"⟩
def my_M_isCut : MethodName := ⟨"PadeWorkbenchModel", "isCut", "(II)Z"⟩
def my_M_findQuotients : MethodName := ⟨"PadeWorkbenchModel", "findQuotients", "(III)I"⟩
def my_M_quotientCount : MethodName := ⟨"PadeWorkbenchModel", "quotientCount", "(II)I"⟩
def my_M_quotient : MethodName := ⟨"PadeWorkbenchModel", "quotient", "(IIII)I"⟩
def my_M_isRecurrent : MethodName := ⟨"PadeWorkbenchModel", "isRecurrent", "(III)Z"⟩
def my_M_complexityOf : MethodName := ⟨"PadeWorkbenchModel", "complexityOf", "(II)I"⟩
def my_M_complexity : MethodName := ⟨"PadeWorkbenchModel", "complexity", "(II)I"⟩
def my_M_recurrence : MethodName := ⟨"PadeWorkbenchModel", "recurrence", "(III)I"⟩
def my_M_points : MethodName := ⟨"PadeWorkbenchModel", "points", "()I"⟩
def my_M_addPoint : MethodName := ⟨"PadeWorkbenchModel", "addPoint", "(II)I"⟩
def my_M_clearPoints : MethodName := ⟨"PadeWorkbenchModel", "clearPoints", "()I"⟩
def my_M_interpolate : MethodName := ⟨"PadeWorkbenchModel", "interpolate", "(I)V"⟩
def my_M_missed : MethodName := ⟨"PadeWorkbenchModel", "missed", "(I)I"⟩
def my_M_interpolant : MethodName := ⟨"PadeWorkbenchModel", "interpolant", "(III)I"⟩
def my_M_unattainable : MethodName := ⟨"PadeWorkbenchModel", "unattainable", "(I)I"⟩
def my_M_undo : MethodName := ⟨"PadeWorkbenchModel", "undo", "()I"⟩
def my_M_errorCount : MethodName := ⟨"PadeWorkbenchModel", "errorCount", "(I)I"⟩
def my_M_digest : MethodName := ⟨"PadeWorkbenchModel", "digest", "()J"⟩
abbrev mr_Z_init : Room := { frames := 1, cells := 7, slots := 88, locals := 14 }
abbrev mr_H_init : Room := { frames := 2, cells := 33, slots := 376, locals := 34 }
abbrev mr_T_init : Room := { frames := 1, cells := 3, slots := 112, locals := 14 }
abbrev mr_P_init : Room := { frames := 1, cells := 1, slots := 17, locals := 14 }
abbrev mr_E_init : Room := { frames := 2, cells := 10, slots := 95, locals := 34 }
abbrev mr_R_init : Room := { frames := 2, cells := 4, slots := 38, locals := 34 }
abbrev mr_D_init : Room := { frames := 1, cells := 17, slots := 272, locals := 14 }
abbrev mr_Q_init : Room := { frames := 1, cells := 2, slots := 32, locals := 14 }
abbrev mr_B_init : Room := { frames := 1, cells := 3, slots := 51, locals := 14 }
abbrev mr_W_init : Room := { frames := 3, cells := 90, slots := 1128, locals := 55 }
abbrev mr_W_isPrime : Room := { frames := 0, cells := 0, slots := 0, locals := 0 }
abbrev mr_W_fail : Room := { frames := 0, cells := 0, slots := 0, locals := 0 }
abbrev mr_Z_copyFrom : Room := { frames := 1, cells := 0, slots := 0, locals := 64 }
abbrev mr_H_keep : Room := { frames := 2, cells := 0, slots := 0, locals := 86 }
abbrev mr_A_fill : Room := { frames := 0, cells := 0, slots := 0, locals := 0 }
abbrev mr_Z_restart : Room := { frames := 1, cells := 0, slots := 0, locals := 23 }
abbrev mr_W_setPrime : Room := { frames := 3, cells := 0, slots := 0, locals := 107 }
abbrev mr_W_isSlot : Room := { frames := 0, cells := 0, slots := 0, locals := 0 }
abbrev mr_W_isTerm : Room := { frames := 0, cells := 0, slots := 0, locals := 0 }
abbrev mr_W_isElement : Room := { frames := 0, cells := 0, slots := 0, locals := 0 }
abbrev mr_W_set : Room := { frames := 3, cells := 0, slots := 0, locals := 107 }
abbrev mr_W_coefficient : Room := { frames := 1, cells := 0, slots := 0, locals := 22 }
abbrev mr_K_reduce : Room := { frames := 0, cells := 0, slots := 0, locals := 0 }
abbrev mr_S_sum : Room := { frames := 1, cells := 0, slots := 0, locals := 21 }
abbrev mr_S_countOfNonZero : Room := { frames := 0, cells := 0, slots := 0, locals := 0 }
abbrev mr_W_store : Room := { frames := 3, cells := 0, slots := 0, locals := 107 }
abbrev mr_W_add : Room := { frames := 4, cells := 0, slots := 0, locals := 128 }
abbrev mr_S_product : Room := { frames := 1, cells := 0, slots := 0, locals := 21 }
abbrev mr_W_multiply : Room := { frames := 4, cells := 0, slots := 0, locals := 128 }
abbrev mr_K_inverse : Room := { frames := 1, cells := 0, slots := 0, locals := 21 }
abbrev mr_K_times : Room := { frames := 1, cells := 0, slots := 0, locals := 21 }
abbrev mr_K_negative : Room := { frames := 0, cells := 0, slots := 0, locals := 0 }
abbrev mr_S_reciprocal : Room := { frames := 2, cells := 0, slots := 0, locals := 45 }
abbrev mr_W_invert : Room := { frames := 4, cells := 0, slots := 0, locals := 128 }
abbrev mr_W_composeIntoResult : Room := { frames := 2, cells := 0, slots := 0, locals := 64 }
abbrev mr_W_substitute : Room := { frames := 4, cells := 0, slots := 0, locals := 128 }
abbrev mr_S_slope : Room := { frames := 2, cells := 0, slots := 0, locals := 43 }
abbrev mr_W_derivative : Room := { frames := 4, cells := 0, slots := 0, locals := 128 }
abbrev mr_T_put : Room := { frames := 0, cells := 0, slots := 0, locals := 0 }
abbrev mr_W_append : Room := { frames := 1, cells := 0, slots := 0, locals := 22 }
abbrev mr_W_clearText : Room := { frames := 0, cells := 0, slots := 0, locals := 0 }
abbrev mr_T_here : Room := { frames := 0, cells := 0, slots := 0, locals := 0 }
abbrev mr_T_peek : Room := { frames := 1, cells := 0, slots := 0, locals := 20 }
abbrev mr_T_took : Room := { frames := 2, cells := 0, slots := 0, locals := 40 }
abbrev mr_T_isDigit : Room := { frames := 0, cells := 0, slots := 0, locals := 0 }
abbrev mr_T_readNumber : Room := { frames := 1, cells := 0, slots := 0, locals := 20 }
abbrev mr_T_readExponent : Room := { frames := 2, cells := 0, slots := 0, locals := 40 }
abbrev mr_T_readTerm : Room := { frames := 3, cells := 0, slots := 0, locals := 62 }
abbrev mr_T_readPolynomial : Room := { frames := 4, cells := 0, slots := 0, locals := 88 }
abbrev mr_T_readFraction : Room := { frames := 5, cells := 0, slots := 0, locals := 111 }
abbrev mr_W_parse : Room := { frames := 6, cells := 0, slots := 0, locals := 132 }
abbrev mr_W_isApproximant : Room := { frames := 1, cells := 0, slots := 0, locals := 20 }
abbrev mr_P_becomeZero : Room := { frames := 1, cells := 0, slots := 0, locals := 23 }
abbrev mr_P_becomePower : Room := { frames := 2, cells := 0, slots := 0, locals := 43 }
abbrev mr_P_measure : Room := { frames := 0, cells := 0, slots := 0, locals := 0 }
abbrev mr_P_becomeStart : Room := { frames := 2, cells := 0, slots := 0, locals := 43 }
abbrev mr_E_startCofactors : Room := { frames := 3, cells := 0, slots := 0, locals := 64 }
abbrev mr_E_startWithSeries : Room := { frames := 4, cells := 0, slots := 0, locals := 84 }
abbrev mr_P_gather : Room := { frames := 1, cells := 0, slots := 0, locals := 21 }
abbrev mr_E_divide : Room := { frames := 2, cells := 0, slots := 0, locals := 46 }
abbrev mr_E_followWithCofactors : Room := { frames := 2, cells := 0, slots := 0, locals := 46 }
abbrev mr_E_runDownTo : Room := { frames := 3, cells := 0, slots := 0, locals := 69 }
abbrev mr_P_copyFrom : Room := { frames := 1, cells := 0, slots := 0, locals := 64 }
abbrev mr_R_take : Room := { frames := 3, cells := 0, slots := 0, locals := 85 }
abbrev mr_P_valueAt : Room := { frames := 1, cells := 0, slots := 0, locals := 21 }
abbrev mr_P_divideByRoot : Room := { frames := 1, cells := 0, slots := 0, locals := 21 }
abbrev mr_R_cancelRoot : Room := { frames := 2, cells := 0, slots := 0, locals := 46 }
abbrev mr_P_lowest : Room := { frames := 0, cells := 0, slots := 0, locals := 0 }
abbrev mr_P_scaleBy : Room := { frames := 2, cells := 0, slots := 0, locals := 43 }
abbrev mr_R_scale : Room := { frames := 3, cells := 0, slots := 0, locals := 66 }
abbrev mr_W_approximate : Room := { frames := 5, cells := 0, slots := 0, locals := 107 }
abbrev mr_W_numeratorDegree : Room := { frames := 6, cells := 0, slots := 0, locals := 130 }
abbrev mr_W_denominatorDegree : Room := { frames := 6, cells := 0, slots := 0, locals := 130 }
abbrev mr_W_numerator : Room := { frames := 6, cells := 0, slots := 0, locals := 130 }
abbrev mr_W_denominator : Room := { frames := 6, cells := 0, slots := 0, locals := 130 }
abbrev mr_R_agreement : Room := { frames := 1, cells := 0, slots := 0, locals := 21 }
abbrev mr_W_order : Room := { frames := 6, cells := 0, slots := 0, locals := 130 }
abbrev mr_R_block : Room := { frames := 0, cells := 0, slots := 0, locals := 0 }
abbrev mr_W_blockSize : Room := { frames := 6, cells := 0, slots := 0, locals := 130 }
abbrev mr_K_over : Room := { frames := 2, cells := 0, slots := 0, locals := 45 }
abbrev mr_W_evaluate : Room := { frames := 6, cells := 0, slots := 0, locals := 130 }
abbrev mr_W_normalCount : Room := { frames := 6, cells := 0, slots := 0, locals := 130 }
abbrev mr_D_fill : Room := { frames := 1, cells := 0, slots := 0, locals := 20 }
abbrev mr_D_pivotRow : Room := { frames := 0, cells := 0, slots := 0, locals := 0 }
abbrev mr_D_swapRows : Room := { frames := 0, cells := 0, slots := 0, locals := 0 }
abbrev mr_D_clearBelow : Room := { frames := 2, cells := 0, slots := 0, locals := 45 }
abbrev mr_D_valueOf : Room := { frames := 3, cells := 0, slots := 0, locals := 72 }
abbrev mr_W_determinant : Room := { frames := 4, cells := 0, slots := 0, locals := 99 }
abbrev mr_W_isSchemePlace : Room := { frames := 0, cells := 0, slots := 0, locals := 0 }
abbrev mr_Q_ratio : Room := { frames := 3, cells := 0, slots := 0, locals := 67 }
abbrev mr_Q_firstColumns : Room := { frames := 4, cells := 0, slots := 0, locals := 89 }
abbrev mr_Q_nextE : Room := { frames := 1, cells := 0, slots := 0, locals := 21 }
abbrev mr_Q_nextQ : Room := { frames := 4, cells := 0, slots := 0, locals := 89 }
abbrev mr_Q_number : Room := { frames := 5, cells := 0, slots := 0, locals := 112 }
abbrev mr_W_quotientDifference : Room := { frames := 6, cells := 0, slots := 0, locals := 138 }
abbrev mr_W_quotientCount : Room := { frames := 5, cells := 0, slots := 0, locals := 107 }
abbrev mr_W_quotient : Room := { frames := 5, cells := 0, slots := 0, locals := 107 }
abbrev mr_B_gapAt : Room := { frames := 1, cells := 0, slots := 0, locals := 21 }
abbrev mr_B_correct : Room := { frames := 1, cells := 0, slots := 0, locals := 64 }
abbrev mr_B_keepOlder : Room := { frames := 0, cells := 0, slots := 0, locals := 0 }
abbrev mr_B_fit : Room := { frames := 3, cells := 0, slots := 0, locals := 89 }
abbrev mr_W_complexity : Room := { frames := 4, cells := 0, slots := 0, locals := 116 }
abbrev mr_W_recurrence : Room := { frames := 4, cells := 0, slots := 0, locals := 116 }
abbrev mr_Z_hasPointAt : Room := { frames := 0, cells := 0, slots := 0, locals := 0 }
abbrev mr_Z_putPoint : Room := { frames := 0, cells := 0, slots := 0, locals := 0 }
abbrev mr_W_addPoint : Room := { frames := 3, cells := 0, slots := 0, locals := 107 }
abbrev mr_W_clearPoints : Room := { frames := 3, cells := 0, slots := 0, locals := 107 }
abbrev mr_W_isInterpolant : Room := { frames := 0, cells := 0, slots := 0, locals := 0 }
abbrev mr_P_multiplyByRoot : Room := { frames := 1, cells := 0, slots := 0, locals := 21 }
abbrev mr_E_startWithPoints : Room := { frames := 4, cells := 0, slots := 0, locals := 84 }
abbrev mr_W_interpolate : Room := { frames := 5, cells := 0, slots := 0, locals := 109 }
abbrev mr_W_interpolant : Room := { frames := 6, cells := 0, slots := 0, locals := 131 }
abbrev mr_R_passes : Room := { frames := 2, cells := 0, slots := 0, locals := 45 }
abbrev mr_W_missedPoints : Room := { frames := 3, cells := 0, slots := 0, locals := 69 }
abbrev mr_W_unattainable : Room := { frames := 6, cells := 0, slots := 0, locals := 131 }
abbrev mr_H_giveBack : Room := { frames := 2, cells := 0, slots := 0, locals := 86 }
abbrev mr_W_undo : Room := { frames := 3, cells := 0, slots := 0, locals := 107 }
abbrev mr_W_errorCount : Room := { frames := 1, cells := 0, slots := 0, locals := 22 }
abbrev mr_W_mix : Room := { frames := 0, cells := 0, slots := 0, locals := 0 }
abbrev mr_W_mixSeries : Room := { frames := 6, cells := 0, slots := 0, locals := 130 }
abbrev mr_W_mixPoints : Room := { frames := 6, cells := 0, slots := 0, locals := 131 }
abbrev mr_W_digest : Room := { frames := 7, cells := 0, slots := 0, locals := 159 }
abbrev mr_M_init : Room := { frames := 1, cells := 17, slots := 1351, locals := 14 }
abbrev mr_M_in : Room := { frames := 0, cells := 0, slots := 0, locals := 0 }
abbrev mr_M_fail : Room := { frames := 0, cells := 0, slots := 0, locals := 0 }
abbrev mr_M_prime : Room := { frames := 0, cells := 0, slots := 0, locals := 0 }
abbrev mr_M_mod : Room := { frames := 1, cells := 0, slots := 0, locals := 20 }
abbrev mr_M_inverse : Room := { frames := 1, cells := 0, slots := 0, locals := 20 }
abbrev mr_M_isPrime : Room := { frames := 1, cells := 0, slots := 0, locals := 22 }
abbrev mr_M_isSlot : Room := { frames := 1, cells := 0, slots := 0, locals := 22 }
abbrev mr_M_term : Room := { frames := 0, cells := 0, slots := 0, locals := 0 }
abbrev mr_M_save : Room := { frames := 0, cells := 0, slots := 0, locals := 0 }
abbrev mr_M_setPrime : Room := { frames := 2, cells := 0, slots := 0, locals := 44 }
abbrev mr_M_set : Room := { frames := 2, cells := 0, slots := 0, locals := 42 }
abbrev mr_M_coefficient : Room := { frames := 2, cells := 0, slots := 0, locals := 42 }
abbrev mr_M_take : Room := { frames := 1, cells := 0, slots := 0, locals := 22 }
abbrev mr_M_clear : Room := { frames := 0, cells := 0, slots := 0, locals := 0 }
abbrev mr_M_store : Room := { frames := 1, cells := 0, slots := 0, locals := 21 }
abbrev mr_M_makeProduct : Room := { frames := 2, cells := 0, slots := 0, locals := 42 }
abbrev mr_M_makeQuotient : Room := { frames := 2, cells := 0, slots := 0, locals := 43 }
abbrev mr_M_add : Room := { frames := 2, cells := 0, slots := 0, locals := 44 }
abbrev mr_M_multiply : Room := { frames := 3, cells := 0, slots := 0, locals := 65 }
abbrev mr_M_invert : Room := { frames := 3, cells := 0, slots := 0, locals := 67 }
abbrev mr_M_substitute : Room := { frames := 3, cells := 0, slots := 0, locals := 65 }
abbrev mr_M_derivative : Room := { frames := 2, cells := 0, slots := 0, locals := 44 }
abbrev mr_M_append : Room := { frames := 1, cells := 0, slots := 0, locals := 22 }
abbrev mr_M_clearText : Room := { frames := 0, cells := 0, slots := 0, locals := 0 }
abbrev mr_M_here : Room := { frames := 0, cells := 0, slots := 0, locals := 0 }
abbrev mr_M_isDigit : Room := { frames := 1, cells := 0, slots := 0, locals := 22 }
abbrev mr_M_skip : Room := { frames := 1, cells := 0, slots := 0, locals := 20 }
abbrev mr_M_readExponent : Room := { frames := 2, cells := 0, slots := 0, locals := 42 }
abbrev mr_M_readTerm : Room := { frames := 3, cells := 0, slots := 0, locals := 64 }
abbrev mr_M_readPolynomial : Room := { frames := 4, cells := 0, slots := 0, locals := 89 }
abbrev mr_M_readFraction : Room := { frames := 5, cells := 0, slots := 0, locals := 112 }
abbrev mr_M_parse : Room := { frames := 6, cells := 0, slots := 0, locals := 132 }
abbrev mr_M_exchange : Room := { frames := 0, cells := 0, slots := 0, locals := 0 }
abbrev mr_M_lessRow : Room := { frames := 2, cells := 0, slots := 0, locals := 42 }
abbrev mr_M_rowWith : Room := { frames := 0, cells := 0, slots := 0, locals := 0 }
abbrev mr_M_reduce : Room := { frames := 3, cells := 0, slots := 0, locals := 66 }
abbrev mr_M_findVector : Room := { frames := 4, cells := 0, slots := 0, locals := 93 }
abbrev mr_M_degree : Room := { frames := 0, cells := 0, slots := 0, locals := 0 }
abbrev mr_M_copy : Room := { frames := 0, cells := 0, slots := 0, locals := 0 }
abbrev mr_M_divide : Room := { frames := 2, cells := 0, slots := 0, locals := 43 }
abbrev mr_M_toLowest : Room := { frames := 3, cells := 0, slots := 0, locals := 71 }
abbrev mr_M_valueAt : Room := { frames := 2, cells := 0, slots := 0, locals := 42 }
abbrev mr_M_isPair : Room := { frames := 2, cells := 0, slots := 0, locals := 42 }
abbrev mr_M_approximate : Room := { frames := 5, cells := 0, slots := 0, locals := 117 }
abbrev mr_M_orderOf : Room := { frames := 3, cells := 0, slots := 0, locals := 67 }
abbrev mr_M_sizeOf : Room := { frames := 4, cells := 0, slots := 0, locals := 89 }
abbrev mr_M_degreeOrNone : Room := { frames := 1, cells := 0, slots := 0, locals := 22 }
abbrev mr_M_numeratorDegree : Room := { frames := 6, cells := 0, slots := 0, locals := 143 }
abbrev mr_M_denominatorDegree : Room := { frames := 6, cells := 0, slots := 0, locals := 143 }
abbrev mr_M_numerator : Room := { frames := 6, cells := 0, slots := 0, locals := 143 }
abbrev mr_M_denominator : Room := { frames := 6, cells := 0, slots := 0, locals := 143 }
abbrev mr_M_order : Room := { frames := 6, cells := 0, slots := 0, locals := 143 }
abbrev mr_M_blockSize : Room := { frames := 6, cells := 0, slots := 0, locals := 143 }
abbrev mr_M_evaluate : Room := { frames := 6, cells := 0, slots := 0, locals := 143 }
abbrev mr_M_normals : Room := { frames := 6, cells := 0, slots := 0, locals := 143 }
abbrev mr_M_normalCount : Room := { frames := 7, cells := 0, slots := 0, locals := 167 }
abbrev mr_M_determinant : Room := { frames := 3, cells := 0, slots := 0, locals := 66 }
abbrev mr_M_cell : Room := { frames := 0, cells := 0, slots := 0, locals := 0 }
abbrev mr_M_findScheme : Room := { frames := 2, cells := 0, slots := 0, locals := 43 }
abbrev mr_M_quotientDifference : Room := { frames := 3, cells := 0, slots := 0, locals := 69 }
abbrev mr_M_isCut : Room := { frames := 2, cells := 0, slots := 0, locals := 42 }
abbrev mr_M_findQuotients : Room := { frames := 3, cells := 0, slots := 0, locals := 71 }
abbrev mr_M_quotientCount : Room := { frames := 4, cells := 0, slots := 0, locals := 95 }
abbrev mr_M_quotient : Room := { frames := 4, cells := 0, slots := 0, locals := 95 }
abbrev mr_M_isRecurrent : Room := { frames := 4, cells := 0, slots := 0, locals := 93 }
abbrev mr_M_complexityOf : Room := { frames := 5, cells := 0, slots := 0, locals := 118 }
abbrev mr_M_complexity : Room := { frames := 6, cells := 0, slots := 0, locals := 141 }
abbrev mr_M_recurrence : Room := { frames := 6, cells := 0, slots := 0, locals := 141 }
abbrev mr_M_points : Room := { frames := 0, cells := 0, slots := 0, locals := 0 }
abbrev mr_M_addPoint : Room := { frames := 1, cells := 0, slots := 0, locals := 22 }
abbrev mr_M_clearPoints : Room := { frames := 1, cells := 0, slots := 0, locals := 21 }
abbrev mr_M_interpolate : Room := { frames := 5, cells := 0, slots := 0, locals := 117 }
abbrev mr_M_missed : Room := { frames := 6, cells := 0, slots := 0, locals := 142 }
abbrev mr_M_interpolant : Room := { frames := 6, cells := 0, slots := 0, locals := 142 }
abbrev mr_M_unattainable : Room := { frames := 7, cells := 0, slots := 0, locals := 166 }
abbrev mr_M_undo : Room := { frames := 1, cells := 0, slots := 0, locals := 21 }
abbrev mr_M_errorCount : Room := { frames := 1, cells := 0, slots := 0, locals := 22 }
abbrev mr_M_digest : Room := { frames := 7, cells := 0, slots := 0, locals := 167 }
theorem mq_0 : Cond.selects "PadeWorkbench" my_W_fail my_W_fail ∈ pw_gt := pw_gt_at 0 (by decide +kernel) rfl
theorem mq_1 : Cond.selects "PadeWorkbench" my_W_isElement my_W_isElement ∈ pw_gt := pw_gt_at 1 (by decide +kernel) rfl
theorem mq_2 : Cond.selects "PadeWorkbench" my_W_store my_W_store ∈ pw_gt := pw_gt_at 2 (by decide +kernel) rfl
theorem mq_3 : Cond.selects "PadeWorkbench" my_W_composeIntoResult my_W_composeIntoResult ∈ pw_gt := pw_gt_at 3 (by decide +kernel) rfl
theorem mq_4 : Cond.selects "PadeWorkbench$FractionText" my_T_readPolynomial my_T_readPolynomial ∈ pw_gt := pw_gt_at 4 (by decide +kernel) rfl
theorem mq_5 : Cond.selects "PadeWorkbench$FractionText" my_T_took my_T_took ∈ pw_gt := pw_gt_at 5 (by decide +kernel) rfl
theorem mq_6 : Cond.selects "PadeWorkbench$FractionText" my_T_peek my_T_peek ∈ pw_gt := pw_gt_at 6 (by decide +kernel) rfl
theorem mq_7 : Cond.selects "PadeWorkbench$FractionText" my_T_here my_T_here ∈ pw_gt := pw_gt_at 7 (by decide +kernel) rfl
theorem mq_8 : Cond.selects "PadeWorkbench$FractionText" my_T_readTerm my_T_readTerm ∈ pw_gt := pw_gt_at 8 (by decide +kernel) rfl
theorem mq_9 : Cond.selects "PadeWorkbench$FractionText" my_T_readNumber my_T_readNumber ∈ pw_gt := pw_gt_at 9 (by decide +kernel) rfl
theorem mq_10 : Cond.selects "PadeWorkbench$FractionText" my_T_readExponent my_T_readExponent ∈ pw_gt := pw_gt_at 10 (by decide +kernel) rfl
theorem mq_11 : Cond.selects "PadeWorkbench" my_W_approximate my_W_approximate ∈ pw_gt := pw_gt_at 11 (by decide +kernel) rfl
theorem mq_12 : Cond.selects "PadeWorkbench$Euclid" my_E_startCofactors my_E_startCofactors ∈ pw_gt := pw_gt_at 12 (by decide +kernel) rfl
theorem mq_13 : Cond.selects "PadeWorkbench$Euclid" my_E_followWithCofactors my_E_followWithCofactors ∈ pw_gt := pw_gt_at 13 (by decide +kernel) rfl
theorem mq_14 : Cond.selects "PadeWorkbench$Toeplitz" my_D_fill my_D_fill ∈ pw_gt := pw_gt_at 14 (by decide +kernel) rfl
theorem mq_15 : Cond.selects "PadeWorkbench$Toeplitz" my_D_pivotRow my_D_pivotRow ∈ pw_gt := pw_gt_at 15 (by decide +kernel) rfl
theorem mq_16 : Cond.selects "PadeWorkbench$Toeplitz" my_D_swapRows my_D_swapRows ∈ pw_gt := pw_gt_at 16 (by decide +kernel) rfl
theorem mq_17 : Cond.selects "PadeWorkbench$Toeplitz" my_D_clearBelow my_D_clearBelow ∈ pw_gt := pw_gt_at 17 (by decide +kernel) rfl
theorem mq_18 : Cond.selects "PadeWorkbench$Scheme" my_Q_firstColumns my_Q_firstColumns ∈ pw_gt := pw_gt_at 18 (by decide +kernel) rfl
theorem mq_19 : Cond.selects "PadeWorkbench$Scheme" my_Q_nextE my_Q_nextE ∈ pw_gt := pw_gt_at 19 (by decide +kernel) rfl
theorem mq_20 : Cond.selects "PadeWorkbench$Scheme" my_Q_nextQ my_Q_nextQ ∈ pw_gt := pw_gt_at 20 (by decide +kernel) rfl
theorem mq_21 : Cond.selects "PadeWorkbench$Register" my_B_gapAt my_B_gapAt ∈ pw_gt := pw_gt_at 21 (by decide +kernel) rfl
theorem mq_22 : Cond.selects "PadeWorkbench$Register" my_B_correct my_B_correct ∈ pw_gt := pw_gt_at 22 (by decide +kernel) rfl
theorem mq_23 : Cond.selects "PadeWorkbench$Register" my_B_keepOlder my_B_keepOlder ∈ pw_gt := pw_gt_at 23 (by decide +kernel) rfl
theorem mq_24 : Cond.selects "PadeWorkbench" my_W_isInterpolant my_W_isInterpolant ∈ pw_gt := pw_gt_at 24 (by decide +kernel) rfl
theorem mq_25 : Cond.selects "PadeWorkbench" my_W_interpolate my_W_interpolate ∈ pw_gt := pw_gt_at 25 (by decide +kernel) rfl
theorem mq_26 : Cond.selects "PadeWorkbench" my_W_missedPoints my_W_missedPoints ∈ pw_gt := pw_gt_at 26 (by decide +kernel) rfl
theorem mq_27 : Cond.selects "PadeWorkbench" my_W_mixSeries my_W_mixSeries ∈ pw_gt := pw_gt_at 27 (by decide +kernel) rfl
theorem mq_28 : Cond.selects "PadeWorkbench" my_W_mixPoints my_W_mixPoints ∈ pw_gt := pw_gt_at 28 (by decide +kernel) rfl
theorem mq_29 : Cond.selects "PadeWorkbenchModel" my_M_fail my_M_fail ∈ pw_gt := pw_gt_at 29 (by decide +kernel) rfl
theorem mq_30 : Cond.selects "PadeWorkbenchModel" my_M_save my_M_save ∈ pw_gt := pw_gt_at 30 (by decide +kernel) rfl
theorem mq_31 : Cond.selects "PadeWorkbenchModel" my_M_prime my_M_prime ∈ pw_gt := pw_gt_at 31 (by decide +kernel) rfl
theorem mq_32 : Cond.selects "PadeWorkbenchModel" my_M_term my_M_term ∈ pw_gt := pw_gt_at 32 (by decide +kernel) rfl
theorem mq_33 : Cond.selects "PadeWorkbenchModel" my_M_mod my_M_mod ∈ pw_gt := pw_gt_at 33 (by decide +kernel) rfl
theorem mq_34 : Cond.selects "PadeWorkbenchModel" my_M_store my_M_store ∈ pw_gt := pw_gt_at 34 (by decide +kernel) rfl
theorem mq_35 : Cond.selects "PadeWorkbenchModel" my_M_take my_M_take ∈ pw_gt := pw_gt_at 35 (by decide +kernel) rfl
theorem mq_36 : Cond.selects "PadeWorkbenchModel" my_M_makeProduct my_M_makeProduct ∈ pw_gt := pw_gt_at 36 (by decide +kernel) rfl
theorem mq_37 : Cond.selects "PadeWorkbenchModel" my_M_makeQuotient my_M_makeQuotient ∈ pw_gt := pw_gt_at 37 (by decide +kernel) rfl
theorem mq_38 : Cond.selects "PadeWorkbenchModel" my_M_inverse my_M_inverse ∈ pw_gt := pw_gt_at 38 (by decide +kernel) rfl
theorem mq_39 : Cond.selects "PadeWorkbenchModel" my_M_readFraction my_M_readFraction ∈ pw_gt := pw_gt_at 39 (by decide +kernel) rfl
theorem mq_40 : Cond.selects "PadeWorkbenchModel" my_M_readPolynomial my_M_readPolynomial ∈ pw_gt := pw_gt_at 40 (by decide +kernel) rfl
theorem mq_41 : Cond.selects "PadeWorkbenchModel" my_M_skip my_M_skip ∈ pw_gt := pw_gt_at 41 (by decide +kernel) rfl
theorem mq_42 : Cond.selects "PadeWorkbenchModel" my_M_here my_M_here ∈ pw_gt := pw_gt_at 42 (by decide +kernel) rfl
theorem mq_43 : Cond.selects "PadeWorkbenchModel" my_M_readTerm my_M_readTerm ∈ pw_gt := pw_gt_at 43 (by decide +kernel) rfl
theorem mq_44 : Cond.selects "PadeWorkbenchModel" my_M_isDigit my_M_isDigit ∈ pw_gt := pw_gt_at 44 (by decide +kernel) rfl
theorem mq_45 : Cond.selects "PadeWorkbenchModel" my_M_readExponent my_M_readExponent ∈ pw_gt := pw_gt_at 45 (by decide +kernel) rfl
theorem mq_46 : Cond.selects "PadeWorkbenchModel" my_M_isPair my_M_isPair ∈ pw_gt := pw_gt_at 46 (by decide +kernel) rfl
theorem mq_47 : Cond.selects "PadeWorkbenchModel" my_M_approximate my_M_approximate ∈ pw_gt := pw_gt_at 47 (by decide +kernel) rfl
theorem mq_48 : Cond.selects "PadeWorkbenchModel" my_M_findVector my_M_findVector ∈ pw_gt := pw_gt_at 48 (by decide +kernel) rfl
theorem mq_49 : Cond.selects "PadeWorkbenchModel" my_M_reduce my_M_reduce ∈ pw_gt := pw_gt_at 49 (by decide +kernel) rfl
theorem mq_50 : Cond.selects "PadeWorkbenchModel" my_M_rowWith my_M_rowWith ∈ pw_gt := pw_gt_at 50 (by decide +kernel) rfl
theorem mq_51 : Cond.selects "PadeWorkbenchModel" my_M_exchange my_M_exchange ∈ pw_gt := pw_gt_at 51 (by decide +kernel) rfl
theorem mq_52 : Cond.selects "PadeWorkbenchModel" my_M_lessRow my_M_lessRow ∈ pw_gt := pw_gt_at 52 (by decide +kernel) rfl
theorem mq_53 : Cond.selects "PadeWorkbenchModel" my_M_toLowest my_M_toLowest ∈ pw_gt := pw_gt_at 53 (by decide +kernel) rfl
theorem mq_54 : Cond.selects "PadeWorkbenchModel" my_M_divide my_M_divide ∈ pw_gt := pw_gt_at 54 (by decide +kernel) rfl
theorem mq_55 : Cond.selects "PadeWorkbenchModel" my_M_degreeOrNone my_M_degreeOrNone ∈ pw_gt := pw_gt_at 55 (by decide +kernel) rfl
theorem mq_56 : Cond.selects "PadeWorkbenchModel" my_M_orderOf my_M_orderOf ∈ pw_gt := pw_gt_at 56 (by decide +kernel) rfl
theorem mq_57 : Cond.selects "PadeWorkbenchModel" my_M_sizeOf my_M_sizeOf ∈ pw_gt := pw_gt_at 57 (by decide +kernel) rfl
theorem mq_58 : Cond.selects "PadeWorkbenchModel" my_M_valueAt my_M_valueAt ∈ pw_gt := pw_gt_at 58 (by decide +kernel) rfl
theorem mq_59 : Cond.selects "PadeWorkbenchModel" my_M_normals my_M_normals ∈ pw_gt := pw_gt_at 59 (by decide +kernel) rfl
theorem mq_60 : Cond.selects "PadeWorkbenchModel" my_M_findScheme my_M_findScheme ∈ pw_gt := pw_gt_at 60 (by decide +kernel) rfl
theorem mq_61 : Cond.selects "PadeWorkbenchModel" my_M_isCut my_M_isCut ∈ pw_gt := pw_gt_at 61 (by decide +kernel) rfl
theorem mq_62 : Cond.selects "PadeWorkbenchModel" my_M_findQuotients my_M_findQuotients ∈ pw_gt := pw_gt_at 62 (by decide +kernel) rfl
theorem mq_63 : Cond.selects "PadeWorkbenchModel" my_M_complexityOf my_M_complexityOf ∈ pw_gt := pw_gt_at 63 (by decide +kernel) rfl
theorem mq_64 : Cond.selects "PadeWorkbenchModel" my_M_isRecurrent my_M_isRecurrent ∈ pw_gt := pw_gt_at 64 (by decide +kernel) rfl
theorem mq_65 : Cond.selects "PadeWorkbenchModel" my_M_points my_M_points ∈ pw_gt := pw_gt_at 65 (by decide +kernel) rfl
theorem mq_66 : Cond.selects "PadeWorkbenchModel" my_M_interpolate my_M_interpolate ∈ pw_gt := pw_gt_at 66 (by decide +kernel) rfl
theorem mq_67 : Cond.selects "PadeWorkbenchModel" my_M_missed my_M_missed ∈ pw_gt := pw_gt_at 67 (by decide +kernel) rfl
theorem mq_69 : Cond.initialized "PadeWorkbench" ∈ pw_gt := pw_gt_at 69 (by decide +kernel) rfl
theorem mq_70 : Cond.initialized "PadeWorkbench$State" ∈ pw_gt := pw_gt_at 70 (by decide +kernel) rfl
theorem mq_71 : Cond.initialized "PadeWorkbench$History" ∈ pw_gt := pw_gt_at 71 (by decide +kernel) rfl
theorem mq_72 : Cond.initialized "PadeWorkbench$FractionText" ∈ pw_gt := pw_gt_at 72 (by decide +kernel) rfl
theorem mq_73 : Cond.initialized "PadeWorkbench$Euclid" ∈ pw_gt := pw_gt_at 73 (by decide +kernel) rfl
theorem mq_74 : Cond.initialized "PadeWorkbench$Polynomial" ∈ pw_gt := pw_gt_at 74 (by decide +kernel) rfl
theorem mq_75 : Cond.initialized "PadeWorkbench$Fraction" ∈ pw_gt := pw_gt_at 75 (by decide +kernel) rfl
theorem mq_76 : Cond.initialized "PadeWorkbench$Toeplitz" ∈ pw_gt := pw_gt_at 76 (by decide +kernel) rfl
theorem mq_77 : Cond.initialized "PadeWorkbench$Scheme" ∈ pw_gt := pw_gt_at 77 (by decide +kernel) rfl
theorem mq_78 : Cond.initialized "PadeWorkbench$Register" ∈ pw_gt := pw_gt_at 78 (by decide +kernel) rfl
theorem mq_79 : Cond.initialized "PadeWorkbenchModel" ∈ pw_gt := pw_gt_at 79 (by decide +kernel) rfl
theorem mq_80 : Cond.initialized "java/lang/System" ∈ pw_gt := pw_gt_at 80 (by decide +kernel) rfl
theorem mq_81 : Cond.initialized "java/util/Arrays" ∈ pw_gt := pw_gt_at 81 (by decide +kernel) rfl
theorem mq_82 : Cond.initialized "PadeWorkbench$Series" ∈ pw_gt := pw_gt_at 82 (by decide +kernel) rfl
theorem mq_83 : Cond.initialized "PadeWorkbench$Field" ∈ pw_gt := pw_gt_at 83 (by decide +kernel) rfl
theorem mq_88 : Cond.code my_W_init prog_1_method_1_code 1 none ∈ pw_gt := pw_gt_at 88 (by decide +kernel) rfl
theorem mq_89 : Cond.methodLink "PadeWorkbench" 1 objectInit ∈ pw_gt := pw_gt_at 89 (by decide +kernel) rfl
theorem mq_90 : Cond.instanceMethod objectInit ∈ pw_gt := pw_gt_at 90 (by decide +kernel) rfl
theorem mq_91 : Cond.code objectInit ⟨#[0xb1]⟩ 1 none ∈ pw_gt := pw_gt_at 91 (by decide +kernel) rfl
theorem mq_92 : Cond.classLink "PadeWorkbench" 7 "PadeWorkbench$State" ∈ pw_gt := pw_gt_at 92 (by decide +kernel) rfl
theorem mq_93 : Cond.instantiable "PadeWorkbench$State" 5 ∈ pw_gt := pw_gt_at 93 (by decide +kernel) rfl
theorem mq_95 : Cond.instanceMethod my_Z_init ∈ pw_gt := pw_gt_at 95 (by decide +kernel) rfl
theorem mq_96 : Cond.code my_Z_init prog_11_method_1_code 1 none ∈ pw_gt := pw_gt_at 96 (by decide +kernel) rfl
theorem mq_97 : Cond.methodLink "PadeWorkbench$State" 3 objectInit ∈ pw_gt := pw_gt_at 97 (by decide +kernel) rfl
theorem mq_98 : Cond.classLink "PadeWorkbench$State" 15 "[[I" ∈ pw_gt := pw_gt_at 98 (by decide +kernel) rfl
theorem mq_100 : Cond.fieldLink "PadeWorkbench$State" 9 "PadeWorkbench$State" "prime" "I" ∈ pw_gt := pw_gt_at 100 (by decide +kernel) rfl
theorem mq_103 : Cond.fieldLink "PadeWorkbench$State" 17 "PadeWorkbench$State" "series" "[[I" ∈ pw_gt := pw_gt_at 103 (by decide +kernel) rfl
theorem mq_105 : Cond.fieldLink "PadeWorkbench$State" 33 "PadeWorkbench$State" "points" "I" ∈ pw_gt := pw_gt_at 105 (by decide +kernel) rfl
theorem mq_108 : Cond.fieldLink "PadeWorkbench$State" 20 "PadeWorkbench$State" "xs" "[I" ∈ pw_gt := pw_gt_at 108 (by decide +kernel) rfl
theorem mq_111 : Cond.fieldLink "PadeWorkbench$State" 24 "PadeWorkbench$State" "ys" "[I" ∈ pw_gt := pw_gt_at 111 (by decide +kernel) rfl
theorem mq_114 : Cond.lays "PadeWorkbench$State" "PadeWorkbench$State" "prime" "I" ∈ pw_gt := pw_gt_at 114 (by decide +kernel) rfl
theorem mq_116 : Cond.laysFinal "PadeWorkbench$State" "PadeWorkbench$State" "series" "[[I" ∈ pw_gt := pw_gt_at 116 (by decide +kernel) rfl
theorem mq_118 : Cond.lays "PadeWorkbench$State" "PadeWorkbench$State" "points" "I" ∈ pw_gt := pw_gt_at 118 (by decide +kernel) rfl
theorem mq_120 : Cond.laysFinal "PadeWorkbench$State" "PadeWorkbench$State" "xs" "[I" ∈ pw_gt := pw_gt_at 120 (by decide +kernel) rfl
theorem mq_122 : Cond.laysFinal "PadeWorkbench$State" "PadeWorkbench$State" "ys" "[I" ∈ pw_gt := pw_gt_at 122 (by decide +kernel) rfl
theorem mq_125 : Cond.arrayClass .int ∈ pw_gt := pw_gt_at 125 (by decide +kernel) rfl
theorem mq_126 : Cond.classLink "PadeWorkbench" 16 "PadeWorkbench$History" ∈ pw_gt := pw_gt_at 126 (by decide +kernel) rfl
theorem mq_127 : Cond.instantiable "PadeWorkbench$History" 3 ∈ pw_gt := pw_gt_at 127 (by decide +kernel) rfl
theorem mq_128 : Cond.methodLink "PadeWorkbench" 18 my_H_init ∈ pw_gt := pw_gt_at 128 (by decide +kernel) rfl
theorem mq_129 : Cond.instanceMethod my_H_init ∈ pw_gt := pw_gt_at 129 (by decide +kernel) rfl
theorem mq_130 : Cond.code my_H_init prog_6_method_1_code 2 none ∈ pw_gt := pw_gt_at 130 (by decide +kernel) rfl
theorem mq_131 : Cond.methodLink "PadeWorkbench$History" 3 objectInit ∈ pw_gt := pw_gt_at 131 (by decide +kernel) rfl
theorem mq_132 : Cond.classLink "PadeWorkbench$History" 9 "PadeWorkbench$State" ∈ pw_gt := pw_gt_at 132 (by decide +kernel) rfl
theorem mq_135 : Cond.fieldLink "PadeWorkbench$History" 11 "PadeWorkbench$History" "states" "[LPadeWorkbench$State;" ∈ pw_gt := pw_gt_at 135 (by decide +kernel) rfl
theorem mq_136 : Cond.fieldLink "PadeWorkbench$History" 18 "PadeWorkbench$History" "next" "I" ∈ pw_gt := pw_gt_at 136 (by decide +kernel) rfl
theorem mq_137 : Cond.fieldLink "PadeWorkbench$History" 26 "PadeWorkbench$History" "count" "I" ∈ pw_gt := pw_gt_at 137 (by decide +kernel) rfl
theorem mq_139 : Cond.laysFinal "PadeWorkbench$History" "PadeWorkbench$History" "states" "[LPadeWorkbench$State;" ∈ pw_gt := pw_gt_at 139 (by decide +kernel) rfl
theorem mq_141 : Cond.lays "PadeWorkbench$History" "PadeWorkbench$History" "next" "I" ∈ pw_gt := pw_gt_at 141 (by decide +kernel) rfl
theorem mq_143 : Cond.lays "PadeWorkbench$History" "PadeWorkbench$History" "count" "I" ∈ pw_gt := pw_gt_at 143 (by decide +kernel) rfl
theorem mq_146 : Cond.classLink "PadeWorkbench" 23 "PadeWorkbench$FractionText" ∈ pw_gt := pw_gt_at 146 (by decide +kernel) rfl
theorem mq_147 : Cond.instantiable "PadeWorkbench$FractionText" 6 ∈ pw_gt := pw_gt_at 147 (by decide +kernel) rfl
theorem mq_149 : Cond.instanceMethod my_T_init ∈ pw_gt := pw_gt_at 149 (by decide +kernel) rfl
theorem mq_150 : Cond.code my_T_init prog_5_method_1_code 1 none ∈ pw_gt := pw_gt_at 150 (by decide +kernel) rfl
theorem mq_151 : Cond.methodLink "PadeWorkbench$FractionText" 3 objectInit ∈ pw_gt := pw_gt_at 151 (by decide +kernel) rfl
theorem mq_152 : Cond.fieldLink "PadeWorkbench$FractionText" 9 "PadeWorkbench$FractionText" "bytes" "[I" ∈ pw_gt := pw_gt_at 152 (by decide +kernel) rfl
theorem mq_153 : Cond.fieldLink "PadeWorkbench$FractionText" 21 "PadeWorkbench$FractionText" "length" "I" ∈ pw_gt := pw_gt_at 153 (by decide +kernel) rfl
theorem mq_155 : Cond.fieldLink "PadeWorkbench$FractionText" 28 "PadeWorkbench$FractionText" "position" "I" ∈ pw_gt := pw_gt_at 155 (by decide +kernel) rfl
theorem mq_157 : Cond.fieldLink "PadeWorkbench$FractionText" 25 "PadeWorkbench$FractionText" "p" "I" ∈ pw_gt := pw_gt_at 157 (by decide +kernel) rfl
theorem mq_158 : Cond.fieldLink "PadeWorkbench$FractionText" 15 "PadeWorkbench$FractionText" "top" "[I" ∈ pw_gt := pw_gt_at 158 (by decide +kernel) rfl
theorem mq_160 : Cond.fieldLink "PadeWorkbench$FractionText" 18 "PadeWorkbench$FractionText" "bottom" "[I" ∈ pw_gt := pw_gt_at 160 (by decide +kernel) rfl
theorem mq_162 : Cond.laysFinal "PadeWorkbench$FractionText" "PadeWorkbench$FractionText" "bytes" "[I" ∈ pw_gt := pw_gt_at 162 (by decide +kernel) rfl
theorem mq_164 : Cond.lays "PadeWorkbench$FractionText" "PadeWorkbench$FractionText" "length" "I" ∈ pw_gt := pw_gt_at 164 (by decide +kernel) rfl
theorem mq_166 : Cond.lays "PadeWorkbench$FractionText" "PadeWorkbench$FractionText" "position" "I" ∈ pw_gt := pw_gt_at 166 (by decide +kernel) rfl
theorem mq_168 : Cond.lays "PadeWorkbench$FractionText" "PadeWorkbench$FractionText" "p" "I" ∈ pw_gt := pw_gt_at 168 (by decide +kernel) rfl
theorem mq_170 : Cond.laysFinal "PadeWorkbench$FractionText" "PadeWorkbench$FractionText" "top" "[I" ∈ pw_gt := pw_gt_at 170 (by decide +kernel) rfl
theorem mq_172 : Cond.laysFinal "PadeWorkbench$FractionText" "PadeWorkbench$FractionText" "bottom" "[I" ∈ pw_gt := pw_gt_at 172 (by decide +kernel) rfl
theorem mq_175 : Cond.classLink "PadeWorkbench" 30 "PadeWorkbench$Euclid" ∈ pw_gt := pw_gt_at 175 (by decide +kernel) rfl
theorem mq_176 : Cond.instantiable "PadeWorkbench$Euclid" 6 ∈ pw_gt := pw_gt_at 176 (by decide +kernel) rfl
theorem mq_178 : Cond.instanceMethod my_E_init ∈ pw_gt := pw_gt_at 178 (by decide +kernel) rfl
theorem mq_179 : Cond.code my_E_init prog_2_method_1_code 1 none ∈ pw_gt := pw_gt_at 179 (by decide +kernel) rfl
theorem mq_180 : Cond.methodLink "PadeWorkbench$Euclid" 3 objectInit ∈ pw_gt := pw_gt_at 180 (by decide +kernel) rfl
theorem mq_181 : Cond.classLink "PadeWorkbench$Euclid" 9 "PadeWorkbench$Polynomial" ∈ pw_gt := pw_gt_at 181 (by decide +kernel) rfl
theorem mq_182 : Cond.instantiable "PadeWorkbench$Polynomial" 2 ∈ pw_gt := pw_gt_at 182 (by decide +kernel) rfl
theorem mq_184 : Cond.instanceMethod my_P_init ∈ pw_gt := pw_gt_at 184 (by decide +kernel) rfl
theorem mq_185 : Cond.code my_P_init prog_7_method_1_code 1 none ∈ pw_gt := pw_gt_at 185 (by decide +kernel) rfl
theorem mq_186 : Cond.methodLink "PadeWorkbench$Polynomial" 3 objectInit ∈ pw_gt := pw_gt_at 186 (by decide +kernel) rfl
theorem mq_187 : Cond.fieldLink "PadeWorkbench$Polynomial" 9 "PadeWorkbench$Polynomial" "row" "[I" ∈ pw_gt := pw_gt_at 187 (by decide +kernel) rfl
theorem mq_191 : Cond.fieldLink "PadeWorkbench$Polynomial" 15 "PadeWorkbench$Polynomial" "degree" "I" ∈ pw_gt := pw_gt_at 191 (by decide +kernel) rfl
theorem mq_195 : Cond.laysFinal "PadeWorkbench$Polynomial" "PadeWorkbench$Polynomial" "row" "[I" ∈ pw_gt := pw_gt_at 195 (by decide +kernel) rfl
theorem mq_197 : Cond.lays "PadeWorkbench$Polynomial" "PadeWorkbench$Polynomial" "degree" "I" ∈ pw_gt := pw_gt_at 197 (by decide +kernel) rfl
theorem mq_200 : Cond.fieldLink "PadeWorkbench$Euclid" 12 "PadeWorkbench$Euclid" "before" "LPadeWorkbench$Polynomial;" ∈ pw_gt := pw_gt_at 200 (by decide +kernel) rfl
theorem mq_201 : Cond.fieldLink "PadeWorkbench$Euclid" 18 "PadeWorkbench$Euclid" "latest" "LPadeWorkbench$Polynomial;" ∈ pw_gt := pw_gt_at 201 (by decide +kernel) rfl
theorem mq_203 : Cond.fieldLink "PadeWorkbench$Euclid" 21 "PadeWorkbench$Euclid" "cofactorBefore" "LPadeWorkbench$Polynomial;" ∈ pw_gt := pw_gt_at 203 (by decide +kernel) rfl
theorem mq_204 : Cond.fieldLink "PadeWorkbench$Euclid" 24 "PadeWorkbench$Euclid" "cofactor" "LPadeWorkbench$Polynomial;" ∈ pw_gt := pw_gt_at 204 (by decide +kernel) rfl
theorem mq_206 : Cond.fieldLink "PadeWorkbench$Euclid" 27 "PadeWorkbench$Euclid" "quotient" "LPadeWorkbench$Polynomial;" ∈ pw_gt := pw_gt_at 206 (by decide +kernel) rfl
theorem mq_208 : Cond.fieldLink "PadeWorkbench$Euclid" 30 "PadeWorkbench$Euclid" "p" "I" ∈ pw_gt := pw_gt_at 208 (by decide +kernel) rfl
theorem mq_209 : Cond.lays "PadeWorkbench$Euclid" "PadeWorkbench$Euclid" "before" "LPadeWorkbench$Polynomial;" ∈ pw_gt := pw_gt_at 209 (by decide +kernel) rfl
theorem mq_211 : Cond.lays "PadeWorkbench$Euclid" "PadeWorkbench$Euclid" "latest" "LPadeWorkbench$Polynomial;" ∈ pw_gt := pw_gt_at 211 (by decide +kernel) rfl
theorem mq_213 : Cond.lays "PadeWorkbench$Euclid" "PadeWorkbench$Euclid" "cofactorBefore" "LPadeWorkbench$Polynomial;" ∈ pw_gt := pw_gt_at 213 (by decide +kernel) rfl
theorem mq_215 : Cond.lays "PadeWorkbench$Euclid" "PadeWorkbench$Euclid" "cofactor" "LPadeWorkbench$Polynomial;" ∈ pw_gt := pw_gt_at 215 (by decide +kernel) rfl
theorem mq_217 : Cond.laysFinal "PadeWorkbench$Euclid" "PadeWorkbench$Euclid" "quotient" "LPadeWorkbench$Polynomial;" ∈ pw_gt := pw_gt_at 217 (by decide +kernel) rfl
theorem mq_219 : Cond.lays "PadeWorkbench$Euclid" "PadeWorkbench$Euclid" "p" "I" ∈ pw_gt := pw_gt_at 219 (by decide +kernel) rfl
theorem mq_222 : Cond.classLink "PadeWorkbench" 37 "PadeWorkbench$Fraction" ∈ pw_gt := pw_gt_at 222 (by decide +kernel) rfl
theorem mq_223 : Cond.instantiable "PadeWorkbench$Fraction" 2 ∈ pw_gt := pw_gt_at 223 (by decide +kernel) rfl
theorem mq_225 : Cond.instanceMethod my_R_init ∈ pw_gt := pw_gt_at 225 (by decide +kernel) rfl
theorem mq_226 : Cond.code my_R_init prog_4_method_1_code 1 none ∈ pw_gt := pw_gt_at 226 (by decide +kernel) rfl
theorem mq_227 : Cond.methodLink "PadeWorkbench$Fraction" 3 objectInit ∈ pw_gt := pw_gt_at 227 (by decide +kernel) rfl
theorem mq_228 : Cond.classLink "PadeWorkbench$Fraction" 9 "PadeWorkbench$Polynomial" ∈ pw_gt := pw_gt_at 228 (by decide +kernel) rfl
theorem mq_230 : Cond.fieldLink "PadeWorkbench$Fraction" 12 "PadeWorkbench$Fraction" "top" "LPadeWorkbench$Polynomial;" ∈ pw_gt := pw_gt_at 230 (by decide +kernel) rfl
theorem mq_232 : Cond.fieldLink "PadeWorkbench$Fraction" 18 "PadeWorkbench$Fraction" "bottom" "LPadeWorkbench$Polynomial;" ∈ pw_gt := pw_gt_at 232 (by decide +kernel) rfl
theorem mq_234 : Cond.laysFinal "PadeWorkbench$Fraction" "PadeWorkbench$Fraction" "top" "LPadeWorkbench$Polynomial;" ∈ pw_gt := pw_gt_at 234 (by decide +kernel) rfl
theorem mq_236 : Cond.laysFinal "PadeWorkbench$Fraction" "PadeWorkbench$Fraction" "bottom" "LPadeWorkbench$Polynomial;" ∈ pw_gt := pw_gt_at 236 (by decide +kernel) rfl
theorem mq_239 : Cond.classLink "PadeWorkbench" 44 "PadeWorkbench$Toeplitz" ∈ pw_gt := pw_gt_at 239 (by decide +kernel) rfl
theorem mq_240 : Cond.instantiable "PadeWorkbench$Toeplitz" 1 ∈ pw_gt := pw_gt_at 240 (by decide +kernel) rfl
theorem mq_242 : Cond.instanceMethod my_D_init ∈ pw_gt := pw_gt_at 242 (by decide +kernel) rfl
theorem mq_243 : Cond.code my_D_init prog_12_method_1_code 1 none ∈ pw_gt := pw_gt_at 243 (by decide +kernel) rfl
theorem mq_244 : Cond.methodLink "PadeWorkbench$Toeplitz" 3 objectInit ∈ pw_gt := pw_gt_at 244 (by decide +kernel) rfl
theorem mq_245 : Cond.classLink "PadeWorkbench$Toeplitz" 9 "[[I" ∈ pw_gt := pw_gt_at 245 (by decide +kernel) rfl
theorem mq_246 : Cond.fieldLink "PadeWorkbench$Toeplitz" 11 "PadeWorkbench$Toeplitz" "cells" "[[I" ∈ pw_gt := pw_gt_at 246 (by decide +kernel) rfl
theorem mq_247 : Cond.laysFinal "PadeWorkbench$Toeplitz" "PadeWorkbench$Toeplitz" "cells" "[[I" ∈ pw_gt := pw_gt_at 247 (by decide +kernel) rfl
theorem mq_250 : Cond.classLink "PadeWorkbench" 51 "PadeWorkbench$Scheme" ∈ pw_gt := pw_gt_at 250 (by decide +kernel) rfl
theorem mq_251 : Cond.instantiable "PadeWorkbench$Scheme" 2 ∈ pw_gt := pw_gt_at 251 (by decide +kernel) rfl
theorem mq_253 : Cond.instanceMethod my_Q_init ∈ pw_gt := pw_gt_at 253 (by decide +kernel) rfl
theorem mq_254 : Cond.code my_Q_init prog_9_method_1_code 1 none ∈ pw_gt := pw_gt_at 254 (by decide +kernel) rfl
theorem mq_255 : Cond.methodLink "PadeWorkbench$Scheme" 3 objectInit ∈ pw_gt := pw_gt_at 255 (by decide +kernel) rfl
theorem mq_256 : Cond.fieldLink "PadeWorkbench$Scheme" 9 "PadeWorkbench$Scheme" "q" "[I" ∈ pw_gt := pw_gt_at 256 (by decide +kernel) rfl
theorem mq_257 : Cond.fieldLink "PadeWorkbench$Scheme" 15 "PadeWorkbench$Scheme" "e" "[I" ∈ pw_gt := pw_gt_at 257 (by decide +kernel) rfl
theorem mq_258 : Cond.laysFinal "PadeWorkbench$Scheme" "PadeWorkbench$Scheme" "q" "[I" ∈ pw_gt := pw_gt_at 258 (by decide +kernel) rfl
theorem mq_260 : Cond.laysFinal "PadeWorkbench$Scheme" "PadeWorkbench$Scheme" "e" "[I" ∈ pw_gt := pw_gt_at 260 (by decide +kernel) rfl
theorem mq_263 : Cond.classLink "PadeWorkbench" 58 "PadeWorkbench$Register" ∈ pw_gt := pw_gt_at 263 (by decide +kernel) rfl
theorem mq_264 : Cond.instantiable "PadeWorkbench$Register" 4 ∈ pw_gt := pw_gt_at 264 (by decide +kernel) rfl
theorem mq_266 : Cond.instanceMethod my_B_init ∈ pw_gt := pw_gt_at 266 (by decide +kernel) rfl
theorem mq_267 : Cond.code my_B_init prog_8_method_1_code 1 none ∈ pw_gt := pw_gt_at 267 (by decide +kernel) rfl
theorem mq_268 : Cond.methodLink "PadeWorkbench$Register" 3 objectInit ∈ pw_gt := pw_gt_at 268 (by decide +kernel) rfl
theorem mq_269 : Cond.fieldLink "PadeWorkbench$Register" 9 "PadeWorkbench$Register" "connection" "[I" ∈ pw_gt := pw_gt_at 269 (by decide +kernel) rfl
theorem mq_271 : Cond.fieldLink "PadeWorkbench$Register" 15 "PadeWorkbench$Register" "older" "[I" ∈ pw_gt := pw_gt_at 271 (by decide +kernel) rfl
theorem mq_272 : Cond.fieldLink "PadeWorkbench$Register" 18 "PadeWorkbench$Register" "spareRow" "[I" ∈ pw_gt := pw_gt_at 272 (by decide +kernel) rfl
theorem mq_273 : Cond.fieldLink "PadeWorkbench$Register" 27 "PadeWorkbench$Register" "size" "I" ∈ pw_gt := pw_gt_at 273 (by decide +kernel) rfl
theorem mq_275 : Cond.lays "PadeWorkbench$Register" "PadeWorkbench$Register" "connection" "[I" ∈ pw_gt := pw_gt_at 275 (by decide +kernel) rfl
theorem mq_277 : Cond.lays "PadeWorkbench$Register" "PadeWorkbench$Register" "older" "[I" ∈ pw_gt := pw_gt_at 277 (by decide +kernel) rfl
theorem mq_279 : Cond.lays "PadeWorkbench$Register" "PadeWorkbench$Register" "spareRow" "[I" ∈ pw_gt := pw_gt_at 279 (by decide +kernel) rfl
theorem mq_281 : Cond.lays "PadeWorkbench$Register" "PadeWorkbench$Register" "size" "I" ∈ pw_gt := pw_gt_at 281 (by decide +kernel) rfl
theorem mq_284 : Cond.fieldLink "PadeWorkbench" 10 "PadeWorkbench" "now" "LPadeWorkbench$State;" ∈ pw_gt := pw_gt_at 284 (by decide +kernel) rfl
theorem mq_285 : Cond.fieldLink "PadeWorkbench" 19 "PadeWorkbench" "history" "LPadeWorkbench$History;" ∈ pw_gt := pw_gt_at 285 (by decide +kernel) rfl
theorem mq_286 : Cond.fieldLink "PadeWorkbench" 26 "PadeWorkbench" "text" "LPadeWorkbench$FractionText;" ∈ pw_gt := pw_gt_at 286 (by decide +kernel) rfl
theorem mq_287 : Cond.fieldLink "PadeWorkbench" 33 "PadeWorkbench" "euclid" "LPadeWorkbench$Euclid;" ∈ pw_gt := pw_gt_at 287 (by decide +kernel) rfl
theorem mq_288 : Cond.fieldLink "PadeWorkbench" 40 "PadeWorkbench" "fraction" "LPadeWorkbench$Fraction;" ∈ pw_gt := pw_gt_at 288 (by decide +kernel) rfl
theorem mq_289 : Cond.fieldLink "PadeWorkbench" 47 "PadeWorkbench" "toeplitz" "LPadeWorkbench$Toeplitz;" ∈ pw_gt := pw_gt_at 289 (by decide +kernel) rfl
theorem mq_290 : Cond.fieldLink "PadeWorkbench" 54 "PadeWorkbench" "scheme" "LPadeWorkbench$Scheme;" ∈ pw_gt := pw_gt_at 290 (by decide +kernel) rfl
theorem mq_291 : Cond.fieldLink "PadeWorkbench" 61 "PadeWorkbench" "register" "LPadeWorkbench$Register;" ∈ pw_gt := pw_gt_at 291 (by decide +kernel) rfl
theorem mq_292 : Cond.fieldLink "PadeWorkbench" 65 "PadeWorkbench" "result" "[I" ∈ pw_gt := pw_gt_at 292 (by decide +kernel) rfl
theorem mq_293 : Cond.fieldLink "PadeWorkbench" 69 "PadeWorkbench" "spare" "[I" ∈ pw_gt := pw_gt_at 293 (by decide +kernel) rfl
theorem mq_294 : Cond.fieldLink "PadeWorkbench" 72 "PadeWorkbench" "errors" "[I" ∈ pw_gt := pw_gt_at 294 (by decide +kernel) rfl
theorem mq_295 : Cond.laysFinal "PadeWorkbench" "PadeWorkbench" "now" "LPadeWorkbench$State;" ∈ pw_gt := pw_gt_at 295 (by decide +kernel) rfl
theorem mq_297 : Cond.laysFinal "PadeWorkbench" "PadeWorkbench" "history" "LPadeWorkbench$History;" ∈ pw_gt := pw_gt_at 297 (by decide +kernel) rfl
theorem mq_299 : Cond.laysFinal "PadeWorkbench" "PadeWorkbench" "text" "LPadeWorkbench$FractionText;" ∈ pw_gt := pw_gt_at 299 (by decide +kernel) rfl
theorem mq_301 : Cond.laysFinal "PadeWorkbench" "PadeWorkbench" "euclid" "LPadeWorkbench$Euclid;" ∈ pw_gt := pw_gt_at 301 (by decide +kernel) rfl
theorem mq_303 : Cond.laysFinal "PadeWorkbench" "PadeWorkbench" "fraction" "LPadeWorkbench$Fraction;" ∈ pw_gt := pw_gt_at 303 (by decide +kernel) rfl
theorem mq_305 : Cond.laysFinal "PadeWorkbench" "PadeWorkbench" "toeplitz" "LPadeWorkbench$Toeplitz;" ∈ pw_gt := pw_gt_at 305 (by decide +kernel) rfl
theorem mq_307 : Cond.laysFinal "PadeWorkbench" "PadeWorkbench" "scheme" "LPadeWorkbench$Scheme;" ∈ pw_gt := pw_gt_at 307 (by decide +kernel) rfl
theorem mq_309 : Cond.laysFinal "PadeWorkbench" "PadeWorkbench" "register" "LPadeWorkbench$Register;" ∈ pw_gt := pw_gt_at 309 (by decide +kernel) rfl
theorem mq_311 : Cond.laysFinal "PadeWorkbench" "PadeWorkbench" "result" "[I" ∈ pw_gt := pw_gt_at 311 (by decide +kernel) rfl
theorem mq_313 : Cond.laysFinal "PadeWorkbench" "PadeWorkbench" "spare" "[I" ∈ pw_gt := pw_gt_at 313 (by decide +kernel) rfl
theorem mq_315 : Cond.laysFinal "PadeWorkbench" "PadeWorkbench" "errors" "[I" ∈ pw_gt := pw_gt_at 315 (by decide +kernel) rfl
theorem mq_319 : Cond.instanceMethod my_W_setPrime ∈ pw_gt := pw_gt_at 319 (by decide +kernel) rfl
theorem mq_320 : Cond.selects "PadeWorkbench" my_W_setPrime my_W_setPrime ∈ pw_gt := pw_gt_at 320 (by decide +kernel) rfl
theorem mq_321 : Cond.code my_W_setPrime prog_1_method_2_code 3 (some .int) ∈ pw_gt := pw_gt_at 321 (by decide +kernel) rfl
theorem mq_322 : Cond.methodLink "PadeWorkbench" 75 my_W_isPrime ∈ pw_gt := pw_gt_at 322 (by decide +kernel) rfl
theorem mq_323 : Cond.static my_W_isPrime ∈ pw_gt := pw_gt_at 323 (by decide +kernel) rfl
theorem mq_324 : Cond.code my_W_isPrime prog_1_method_44_code 2 (some .boolean) ∈ pw_gt := pw_gt_at 324 (by decide +kernel) rfl
theorem mq_325 : Cond.methodLink "PadeWorkbench" 79 my_W_fail ∈ pw_gt := pw_gt_at 325 (by decide +kernel) rfl
theorem mq_327 : Cond.instanceMethod my_W_fail ∈ pw_gt := pw_gt_at 327 (by decide +kernel) rfl
theorem mq_328 : Cond.code my_W_fail prog_1_method_37_code 3 (some .int) ∈ pw_gt := pw_gt_at 328 (by decide +kernel) rfl
theorem mq_329 : Cond.methodLink "PadeWorkbench" 87 my_H_keep ∈ pw_gt := pw_gt_at 329 (by decide +kernel) rfl
theorem mq_330 : Cond.instanceMethod my_H_keep ∈ pw_gt := pw_gt_at 330 (by decide +kernel) rfl
theorem mq_331 : Cond.selects "PadeWorkbench$History" my_H_keep my_H_keep ∈ pw_gt := pw_gt_at 331 (by decide +kernel) rfl
theorem mq_332 : Cond.code my_H_keep prog_6_method_2_code 2 none ∈ pw_gt := pw_gt_at 332 (by decide +kernel) rfl
theorem mq_333 : Cond.methodLink "PadeWorkbench$History" 22 my_Z_copyFrom ∈ pw_gt := pw_gt_at 333 (by decide +kernel) rfl
theorem mq_334 : Cond.instanceMethod my_Z_copyFrom ∈ pw_gt := pw_gt_at 334 (by decide +kernel) rfl
theorem mq_335 : Cond.selects "PadeWorkbench$State" my_Z_copyFrom my_Z_copyFrom ∈ pw_gt := pw_gt_at 335 (by decide +kernel) rfl
theorem mq_336 : Cond.code my_Z_copyFrom prog_11_method_2_code 3 none ∈ pw_gt := pw_gt_at 336 (by decide +kernel) rfl
theorem mq_337 : Cond.methodLink "PadeWorkbench$State" 27 arraycopyName ∈ pw_gt := pw_gt_at 337 (by decide +kernel) rfl
theorem mq_338 : Cond.static arraycopyName ∈ pw_gt := pw_gt_at 338 (by decide +kernel) rfl
theorem mq_339 : Cond.native arraycopyName ∈ pw_gt := pw_gt_at 339 (by decide +kernel) rfl
theorem mq_340 : Cond.methodLink "PadeWorkbench" 91 my_Z_restart ∈ pw_gt := pw_gt_at 340 (by decide +kernel) rfl
theorem mq_341 : Cond.instanceMethod my_Z_restart ∈ pw_gt := pw_gt_at 341 (by decide +kernel) rfl
theorem mq_342 : Cond.selects "PadeWorkbench$State" my_Z_restart my_Z_restart ∈ pw_gt := pw_gt_at 342 (by decide +kernel) rfl
theorem mq_343 : Cond.code my_Z_restart prog_11_method_3_code 3 none ∈ pw_gt := pw_gt_at 343 (by decide +kernel) rfl
theorem mq_344 : Cond.methodLink "PadeWorkbench$State" 36 my_A_fill ∈ pw_gt := pw_gt_at 344 (by decide +kernel) rfl
theorem mq_345 : Cond.static my_A_fill ∈ pw_gt := pw_gt_at 345 (by decide +kernel) rfl
theorem mq_346 : Cond.code my_A_fill prog_16_method_103_code 4 none ∈ pw_gt := pw_gt_at 346 (by decide +kernel) rfl
theorem mq_348 : Cond.instanceMethod my_W_set ∈ pw_gt := pw_gt_at 348 (by decide +kernel) rfl
theorem mq_349 : Cond.selects "PadeWorkbench" my_W_set my_W_set ∈ pw_gt := pw_gt_at 349 (by decide +kernel) rfl
theorem mq_350 : Cond.code my_W_set prog_1_method_3_code 5 (some .int) ∈ pw_gt := pw_gt_at 350 (by decide +kernel) rfl
theorem mq_351 : Cond.methodLink "PadeWorkbench" 95 my_W_isSlot ∈ pw_gt := pw_gt_at 351 (by decide +kernel) rfl
theorem mq_352 : Cond.static my_W_isSlot ∈ pw_gt := pw_gt_at 352 (by decide +kernel) rfl
theorem mq_353 : Cond.code my_W_isSlot prog_1_method_38_code 1 (some .boolean) ∈ pw_gt := pw_gt_at 353 (by decide +kernel) rfl
theorem mq_354 : Cond.methodLink "PadeWorkbench" 98 my_W_isTerm ∈ pw_gt := pw_gt_at 354 (by decide +kernel) rfl
theorem mq_355 : Cond.static my_W_isTerm ∈ pw_gt := pw_gt_at 355 (by decide +kernel) rfl
theorem mq_356 : Cond.code my_W_isTerm prog_1_method_39_code 1 (some .boolean) ∈ pw_gt := pw_gt_at 356 (by decide +kernel) rfl
theorem mq_357 : Cond.methodLink "PadeWorkbench" 101 my_W_isElement ∈ pw_gt := pw_gt_at 357 (by decide +kernel) rfl
theorem mq_359 : Cond.instanceMethod my_W_isElement ∈ pw_gt := pw_gt_at 359 (by decide +kernel) rfl
theorem mq_360 : Cond.code my_W_isElement prog_1_method_40_code 2 (some .boolean) ∈ pw_gt := pw_gt_at 360 (by decide +kernel) rfl
theorem mq_362 : Cond.instanceMethod my_W_coefficient ∈ pw_gt := pw_gt_at 362 (by decide +kernel) rfl
theorem mq_363 : Cond.selects "PadeWorkbench" my_W_coefficient my_W_coefficient ∈ pw_gt := pw_gt_at 363 (by decide +kernel) rfl
theorem mq_364 : Cond.code my_W_coefficient prog_1_method_4_code 3 (some .int) ∈ pw_gt := pw_gt_at 364 (by decide +kernel) rfl
theorem mq_366 : Cond.instanceMethod my_W_add ∈ pw_gt := pw_gt_at 366 (by decide +kernel) rfl
theorem mq_367 : Cond.selects "PadeWorkbench" my_W_add my_W_add ∈ pw_gt := pw_gt_at 367 (by decide +kernel) rfl
theorem mq_368 : Cond.code my_W_add prog_1_method_5_code 4 (some .int) ∈ pw_gt := pw_gt_at 368 (by decide +kernel) rfl
theorem mq_369 : Cond.methodLink "PadeWorkbench" 108 my_S_sum ∈ pw_gt := pw_gt_at 369 (by decide +kernel) rfl
theorem mq_370 : Cond.static my_S_sum ∈ pw_gt := pw_gt_at 370 (by decide +kernel) rfl
theorem mq_371 : Cond.code my_S_sum prog_10_method_2_code 5 none ∈ pw_gt := pw_gt_at 371 (by decide +kernel) rfl
theorem mq_372 : Cond.methodLink "PadeWorkbench$Series" 9 my_K_reduce ∈ pw_gt := pw_gt_at 372 (by decide +kernel) rfl
theorem mq_373 : Cond.static my_K_reduce ∈ pw_gt := pw_gt_at 373 (by decide +kernel) rfl
theorem mq_374 : Cond.code my_K_reduce prog_3_method_2_code 2 (some .int) ∈ pw_gt := pw_gt_at 374 (by decide +kernel) rfl
theorem mq_375 : Cond.methodLink "PadeWorkbench" 114 my_W_store ∈ pw_gt := pw_gt_at 375 (by decide +kernel) rfl
theorem mq_377 : Cond.instanceMethod my_W_store ∈ pw_gt := pw_gt_at 377 (by decide +kernel) rfl
theorem mq_378 : Cond.code my_W_store prog_1_method_45_code 2 (some .int) ∈ pw_gt := pw_gt_at 378 (by decide +kernel) rfl
theorem mq_379 : Cond.methodLink "PadeWorkbench" 270 arraycopyName ∈ pw_gt := pw_gt_at 379 (by decide +kernel) rfl
theorem mq_380 : Cond.methodLink "PadeWorkbench" 276 my_S_countOfNonZero ∈ pw_gt := pw_gt_at 380 (by decide +kernel) rfl
theorem mq_381 : Cond.static my_S_countOfNonZero ∈ pw_gt := pw_gt_at 381 (by decide +kernel) rfl
theorem mq_382 : Cond.code my_S_countOfNonZero prog_10_method_6_code 3 (some .int) ∈ pw_gt := pw_gt_at 382 (by decide +kernel) rfl
theorem mq_384 : Cond.instanceMethod my_W_multiply ∈ pw_gt := pw_gt_at 384 (by decide +kernel) rfl
theorem mq_385 : Cond.selects "PadeWorkbench" my_W_multiply my_W_multiply ∈ pw_gt := pw_gt_at 385 (by decide +kernel) rfl
theorem mq_386 : Cond.code my_W_multiply prog_1_method_6_code 4 (some .int) ∈ pw_gt := pw_gt_at 386 (by decide +kernel) rfl
theorem mq_387 : Cond.methodLink "PadeWorkbench" 117 my_S_product ∈ pw_gt := pw_gt_at 387 (by decide +kernel) rfl
theorem mq_388 : Cond.static my_S_product ∈ pw_gt := pw_gt_at 388 (by decide +kernel) rfl
theorem mq_389 : Cond.code my_S_product prog_10_method_3_code 7 none ∈ pw_gt := pw_gt_at 389 (by decide +kernel) rfl
theorem mq_391 : Cond.instanceMethod my_W_invert ∈ pw_gt := pw_gt_at 391 (by decide +kernel) rfl
theorem mq_392 : Cond.selects "PadeWorkbench" my_W_invert my_W_invert ∈ pw_gt := pw_gt_at 392 (by decide +kernel) rfl
theorem mq_393 : Cond.code my_W_invert prog_1_method_7_code 3 (some .int) ∈ pw_gt := pw_gt_at 393 (by decide +kernel) rfl
theorem mq_394 : Cond.methodLink "PadeWorkbench" 120 my_S_reciprocal ∈ pw_gt := pw_gt_at 394 (by decide +kernel) rfl
theorem mq_395 : Cond.static my_S_reciprocal ∈ pw_gt := pw_gt_at 395 (by decide +kernel) rfl
theorem mq_396 : Cond.code my_S_reciprocal prog_10_method_4_code 7 none ∈ pw_gt := pw_gt_at 396 (by decide +kernel) rfl
theorem mq_397 : Cond.methodLink "PadeWorkbench$Series" 15 my_K_inverse ∈ pw_gt := pw_gt_at 397 (by decide +kernel) rfl
theorem mq_398 : Cond.static my_K_inverse ∈ pw_gt := pw_gt_at 398 (by decide +kernel) rfl
theorem mq_399 : Cond.code my_K_inverse prog_3_method_5_code 5 (some .int) ∈ pw_gt := pw_gt_at 399 (by decide +kernel) rfl
theorem mq_400 : Cond.methodLink "PadeWorkbench$Field" 7 my_K_reduce ∈ pw_gt := pw_gt_at 400 (by decide +kernel) rfl
theorem mq_401 : Cond.methodLink "PadeWorkbench$Series" 18 my_K_times ∈ pw_gt := pw_gt_at 401 (by decide +kernel) rfl
theorem mq_402 : Cond.static my_K_times ∈ pw_gt := pw_gt_at 402 (by decide +kernel) rfl
theorem mq_403 : Cond.code my_K_times prog_3_method_4_code 3 (some .int) ∈ pw_gt := pw_gt_at 403 (by decide +kernel) rfl
theorem mq_404 : Cond.methodLink "PadeWorkbench$Series" 22 my_K_negative ∈ pw_gt := pw_gt_at 404 (by decide +kernel) rfl
theorem mq_405 : Cond.static my_K_negative ∈ pw_gt := pw_gt_at 405 (by decide +kernel) rfl
theorem mq_406 : Cond.code my_K_negative prog_3_method_3_code 2 (some .int) ∈ pw_gt := pw_gt_at 406 (by decide +kernel) rfl
theorem mq_408 : Cond.instanceMethod my_W_substitute ∈ pw_gt := pw_gt_at 408 (by decide +kernel) rfl
theorem mq_409 : Cond.selects "PadeWorkbench" my_W_substitute my_W_substitute ∈ pw_gt := pw_gt_at 409 (by decide +kernel) rfl
theorem mq_410 : Cond.code my_W_substitute prog_1_method_8_code 4 (some .int) ∈ pw_gt := pw_gt_at 410 (by decide +kernel) rfl
theorem mq_411 : Cond.methodLink "PadeWorkbench" 124 my_W_composeIntoResult ∈ pw_gt := pw_gt_at 411 (by decide +kernel) rfl
theorem mq_413 : Cond.instanceMethod my_W_composeIntoResult ∈ pw_gt := pw_gt_at 413 (by decide +kernel) rfl
theorem mq_414 : Cond.code my_W_composeIntoResult prog_1_method_46_code 4 none ∈ pw_gt := pw_gt_at 414 (by decide +kernel) rfl
theorem mq_415 : Cond.methodLink "PadeWorkbench" 280 my_A_fill ∈ pw_gt := pw_gt_at 415 (by decide +kernel) rfl
theorem mq_416 : Cond.methodLink "PadeWorkbench" 286 my_K_reduce ∈ pw_gt := pw_gt_at 416 (by decide +kernel) rfl
theorem mq_418 : Cond.instanceMethod my_W_derivative ∈ pw_gt := pw_gt_at 418 (by decide +kernel) rfl
theorem mq_419 : Cond.selects "PadeWorkbench" my_W_derivative my_W_derivative ∈ pw_gt := pw_gt_at 419 (by decide +kernel) rfl
theorem mq_420 : Cond.code my_W_derivative prog_1_method_9_code 3 (some .int) ∈ pw_gt := pw_gt_at 420 (by decide +kernel) rfl
theorem mq_421 : Cond.methodLink "PadeWorkbench" 128 my_S_slope ∈ pw_gt := pw_gt_at 421 (by decide +kernel) rfl
theorem mq_422 : Cond.static my_S_slope ∈ pw_gt := pw_gt_at 422 (by decide +kernel) rfl
theorem mq_423 : Cond.code my_S_slope prog_10_method_5_code 4 none ∈ pw_gt := pw_gt_at 423 (by decide +kernel) rfl
theorem mq_425 : Cond.instanceMethod my_W_append ∈ pw_gt := pw_gt_at 425 (by decide +kernel) rfl
theorem mq_426 : Cond.selects "PadeWorkbench" my_W_append my_W_append ∈ pw_gt := pw_gt_at 426 (by decide +kernel) rfl
theorem mq_427 : Cond.code my_W_append prog_1_method_10_code 2 (some .int) ∈ pw_gt := pw_gt_at 427 (by decide +kernel) rfl
theorem mq_428 : Cond.methodLink "PadeWorkbench" 134 my_T_put ∈ pw_gt := pw_gt_at 428 (by decide +kernel) rfl
theorem mq_429 : Cond.instanceMethod my_T_put ∈ pw_gt := pw_gt_at 429 (by decide +kernel) rfl
theorem mq_430 : Cond.selects "PadeWorkbench$FractionText" my_T_put my_T_put ∈ pw_gt := pw_gt_at 430 (by decide +kernel) rfl
theorem mq_431 : Cond.code my_T_put prog_5_method_2_code 2 none ∈ pw_gt := pw_gt_at 431 (by decide +kernel) rfl
theorem mq_433 : Cond.instanceMethod my_W_clearText ∈ pw_gt := pw_gt_at 433 (by decide +kernel) rfl
theorem mq_434 : Cond.selects "PadeWorkbench" my_W_clearText my_W_clearText ∈ pw_gt := pw_gt_at 434 (by decide +kernel) rfl
theorem mq_435 : Cond.code my_W_clearText prog_1_method_11_code 2 (some .int) ∈ pw_gt := pw_gt_at 435 (by decide +kernel) rfl
theorem mq_437 : Cond.instanceMethod my_W_parse ∈ pw_gt := pw_gt_at 437 (by decide +kernel) rfl
theorem mq_438 : Cond.selects "PadeWorkbench" my_W_parse my_W_parse ∈ pw_gt := pw_gt_at 438 (by decide +kernel) rfl
theorem mq_439 : Cond.code my_W_parse prog_1_method_12_code 2 (some .int) ∈ pw_gt := pw_gt_at 439 (by decide +kernel) rfl
theorem mq_440 : Cond.methodLink "PadeWorkbench" 137 my_T_readFraction ∈ pw_gt := pw_gt_at 440 (by decide +kernel) rfl
theorem mq_441 : Cond.instanceMethod my_T_readFraction ∈ pw_gt := pw_gt_at 441 (by decide +kernel) rfl
theorem mq_442 : Cond.selects "PadeWorkbench$FractionText" my_T_readFraction my_T_readFraction ∈ pw_gt := pw_gt_at 442 (by decide +kernel) rfl
theorem mq_443 : Cond.code my_T_readFraction prog_5_method_3_code 2 (some .boolean) ∈ pw_gt := pw_gt_at 443 (by decide +kernel) rfl
theorem mq_444 : Cond.methodLink "PadeWorkbench$FractionText" 31 my_A_fill ∈ pw_gt := pw_gt_at 444 (by decide +kernel) rfl
theorem mq_445 : Cond.methodLink "PadeWorkbench$FractionText" 37 my_T_readPolynomial ∈ pw_gt := pw_gt_at 445 (by decide +kernel) rfl
theorem mq_447 : Cond.instanceMethod my_T_readPolynomial ∈ pw_gt := pw_gt_at 447 (by decide +kernel) rfl
theorem mq_448 : Cond.code my_T_readPolynomial prog_5_method_4_code 4 (some .boolean) ∈ pw_gt := pw_gt_at 448 (by decide +kernel) rfl
theorem mq_449 : Cond.methodLink "PadeWorkbench$FractionText" 41 my_T_took ∈ pw_gt := pw_gt_at 449 (by decide +kernel) rfl
theorem mq_451 : Cond.instanceMethod my_T_took ∈ pw_gt := pw_gt_at 451 (by decide +kernel) rfl
theorem mq_452 : Cond.code my_T_took prog_5_method_8_code 2 (some .boolean) ∈ pw_gt := pw_gt_at 452 (by decide +kernel) rfl
theorem mq_453 : Cond.methodLink "PadeWorkbench$FractionText" 45 my_T_peek ∈ pw_gt := pw_gt_at 453 (by decide +kernel) rfl
theorem mq_455 : Cond.instanceMethod my_T_peek ∈ pw_gt := pw_gt_at 455 (by decide +kernel) rfl
theorem mq_456 : Cond.code my_T_peek prog_5_method_9_code 1 (some .int) ∈ pw_gt := pw_gt_at 456 (by decide +kernel) rfl
theorem mq_457 : Cond.methodLink "PadeWorkbench$FractionText" 68 my_T_here ∈ pw_gt := pw_gt_at 457 (by decide +kernel) rfl
theorem mq_459 : Cond.instanceMethod my_T_here ∈ pw_gt := pw_gt_at 459 (by decide +kernel) rfl
theorem mq_460 : Cond.code my_T_here prog_5_method_10_code 1 (some .int) ∈ pw_gt := pw_gt_at 460 (by decide +kernel) rfl
theorem mq_461 : Cond.methodLink "PadeWorkbench$FractionText" 49 my_T_readTerm ∈ pw_gt := pw_gt_at 461 (by decide +kernel) rfl
theorem mq_463 : Cond.instanceMethod my_T_readTerm ∈ pw_gt := pw_gt_at 463 (by decide +kernel) rfl
theorem mq_464 : Cond.code my_T_readTerm prog_5_method_5_code 7 (some .boolean) ∈ pw_gt := pw_gt_at 464 (by decide +kernel) rfl
theorem mq_465 : Cond.methodLink "PadeWorkbench$FractionText" 53 my_T_isDigit ∈ pw_gt := pw_gt_at 465 (by decide +kernel) rfl
theorem mq_466 : Cond.static my_T_isDigit ∈ pw_gt := pw_gt_at 466 (by decide +kernel) rfl
theorem mq_467 : Cond.code my_T_isDigit prog_5_method_11_code 1 (some .boolean) ∈ pw_gt := pw_gt_at 467 (by decide +kernel) rfl
theorem mq_468 : Cond.methodLink "PadeWorkbench$FractionText" 56 my_T_readNumber ∈ pw_gt := pw_gt_at 468 (by decide +kernel) rfl
theorem mq_470 : Cond.instanceMethod my_T_readNumber ∈ pw_gt := pw_gt_at 470 (by decide +kernel) rfl
theorem mq_471 : Cond.code my_T_readNumber prog_5_method_6_code 3 (some .int) ∈ pw_gt := pw_gt_at 471 (by decide +kernel) rfl
theorem mq_472 : Cond.methodLink "PadeWorkbench$FractionText" 59 my_T_readExponent ∈ pw_gt := pw_gt_at 472 (by decide +kernel) rfl
theorem mq_474 : Cond.instanceMethod my_T_readExponent ∈ pw_gt := pw_gt_at 474 (by decide +kernel) rfl
theorem mq_475 : Cond.code my_T_readExponent prog_5_method_7_code 3 (some .int) ∈ pw_gt := pw_gt_at 475 (by decide +kernel) rfl
theorem mq_476 : Cond.methodLink "PadeWorkbench$FractionText" 62 my_K_reduce ∈ pw_gt := pw_gt_at 476 (by decide +kernel) rfl
theorem mq_478 : Cond.instanceMethod my_W_numeratorDegree ∈ pw_gt := pw_gt_at 478 (by decide +kernel) rfl
theorem mq_479 : Cond.selects "PadeWorkbench" my_W_numeratorDegree my_W_numeratorDegree ∈ pw_gt := pw_gt_at 479 (by decide +kernel) rfl
theorem mq_480 : Cond.code my_W_numeratorDegree prog_1_method_13_code 4 (some .int) ∈ pw_gt := pw_gt_at 480 (by decide +kernel) rfl
theorem mq_481 : Cond.methodLink "PadeWorkbench" 149 my_W_isApproximant ∈ pw_gt := pw_gt_at 481 (by decide +kernel) rfl
theorem mq_482 : Cond.static my_W_isApproximant ∈ pw_gt := pw_gt_at 482 (by decide +kernel) rfl
theorem mq_483 : Cond.code my_W_isApproximant prog_1_method_41_code 3 (some .boolean) ∈ pw_gt := pw_gt_at 483 (by decide +kernel) rfl
theorem mq_484 : Cond.methodLink "PadeWorkbench" 153 my_W_approximate ∈ pw_gt := pw_gt_at 484 (by decide +kernel) rfl
theorem mq_486 : Cond.instanceMethod my_W_approximate ∈ pw_gt := pw_gt_at 486 (by decide +kernel) rfl
theorem mq_487 : Cond.code my_W_approximate prog_1_method_47_code 4 none ∈ pw_gt := pw_gt_at 487 (by decide +kernel) rfl
theorem mq_488 : Cond.methodLink "PadeWorkbench" 198 my_E_startWithSeries ∈ pw_gt := pw_gt_at 488 (by decide +kernel) rfl
theorem mq_489 : Cond.instanceMethod my_E_startWithSeries ∈ pw_gt := pw_gt_at 489 (by decide +kernel) rfl
theorem mq_490 : Cond.selects "PadeWorkbench$Euclid" my_E_startWithSeries my_E_startWithSeries ∈ pw_gt := pw_gt_at 490 (by decide +kernel) rfl
theorem mq_491 : Cond.code my_E_startWithSeries prog_2_method_2_code 4 none ∈ pw_gt := pw_gt_at 491 (by decide +kernel) rfl
theorem mq_492 : Cond.methodLink "PadeWorkbench$Euclid" 34 my_P_becomePower ∈ pw_gt := pw_gt_at 492 (by decide +kernel) rfl
theorem mq_493 : Cond.instanceMethod my_P_becomePower ∈ pw_gt := pw_gt_at 493 (by decide +kernel) rfl
theorem mq_494 : Cond.selects "PadeWorkbench$Polynomial" my_P_becomePower my_P_becomePower ∈ pw_gt := pw_gt_at 494 (by decide +kernel) rfl
theorem mq_495 : Cond.code my_P_becomePower prog_7_method_3_code 2 none ∈ pw_gt := pw_gt_at 495 (by decide +kernel) rfl
theorem mq_496 : Cond.methodLink "PadeWorkbench$Polynomial" 25 my_P_becomeZero ∈ pw_gt := pw_gt_at 496 (by decide +kernel) rfl
theorem mq_497 : Cond.instanceMethod my_P_becomeZero ∈ pw_gt := pw_gt_at 497 (by decide +kernel) rfl
theorem mq_498 : Cond.selects "PadeWorkbench$Polynomial" my_P_becomeZero my_P_becomeZero ∈ pw_gt := pw_gt_at 498 (by decide +kernel) rfl
theorem mq_499 : Cond.code my_P_becomeZero prog_7_method_2_code 1 none ∈ pw_gt := pw_gt_at 499 (by decide +kernel) rfl
theorem mq_500 : Cond.methodLink "PadeWorkbench$Polynomial" 19 my_A_fill ∈ pw_gt := pw_gt_at 500 (by decide +kernel) rfl
theorem mq_501 : Cond.methodLink "PadeWorkbench$Euclid" 38 my_P_becomeStart ∈ pw_gt := pw_gt_at 501 (by decide +kernel) rfl
theorem mq_502 : Cond.instanceMethod my_P_becomeStart ∈ pw_gt := pw_gt_at 502 (by decide +kernel) rfl
theorem mq_503 : Cond.selects "PadeWorkbench$Polynomial" my_P_becomeStart my_P_becomeStart ∈ pw_gt := pw_gt_at 503 (by decide +kernel) rfl
theorem mq_504 : Cond.code my_P_becomeStart prog_7_method_4_code 4 none ∈ pw_gt := pw_gt_at 504 (by decide +kernel) rfl
theorem mq_505 : Cond.methodLink "PadeWorkbench$Polynomial" 28 my_P_measure ∈ pw_gt := pw_gt_at 505 (by decide +kernel) rfl
theorem mq_506 : Cond.instanceMethod my_P_measure ∈ pw_gt := pw_gt_at 506 (by decide +kernel) rfl
theorem mq_507 : Cond.selects "PadeWorkbench$Polynomial" my_P_measure my_P_measure ∈ pw_gt := pw_gt_at 507 (by decide +kernel) rfl
theorem mq_508 : Cond.code my_P_measure prog_7_method_6_code 1 none ∈ pw_gt := pw_gt_at 508 (by decide +kernel) rfl
theorem mq_509 : Cond.methodLink "PadeWorkbench$Euclid" 42 my_E_startCofactors ∈ pw_gt := pw_gt_at 509 (by decide +kernel) rfl
theorem mq_511 : Cond.instanceMethod my_E_startCofactors ∈ pw_gt := pw_gt_at 511 (by decide +kernel) rfl
theorem mq_512 : Cond.code my_E_startCofactors prog_2_method_4_code 1 none ∈ pw_gt := pw_gt_at 512 (by decide +kernel) rfl
theorem mq_513 : Cond.methodLink "PadeWorkbench$Euclid" 50 my_P_becomeZero ∈ pw_gt := pw_gt_at 513 (by decide +kernel) rfl
theorem mq_514 : Cond.methodLink "PadeWorkbench" 289 my_E_runDownTo ∈ pw_gt := pw_gt_at 514 (by decide +kernel) rfl
theorem mq_515 : Cond.instanceMethod my_E_runDownTo ∈ pw_gt := pw_gt_at 515 (by decide +kernel) rfl
theorem mq_516 : Cond.selects "PadeWorkbench$Euclid" my_E_runDownTo my_E_runDownTo ∈ pw_gt := pw_gt_at 516 (by decide +kernel) rfl
theorem mq_517 : Cond.code my_E_runDownTo prog_2_method_5_code 3 none ∈ pw_gt := pw_gt_at 517 (by decide +kernel) rfl
theorem mq_518 : Cond.methodLink "PadeWorkbench$Euclid" 90 my_E_divide ∈ pw_gt := pw_gt_at 518 (by decide +kernel) rfl
theorem mq_519 : Cond.instanceMethod my_E_divide ∈ pw_gt := pw_gt_at 519 (by decide +kernel) rfl
theorem mq_520 : Cond.selects "PadeWorkbench$Euclid" my_E_divide my_E_divide ∈ pw_gt := pw_gt_at 520 (by decide +kernel) rfl
theorem mq_521 : Cond.code my_E_divide prog_2_method_6_code 4 none ∈ pw_gt := pw_gt_at 521 (by decide +kernel) rfl
theorem mq_522 : Cond.methodLink "PadeWorkbench$Euclid" 99 my_K_inverse ∈ pw_gt := pw_gt_at 522 (by decide +kernel) rfl
theorem mq_523 : Cond.methodLink "PadeWorkbench$Euclid" 102 my_K_times ∈ pw_gt := pw_gt_at 523 (by decide +kernel) rfl
theorem mq_524 : Cond.methodLink "PadeWorkbench$Euclid" 105 my_K_negative ∈ pw_gt := pw_gt_at 524 (by decide +kernel) rfl
theorem mq_525 : Cond.methodLink "PadeWorkbench$Euclid" 76 my_P_gather ∈ pw_gt := pw_gt_at 525 (by decide +kernel) rfl
theorem mq_526 : Cond.instanceMethod my_P_gather ∈ pw_gt := pw_gt_at 526 (by decide +kernel) rfl
theorem mq_527 : Cond.selects "PadeWorkbench$Polynomial" my_P_gather my_P_gather ∈ pw_gt := pw_gt_at 527 (by decide +kernel) rfl
theorem mq_528 : Cond.code my_P_gather prog_7_method_8_code 6 none ∈ pw_gt := pw_gt_at 528 (by decide +kernel) rfl
theorem mq_529 : Cond.methodLink "PadeWorkbench$Polynomial" 37 my_K_reduce ∈ pw_gt := pw_gt_at 529 (by decide +kernel) rfl
theorem mq_530 : Cond.methodLink "PadeWorkbench$Euclid" 80 my_P_measure ∈ pw_gt := pw_gt_at 530 (by decide +kernel) rfl
theorem mq_531 : Cond.methodLink "PadeWorkbench$Euclid" 93 my_E_followWithCofactors ∈ pw_gt := pw_gt_at 531 (by decide +kernel) rfl
theorem mq_533 : Cond.instanceMethod my_E_followWithCofactors ∈ pw_gt := pw_gt_at 533 (by decide +kernel) rfl
theorem mq_534 : Cond.code my_E_followWithCofactors prog_2_method_7_code 3 none ∈ pw_gt := pw_gt_at 534 (by decide +kernel) rfl
theorem mq_535 : Cond.methodLink "PadeWorkbench" 295 my_R_take ∈ pw_gt := pw_gt_at 535 (by decide +kernel) rfl
theorem mq_536 : Cond.instanceMethod my_R_take ∈ pw_gt := pw_gt_at 536 (by decide +kernel) rfl
theorem mq_537 : Cond.selects "PadeWorkbench$Fraction" my_R_take my_R_take ∈ pw_gt := pw_gt_at 537 (by decide +kernel) rfl
theorem mq_538 : Cond.code my_R_take prog_4_method_2_code 3 none ∈ pw_gt := pw_gt_at 538 (by decide +kernel) rfl
theorem mq_539 : Cond.methodLink "PadeWorkbench$Fraction" 21 my_P_copyFrom ∈ pw_gt := pw_gt_at 539 (by decide +kernel) rfl
theorem mq_540 : Cond.instanceMethod my_P_copyFrom ∈ pw_gt := pw_gt_at 540 (by decide +kernel) rfl
theorem mq_541 : Cond.selects "PadeWorkbench$Polynomial" my_P_copyFrom my_P_copyFrom ∈ pw_gt := pw_gt_at 541 (by decide +kernel) rfl
theorem mq_542 : Cond.code my_P_copyFrom prog_7_method_5_code 2 none ∈ pw_gt := pw_gt_at 542 (by decide +kernel) rfl
theorem mq_543 : Cond.methodLink "PadeWorkbench$Polynomial" 31 arraycopyName ∈ pw_gt := pw_gt_at 543 (by decide +kernel) rfl
theorem mq_544 : Cond.methodLink "PadeWorkbench$Fraction" 29 my_P_becomePower ∈ pw_gt := pw_gt_at 544 (by decide +kernel) rfl
theorem mq_545 : Cond.methodLink "PadeWorkbench" 299 my_R_cancelRoot ∈ pw_gt := pw_gt_at 545 (by decide +kernel) rfl
theorem mq_546 : Cond.instanceMethod my_R_cancelRoot ∈ pw_gt := pw_gt_at 546 (by decide +kernel) rfl
theorem mq_547 : Cond.selects "PadeWorkbench$Fraction" my_R_cancelRoot my_R_cancelRoot ∈ pw_gt := pw_gt_at 547 (by decide +kernel) rfl
theorem mq_548 : Cond.code my_R_cancelRoot prog_4_method_3_code 4 none ∈ pw_gt := pw_gt_at 548 (by decide +kernel) rfl
theorem mq_549 : Cond.methodLink "PadeWorkbench$Fraction" 33 my_P_valueAt ∈ pw_gt := pw_gt_at 549 (by decide +kernel) rfl
theorem mq_550 : Cond.instanceMethod my_P_valueAt ∈ pw_gt := pw_gt_at 550 (by decide +kernel) rfl
theorem mq_551 : Cond.selects "PadeWorkbench$Polynomial" my_P_valueAt my_P_valueAt ∈ pw_gt := pw_gt_at 551 (by decide +kernel) rfl
theorem mq_552 : Cond.code my_P_valueAt prog_7_method_7_code 5 (some .int) ∈ pw_gt := pw_gt_at 552 (by decide +kernel) rfl
theorem mq_553 : Cond.methodLink "PadeWorkbench$Fraction" 37 my_P_divideByRoot ∈ pw_gt := pw_gt_at 553 (by decide +kernel) rfl
theorem mq_554 : Cond.instanceMethod my_P_divideByRoot ∈ pw_gt := pw_gt_at 554 (by decide +kernel) rfl
theorem mq_555 : Cond.selects "PadeWorkbench$Polynomial" my_P_divideByRoot my_P_divideByRoot ∈ pw_gt := pw_gt_at 555 (by decide +kernel) rfl
theorem mq_556 : Cond.code my_P_divideByRoot prog_7_method_11_code 6 none ∈ pw_gt := pw_gt_at 556 (by decide +kernel) rfl
theorem mq_557 : Cond.methodLink "PadeWorkbench" 302 my_R_scale ∈ pw_gt := pw_gt_at 557 (by decide +kernel) rfl
theorem mq_558 : Cond.instanceMethod my_R_scale ∈ pw_gt := pw_gt_at 558 (by decide +kernel) rfl
theorem mq_559 : Cond.selects "PadeWorkbench$Fraction" my_R_scale my_R_scale ∈ pw_gt := pw_gt_at 559 (by decide +kernel) rfl
theorem mq_560 : Cond.code my_R_scale prog_4_method_4_code 3 none ∈ pw_gt := pw_gt_at 560 (by decide +kernel) rfl
theorem mq_561 : Cond.methodLink "PadeWorkbench$Fraction" 41 my_P_lowest ∈ pw_gt := pw_gt_at 561 (by decide +kernel) rfl
theorem mq_562 : Cond.instanceMethod my_P_lowest ∈ pw_gt := pw_gt_at 562 (by decide +kernel) rfl
theorem mq_563 : Cond.selects "PadeWorkbench$Polynomial" my_P_lowest my_P_lowest ∈ pw_gt := pw_gt_at 563 (by decide +kernel) rfl
theorem mq_564 : Cond.code my_P_lowest prog_7_method_12_code 2 (some .int) ∈ pw_gt := pw_gt_at 564 (by decide +kernel) rfl
theorem mq_565 : Cond.methodLink "PadeWorkbench$Fraction" 45 my_K_inverse ∈ pw_gt := pw_gt_at 565 (by decide +kernel) rfl
theorem mq_566 : Cond.methodLink "PadeWorkbench$Fraction" 50 my_P_scaleBy ∈ pw_gt := pw_gt_at 566 (by decide +kernel) rfl
theorem mq_567 : Cond.instanceMethod my_P_scaleBy ∈ pw_gt := pw_gt_at 567 (by decide +kernel) rfl
theorem mq_568 : Cond.selects "PadeWorkbench$Polynomial" my_P_scaleBy my_P_scaleBy ∈ pw_gt := pw_gt_at 568 (by decide +kernel) rfl
theorem mq_569 : Cond.code my_P_scaleBy prog_7_method_9_code 4 none ∈ pw_gt := pw_gt_at 569 (by decide +kernel) rfl
theorem mq_570 : Cond.methodLink "PadeWorkbench$Polynomial" 43 my_K_times ∈ pw_gt := pw_gt_at 570 (by decide +kernel) rfl
theorem mq_572 : Cond.instanceMethod my_W_denominatorDegree ∈ pw_gt := pw_gt_at 572 (by decide +kernel) rfl
theorem mq_573 : Cond.selects "PadeWorkbench" my_W_denominatorDegree my_W_denominatorDegree ∈ pw_gt := pw_gt_at 573 (by decide +kernel) rfl
theorem mq_574 : Cond.code my_W_denominatorDegree prog_1_method_14_code 4 (some .int) ∈ pw_gt := pw_gt_at 574 (by decide +kernel) rfl
theorem mq_576 : Cond.instanceMethod my_W_numerator ∈ pw_gt := pw_gt_at 576 (by decide +kernel) rfl
theorem mq_577 : Cond.selects "PadeWorkbench" my_W_numerator my_W_numerator ∈ pw_gt := pw_gt_at 577 (by decide +kernel) rfl
theorem mq_578 : Cond.code my_W_numerator prog_1_method_15_code 5 (some .int) ∈ pw_gt := pw_gt_at 578 (by decide +kernel) rfl
theorem mq_580 : Cond.instanceMethod my_W_denominator ∈ pw_gt := pw_gt_at 580 (by decide +kernel) rfl
theorem mq_581 : Cond.selects "PadeWorkbench" my_W_denominator my_W_denominator ∈ pw_gt := pw_gt_at 581 (by decide +kernel) rfl
theorem mq_582 : Cond.code my_W_denominator prog_1_method_16_code 5 (some .int) ∈ pw_gt := pw_gt_at 582 (by decide +kernel) rfl
theorem mq_584 : Cond.instanceMethod my_W_order ∈ pw_gt := pw_gt_at 584 (by decide +kernel) rfl
theorem mq_585 : Cond.selects "PadeWorkbench" my_W_order my_W_order ∈ pw_gt := pw_gt_at 585 (by decide +kernel) rfl
theorem mq_586 : Cond.code my_W_order prog_1_method_17_code 4 (some .int) ∈ pw_gt := pw_gt_at 586 (by decide +kernel) rfl
theorem mq_587 : Cond.methodLink "PadeWorkbench" 170 my_R_agreement ∈ pw_gt := pw_gt_at 587 (by decide +kernel) rfl
theorem mq_588 : Cond.instanceMethod my_R_agreement ∈ pw_gt := pw_gt_at 588 (by decide +kernel) rfl
theorem mq_589 : Cond.selects "PadeWorkbench$Fraction" my_R_agreement my_R_agreement ∈ pw_gt := pw_gt_at 589 (by decide +kernel) rfl
theorem mq_590 : Cond.code my_R_agreement prog_4_method_5_code 6 (some .int) ∈ pw_gt := pw_gt_at 590 (by decide +kernel) rfl
theorem mq_591 : Cond.methodLink "PadeWorkbench$Fraction" 57 my_K_reduce ∈ pw_gt := pw_gt_at 591 (by decide +kernel) rfl
theorem mq_593 : Cond.instanceMethod my_W_blockSize ∈ pw_gt := pw_gt_at 593 (by decide +kernel) rfl
theorem mq_594 : Cond.selects "PadeWorkbench" my_W_blockSize my_W_blockSize ∈ pw_gt := pw_gt_at 594 (by decide +kernel) rfl
theorem mq_595 : Cond.code my_W_blockSize prog_1_method_18_code 4 (some .int) ∈ pw_gt := pw_gt_at 595 (by decide +kernel) rfl
theorem mq_596 : Cond.methodLink "PadeWorkbench" 174 my_R_block ∈ pw_gt := pw_gt_at 596 (by decide +kernel) rfl
theorem mq_597 : Cond.instanceMethod my_R_block ∈ pw_gt := pw_gt_at 597 (by decide +kernel) rfl
theorem mq_598 : Cond.selects "PadeWorkbench$Fraction" my_R_block my_R_block ∈ pw_gt := pw_gt_at 598 (by decide +kernel) rfl
theorem mq_599 : Cond.code my_R_block prog_4_method_6_code 2 (some .int) ∈ pw_gt := pw_gt_at 599 (by decide +kernel) rfl
theorem mq_601 : Cond.instanceMethod my_W_evaluate ∈ pw_gt := pw_gt_at 601 (by decide +kernel) rfl
theorem mq_602 : Cond.selects "PadeWorkbench" my_W_evaluate my_W_evaluate ∈ pw_gt := pw_gt_at 602 (by decide +kernel) rfl
theorem mq_603 : Cond.code my_W_evaluate prog_1_method_19_code 6 (some .int) ∈ pw_gt := pw_gt_at 603 (by decide +kernel) rfl
theorem mq_604 : Cond.methodLink "PadeWorkbench" 177 my_P_valueAt ∈ pw_gt := pw_gt_at 604 (by decide +kernel) rfl
theorem mq_605 : Cond.methodLink "PadeWorkbench" 181 my_K_over ∈ pw_gt := pw_gt_at 605 (by decide +kernel) rfl
theorem mq_606 : Cond.static my_K_over ∈ pw_gt := pw_gt_at 606 (by decide +kernel) rfl
theorem mq_607 : Cond.code my_K_over prog_3_method_6_code 3 (some .int) ∈ pw_gt := pw_gt_at 607 (by decide +kernel) rfl
theorem mq_608 : Cond.methodLink "PadeWorkbench$Field" 13 my_K_inverse ∈ pw_gt := pw_gt_at 608 (by decide +kernel) rfl
theorem mq_609 : Cond.methodLink "PadeWorkbench$Field" 16 my_K_times ∈ pw_gt := pw_gt_at 609 (by decide +kernel) rfl
theorem mq_611 : Cond.instanceMethod my_W_normalCount ∈ pw_gt := pw_gt_at 611 (by decide +kernel) rfl
theorem mq_612 : Cond.selects "PadeWorkbench" my_W_normalCount my_W_normalCount ∈ pw_gt := pw_gt_at 612 (by decide +kernel) rfl
theorem mq_613 : Cond.code my_W_normalCount prog_1_method_20_code 5 (some .int) ∈ pw_gt := pw_gt_at 613 (by decide +kernel) rfl
theorem mq_615 : Cond.instanceMethod my_W_determinant ∈ pw_gt := pw_gt_at 615 (by decide +kernel) rfl
theorem mq_616 : Cond.selects "PadeWorkbench" my_W_determinant my_W_determinant ∈ pw_gt := pw_gt_at 616 (by decide +kernel) rfl
theorem mq_617 : Cond.code my_W_determinant prog_1_method_21_code 4 (some .int) ∈ pw_gt := pw_gt_at 617 (by decide +kernel) rfl
theorem mq_618 : Cond.methodLink "PadeWorkbench" 187 my_D_valueOf ∈ pw_gt := pw_gt_at 618 (by decide +kernel) rfl
theorem mq_619 : Cond.instanceMethod my_D_valueOf ∈ pw_gt := pw_gt_at 619 (by decide +kernel) rfl
theorem mq_620 : Cond.selects "PadeWorkbench$Toeplitz" my_D_valueOf my_D_valueOf ∈ pw_gt := pw_gt_at 620 (by decide +kernel) rfl
theorem mq_621 : Cond.code my_D_valueOf prog_12_method_2_code 8 (some .int) ∈ pw_gt := pw_gt_at 621 (by decide +kernel) rfl
theorem mq_622 : Cond.methodLink "PadeWorkbench$Toeplitz" 16 my_D_fill ∈ pw_gt := pw_gt_at 622 (by decide +kernel) rfl
theorem mq_624 : Cond.instanceMethod my_D_fill ∈ pw_gt := pw_gt_at 624 (by decide +kernel) rfl
theorem mq_625 : Cond.code my_D_fill prog_12_method_3_code 7 none ∈ pw_gt := pw_gt_at 625 (by decide +kernel) rfl
theorem mq_627 : Cond.methodLink "PadeWorkbench$Toeplitz" 20 my_D_pivotRow ∈ pw_gt := pw_gt_at 627 (by decide +kernel) rfl
theorem mq_629 : Cond.instanceMethod my_D_pivotRow ∈ pw_gt := pw_gt_at 629 (by decide +kernel) rfl
theorem mq_630 : Cond.code my_D_pivotRow prog_12_method_4_code 4 (some .int) ∈ pw_gt := pw_gt_at 630 (by decide +kernel) rfl
theorem mq_631 : Cond.methodLink "PadeWorkbench$Toeplitz" 24 my_D_swapRows ∈ pw_gt := pw_gt_at 631 (by decide +kernel) rfl
theorem mq_633 : Cond.instanceMethod my_D_swapRows ∈ pw_gt := pw_gt_at 633 (by decide +kernel) rfl
theorem mq_634 : Cond.code my_D_swapRows prog_12_method_5_code 5 none ∈ pw_gt := pw_gt_at 634 (by decide +kernel) rfl
theorem mq_635 : Cond.methodLink "PadeWorkbench$Toeplitz" 28 my_K_negative ∈ pw_gt := pw_gt_at 635 (by decide +kernel) rfl
theorem mq_636 : Cond.methodLink "PadeWorkbench$Toeplitz" 33 my_K_times ∈ pw_gt := pw_gt_at 636 (by decide +kernel) rfl
theorem mq_637 : Cond.methodLink "PadeWorkbench$Toeplitz" 37 my_D_clearBelow ∈ pw_gt := pw_gt_at 637 (by decide +kernel) rfl
theorem mq_639 : Cond.instanceMethod my_D_clearBelow ∈ pw_gt := pw_gt_at 639 (by decide +kernel) rfl
theorem mq_640 : Cond.code my_D_clearBelow prog_12_method_6_code 8 none ∈ pw_gt := pw_gt_at 640 (by decide +kernel) rfl
theorem mq_641 : Cond.methodLink "PadeWorkbench$Toeplitz" 45 my_K_inverse ∈ pw_gt := pw_gt_at 641 (by decide +kernel) rfl
theorem mq_642 : Cond.methodLink "PadeWorkbench$Toeplitz" 48 my_K_reduce ∈ pw_gt := pw_gt_at 642 (by decide +kernel) rfl
theorem mq_644 : Cond.instanceMethod my_W_quotientDifference ∈ pw_gt := pw_gt_at 644 (by decide +kernel) rfl
theorem mq_645 : Cond.selects "PadeWorkbench" my_W_quotientDifference my_W_quotientDifference ∈ pw_gt := pw_gt_at 645 (by decide +kernel) rfl
theorem mq_646 : Cond.code my_W_quotientDifference prog_1_method_22_code 5 (some .int) ∈ pw_gt := pw_gt_at 646 (by decide +kernel) rfl
theorem mq_647 : Cond.methodLink "PadeWorkbench" 191 my_W_isSchemePlace ∈ pw_gt := pw_gt_at 647 (by decide +kernel) rfl
theorem mq_648 : Cond.static my_W_isSchemePlace ∈ pw_gt := pw_gt_at 648 (by decide +kernel) rfl
theorem mq_649 : Cond.code my_W_isSchemePlace prog_1_method_42_code 3 (some .boolean) ∈ pw_gt := pw_gt_at 649 (by decide +kernel) rfl
theorem mq_650 : Cond.methodLink "PadeWorkbench" 194 my_Q_number ∈ pw_gt := pw_gt_at 650 (by decide +kernel) rfl
theorem mq_651 : Cond.instanceMethod my_Q_number ∈ pw_gt := pw_gt_at 651 (by decide +kernel) rfl
theorem mq_652 : Cond.selects "PadeWorkbench$Scheme" my_Q_number my_Q_number ∈ pw_gt := pw_gt_at 652 (by decide +kernel) rfl
theorem mq_653 : Cond.code my_Q_number prog_9_method_2_code 7 (some .int) ∈ pw_gt := pw_gt_at 653 (by decide +kernel) rfl
theorem mq_654 : Cond.methodLink "PadeWorkbench$Scheme" 18 my_Q_firstColumns ∈ pw_gt := pw_gt_at 654 (by decide +kernel) rfl
theorem mq_656 : Cond.instanceMethod my_Q_firstColumns ∈ pw_gt := pw_gt_at 656 (by decide +kernel) rfl
theorem mq_657 : Cond.code my_Q_firstColumns prog_9_method_3_code 4 none ∈ pw_gt := pw_gt_at 657 (by decide +kernel) rfl
theorem mq_658 : Cond.methodLink "PadeWorkbench$Scheme" 29 my_A_fill ∈ pw_gt := pw_gt_at 658 (by decide +kernel) rfl
theorem mq_659 : Cond.methodLink "PadeWorkbench$Scheme" 34 my_Q_ratio ∈ pw_gt := pw_gt_at 659 (by decide +kernel) rfl
theorem mq_660 : Cond.static my_Q_ratio ∈ pw_gt := pw_gt_at 660 (by decide +kernel) rfl
theorem mq_661 : Cond.code my_Q_ratio prog_9_method_6_code 3 (some .int) ∈ pw_gt := pw_gt_at 661 (by decide +kernel) rfl
theorem mq_662 : Cond.methodLink "PadeWorkbench$Scheme" 47 my_K_over ∈ pw_gt := pw_gt_at 662 (by decide +kernel) rfl
theorem mq_663 : Cond.methodLink "PadeWorkbench$Scheme" 22 my_Q_nextE ∈ pw_gt := pw_gt_at 663 (by decide +kernel) rfl
theorem mq_665 : Cond.instanceMethod my_Q_nextE ∈ pw_gt := pw_gt_at 665 (by decide +kernel) rfl
theorem mq_666 : Cond.code my_Q_nextE prog_9_method_4_code 4 none ∈ pw_gt := pw_gt_at 666 (by decide +kernel) rfl
theorem mq_667 : Cond.methodLink "PadeWorkbench$Scheme" 38 my_K_reduce ∈ pw_gt := pw_gt_at 667 (by decide +kernel) rfl
theorem mq_668 : Cond.methodLink "PadeWorkbench$Scheme" 26 my_Q_nextQ ∈ pw_gt := pw_gt_at 668 (by decide +kernel) rfl
theorem mq_670 : Cond.instanceMethod my_Q_nextQ ∈ pw_gt := pw_gt_at 670 (by decide +kernel) rfl
theorem mq_671 : Cond.code my_Q_nextQ prog_9_method_5_code 4 none ∈ pw_gt := pw_gt_at 671 (by decide +kernel) rfl
theorem mq_672 : Cond.methodLink "PadeWorkbench$Scheme" 44 my_K_times ∈ pw_gt := pw_gt_at 672 (by decide +kernel) rfl
theorem mq_674 : Cond.instanceMethod my_W_quotientCount ∈ pw_gt := pw_gt_at 674 (by decide +kernel) rfl
theorem mq_675 : Cond.selects "PadeWorkbench" my_W_quotientCount my_W_quotientCount ∈ pw_gt := pw_gt_at 675 (by decide +kernel) rfl
theorem mq_676 : Cond.code my_W_quotientCount prog_1_method_23_code 4 (some .int) ∈ pw_gt := pw_gt_at 676 (by decide +kernel) rfl
theorem mq_677 : Cond.methodLink "PadeWorkbench" 205 my_E_divide ∈ pw_gt := pw_gt_at 677 (by decide +kernel) rfl
theorem mq_679 : Cond.instanceMethod my_W_quotient ∈ pw_gt := pw_gt_at 679 (by decide +kernel) rfl
theorem mq_680 : Cond.selects "PadeWorkbench" my_W_quotient my_W_quotient ∈ pw_gt := pw_gt_at 680 (by decide +kernel) rfl
theorem mq_681 : Cond.code my_W_quotient prog_1_method_24_code 6 (some .int) ∈ pw_gt := pw_gt_at 681 (by decide +kernel) rfl
theorem mq_683 : Cond.instanceMethod my_W_complexity ∈ pw_gt := pw_gt_at 683 (by decide +kernel) rfl
theorem mq_684 : Cond.selects "PadeWorkbench" my_W_complexity my_W_complexity ∈ pw_gt := pw_gt_at 684 (by decide +kernel) rfl
theorem mq_685 : Cond.code my_W_complexity prog_1_method_25_code 3 (some .int) ∈ pw_gt := pw_gt_at 685 (by decide +kernel) rfl
theorem mq_686 : Cond.methodLink "PadeWorkbench" 211 my_B_fit ∈ pw_gt := pw_gt_at 686 (by decide +kernel) rfl
theorem mq_687 : Cond.instanceMethod my_B_fit ∈ pw_gt := pw_gt_at 687 (by decide +kernel) rfl
theorem mq_688 : Cond.selects "PadeWorkbench$Register" my_B_fit my_B_fit ∈ pw_gt := pw_gt_at 688 (by decide +kernel) rfl
theorem mq_689 : Cond.code my_B_fit prog_8_method_2_code 8 none ∈ pw_gt := pw_gt_at 689 (by decide +kernel) rfl
theorem mq_690 : Cond.methodLink "PadeWorkbench$Register" 21 my_A_fill ∈ pw_gt := pw_gt_at 690 (by decide +kernel) rfl
theorem mq_691 : Cond.methodLink "PadeWorkbench$Register" 31 my_B_gapAt ∈ pw_gt := pw_gt_at 691 (by decide +kernel) rfl
theorem mq_693 : Cond.instanceMethod my_B_gapAt ∈ pw_gt := pw_gt_at 693 (by decide +kernel) rfl
theorem mq_694 : Cond.code my_B_gapAt prog_8_method_3_code 6 (some .int) ∈ pw_gt := pw_gt_at 694 (by decide +kernel) rfl
theorem mq_695 : Cond.methodLink "PadeWorkbench$Register" 48 my_K_reduce ∈ pw_gt := pw_gt_at 695 (by decide +kernel) rfl
theorem mq_696 : Cond.methodLink "PadeWorkbench$Register" 35 my_K_over ∈ pw_gt := pw_gt_at 696 (by decide +kernel) rfl
theorem mq_697 : Cond.methodLink "PadeWorkbench$Register" 41 my_B_correct ∈ pw_gt := pw_gt_at 697 (by decide +kernel) rfl
theorem mq_699 : Cond.instanceMethod my_B_correct ∈ pw_gt := pw_gt_at 699 (by decide +kernel) rfl
theorem mq_700 : Cond.code my_B_correct prog_8_method_4_code 6 none ∈ pw_gt := pw_gt_at 700 (by decide +kernel) rfl
theorem mq_701 : Cond.methodLink "PadeWorkbench$Register" 52 arraycopyName ∈ pw_gt := pw_gt_at 701 (by decide +kernel) rfl
theorem mq_702 : Cond.methodLink "PadeWorkbench$Register" 45 my_B_keepOlder ∈ pw_gt := pw_gt_at 702 (by decide +kernel) rfl
theorem mq_704 : Cond.instanceMethod my_B_keepOlder ∈ pw_gt := pw_gt_at 704 (by decide +kernel) rfl
theorem mq_705 : Cond.code my_B_keepOlder prog_8_method_5_code 2 none ∈ pw_gt := pw_gt_at 705 (by decide +kernel) rfl
theorem mq_707 : Cond.instanceMethod my_W_recurrence ∈ pw_gt := pw_gt_at 707 (by decide +kernel) rfl
theorem mq_708 : Cond.selects "PadeWorkbench" my_W_recurrence my_W_recurrence ∈ pw_gt := pw_gt_at 708 (by decide +kernel) rfl
theorem mq_709 : Cond.code my_W_recurrence prog_1_method_26_code 4 (some .int) ∈ pw_gt := pw_gt_at 709 (by decide +kernel) rfl
theorem mq_710 : Cond.methodLink "PadeWorkbench" 220 my_K_negative ∈ pw_gt := pw_gt_at 710 (by decide +kernel) rfl
theorem mq_712 : Cond.instanceMethod my_W_addPoint ∈ pw_gt := pw_gt_at 712 (by decide +kernel) rfl
theorem mq_713 : Cond.selects "PadeWorkbench" my_W_addPoint my_W_addPoint ∈ pw_gt := pw_gt_at 713 (by decide +kernel) rfl
theorem mq_714 : Cond.code my_W_addPoint prog_1_method_27_code 3 (some .int) ∈ pw_gt := pw_gt_at 714 (by decide +kernel) rfl
theorem mq_715 : Cond.methodLink "PadeWorkbench" 223 my_Z_hasPointAt ∈ pw_gt := pw_gt_at 715 (by decide +kernel) rfl
theorem mq_716 : Cond.instanceMethod my_Z_hasPointAt ∈ pw_gt := pw_gt_at 716 (by decide +kernel) rfl
theorem mq_717 : Cond.selects "PadeWorkbench$State" my_Z_hasPointAt my_Z_hasPointAt ∈ pw_gt := pw_gt_at 717 (by decide +kernel) rfl
theorem mq_718 : Cond.code my_Z_hasPointAt prog_11_method_4_code 3 (some .boolean) ∈ pw_gt := pw_gt_at 718 (by decide +kernel) rfl
theorem mq_719 : Cond.methodLink "PadeWorkbench" 229 my_Z_putPoint ∈ pw_gt := pw_gt_at 719 (by decide +kernel) rfl
theorem mq_720 : Cond.instanceMethod my_Z_putPoint ∈ pw_gt := pw_gt_at 720 (by decide +kernel) rfl
theorem mq_721 : Cond.selects "PadeWorkbench$State" my_Z_putPoint my_Z_putPoint ∈ pw_gt := pw_gt_at 721 (by decide +kernel) rfl
theorem mq_722 : Cond.code my_Z_putPoint prog_11_method_5_code 3 none ∈ pw_gt := pw_gt_at 722 (by decide +kernel) rfl
theorem mq_724 : Cond.instanceMethod my_W_clearPoints ∈ pw_gt := pw_gt_at 724 (by decide +kernel) rfl
theorem mq_725 : Cond.selects "PadeWorkbench" my_W_clearPoints my_W_clearPoints ∈ pw_gt := pw_gt_at 725 (by decide +kernel) rfl
theorem mq_726 : Cond.code my_W_clearPoints prog_1_method_28_code 2 (some .int) ∈ pw_gt := pw_gt_at 726 (by decide +kernel) rfl
theorem mq_728 : Cond.instanceMethod my_W_interpolant ∈ pw_gt := pw_gt_at 728 (by decide +kernel) rfl
theorem mq_729 : Cond.selects "PadeWorkbench" my_W_interpolant my_W_interpolant ∈ pw_gt := pw_gt_at 729 (by decide +kernel) rfl
theorem mq_730 : Cond.code my_W_interpolant prog_1_method_29_code 4 (some .int) ∈ pw_gt := pw_gt_at 730 (by decide +kernel) rfl
theorem mq_731 : Cond.methodLink "PadeWorkbench" 233 my_W_isInterpolant ∈ pw_gt := pw_gt_at 731 (by decide +kernel) rfl
theorem mq_733 : Cond.instanceMethod my_W_isInterpolant ∈ pw_gt := pw_gt_at 733 (by decide +kernel) rfl
theorem mq_734 : Cond.code my_W_isInterpolant prog_1_method_43_code 2 (some .boolean) ∈ pw_gt := pw_gt_at 734 (by decide +kernel) rfl
theorem mq_735 : Cond.methodLink "PadeWorkbench" 236 my_W_interpolate ∈ pw_gt := pw_gt_at 735 (by decide +kernel) rfl
theorem mq_737 : Cond.instanceMethod my_W_interpolate ∈ pw_gt := pw_gt_at 737 (by decide +kernel) rfl
theorem mq_738 : Cond.code my_W_interpolate prog_1_method_48_code 3 none ∈ pw_gt := pw_gt_at 738 (by decide +kernel) rfl
theorem mq_739 : Cond.methodLink "PadeWorkbench" 305 my_E_startWithPoints ∈ pw_gt := pw_gt_at 739 (by decide +kernel) rfl
theorem mq_740 : Cond.instanceMethod my_E_startWithPoints ∈ pw_gt := pw_gt_at 740 (by decide +kernel) rfl
theorem mq_741 : Cond.selects "PadeWorkbench$Euclid" my_E_startWithPoints my_E_startWithPoints ∈ pw_gt := pw_gt_at 741 (by decide +kernel) rfl
theorem mq_742 : Cond.code my_E_startWithPoints prog_2_method_3_code 6 none ∈ pw_gt := pw_gt_at 742 (by decide +kernel) rfl
theorem mq_743 : Cond.methodLink "PadeWorkbench$Euclid" 63 my_P_valueAt ∈ pw_gt := pw_gt_at 743 (by decide +kernel) rfl
theorem mq_744 : Cond.methodLink "PadeWorkbench$Euclid" 67 my_K_reduce ∈ pw_gt := pw_gt_at 744 (by decide +kernel) rfl
theorem mq_745 : Cond.methodLink "PadeWorkbench$Euclid" 72 my_K_over ∈ pw_gt := pw_gt_at 745 (by decide +kernel) rfl
theorem mq_746 : Cond.methodLink "PadeWorkbench$Euclid" 83 my_P_multiplyByRoot ∈ pw_gt := pw_gt_at 746 (by decide +kernel) rfl
theorem mq_747 : Cond.instanceMethod my_P_multiplyByRoot ∈ pw_gt := pw_gt_at 747 (by decide +kernel) rfl
theorem mq_748 : Cond.selects "PadeWorkbench$Polynomial" my_P_multiplyByRoot my_P_multiplyByRoot ∈ pw_gt := pw_gt_at 748 (by decide +kernel) rfl
theorem mq_749 : Cond.code my_P_multiplyByRoot prog_7_method_10_code 6 none ∈ pw_gt := pw_gt_at 749 (by decide +kernel) rfl
theorem mq_750 : Cond.methodLink "PadeWorkbench$Polynomial" 47 my_K_negative ∈ pw_gt := pw_gt_at 750 (by decide +kernel) rfl
theorem mq_752 : Cond.instanceMethod my_W_unattainable ∈ pw_gt := pw_gt_at 752 (by decide +kernel) rfl
theorem mq_753 : Cond.selects "PadeWorkbench" my_W_unattainable my_W_unattainable ∈ pw_gt := pw_gt_at 753 (by decide +kernel) rfl
theorem mq_754 : Cond.code my_W_unattainable prog_1_method_30_code 2 (some .int) ∈ pw_gt := pw_gt_at 754 (by decide +kernel) rfl
theorem mq_755 : Cond.methodLink "PadeWorkbench" 239 my_W_missedPoints ∈ pw_gt := pw_gt_at 755 (by decide +kernel) rfl
theorem mq_757 : Cond.instanceMethod my_W_missedPoints ∈ pw_gt := pw_gt_at 757 (by decide +kernel) rfl
theorem mq_758 : Cond.code my_W_missedPoints prog_1_method_49_code 3 (some .int) ∈ pw_gt := pw_gt_at 758 (by decide +kernel) rfl
theorem mq_759 : Cond.methodLink "PadeWorkbench" 308 my_R_passes ∈ pw_gt := pw_gt_at 759 (by decide +kernel) rfl
theorem mq_760 : Cond.instanceMethod my_R_passes ∈ pw_gt := pw_gt_at 760 (by decide +kernel) rfl
theorem mq_761 : Cond.selects "PadeWorkbench$Fraction" my_R_passes my_R_passes ∈ pw_gt := pw_gt_at 761 (by decide +kernel) rfl
theorem mq_762 : Cond.code my_R_passes prog_4_method_7_code 5 (some .boolean) ∈ pw_gt := pw_gt_at 762 (by decide +kernel) rfl
theorem mq_763 : Cond.methodLink "PadeWorkbench$Fraction" 60 my_K_times ∈ pw_gt := pw_gt_at 763 (by decide +kernel) rfl
theorem mq_765 : Cond.instanceMethod my_W_undo ∈ pw_gt := pw_gt_at 765 (by decide +kernel) rfl
theorem mq_766 : Cond.selects "PadeWorkbench" my_W_undo my_W_undo ∈ pw_gt := pw_gt_at 766 (by decide +kernel) rfl
theorem mq_767 : Cond.code my_W_undo prog_1_method_31_code 1 (some .int) ∈ pw_gt := pw_gt_at 767 (by decide +kernel) rfl
theorem mq_768 : Cond.methodLink "PadeWorkbench" 246 my_H_giveBack ∈ pw_gt := pw_gt_at 768 (by decide +kernel) rfl
theorem mq_769 : Cond.instanceMethod my_H_giveBack ∈ pw_gt := pw_gt_at 769 (by decide +kernel) rfl
theorem mq_770 : Cond.selects "PadeWorkbench$History" my_H_giveBack my_H_giveBack ∈ pw_gt := pw_gt_at 770 (by decide +kernel) rfl
theorem mq_771 : Cond.code my_H_giveBack prog_6_method_3_code 2 none ∈ pw_gt := pw_gt_at 771 (by decide +kernel) rfl
theorem mq_773 : Cond.instanceMethod my_W_errorCount ∈ pw_gt := pw_gt_at 773 (by decide +kernel) rfl
theorem mq_774 : Cond.selects "PadeWorkbench" my_W_errorCount my_W_errorCount ∈ pw_gt := pw_gt_at 774 (by decide +kernel) rfl
theorem mq_775 : Cond.code my_W_errorCount prog_1_method_32_code 2 (some .int) ∈ pw_gt := pw_gt_at 775 (by decide +kernel) rfl
theorem mq_777 : Cond.instanceMethod my_W_digest ∈ pw_gt := pw_gt_at 777 (by decide +kernel) rfl
theorem mq_778 : Cond.selects "PadeWorkbench" my_W_digest my_W_digest ∈ pw_gt := pw_gt_at 778 (by decide +kernel) rfl
theorem mq_779 : Cond.code my_W_digest prog_1_method_33_code 4 (some .long) ∈ pw_gt := pw_gt_at 779 (by decide +kernel) rfl
theorem mq_780 : Cond.constantLong "PadeWorkbench" 249 12475 ∈ pw_gt := pw_gt_at 780 (by decide +kernel) rfl
theorem mq_781 : Cond.methodLink "PadeWorkbench" 251 my_W_mix ∈ pw_gt := pw_gt_at 781 (by decide +kernel) rfl
theorem mq_782 : Cond.static my_W_mix ∈ pw_gt := pw_gt_at 782 (by decide +kernel) rfl
theorem mq_783 : Cond.code my_W_mix prog_1_method_34_code 3 (some .long) ∈ pw_gt := pw_gt_at 783 (by decide +kernel) rfl
theorem mq_784 : Cond.constantLong "PadeWorkbench" 262 31 ∈ pw_gt := pw_gt_at 784 (by decide +kernel) rfl
theorem mq_785 : Cond.methodLink "PadeWorkbench" 255 my_W_mixSeries ∈ pw_gt := pw_gt_at 785 (by decide +kernel) rfl
theorem mq_787 : Cond.instanceMethod my_W_mixSeries ∈ pw_gt := pw_gt_at 787 (by decide +kernel) rfl
theorem mq_788 : Cond.code my_W_mixSeries prog_1_method_35_code 10 (some .long) ∈ pw_gt := pw_gt_at 788 (by decide +kernel) rfl
theorem mq_789 : Cond.methodLink "PadeWorkbench" 258 my_W_mixPoints ∈ pw_gt := pw_gt_at 789 (by decide +kernel) rfl
theorem mq_791 : Cond.instanceMethod my_W_mixPoints ∈ pw_gt := pw_gt_at 791 (by decide +kernel) rfl
theorem mq_792 : Cond.code my_W_mixPoints prog_1_method_36_code 6 (some .long) ∈ pw_gt := pw_gt_at 792 (by decide +kernel) rfl
theorem mq_797 : Cond.code my_M_init prog_14_method_1_code 1 none ∈ pw_gt := pw_gt_at 797 (by decide +kernel) rfl
theorem mq_798 : Cond.methodLink "PadeWorkbenchModel" 1 objectInit ∈ pw_gt := pw_gt_at 798 (by decide +kernel) rfl
theorem mq_799 : Cond.fieldLink "PadeWorkbenchModel" 7 "PadeWorkbenchModel" "now" "[I" ∈ pw_gt := pw_gt_at 799 (by decide +kernel) rfl
theorem mq_800 : Cond.fieldLink "PadeWorkbenchModel" 13 "PadeWorkbenchModel" "history" "[I" ∈ pw_gt := pw_gt_at 800 (by decide +kernel) rfl
theorem mq_801 : Cond.fieldLink "PadeWorkbenchModel" 69 "PadeWorkbenchModel" "saved" "I" ∈ pw_gt := pw_gt_at 801 (by decide +kernel) rfl
theorem mq_802 : Cond.fieldLink "PadeWorkbenchModel" 16 "PadeWorkbenchModel" "errors" "[I" ∈ pw_gt := pw_gt_at 802 (by decide +kernel) rfl
theorem mq_803 : Cond.fieldLink "PadeWorkbenchModel" 19 "PadeWorkbenchModel" "text" "[I" ∈ pw_gt := pw_gt_at 803 (by decide +kernel) rfl
theorem mq_804 : Cond.fieldLink "PadeWorkbenchModel" 114 "PadeWorkbenchModel" "length" "I" ∈ pw_gt := pw_gt_at 804 (by decide +kernel) rfl
theorem mq_805 : Cond.fieldLink "PadeWorkbenchModel" 22 "PadeWorkbenchModel" "made" "[I" ∈ pw_gt := pw_gt_at 805 (by decide +kernel) rfl
theorem mq_806 : Cond.fieldLink "PadeWorkbenchModel" 25 "PadeWorkbenchModel" "one" "[I" ∈ pw_gt := pw_gt_at 806 (by decide +kernel) rfl
theorem mq_807 : Cond.fieldLink "PadeWorkbenchModel" 28 "PadeWorkbenchModel" "two" "[I" ∈ pw_gt := pw_gt_at 807 (by decide +kernel) rfl
theorem mq_808 : Cond.fieldLink "PadeWorkbenchModel" 117 "PadeWorkbenchModel" "next" "I" ∈ pw_gt := pw_gt_at 808 (by decide +kernel) rfl
theorem mq_809 : Cond.fieldLink "PadeWorkbenchModel" 31 "PadeWorkbenchModel" "matrix" "[I" ∈ pw_gt := pw_gt_at 809 (by decide +kernel) rfl
theorem mq_810 : Cond.fieldLink "PadeWorkbenchModel" 34 "PadeWorkbenchModel" "pivot" "[I" ∈ pw_gt := pw_gt_at 810 (by decide +kernel) rfl
theorem mq_811 : Cond.fieldLink "PadeWorkbenchModel" 37 "PadeWorkbenchModel" "vector" "[I" ∈ pw_gt := pw_gt_at 811 (by decide +kernel) rfl
theorem mq_812 : Cond.fieldLink "PadeWorkbenchModel" 40 "PadeWorkbenchModel" "up" "[I" ∈ pw_gt := pw_gt_at 812 (by decide +kernel) rfl
theorem mq_813 : Cond.fieldLink "PadeWorkbenchModel" 43 "PadeWorkbenchModel" "low" "[I" ∈ pw_gt := pw_gt_at 813 (by decide +kernel) rfl
theorem mq_814 : Cond.fieldLink "PadeWorkbenchModel" 46 "PadeWorkbenchModel" "first" "[I" ∈ pw_gt := pw_gt_at 814 (by decide +kernel) rfl
theorem mq_815 : Cond.fieldLink "PadeWorkbenchModel" 49 "PadeWorkbenchModel" "second" "[I" ∈ pw_gt := pw_gt_at 815 (by decide +kernel) rfl
theorem mq_816 : Cond.fieldLink "PadeWorkbenchModel" 52 "PadeWorkbenchModel" "third" "[I" ∈ pw_gt := pw_gt_at 816 (by decide +kernel) rfl
theorem mq_817 : Cond.fieldLink "PadeWorkbenchModel" 55 "PadeWorkbenchModel" "quotients" "[I" ∈ pw_gt := pw_gt_at 817 (by decide +kernel) rfl
theorem mq_818 : Cond.fieldLink "PadeWorkbenchModel" 58 "PadeWorkbenchModel" "differences" "[I" ∈ pw_gt := pw_gt_at 818 (by decide +kernel) rfl
theorem mq_819 : Cond.laysFinal "PadeWorkbenchModel" "PadeWorkbenchModel" "now" "[I" ∈ pw_gt := pw_gt_at 819 (by decide +kernel) rfl
theorem mq_821 : Cond.laysFinal "PadeWorkbenchModel" "PadeWorkbenchModel" "history" "[I" ∈ pw_gt := pw_gt_at 821 (by decide +kernel) rfl
theorem mq_823 : Cond.lays "PadeWorkbenchModel" "PadeWorkbenchModel" "saved" "I" ∈ pw_gt := pw_gt_at 823 (by decide +kernel) rfl
theorem mq_825 : Cond.laysFinal "PadeWorkbenchModel" "PadeWorkbenchModel" "errors" "[I" ∈ pw_gt := pw_gt_at 825 (by decide +kernel) rfl
theorem mq_827 : Cond.laysFinal "PadeWorkbenchModel" "PadeWorkbenchModel" "text" "[I" ∈ pw_gt := pw_gt_at 827 (by decide +kernel) rfl
theorem mq_829 : Cond.lays "PadeWorkbenchModel" "PadeWorkbenchModel" "length" "I" ∈ pw_gt := pw_gt_at 829 (by decide +kernel) rfl
theorem mq_831 : Cond.laysFinal "PadeWorkbenchModel" "PadeWorkbenchModel" "made" "[I" ∈ pw_gt := pw_gt_at 831 (by decide +kernel) rfl
theorem mq_833 : Cond.laysFinal "PadeWorkbenchModel" "PadeWorkbenchModel" "one" "[I" ∈ pw_gt := pw_gt_at 833 (by decide +kernel) rfl
theorem mq_835 : Cond.laysFinal "PadeWorkbenchModel" "PadeWorkbenchModel" "two" "[I" ∈ pw_gt := pw_gt_at 835 (by decide +kernel) rfl
theorem mq_837 : Cond.lays "PadeWorkbenchModel" "PadeWorkbenchModel" "next" "I" ∈ pw_gt := pw_gt_at 837 (by decide +kernel) rfl
theorem mq_839 : Cond.laysFinal "PadeWorkbenchModel" "PadeWorkbenchModel" "matrix" "[I" ∈ pw_gt := pw_gt_at 839 (by decide +kernel) rfl
theorem mq_841 : Cond.laysFinal "PadeWorkbenchModel" "PadeWorkbenchModel" "pivot" "[I" ∈ pw_gt := pw_gt_at 841 (by decide +kernel) rfl
theorem mq_843 : Cond.laysFinal "PadeWorkbenchModel" "PadeWorkbenchModel" "vector" "[I" ∈ pw_gt := pw_gt_at 843 (by decide +kernel) rfl
theorem mq_845 : Cond.laysFinal "PadeWorkbenchModel" "PadeWorkbenchModel" "up" "[I" ∈ pw_gt := pw_gt_at 845 (by decide +kernel) rfl
theorem mq_847 : Cond.laysFinal "PadeWorkbenchModel" "PadeWorkbenchModel" "low" "[I" ∈ pw_gt := pw_gt_at 847 (by decide +kernel) rfl
theorem mq_849 : Cond.laysFinal "PadeWorkbenchModel" "PadeWorkbenchModel" "first" "[I" ∈ pw_gt := pw_gt_at 849 (by decide +kernel) rfl
theorem mq_851 : Cond.laysFinal "PadeWorkbenchModel" "PadeWorkbenchModel" "second" "[I" ∈ pw_gt := pw_gt_at 851 (by decide +kernel) rfl
theorem mq_853 : Cond.laysFinal "PadeWorkbenchModel" "PadeWorkbenchModel" "third" "[I" ∈ pw_gt := pw_gt_at 853 (by decide +kernel) rfl
theorem mq_855 : Cond.laysFinal "PadeWorkbenchModel" "PadeWorkbenchModel" "quotients" "[I" ∈ pw_gt := pw_gt_at 855 (by decide +kernel) rfl
theorem mq_857 : Cond.laysFinal "PadeWorkbenchModel" "PadeWorkbenchModel" "differences" "[I" ∈ pw_gt := pw_gt_at 857 (by decide +kernel) rfl
theorem mq_861 : Cond.instanceMethod my_M_setPrime ∈ pw_gt := pw_gt_at 861 (by decide +kernel) rfl
theorem mq_862 : Cond.selects "PadeWorkbenchModel" my_M_setPrime my_M_setPrime ∈ pw_gt := pw_gt_at 862 (by decide +kernel) rfl
theorem mq_863 : Cond.code my_M_setPrime prog_14_method_11_code 4 (some .int) ∈ pw_gt := pw_gt_at 863 (by decide +kernel) rfl
theorem mq_864 : Cond.methodLink "PadeWorkbenchModel" 73 my_M_isPrime ∈ pw_gt := pw_gt_at 864 (by decide +kernel) rfl
theorem mq_865 : Cond.static my_M_isPrime ∈ pw_gt := pw_gt_at 865 (by decide +kernel) rfl
theorem mq_866 : Cond.code my_M_isPrime prog_14_method_7_code 3 (some .boolean) ∈ pw_gt := pw_gt_at 866 (by decide +kernel) rfl
theorem mq_867 : Cond.methodLink "PadeWorkbenchModel" 65 my_M_in ∈ pw_gt := pw_gt_at 867 (by decide +kernel) rfl
theorem mq_868 : Cond.static my_M_in ∈ pw_gt := pw_gt_at 868 (by decide +kernel) rfl
theorem mq_869 : Cond.code my_M_in prog_14_method_2_code 3 (some .boolean) ∈ pw_gt := pw_gt_at 869 (by decide +kernel) rfl
theorem mq_870 : Cond.methodLink "PadeWorkbenchModel" 77 my_M_fail ∈ pw_gt := pw_gt_at 870 (by decide +kernel) rfl
theorem mq_872 : Cond.instanceMethod my_M_fail ∈ pw_gt := pw_gt_at 872 (by decide +kernel) rfl
theorem mq_873 : Cond.code my_M_fail prog_14_method_3_code 2 (some .int) ∈ pw_gt := pw_gt_at 873 (by decide +kernel) rfl
theorem mq_874 : Cond.methodLink "PadeWorkbenchModel" 81 my_M_save ∈ pw_gt := pw_gt_at 874 (by decide +kernel) rfl
theorem mq_876 : Cond.instanceMethod my_M_save ∈ pw_gt := pw_gt_at 876 (by decide +kernel) rfl
theorem mq_877 : Cond.code my_M_save prog_14_method_10_code 2 none ∈ pw_gt := pw_gt_at 877 (by decide +kernel) rfl
theorem mq_878 : Cond.methodLink "PadeWorkbenchModel" 61 my_M_prime ∈ pw_gt := pw_gt_at 878 (by decide +kernel) rfl
theorem mq_880 : Cond.instanceMethod my_M_prime ∈ pw_gt := pw_gt_at 880 (by decide +kernel) rfl
theorem mq_881 : Cond.code my_M_prime prog_14_method_4_code 1 (some .int) ∈ pw_gt := pw_gt_at 881 (by decide +kernel) rfl
theorem mq_883 : Cond.instanceMethod my_M_set ∈ pw_gt := pw_gt_at 883 (by decide +kernel) rfl
theorem mq_884 : Cond.selects "PadeWorkbenchModel" my_M_set my_M_set ∈ pw_gt := pw_gt_at 884 (by decide +kernel) rfl
theorem mq_885 : Cond.code my_M_set prog_14_method_12_code 5 (some .int) ∈ pw_gt := pw_gt_at 885 (by decide +kernel) rfl
theorem mq_886 : Cond.methodLink "PadeWorkbenchModel" 84 my_M_isSlot ∈ pw_gt := pw_gt_at 886 (by decide +kernel) rfl
theorem mq_887 : Cond.static my_M_isSlot ∈ pw_gt := pw_gt_at 887 (by decide +kernel) rfl
theorem mq_888 : Cond.code my_M_isSlot prog_14_method_8_code 1 (some .boolean) ∈ pw_gt := pw_gt_at 888 (by decide +kernel) rfl
theorem mq_889 : Cond.methodLink "PadeWorkbenchModel" 87 my_M_term ∈ pw_gt := pw_gt_at 889 (by decide +kernel) rfl
theorem mq_891 : Cond.instanceMethod my_M_term ∈ pw_gt := pw_gt_at 891 (by decide +kernel) rfl
theorem mq_892 : Cond.code my_M_term prog_14_method_9_code 3 (some .int) ∈ pw_gt := pw_gt_at 892 (by decide +kernel) rfl
theorem mq_894 : Cond.instanceMethod my_M_coefficient ∈ pw_gt := pw_gt_at 894 (by decide +kernel) rfl
theorem mq_895 : Cond.selects "PadeWorkbenchModel" my_M_coefficient my_M_coefficient ∈ pw_gt := pw_gt_at 895 (by decide +kernel) rfl
theorem mq_896 : Cond.code my_M_coefficient prog_14_method_13_code 3 (some .int) ∈ pw_gt := pw_gt_at 896 (by decide +kernel) rfl
theorem mq_898 : Cond.instanceMethod my_M_add ∈ pw_gt := pw_gt_at 898 (by decide +kernel) rfl
theorem mq_899 : Cond.selects "PadeWorkbenchModel" my_M_add my_M_add ∈ pw_gt := pw_gt_at 899 (by decide +kernel) rfl
theorem mq_900 : Cond.code my_M_add prog_14_method_19_code 5 (some .int) ∈ pw_gt := pw_gt_at 900 (by decide +kernel) rfl
theorem mq_901 : Cond.methodLink "PadeWorkbenchModel" 91 my_M_mod ∈ pw_gt := pw_gt_at 901 (by decide +kernel) rfl
theorem mq_903 : Cond.instanceMethod my_M_mod ∈ pw_gt := pw_gt_at 903 (by decide +kernel) rfl
theorem mq_904 : Cond.code my_M_mod prog_14_method_5_code 3 (some .int) ∈ pw_gt := pw_gt_at 904 (by decide +kernel) rfl
theorem mq_905 : Cond.methodLink "PadeWorkbenchModel" 97 my_M_store ∈ pw_gt := pw_gt_at 905 (by decide +kernel) rfl
theorem mq_907 : Cond.instanceMethod my_M_store ∈ pw_gt := pw_gt_at 907 (by decide +kernel) rfl
theorem mq_908 : Cond.code my_M_store prog_14_method_16_code 4 (some .int) ∈ pw_gt := pw_gt_at 908 (by decide +kernel) rfl
theorem mq_910 : Cond.instanceMethod my_M_multiply ∈ pw_gt := pw_gt_at 910 (by decide +kernel) rfl
theorem mq_911 : Cond.selects "PadeWorkbenchModel" my_M_multiply my_M_multiply ∈ pw_gt := pw_gt_at 911 (by decide +kernel) rfl
theorem mq_912 : Cond.code my_M_multiply prog_14_method_20_code 4 (some .int) ∈ pw_gt := pw_gt_at 912 (by decide +kernel) rfl
theorem mq_913 : Cond.methodLink "PadeWorkbenchModel" 100 my_M_take ∈ pw_gt := pw_gt_at 913 (by decide +kernel) rfl
theorem mq_915 : Cond.instanceMethod my_M_take ∈ pw_gt := pw_gt_at 915 (by decide +kernel) rfl
theorem mq_916 : Cond.code my_M_take prog_14_method_14_code 4 none ∈ pw_gt := pw_gt_at 916 (by decide +kernel) rfl
theorem mq_917 : Cond.methodLink "PadeWorkbenchModel" 104 my_M_makeProduct ∈ pw_gt := pw_gt_at 917 (by decide +kernel) rfl
theorem mq_919 : Cond.instanceMethod my_M_makeProduct ∈ pw_gt := pw_gt_at 919 (by decide +kernel) rfl
theorem mq_920 : Cond.code my_M_makeProduct prog_14_method_17_code 4 none ∈ pw_gt := pw_gt_at 920 (by decide +kernel) rfl
theorem mq_922 : Cond.instanceMethod my_M_invert ∈ pw_gt := pw_gt_at 922 (by decide +kernel) rfl
theorem mq_923 : Cond.selects "PadeWorkbenchModel" my_M_invert my_M_invert ∈ pw_gt := pw_gt_at 923 (by decide +kernel) rfl
theorem mq_924 : Cond.code my_M_invert prog_14_method_21_code 3 (some .int) ∈ pw_gt := pw_gt_at 924 (by decide +kernel) rfl
theorem mq_925 : Cond.methodLink "PadeWorkbenchModel" 107 my_M_clear ∈ pw_gt := pw_gt_at 925 (by decide +kernel) rfl
theorem mq_926 : Cond.static my_M_clear ∈ pw_gt := pw_gt_at 926 (by decide +kernel) rfl
theorem mq_927 : Cond.code my_M_clear prog_14_method_15_code 2 none ∈ pw_gt := pw_gt_at 927 (by decide +kernel) rfl
theorem mq_928 : Cond.methodLink "PadeWorkbenchModel" 111 my_M_makeQuotient ∈ pw_gt := pw_gt_at 928 (by decide +kernel) rfl
theorem mq_930 : Cond.instanceMethod my_M_makeQuotient ∈ pw_gt := pw_gt_at 930 (by decide +kernel) rfl
theorem mq_931 : Cond.code my_M_makeQuotient prog_14_method_18_code 5 none ∈ pw_gt := pw_gt_at 931 (by decide +kernel) rfl
theorem mq_932 : Cond.methodLink "PadeWorkbenchModel" 94 my_M_inverse ∈ pw_gt := pw_gt_at 932 (by decide +kernel) rfl
theorem mq_934 : Cond.instanceMethod my_M_inverse ∈ pw_gt := pw_gt_at 934 (by decide +kernel) rfl
theorem mq_935 : Cond.code my_M_inverse prog_14_method_6_code 4 (some .int) ∈ pw_gt := pw_gt_at 935 (by decide +kernel) rfl
theorem mq_937 : Cond.instanceMethod my_M_substitute ∈ pw_gt := pw_gt_at 937 (by decide +kernel) rfl
theorem mq_938 : Cond.selects "PadeWorkbenchModel" my_M_substitute my_M_substitute ∈ pw_gt := pw_gt_at 938 (by decide +kernel) rfl
theorem mq_939 : Cond.code my_M_substitute prog_14_method_22_code 6 (some .int) ∈ pw_gt := pw_gt_at 939 (by decide +kernel) rfl
theorem mq_941 : Cond.instanceMethod my_M_derivative ∈ pw_gt := pw_gt_at 941 (by decide +kernel) rfl
theorem mq_942 : Cond.selects "PadeWorkbenchModel" my_M_derivative my_M_derivative ∈ pw_gt := pw_gt_at 942 (by decide +kernel) rfl
theorem mq_943 : Cond.code my_M_derivative prog_14_method_23_code 4 (some .int) ∈ pw_gt := pw_gt_at 943 (by decide +kernel) rfl
theorem mq_945 : Cond.instanceMethod my_M_append ∈ pw_gt := pw_gt_at 945 (by decide +kernel) rfl
theorem mq_946 : Cond.selects "PadeWorkbenchModel" my_M_append my_M_append ∈ pw_gt := pw_gt_at 946 (by decide +kernel) rfl
theorem mq_947 : Cond.code my_M_append prog_14_method_24_code 2 (some .int) ∈ pw_gt := pw_gt_at 947 (by decide +kernel) rfl
theorem mq_949 : Cond.instanceMethod my_M_clearText ∈ pw_gt := pw_gt_at 949 (by decide +kernel) rfl
theorem mq_950 : Cond.selects "PadeWorkbenchModel" my_M_clearText my_M_clearText ∈ pw_gt := pw_gt_at 950 (by decide +kernel) rfl
theorem mq_951 : Cond.code my_M_clearText prog_14_method_25_code 2 (some .int) ∈ pw_gt := pw_gt_at 951 (by decide +kernel) rfl
theorem mq_953 : Cond.instanceMethod my_M_parse ∈ pw_gt := pw_gt_at 953 (by decide +kernel) rfl
theorem mq_954 : Cond.selects "PadeWorkbenchModel" my_M_parse my_M_parse ∈ pw_gt := pw_gt_at 954 (by decide +kernel) rfl
theorem mq_955 : Cond.code my_M_parse prog_14_method_33_code 2 (some .int) ∈ pw_gt := pw_gt_at 955 (by decide +kernel) rfl
theorem mq_956 : Cond.methodLink "PadeWorkbenchModel" 141 my_M_readFraction ∈ pw_gt := pw_gt_at 956 (by decide +kernel) rfl
theorem mq_958 : Cond.instanceMethod my_M_readFraction ∈ pw_gt := pw_gt_at 958 (by decide +kernel) rfl
theorem mq_959 : Cond.code my_M_readFraction prog_14_method_32_code 1 (some .boolean) ∈ pw_gt := pw_gt_at 959 (by decide +kernel) rfl
theorem mq_960 : Cond.methodLink "PadeWorkbenchModel" 137 my_M_readPolynomial ∈ pw_gt := pw_gt_at 960 (by decide +kernel) rfl
theorem mq_962 : Cond.instanceMethod my_M_readPolynomial ∈ pw_gt := pw_gt_at 962 (by decide +kernel) rfl
theorem mq_963 : Cond.code my_M_readPolynomial prog_14_method_31_code 4 (some .boolean) ∈ pw_gt := pw_gt_at 963 (by decide +kernel) rfl
theorem mq_964 : Cond.methodLink "PadeWorkbenchModel" 123 my_M_skip ∈ pw_gt := pw_gt_at 964 (by decide +kernel) rfl
theorem mq_966 : Cond.instanceMethod my_M_skip ∈ pw_gt := pw_gt_at 966 (by decide +kernel) rfl
theorem mq_967 : Cond.code my_M_skip prog_14_method_28_code 1 none ∈ pw_gt := pw_gt_at 967 (by decide +kernel) rfl
theorem mq_968 : Cond.methodLink "PadeWorkbenchModel" 120 my_M_here ∈ pw_gt := pw_gt_at 968 (by decide +kernel) rfl
theorem mq_970 : Cond.instanceMethod my_M_here ∈ pw_gt := pw_gt_at 970 (by decide +kernel) rfl
theorem mq_971 : Cond.code my_M_here prog_14_method_26_code 1 (some .int) ∈ pw_gt := pw_gt_at 971 (by decide +kernel) rfl
theorem mq_972 : Cond.methodLink "PadeWorkbenchModel" 133 my_M_readTerm ∈ pw_gt := pw_gt_at 972 (by decide +kernel) rfl
theorem mq_974 : Cond.instanceMethod my_M_readTerm ∈ pw_gt := pw_gt_at 974 (by decide +kernel) rfl
theorem mq_975 : Cond.code my_M_readTerm prog_14_method_30_code 6 (some .boolean) ∈ pw_gt := pw_gt_at 975 (by decide +kernel) rfl
theorem mq_976 : Cond.methodLink "PadeWorkbenchModel" 126 my_M_isDigit ∈ pw_gt := pw_gt_at 976 (by decide +kernel) rfl
theorem mq_978 : Cond.instanceMethod my_M_isDigit ∈ pw_gt := pw_gt_at 978 (by decide +kernel) rfl
theorem mq_979 : Cond.code my_M_isDigit prog_14_method_27_code 1 (some .boolean) ∈ pw_gt := pw_gt_at 979 (by decide +kernel) rfl
theorem mq_980 : Cond.methodLink "PadeWorkbenchModel" 130 my_M_readExponent ∈ pw_gt := pw_gt_at 980 (by decide +kernel) rfl
theorem mq_982 : Cond.instanceMethod my_M_readExponent ∈ pw_gt := pw_gt_at 982 (by decide +kernel) rfl
theorem mq_983 : Cond.code my_M_readExponent prog_14_method_29_code 3 (some .int) ∈ pw_gt := pw_gt_at 983 (by decide +kernel) rfl
theorem mq_985 : Cond.instanceMethod my_M_numeratorDegree ∈ pw_gt := pw_gt_at 985 (by decide +kernel) rfl
theorem mq_986 : Cond.selects "PadeWorkbenchModel" my_M_numeratorDegree my_M_numeratorDegree ∈ pw_gt := pw_gt_at 986 (by decide +kernel) rfl
theorem mq_987 : Cond.code my_M_numeratorDegree prog_14_method_49_code 4 (some .int) ∈ pw_gt := pw_gt_at 987 (by decide +kernel) rfl
theorem mq_988 : Cond.methodLink "PadeWorkbenchModel" 180 my_M_isPair ∈ pw_gt := pw_gt_at 988 (by decide +kernel) rfl
theorem mq_990 : Cond.instanceMethod my_M_isPair ∈ pw_gt := pw_gt_at 990 (by decide +kernel) rfl
theorem mq_991 : Cond.code my_M_isPair prog_14_method_44_code 4 (some .boolean) ∈ pw_gt := pw_gt_at 991 (by decide +kernel) rfl
theorem mq_992 : Cond.methodLink "PadeWorkbenchModel" 183 my_M_approximate ∈ pw_gt := pw_gt_at 992 (by decide +kernel) rfl
theorem mq_994 : Cond.instanceMethod my_M_approximate ∈ pw_gt := pw_gt_at 994 (by decide +kernel) rfl
theorem mq_995 : Cond.code my_M_approximate prog_14_method_45_code 7 none ∈ pw_gt := pw_gt_at 995 (by decide +kernel) rfl
theorem mq_996 : Cond.methodLink "PadeWorkbenchModel" 171 my_M_findVector ∈ pw_gt := pw_gt_at 996 (by decide +kernel) rfl
theorem mq_998 : Cond.instanceMethod my_M_findVector ∈ pw_gt := pw_gt_at 998 (by decide +kernel) rfl
theorem mq_999 : Cond.code my_M_findVector prog_14_method_38_code 5 none ∈ pw_gt := pw_gt_at 999 (by decide +kernel) rfl
theorem mq_1000 : Cond.methodLink "PadeWorkbenchModel" 156 my_M_reduce ∈ pw_gt := pw_gt_at 1000 (by decide +kernel) rfl
theorem mq_1002 : Cond.instanceMethod my_M_reduce ∈ pw_gt := pw_gt_at 1002 (by decide +kernel) rfl
theorem mq_1003 : Cond.code my_M_reduce prog_14_method_37_code 8 none ∈ pw_gt := pw_gt_at 1003 (by decide +kernel) rfl
theorem mq_1004 : Cond.methodLink "PadeWorkbenchModel" 144 my_M_rowWith ∈ pw_gt := pw_gt_at 1004 (by decide +kernel) rfl
theorem mq_1006 : Cond.instanceMethod my_M_rowWith ∈ pw_gt := pw_gt_at 1006 (by decide +kernel) rfl
theorem mq_1007 : Cond.code my_M_rowWith prog_14_method_36_code 5 (some .int) ∈ pw_gt := pw_gt_at 1007 (by decide +kernel) rfl
theorem mq_1008 : Cond.methodLink "PadeWorkbenchModel" 148 my_M_exchange ∈ pw_gt := pw_gt_at 1008 (by decide +kernel) rfl
theorem mq_1010 : Cond.instanceMethod my_M_exchange ∈ pw_gt := pw_gt_at 1010 (by decide +kernel) rfl
theorem mq_1011 : Cond.code my_M_exchange prog_14_method_34_code 5 none ∈ pw_gt := pw_gt_at 1011 (by decide +kernel) rfl
theorem mq_1012 : Cond.methodLink "PadeWorkbenchModel" 152 my_M_lessRow ∈ pw_gt := pw_gt_at 1012 (by decide +kernel) rfl
theorem mq_1014 : Cond.instanceMethod my_M_lessRow ∈ pw_gt := pw_gt_at 1014 (by decide +kernel) rfl
theorem mq_1015 : Cond.code my_M_lessRow prog_14_method_35_code 5 none ∈ pw_gt := pw_gt_at 1015 (by decide +kernel) rfl
theorem mq_1016 : Cond.methodLink "PadeWorkbenchModel" 174 my_M_toLowest ∈ pw_gt := pw_gt_at 1016 (by decide +kernel) rfl
theorem mq_1018 : Cond.instanceMethod my_M_toLowest ∈ pw_gt := pw_gt_at 1018 (by decide +kernel) rfl
theorem mq_1019 : Cond.code my_M_toLowest prog_14_method_42_code 4 none ∈ pw_gt := pw_gt_at 1019 (by decide +kernel) rfl
theorem mq_1020 : Cond.methodLink "PadeWorkbenchModel" 159 my_M_degree ∈ pw_gt := pw_gt_at 1020 (by decide +kernel) rfl
theorem mq_1021 : Cond.static my_M_degree ∈ pw_gt := pw_gt_at 1021 (by decide +kernel) rfl
theorem mq_1022 : Cond.code my_M_degree prog_14_method_39_code 3 (some .int) ∈ pw_gt := pw_gt_at 1022 (by decide +kernel) rfl
theorem mq_1023 : Cond.methodLink "PadeWorkbenchModel" 163 my_M_copy ∈ pw_gt := pw_gt_at 1023 (by decide +kernel) rfl
theorem mq_1024 : Cond.static my_M_copy ∈ pw_gt := pw_gt_at 1024 (by decide +kernel) rfl
theorem mq_1025 : Cond.code my_M_copy prog_14_method_40_code 3 none ∈ pw_gt := pw_gt_at 1025 (by decide +kernel) rfl
theorem mq_1026 : Cond.methodLink "PadeWorkbenchModel" 167 my_M_divide ∈ pw_gt := pw_gt_at 1026 (by decide +kernel) rfl
theorem mq_1028 : Cond.instanceMethod my_M_divide ∈ pw_gt := pw_gt_at 1028 (by decide +kernel) rfl
theorem mq_1029 : Cond.code my_M_divide prog_14_method_41_code 9 none ∈ pw_gt := pw_gt_at 1029 (by decide +kernel) rfl
theorem mq_1030 : Cond.methodLink "PadeWorkbenchModel" 186 my_M_degreeOrNone ∈ pw_gt := pw_gt_at 1030 (by decide +kernel) rfl
theorem mq_1032 : Cond.instanceMethod my_M_degreeOrNone ∈ pw_gt := pw_gt_at 1032 (by decide +kernel) rfl
theorem mq_1033 : Cond.code my_M_degreeOrNone prog_14_method_48_code 3 (some .int) ∈ pw_gt := pw_gt_at 1033 (by decide +kernel) rfl
theorem mq_1035 : Cond.instanceMethod my_M_denominatorDegree ∈ pw_gt := pw_gt_at 1035 (by decide +kernel) rfl
theorem mq_1036 : Cond.selects "PadeWorkbenchModel" my_M_denominatorDegree my_M_denominatorDegree ∈ pw_gt := pw_gt_at 1036 (by decide +kernel) rfl
theorem mq_1037 : Cond.code my_M_denominatorDegree prog_14_method_50_code 4 (some .int) ∈ pw_gt := pw_gt_at 1037 (by decide +kernel) rfl
theorem mq_1039 : Cond.instanceMethod my_M_numerator ∈ pw_gt := pw_gt_at 1039 (by decide +kernel) rfl
theorem mq_1040 : Cond.selects "PadeWorkbenchModel" my_M_numerator my_M_numerator ∈ pw_gt := pw_gt_at 1040 (by decide +kernel) rfl
theorem mq_1041 : Cond.code my_M_numerator prog_14_method_51_code 5 (some .int) ∈ pw_gt := pw_gt_at 1041 (by decide +kernel) rfl
theorem mq_1043 : Cond.instanceMethod my_M_denominator ∈ pw_gt := pw_gt_at 1043 (by decide +kernel) rfl
theorem mq_1044 : Cond.selects "PadeWorkbenchModel" my_M_denominator my_M_denominator ∈ pw_gt := pw_gt_at 1044 (by decide +kernel) rfl
theorem mq_1045 : Cond.code my_M_denominator prog_14_method_52_code 5 (some .int) ∈ pw_gt := pw_gt_at 1045 (by decide +kernel) rfl
theorem mq_1047 : Cond.instanceMethod my_M_order ∈ pw_gt := pw_gt_at 1047 (by decide +kernel) rfl
theorem mq_1048 : Cond.selects "PadeWorkbenchModel" my_M_order my_M_order ∈ pw_gt := pw_gt_at 1048 (by decide +kernel) rfl
theorem mq_1049 : Cond.code my_M_order prog_14_method_53_code 4 (some .int) ∈ pw_gt := pw_gt_at 1049 (by decide +kernel) rfl
theorem mq_1050 : Cond.methodLink "PadeWorkbenchModel" 177 my_M_orderOf ∈ pw_gt := pw_gt_at 1050 (by decide +kernel) rfl
theorem mq_1052 : Cond.instanceMethod my_M_orderOf ∈ pw_gt := pw_gt_at 1052 (by decide +kernel) rfl
theorem mq_1053 : Cond.code my_M_orderOf prog_14_method_46_code 3 (some .int) ∈ pw_gt := pw_gt_at 1053 (by decide +kernel) rfl
theorem mq_1055 : Cond.instanceMethod my_M_blockSize ∈ pw_gt := pw_gt_at 1055 (by decide +kernel) rfl
theorem mq_1056 : Cond.selects "PadeWorkbenchModel" my_M_blockSize my_M_blockSize ∈ pw_gt := pw_gt_at 1056 (by decide +kernel) rfl
theorem mq_1057 : Cond.code my_M_blockSize prog_14_method_54_code 4 (some .int) ∈ pw_gt := pw_gt_at 1057 (by decide +kernel) rfl
theorem mq_1058 : Cond.methodLink "PadeWorkbenchModel" 189 my_M_sizeOf ∈ pw_gt := pw_gt_at 1058 (by decide +kernel) rfl
theorem mq_1060 : Cond.instanceMethod my_M_sizeOf ∈ pw_gt := pw_gt_at 1060 (by decide +kernel) rfl
theorem mq_1061 : Cond.code my_M_sizeOf prog_14_method_47_code 2 (some .int) ∈ pw_gt := pw_gt_at 1061 (by decide +kernel) rfl
theorem mq_1063 : Cond.instanceMethod my_M_evaluate ∈ pw_gt := pw_gt_at 1063 (by decide +kernel) rfl
theorem mq_1064 : Cond.selects "PadeWorkbenchModel" my_M_evaluate my_M_evaluate ∈ pw_gt := pw_gt_at 1064 (by decide +kernel) rfl
theorem mq_1065 : Cond.code my_M_evaluate prog_14_method_55_code 6 (some .int) ∈ pw_gt := pw_gt_at 1065 (by decide +kernel) rfl
theorem mq_1066 : Cond.methodLink "PadeWorkbenchModel" 192 my_M_valueAt ∈ pw_gt := pw_gt_at 1066 (by decide +kernel) rfl
theorem mq_1068 : Cond.instanceMethod my_M_valueAt ∈ pw_gt := pw_gt_at 1068 (by decide +kernel) rfl
theorem mq_1069 : Cond.code my_M_valueAt prog_14_method_43_code 5 (some .int) ∈ pw_gt := pw_gt_at 1069 (by decide +kernel) rfl
theorem mq_1071 : Cond.instanceMethod my_M_normalCount ∈ pw_gt := pw_gt_at 1071 (by decide +kernel) rfl
theorem mq_1072 : Cond.selects "PadeWorkbenchModel" my_M_normalCount my_M_normalCount ∈ pw_gt := pw_gt_at 1072 (by decide +kernel) rfl
theorem mq_1073 : Cond.code my_M_normalCount prog_14_method_57_code 3 (some .int) ∈ pw_gt := pw_gt_at 1073 (by decide +kernel) rfl
theorem mq_1074 : Cond.methodLink "PadeWorkbenchModel" 196 my_M_normals ∈ pw_gt := pw_gt_at 1074 (by decide +kernel) rfl
theorem mq_1076 : Cond.instanceMethod my_M_normals ∈ pw_gt := pw_gt_at 1076 (by decide +kernel) rfl
theorem mq_1077 : Cond.code my_M_normals prog_14_method_56_code 5 (some .int) ∈ pw_gt := pw_gt_at 1077 (by decide +kernel) rfl
theorem mq_1079 : Cond.instanceMethod my_M_determinant ∈ pw_gt := pw_gt_at 1079 (by decide +kernel) rfl
theorem mq_1080 : Cond.selects "PadeWorkbenchModel" my_M_determinant my_M_determinant ∈ pw_gt := pw_gt_at 1080 (by decide +kernel) rfl
theorem mq_1081 : Cond.code my_M_determinant prog_14_method_58_code 9 (some .int) ∈ pw_gt := pw_gt_at 1081 (by decide +kernel) rfl
theorem mq_1083 : Cond.instanceMethod my_M_quotientDifference ∈ pw_gt := pw_gt_at 1083 (by decide +kernel) rfl
theorem mq_1084 : Cond.selects "PadeWorkbenchModel" my_M_quotientDifference my_M_quotientDifference ∈ pw_gt := pw_gt_at 1084 (by decide +kernel) rfl
theorem mq_1085 : Cond.code my_M_quotientDifference prog_14_method_61_code 7 (some .int) ∈ pw_gt := pw_gt_at 1085 (by decide +kernel) rfl
theorem mq_1086 : Cond.methodLink "PadeWorkbenchModel" 202 my_M_findScheme ∈ pw_gt := pw_gt_at 1086 (by decide +kernel) rfl
theorem mq_1088 : Cond.instanceMethod my_M_findScheme ∈ pw_gt := pw_gt_at 1088 (by decide +kernel) rfl
theorem mq_1089 : Cond.code my_M_findScheme prog_14_method_60_code 7 none ∈ pw_gt := pw_gt_at 1089 (by decide +kernel) rfl
theorem mq_1090 : Cond.methodLink "PadeWorkbenchModel" 199 my_M_cell ∈ pw_gt := pw_gt_at 1090 (by decide +kernel) rfl
theorem mq_1091 : Cond.static my_M_cell ∈ pw_gt := pw_gt_at 1091 (by decide +kernel) rfl
theorem mq_1092 : Cond.code my_M_cell prog_14_method_59_code 2 (some .int) ∈ pw_gt := pw_gt_at 1092 (by decide +kernel) rfl
theorem mq_1094 : Cond.instanceMethod my_M_quotientCount ∈ pw_gt := pw_gt_at 1094 (by decide +kernel) rfl
theorem mq_1095 : Cond.selects "PadeWorkbenchModel" my_M_quotientCount my_M_quotientCount ∈ pw_gt := pw_gt_at 1095 (by decide +kernel) rfl
theorem mq_1096 : Cond.code my_M_quotientCount prog_14_method_64_code 3 (some .int) ∈ pw_gt := pw_gt_at 1096 (by decide +kernel) rfl
theorem mq_1097 : Cond.methodLink "PadeWorkbenchModel" 206 my_M_isCut ∈ pw_gt := pw_gt_at 1097 (by decide +kernel) rfl
theorem mq_1099 : Cond.instanceMethod my_M_isCut ∈ pw_gt := pw_gt_at 1099 (by decide +kernel) rfl
theorem mq_1100 : Cond.code my_M_isCut prog_14_method_62_code 3 (some .boolean) ∈ pw_gt := pw_gt_at 1100 (by decide +kernel) rfl
theorem mq_1101 : Cond.methodLink "PadeWorkbenchModel" 210 my_M_findQuotients ∈ pw_gt := pw_gt_at 1101 (by decide +kernel) rfl
theorem mq_1103 : Cond.instanceMethod my_M_findQuotients ∈ pw_gt := pw_gt_at 1103 (by decide +kernel) rfl
theorem mq_1104 : Cond.code my_M_findQuotients prog_14_method_63_code 5 (some .int) ∈ pw_gt := pw_gt_at 1104 (by decide +kernel) rfl
theorem mq_1106 : Cond.instanceMethod my_M_quotient ∈ pw_gt := pw_gt_at 1106 (by decide +kernel) rfl
theorem mq_1107 : Cond.selects "PadeWorkbenchModel" my_M_quotient my_M_quotient ∈ pw_gt := pw_gt_at 1107 (by decide +kernel) rfl
theorem mq_1108 : Cond.code my_M_quotient prog_14_method_65_code 5 (some .int) ∈ pw_gt := pw_gt_at 1108 (by decide +kernel) rfl
theorem mq_1110 : Cond.instanceMethod my_M_complexity ∈ pw_gt := pw_gt_at 1110 (by decide +kernel) rfl
theorem mq_1111 : Cond.selects "PadeWorkbenchModel" my_M_complexity my_M_complexity ∈ pw_gt := pw_gt_at 1111 (by decide +kernel) rfl
theorem mq_1112 : Cond.code my_M_complexity prog_14_method_68_code 3 (some .int) ∈ pw_gt := pw_gt_at 1112 (by decide +kernel) rfl
theorem mq_1113 : Cond.methodLink "PadeWorkbenchModel" 216 my_M_complexityOf ∈ pw_gt := pw_gt_at 1113 (by decide +kernel) rfl
theorem mq_1115 : Cond.instanceMethod my_M_complexityOf ∈ pw_gt := pw_gt_at 1115 (by decide +kernel) rfl
theorem mq_1116 : Cond.code my_M_complexityOf prog_14_method_67_code 4 (some .int) ∈ pw_gt := pw_gt_at 1116 (by decide +kernel) rfl
theorem mq_1117 : Cond.methodLink "PadeWorkbenchModel" 213 my_M_isRecurrent ∈ pw_gt := pw_gt_at 1117 (by decide +kernel) rfl
theorem mq_1119 : Cond.instanceMethod my_M_isRecurrent ∈ pw_gt := pw_gt_at 1119 (by decide +kernel) rfl
theorem mq_1120 : Cond.code my_M_isRecurrent prog_14_method_66_code 6 (some .boolean) ∈ pw_gt := pw_gt_at 1120 (by decide +kernel) rfl
theorem mq_1122 : Cond.instanceMethod my_M_recurrence ∈ pw_gt := pw_gt_at 1122 (by decide +kernel) rfl
theorem mq_1123 : Cond.selects "PadeWorkbenchModel" my_M_recurrence my_M_recurrence ∈ pw_gt := pw_gt_at 1123 (by decide +kernel) rfl
theorem mq_1124 : Cond.code my_M_recurrence prog_14_method_69_code 5 (some .int) ∈ pw_gt := pw_gt_at 1124 (by decide +kernel) rfl
theorem mq_1126 : Cond.instanceMethod my_M_addPoint ∈ pw_gt := pw_gt_at 1126 (by decide +kernel) rfl
theorem mq_1127 : Cond.selects "PadeWorkbenchModel" my_M_addPoint my_M_addPoint ∈ pw_gt := pw_gt_at 1127 (by decide +kernel) rfl
theorem mq_1128 : Cond.code my_M_addPoint prog_14_method_71_code 4 (some .int) ∈ pw_gt := pw_gt_at 1128 (by decide +kernel) rfl
theorem mq_1129 : Cond.methodLink "PadeWorkbenchModel" 219 my_M_points ∈ pw_gt := pw_gt_at 1129 (by decide +kernel) rfl
theorem mq_1131 : Cond.instanceMethod my_M_points ∈ pw_gt := pw_gt_at 1131 (by decide +kernel) rfl
theorem mq_1132 : Cond.code my_M_points prog_14_method_70_code 1 (some .int) ∈ pw_gt := pw_gt_at 1132 (by decide +kernel) rfl
theorem mq_1134 : Cond.instanceMethod my_M_clearPoints ∈ pw_gt := pw_gt_at 1134 (by decide +kernel) rfl
theorem mq_1135 : Cond.selects "PadeWorkbenchModel" my_M_clearPoints my_M_clearPoints ∈ pw_gt := pw_gt_at 1135 (by decide +kernel) rfl
theorem mq_1136 : Cond.code my_M_clearPoints prog_14_method_72_code 3 (some .int) ∈ pw_gt := pw_gt_at 1136 (by decide +kernel) rfl
theorem mq_1138 : Cond.instanceMethod my_M_interpolant ∈ pw_gt := pw_gt_at 1138 (by decide +kernel) rfl
theorem mq_1139 : Cond.selects "PadeWorkbenchModel" my_M_interpolant my_M_interpolant ∈ pw_gt := pw_gt_at 1139 (by decide +kernel) rfl
theorem mq_1140 : Cond.code my_M_interpolant prog_14_method_75_code 4 (some .int) ∈ pw_gt := pw_gt_at 1140 (by decide +kernel) rfl
theorem mq_1141 : Cond.methodLink "PadeWorkbenchModel" 222 my_M_interpolate ∈ pw_gt := pw_gt_at 1141 (by decide +kernel) rfl
theorem mq_1143 : Cond.instanceMethod my_M_interpolate ∈ pw_gt := pw_gt_at 1143 (by decide +kernel) rfl
theorem mq_1144 : Cond.code my_M_interpolate prog_14_method_73_code 6 none ∈ pw_gt := pw_gt_at 1144 (by decide +kernel) rfl
theorem mq_1146 : Cond.instanceMethod my_M_unattainable ∈ pw_gt := pw_gt_at 1146 (by decide +kernel) rfl
theorem mq_1147 : Cond.selects "PadeWorkbenchModel" my_M_unattainable my_M_unattainable ∈ pw_gt := pw_gt_at 1147 (by decide +kernel) rfl
theorem mq_1148 : Cond.code my_M_unattainable prog_14_method_76_code 2 (some .int) ∈ pw_gt := pw_gt_at 1148 (by decide +kernel) rfl
theorem mq_1149 : Cond.methodLink "PadeWorkbenchModel" 225 my_M_missed ∈ pw_gt := pw_gt_at 1149 (by decide +kernel) rfl
theorem mq_1151 : Cond.instanceMethod my_M_missed ∈ pw_gt := pw_gt_at 1151 (by decide +kernel) rfl
theorem mq_1152 : Cond.code my_M_missed prog_14_method_74_code 5 (some .int) ∈ pw_gt := pw_gt_at 1152 (by decide +kernel) rfl
theorem mq_1154 : Cond.instanceMethod my_M_undo ∈ pw_gt := pw_gt_at 1154 (by decide +kernel) rfl
theorem mq_1155 : Cond.selects "PadeWorkbenchModel" my_M_undo my_M_undo ∈ pw_gt := pw_gt_at 1155 (by decide +kernel) rfl
theorem mq_1156 : Cond.code my_M_undo prog_14_method_77_code 2 (some .int) ∈ pw_gt := pw_gt_at 1156 (by decide +kernel) rfl
theorem mq_1158 : Cond.instanceMethod my_M_errorCount ∈ pw_gt := pw_gt_at 1158 (by decide +kernel) rfl
theorem mq_1159 : Cond.selects "PadeWorkbenchModel" my_M_errorCount my_M_errorCount ∈ pw_gt := pw_gt_at 1159 (by decide +kernel) rfl
theorem mq_1160 : Cond.code my_M_errorCount prog_14_method_78_code 2 (some .int) ∈ pw_gt := pw_gt_at 1160 (by decide +kernel) rfl
theorem mq_1162 : Cond.instanceMethod my_M_digest ∈ pw_gt := pw_gt_at 1162 (by decide +kernel) rfl
theorem mq_1163 : Cond.selects "PadeWorkbenchModel" my_M_digest my_M_digest ∈ pw_gt := pw_gt_at 1163 (by decide +kernel) rfl
theorem mq_1164 : Cond.code my_M_digest prog_14_method_79_code 5 (some .long) ∈ pw_gt := pw_gt_at 1164 (by decide +kernel) rfl
theorem mq_1165 : Cond.constantLong "PadeWorkbenchModel" 228 12475 ∈ pw_gt := pw_gt_at 1165 (by decide +kernel) rfl
theorem mq_1166 : Cond.constantLong "PadeWorkbenchModel" 230 31 ∈ pw_gt := pw_gt_at 1166 (by decide +kernel) rfl
theorem mn_134 : Cond.methodLinkNest "PadeWorkbench$History" 17 my_Z_init "PadeWorkbench" ∈ pw_nest := List.mem_append_right _ (List.mem_append_left _ (List.mem_map.mpr ⟨_, List.mem_of_getElem? (i := 1) rfl, rfl⟩))
theorem mn_183 : Cond.methodLinkNest "PadeWorkbench$Euclid" 11 my_P_init "PadeWorkbench" ∈ pw_nest := List.mem_append_right _ (List.mem_append_left _ (List.mem_map.mpr ⟨_, List.mem_of_getElem? (i := 4) rfl, rfl⟩))
theorem mn_229 : Cond.methodLinkNest "PadeWorkbench$Fraction" 11 my_P_init "PadeWorkbench" ∈ pw_nest := List.mem_append_right _ (List.mem_append_left _ (List.mem_map.mpr ⟨_, List.mem_of_getElem? (i := 6) rfl, rfl⟩))
theorem mn_94 : Cond.methodLinkNest "PadeWorkbench" 9 my_Z_init "PadeWorkbench" ∈ pw_nest := List.mem_append_right _ (List.mem_append_left _ (List.mem_map.mpr ⟨_, List.mem_of_getElem? (i := 0) rfl, rfl⟩))
theorem mn_148 : Cond.methodLinkNest "PadeWorkbench" 25 my_T_init "PadeWorkbench" ∈ pw_nest := List.mem_append_right _ (List.mem_append_left _ (List.mem_map.mpr ⟨_, List.mem_of_getElem? (i := 2) rfl, rfl⟩))
theorem mn_177 : Cond.methodLinkNest "PadeWorkbench" 32 my_E_init "PadeWorkbench" ∈ pw_nest := List.mem_append_right _ (List.mem_append_left _ (List.mem_map.mpr ⟨_, List.mem_of_getElem? (i := 3) rfl, rfl⟩))
theorem mn_224 : Cond.methodLinkNest "PadeWorkbench" 39 my_R_init "PadeWorkbench" ∈ pw_nest := List.mem_append_right _ (List.mem_append_left _ (List.mem_map.mpr ⟨_, List.mem_of_getElem? (i := 5) rfl, rfl⟩))
theorem mn_241 : Cond.methodLinkNest "PadeWorkbench" 46 my_D_init "PadeWorkbench" ∈ pw_nest := List.mem_append_right _ (List.mem_append_left _ (List.mem_map.mpr ⟨_, List.mem_of_getElem? (i := 7) rfl, rfl⟩))
theorem mn_252 : Cond.methodLinkNest "PadeWorkbench" 53 my_Q_init "PadeWorkbench" ∈ pw_nest := List.mem_append_right _ (List.mem_append_left _ (List.mem_map.mpr ⟨_, List.mem_of_getElem? (i := 8) rfl, rfl⟩))
theorem mn_265 : Cond.methodLinkNest "PadeWorkbench" 60 my_B_init "PadeWorkbench" ∈ pw_nest := List.mem_append_right _ (List.mem_append_left _ (List.mem_map.mpr ⟨_, List.mem_of_getElem? (i := 9) rfl, rfl⟩))
theorem mn_101 : Cond.fieldLinkNest "PadeWorkbench" 83 "PadeWorkbench$State" "prime" "I" "PadeWorkbench" ∈ pw_nest := List.mem_append_left _ (List.mem_map.mpr ⟨_, List.mem_of_getElem? (i := 0) rfl, rfl⟩)
theorem mn_104 : Cond.fieldLinkNest "PadeWorkbench" 104 "PadeWorkbench$State" "series" "[[I" "PadeWorkbench" ∈ pw_nest := List.mem_append_left _ (List.mem_map.mpr ⟨_, List.mem_of_getElem? (i := 2) rfl, rfl⟩)
theorem mn_154 : Cond.fieldLinkNest "PadeWorkbench" 131 "PadeWorkbench$FractionText" "length" "I" "PadeWorkbench" ∈ pw_nest := List.mem_append_left _ (List.mem_map.mpr ⟨_, List.mem_of_getElem? (i := 10) rfl, rfl⟩)
theorem mn_161 : Cond.fieldLinkNest "PadeWorkbench" 143 "PadeWorkbench$FractionText" "bottom" "[I" "PadeWorkbench" ∈ pw_nest := List.mem_append_left _ (List.mem_map.mpr ⟨_, List.mem_of_getElem? (i := 13) rfl, rfl⟩)
theorem mn_159 : Cond.fieldLinkNest "PadeWorkbench" 146 "PadeWorkbench$FractionText" "top" "[I" "PadeWorkbench" ∈ pw_nest := List.mem_append_left _ (List.mem_map.mpr ⟨_, List.mem_of_getElem? (i := 12) rfl, rfl⟩)
theorem mn_156 : Cond.fieldLinkNest "PadeWorkbench" 140 "PadeWorkbench$FractionText" "position" "I" "PadeWorkbench" ∈ pw_nest := List.mem_append_left _ (List.mem_map.mpr ⟨_, List.mem_of_getElem? (i := 11) rfl, rfl⟩)
theorem mn_193 : Cond.fieldLinkNest "PadeWorkbench$Euclid" 87 "PadeWorkbench$Polynomial" "degree" "I" "PadeWorkbench" ∈ pw_nest := List.mem_append_left _ (List.mem_map.mpr ⟨_, List.mem_of_getElem? (i := 18) rfl, rfl⟩)
theorem mn_189 : Cond.fieldLinkNest "PadeWorkbench$Euclid" 96 "PadeWorkbench$Polynomial" "row" "[I" "PadeWorkbench" ∈ pw_nest := List.mem_append_left _ (List.mem_map.mpr ⟨_, List.mem_of_getElem? (i := 15) rfl, rfl⟩)
theorem mn_192 : Cond.fieldLinkNest "PadeWorkbench$Fraction" 25 "PadeWorkbench$Polynomial" "degree" "I" "PadeWorkbench" ∈ pw_nest := List.mem_append_left _ (List.mem_map.mpr ⟨_, List.mem_of_getElem? (i := 17) rfl, rfl⟩)
theorem mn_202 : Cond.fieldLinkNest "PadeWorkbench" 202 "PadeWorkbench$Euclid" "latest" "LPadeWorkbench$Polynomial;" "PadeWorkbench" ∈ pw_nest := List.mem_append_left _ (List.mem_map.mpr ⟨_, List.mem_of_getElem? (i := 20) rfl, rfl⟩)
theorem mn_205 : Cond.fieldLinkNest "PadeWorkbench" 292 "PadeWorkbench$Euclid" "cofactor" "LPadeWorkbench$Polynomial;" "PadeWorkbench" ∈ pw_nest := List.mem_append_left _ (List.mem_map.mpr ⟨_, List.mem_of_getElem? (i := 21) rfl, rfl⟩)
theorem mn_231 : Cond.fieldLinkNest "PadeWorkbench" 157 "PadeWorkbench$Fraction" "top" "LPadeWorkbench$Polynomial;" "PadeWorkbench" ∈ pw_nest := List.mem_append_left _ (List.mem_map.mpr ⟨_, List.mem_of_getElem? (i := 23) rfl, rfl⟩)
theorem mn_194 : Cond.fieldLinkNest "PadeWorkbench" 160 "PadeWorkbench$Polynomial" "degree" "I" "PadeWorkbench" ∈ pw_nest := List.mem_append_left _ (List.mem_map.mpr ⟨_, List.mem_of_getElem? (i := 19) rfl, rfl⟩)
theorem mn_233 : Cond.fieldLinkNest "PadeWorkbench" 165 "PadeWorkbench$Fraction" "bottom" "LPadeWorkbench$Polynomial;" "PadeWorkbench" ∈ pw_nest := List.mem_append_left _ (List.mem_map.mpr ⟨_, List.mem_of_getElem? (i := 24) rfl, rfl⟩)
theorem mn_190 : Cond.fieldLinkNest "PadeWorkbench" 167 "PadeWorkbench$Polynomial" "row" "[I" "PadeWorkbench" ∈ pw_nest := List.mem_append_left _ (List.mem_map.mpr ⟨_, List.mem_of_getElem? (i := 16) rfl, rfl⟩)
theorem mn_188 : Cond.fieldLinkNest "PadeWorkbench$Fraction" 53 "PadeWorkbench$Polynomial" "row" "[I" "PadeWorkbench" ∈ pw_nest := List.mem_append_left _ (List.mem_map.mpr ⟨_, List.mem_of_getElem? (i := 14) rfl, rfl⟩)
theorem mn_626 : Cond.methodLinkNest "PadeWorkbench$Toeplitz" 41 my_W_isTerm "PadeWorkbench" ∈ pw_nest := List.mem_append_right _ (List.mem_append_left _ (List.mem_map.mpr ⟨_, List.mem_of_getElem? (i := 10) rfl, rfl⟩))
theorem mn_207 : Cond.fieldLinkNest "PadeWorkbench" 208 "PadeWorkbench$Euclid" "quotient" "LPadeWorkbench$Polynomial;" "PadeWorkbench" ∈ pw_nest := List.mem_append_left _ (List.mem_map.mpr ⟨_, List.mem_of_getElem? (i := 22) rfl, rfl⟩)
theorem mn_274 : Cond.fieldLinkNest "PadeWorkbench" 214 "PadeWorkbench$Register" "size" "I" "PadeWorkbench" ∈ pw_nest := List.mem_append_left _ (List.mem_map.mpr ⟨_, List.mem_of_getElem? (i := 26) rfl, rfl⟩)
theorem mn_270 : Cond.fieldLinkNest "PadeWorkbench" 217 "PadeWorkbench$Register" "connection" "[I" "PadeWorkbench" ∈ pw_nest := List.mem_append_left _ (List.mem_map.mpr ⟨_, List.mem_of_getElem? (i := 25) rfl, rfl⟩)
theorem mn_107 : Cond.fieldLinkNest "PadeWorkbench" 226 "PadeWorkbench$State" "points" "I" "PadeWorkbench" ∈ pw_nest := List.mem_append_left _ (List.mem_map.mpr ⟨_, List.mem_of_getElem? (i := 4) rfl, rfl⟩)
theorem mn_102 : Cond.fieldLinkNest "PadeWorkbench$Euclid" 45 "PadeWorkbench$State" "prime" "I" "PadeWorkbench" ∈ pw_nest := List.mem_append_left _ (List.mem_map.mpr ⟨_, List.mem_of_getElem? (i := 1) rfl, rfl⟩)
theorem mn_106 : Cond.fieldLinkNest "PadeWorkbench$Euclid" 53 "PadeWorkbench$State" "points" "I" "PadeWorkbench" ∈ pw_nest := List.mem_append_left _ (List.mem_map.mpr ⟨_, List.mem_of_getElem? (i := 3) rfl, rfl⟩)
theorem mn_109 : Cond.fieldLinkNest "PadeWorkbench$Euclid" 56 "PadeWorkbench$State" "xs" "[I" "PadeWorkbench" ∈ pw_nest := List.mem_append_left _ (List.mem_map.mpr ⟨_, List.mem_of_getElem? (i := 5) rfl, rfl⟩)
theorem mn_112 : Cond.fieldLinkNest "PadeWorkbench$Euclid" 60 "PadeWorkbench$State" "ys" "[I" "PadeWorkbench" ∈ pw_nest := List.mem_append_left _ (List.mem_map.mpr ⟨_, List.mem_of_getElem? (i := 7) rfl, rfl⟩)
theorem mn_110 : Cond.fieldLinkNest "PadeWorkbench" 264 "PadeWorkbench$State" "xs" "[I" "PadeWorkbench" ∈ pw_nest := List.mem_append_left _ (List.mem_map.mpr ⟨_, List.mem_of_getElem? (i := 6) rfl, rfl⟩)
theorem mn_113 : Cond.fieldLinkNest "PadeWorkbench" 267 "PadeWorkbench$State" "ys" "[I" "PadeWorkbench" ∈ pw_nest := List.mem_append_left _ (List.mem_map.mpr ⟨_, List.mem_of_getElem? (i := 8) rfl, rfl⟩)
theorem mn_138 : Cond.fieldLinkNest "PadeWorkbench" 243 "PadeWorkbench$History" "count" "I" "PadeWorkbench" ∈ pw_nest := List.mem_append_left _ (List.mem_map.mpr ⟨_, List.mem_of_getElem? (i := 9) rfl, rfl⟩)
theorem mcl_0 : pw_Cl 0 "PadeWorkbench$Euclid" pw_T0 6 pw_Y0 := ⟨rfl, by decide, (show ∀ w ∈ [Cond.lays "PadeWorkbench$Euclid" "PadeWorkbench$Euclid" "before" "LPadeWorkbench$Polynomial;", Cond.lays "PadeWorkbench$Euclid" "PadeWorkbench$Euclid" "latest" "LPadeWorkbench$Polynomial;", Cond.lays "PadeWorkbench$Euclid" "PadeWorkbench$Euclid" "cofactorBefore" "LPadeWorkbench$Polynomial;", Cond.lays "PadeWorkbench$Euclid" "PadeWorkbench$Euclid" "cofactor" "LPadeWorkbench$Polynomial;", Cond.laysFinal "PadeWorkbench$Euclid" "PadeWorkbench$Euclid" "quotient" "LPadeWorkbench$Polynomial;", Cond.lays "PadeWorkbench$Euclid" "PadeWorkbench$Euclid" "p" "I"], w ∈ pw_gt from List.forall_mem_cons.mpr ⟨mq_209, List.forall_mem_cons.mpr ⟨mq_211, List.forall_mem_cons.mpr ⟨mq_213, List.forall_mem_cons.mpr ⟨mq_215, List.forall_mem_cons.mpr ⟨mq_217, List.forall_mem_cons.mpr ⟨mq_219, fun _ h => absurd h List.not_mem_nil⟩⟩⟩⟩⟩⟩), pw_y0, pw_n0, rfl⟩
theorem mdf_0 : ∀ j, j < 6 → defaultValue (pw_Y0 j) = (match (pw_ft 0)[j]? with | some true => .int 0 | _ => .null) := by decide
theorem mcl_1 : pw_Cl 1 "PadeWorkbench$Fraction" pw_T1 2 pw_Y1 := ⟨rfl, by decide, (show ∀ w ∈ [Cond.laysFinal "PadeWorkbench$Fraction" "PadeWorkbench$Fraction" "top" "LPadeWorkbench$Polynomial;", Cond.laysFinal "PadeWorkbench$Fraction" "PadeWorkbench$Fraction" "bottom" "LPadeWorkbench$Polynomial;"], w ∈ pw_gt from List.forall_mem_cons.mpr ⟨mq_234, List.forall_mem_cons.mpr ⟨mq_236, fun _ h => absurd h List.not_mem_nil⟩⟩), pw_y1, pw_n1, rfl⟩
theorem mdf_1 : ∀ j, j < 2 → defaultValue (pw_Y1 j) = (match (pw_ft 1)[j]? with | some true => .int 0 | _ => .null) := by decide
theorem mcl_2 : pw_Cl 2 "PadeWorkbench$FractionText" pw_T2 6 pw_Y2 := ⟨rfl, by decide, (show ∀ w ∈ [Cond.laysFinal "PadeWorkbench$FractionText" "PadeWorkbench$FractionText" "bytes" "[I", Cond.lays "PadeWorkbench$FractionText" "PadeWorkbench$FractionText" "length" "I", Cond.lays "PadeWorkbench$FractionText" "PadeWorkbench$FractionText" "position" "I", Cond.lays "PadeWorkbench$FractionText" "PadeWorkbench$FractionText" "p" "I", Cond.laysFinal "PadeWorkbench$FractionText" "PadeWorkbench$FractionText" "top" "[I", Cond.laysFinal "PadeWorkbench$FractionText" "PadeWorkbench$FractionText" "bottom" "[I"], w ∈ pw_gt from List.forall_mem_cons.mpr ⟨mq_162, List.forall_mem_cons.mpr ⟨mq_164, List.forall_mem_cons.mpr ⟨mq_166, List.forall_mem_cons.mpr ⟨mq_168, List.forall_mem_cons.mpr ⟨mq_170, List.forall_mem_cons.mpr ⟨mq_172, fun _ h => absurd h List.not_mem_nil⟩⟩⟩⟩⟩⟩), pw_y2, pw_n2, rfl⟩
theorem mdf_2 : ∀ j, j < 6 → defaultValue (pw_Y2 j) = (match (pw_ft 2)[j]? with | some true => .int 0 | _ => .null) := by decide
theorem mcl_3 : pw_Cl 3 "PadeWorkbench$History" pw_T3 3 pw_Y3 := ⟨rfl, by decide, (show ∀ w ∈ [Cond.laysFinal "PadeWorkbench$History" "PadeWorkbench$History" "states" "[LPadeWorkbench$State;", Cond.lays "PadeWorkbench$History" "PadeWorkbench$History" "next" "I", Cond.lays "PadeWorkbench$History" "PadeWorkbench$History" "count" "I"], w ∈ pw_gt from List.forall_mem_cons.mpr ⟨mq_139, List.forall_mem_cons.mpr ⟨mq_141, List.forall_mem_cons.mpr ⟨mq_143, fun _ h => absurd h List.not_mem_nil⟩⟩⟩), pw_y3, pw_n3, rfl⟩
theorem mdf_3 : ∀ j, j < 3 → defaultValue (pw_Y3 j) = (match (pw_ft 3)[j]? with | some true => .int 0 | _ => .null) := by decide
theorem mcl_4 : pw_Cl 4 "PadeWorkbench$Polynomial" pw_T4 2 pw_Y4 := ⟨rfl, by decide, (show ∀ w ∈ [Cond.laysFinal "PadeWorkbench$Polynomial" "PadeWorkbench$Polynomial" "row" "[I", Cond.lays "PadeWorkbench$Polynomial" "PadeWorkbench$Polynomial" "degree" "I"], w ∈ pw_gt from List.forall_mem_cons.mpr ⟨mq_195, List.forall_mem_cons.mpr ⟨mq_197, fun _ h => absurd h List.not_mem_nil⟩⟩), pw_y4, pw_n4, rfl⟩
theorem mdf_4 : ∀ j, j < 2 → defaultValue (pw_Y4 j) = (match (pw_ft 4)[j]? with | some true => .int 0 | _ => .null) := by decide
theorem mcl_5 : pw_Cl 5 "PadeWorkbench$Register" pw_T5 4 pw_Y5 := ⟨rfl, by decide, (show ∀ w ∈ [Cond.lays "PadeWorkbench$Register" "PadeWorkbench$Register" "connection" "[I", Cond.lays "PadeWorkbench$Register" "PadeWorkbench$Register" "older" "[I", Cond.lays "PadeWorkbench$Register" "PadeWorkbench$Register" "spareRow" "[I", Cond.lays "PadeWorkbench$Register" "PadeWorkbench$Register" "size" "I"], w ∈ pw_gt from List.forall_mem_cons.mpr ⟨mq_275, List.forall_mem_cons.mpr ⟨mq_277, List.forall_mem_cons.mpr ⟨mq_279, List.forall_mem_cons.mpr ⟨mq_281, fun _ h => absurd h List.not_mem_nil⟩⟩⟩⟩), pw_y5, pw_n5, rfl⟩
theorem mdf_5 : ∀ j, j < 4 → defaultValue (pw_Y5 j) = (match (pw_ft 5)[j]? with | some true => .int 0 | _ => .null) := by decide
theorem mcl_6 : pw_Cl 6 "PadeWorkbench$Scheme" pw_T6 2 pw_Y6 := ⟨rfl, by decide, (show ∀ w ∈ [Cond.laysFinal "PadeWorkbench$Scheme" "PadeWorkbench$Scheme" "q" "[I", Cond.laysFinal "PadeWorkbench$Scheme" "PadeWorkbench$Scheme" "e" "[I"], w ∈ pw_gt from List.forall_mem_cons.mpr ⟨mq_258, List.forall_mem_cons.mpr ⟨mq_260, fun _ h => absurd h List.not_mem_nil⟩⟩), pw_y6, pw_n6, rfl⟩
theorem mdf_6 : ∀ j, j < 2 → defaultValue (pw_Y6 j) = (match (pw_ft 6)[j]? with | some true => .int 0 | _ => .null) := by decide
theorem mcl_7 : pw_Cl 7 "PadeWorkbench$State" pw_T7 5 pw_Y7 := ⟨rfl, by decide, (show ∀ w ∈ [Cond.lays "PadeWorkbench$State" "PadeWorkbench$State" "prime" "I", Cond.laysFinal "PadeWorkbench$State" "PadeWorkbench$State" "series" "[[I", Cond.lays "PadeWorkbench$State" "PadeWorkbench$State" "points" "I", Cond.laysFinal "PadeWorkbench$State" "PadeWorkbench$State" "xs" "[I", Cond.laysFinal "PadeWorkbench$State" "PadeWorkbench$State" "ys" "[I"], w ∈ pw_gt from List.forall_mem_cons.mpr ⟨mq_114, List.forall_mem_cons.mpr ⟨mq_116, List.forall_mem_cons.mpr ⟨mq_118, List.forall_mem_cons.mpr ⟨mq_120, List.forall_mem_cons.mpr ⟨mq_122, fun _ h => absurd h List.not_mem_nil⟩⟩⟩⟩⟩), pw_y7, pw_n7, rfl⟩
theorem mdf_7 : ∀ j, j < 5 → defaultValue (pw_Y7 j) = (match (pw_ft 7)[j]? with | some true => .int 0 | _ => .null) := by decide
theorem mcl_8 : pw_Cl 8 "PadeWorkbench$Toeplitz" pw_T8 1 pw_Y8 := ⟨rfl, by decide, (show ∀ w ∈ [Cond.laysFinal "PadeWorkbench$Toeplitz" "PadeWorkbench$Toeplitz" "cells" "[[I"], w ∈ pw_gt from List.forall_mem_cons.mpr ⟨mq_247, fun _ h => absurd h List.not_mem_nil⟩), pw_y8, pw_n8, rfl⟩
theorem mdf_8 : ∀ j, j < 1 → defaultValue (pw_Y8 j) = (match (pw_ft 8)[j]? with | some true => .int 0 | _ => .null) := by decide
theorem mcl_9 : pw_Cl 9 "PadeWorkbench" pw_T9 11 pw_Y9 := ⟨rfl, by decide, (show ∀ w ∈ [Cond.laysFinal "PadeWorkbench" "PadeWorkbench" "now" "LPadeWorkbench$State;", Cond.laysFinal "PadeWorkbench" "PadeWorkbench" "history" "LPadeWorkbench$History;", Cond.laysFinal "PadeWorkbench" "PadeWorkbench" "text" "LPadeWorkbench$FractionText;", Cond.laysFinal "PadeWorkbench" "PadeWorkbench" "euclid" "LPadeWorkbench$Euclid;", Cond.laysFinal "PadeWorkbench" "PadeWorkbench" "fraction" "LPadeWorkbench$Fraction;", Cond.laysFinal "PadeWorkbench" "PadeWorkbench" "toeplitz" "LPadeWorkbench$Toeplitz;", Cond.laysFinal "PadeWorkbench" "PadeWorkbench" "scheme" "LPadeWorkbench$Scheme;", Cond.laysFinal "PadeWorkbench" "PadeWorkbench" "register" "LPadeWorkbench$Register;", Cond.laysFinal "PadeWorkbench" "PadeWorkbench" "result" "[I", Cond.laysFinal "PadeWorkbench" "PadeWorkbench" "spare" "[I", Cond.laysFinal "PadeWorkbench" "PadeWorkbench" "errors" "[I"], w ∈ pw_gt from List.forall_mem_cons.mpr ⟨mq_295, List.forall_mem_cons.mpr ⟨mq_297, List.forall_mem_cons.mpr ⟨mq_299, List.forall_mem_cons.mpr ⟨mq_301, List.forall_mem_cons.mpr ⟨mq_303, List.forall_mem_cons.mpr ⟨mq_305, List.forall_mem_cons.mpr ⟨mq_307, List.forall_mem_cons.mpr ⟨mq_309, List.forall_mem_cons.mpr ⟨mq_311, List.forall_mem_cons.mpr ⟨mq_313, List.forall_mem_cons.mpr ⟨mq_315, fun _ h => absurd h List.not_mem_nil⟩⟩⟩⟩⟩⟩⟩⟩⟩⟩⟩), pw_y9, pw_n9, rfl⟩
theorem mdf_9 : ∀ j, j < 11 → defaultValue (pw_Y9 j) = (match (pw_ft 9)[j]? with | some true => .int 0 | _ => .null) := by decide
theorem mcl_10 : pw_Cl 10 "PadeWorkbenchModel" pw_T10 20 pw_Y10 := ⟨rfl, by decide, (show ∀ w ∈ [Cond.laysFinal "PadeWorkbenchModel" "PadeWorkbenchModel" "now" "[I", Cond.laysFinal "PadeWorkbenchModel" "PadeWorkbenchModel" "history" "[I", Cond.lays "PadeWorkbenchModel" "PadeWorkbenchModel" "saved" "I", Cond.laysFinal "PadeWorkbenchModel" "PadeWorkbenchModel" "errors" "[I", Cond.laysFinal "PadeWorkbenchModel" "PadeWorkbenchModel" "text" "[I", Cond.lays "PadeWorkbenchModel" "PadeWorkbenchModel" "length" "I", Cond.laysFinal "PadeWorkbenchModel" "PadeWorkbenchModel" "made" "[I", Cond.laysFinal "PadeWorkbenchModel" "PadeWorkbenchModel" "one" "[I", Cond.laysFinal "PadeWorkbenchModel" "PadeWorkbenchModel" "two" "[I", Cond.lays "PadeWorkbenchModel" "PadeWorkbenchModel" "next" "I", Cond.laysFinal "PadeWorkbenchModel" "PadeWorkbenchModel" "matrix" "[I", Cond.laysFinal "PadeWorkbenchModel" "PadeWorkbenchModel" "pivot" "[I", Cond.laysFinal "PadeWorkbenchModel" "PadeWorkbenchModel" "vector" "[I", Cond.laysFinal "PadeWorkbenchModel" "PadeWorkbenchModel" "up" "[I", Cond.laysFinal "PadeWorkbenchModel" "PadeWorkbenchModel" "low" "[I", Cond.laysFinal "PadeWorkbenchModel" "PadeWorkbenchModel" "first" "[I", Cond.laysFinal "PadeWorkbenchModel" "PadeWorkbenchModel" "second" "[I", Cond.laysFinal "PadeWorkbenchModel" "PadeWorkbenchModel" "third" "[I", Cond.laysFinal "PadeWorkbenchModel" "PadeWorkbenchModel" "quotients" "[I", Cond.laysFinal "PadeWorkbenchModel" "PadeWorkbenchModel" "differences" "[I"], w ∈ pw_gt from List.forall_mem_cons.mpr ⟨mq_819, List.forall_mem_cons.mpr ⟨mq_821, List.forall_mem_cons.mpr ⟨mq_823, List.forall_mem_cons.mpr ⟨mq_825, List.forall_mem_cons.mpr ⟨mq_827, List.forall_mem_cons.mpr ⟨mq_829, List.forall_mem_cons.mpr ⟨mq_831, List.forall_mem_cons.mpr ⟨mq_833, List.forall_mem_cons.mpr ⟨mq_835, List.forall_mem_cons.mpr ⟨mq_837, List.forall_mem_cons.mpr ⟨mq_839, List.forall_mem_cons.mpr ⟨mq_841, List.forall_mem_cons.mpr ⟨mq_843, List.forall_mem_cons.mpr ⟨mq_845, List.forall_mem_cons.mpr ⟨mq_847, List.forall_mem_cons.mpr ⟨mq_849, List.forall_mem_cons.mpr ⟨mq_851, List.forall_mem_cons.mpr ⟨mq_853, List.forall_mem_cons.mpr ⟨mq_855, List.forall_mem_cons.mpr ⟨mq_857, fun _ h => absurd h List.not_mem_nil⟩⟩⟩⟩⟩⟩⟩⟩⟩⟩⟩⟩⟩⟩⟩⟩⟩⟩⟩⟩), pw_y10, pw_n10, rfl⟩
theorem mdf_10 : ∀ j, j < 20 → defaultValue (pw_Y10 j) = (match (pw_ft 10)[j]? with | some true => .int 0 | _ => .null) := by decide
theorem mty_0_0 : narrow (pw_Y0 0) (.ref 0) = .ref 0 ∧ ∀ a, narrow (pw_Y0 0) (.ref a) = .ref a ∧ fits (pw_Y0 0) (.ref a) = true := ⟨rfl, fun _ => ⟨rfl, rfl⟩⟩
theorem mty_0_1 : narrow (pw_Y0 1) (.ref 0) = .ref 0 ∧ ∀ a, narrow (pw_Y0 1) (.ref a) = .ref a ∧ fits (pw_Y0 1) (.ref a) = true := ⟨rfl, fun _ => ⟨rfl, rfl⟩⟩
theorem mty_0_2 : narrow (pw_Y0 2) (.ref 0) = .ref 0 ∧ ∀ a, narrow (pw_Y0 2) (.ref a) = .ref a ∧ fits (pw_Y0 2) (.ref a) = true := ⟨rfl, fun _ => ⟨rfl, rfl⟩⟩
theorem mty_0_3 : narrow (pw_Y0 3) (.ref 0) = .ref 0 ∧ ∀ a, narrow (pw_Y0 3) (.ref a) = .ref a ∧ fits (pw_Y0 3) (.ref a) = true := ⟨rfl, fun _ => ⟨rfl, rfl⟩⟩
theorem mty_0_4 : narrow (pw_Y0 4) (.ref 0) = .ref 0 ∧ ∀ a, narrow (pw_Y0 4) (.ref a) = .ref a ∧ fits (pw_Y0 4) (.ref a) = true := ⟨rfl, fun _ => ⟨rfl, rfl⟩⟩
theorem mty_1_0 : narrow (pw_Y1 0) (.ref 0) = .ref 0 ∧ ∀ a, narrow (pw_Y1 0) (.ref a) = .ref a ∧ fits (pw_Y1 0) (.ref a) = true := ⟨rfl, fun _ => ⟨rfl, rfl⟩⟩
theorem mty_1_1 : narrow (pw_Y1 1) (.ref 0) = .ref 0 ∧ ∀ a, narrow (pw_Y1 1) (.ref a) = .ref a ∧ fits (pw_Y1 1) (.ref a) = true := ⟨rfl, fun _ => ⟨rfl, rfl⟩⟩
theorem mty_2_0 : narrow (pw_Y2 0) (.ref 0) = .ref 0 ∧ ∀ a, narrow (pw_Y2 0) (.ref a) = .ref a ∧ fits (pw_Y2 0) (.ref a) = true := ⟨rfl, fun _ => ⟨rfl, rfl⟩⟩
theorem mty_2_4 : narrow (pw_Y2 4) (.ref 0) = .ref 0 ∧ ∀ a, narrow (pw_Y2 4) (.ref a) = .ref a ∧ fits (pw_Y2 4) (.ref a) = true := ⟨rfl, fun _ => ⟨rfl, rfl⟩⟩
theorem mty_2_5 : narrow (pw_Y2 5) (.ref 0) = .ref 0 ∧ ∀ a, narrow (pw_Y2 5) (.ref a) = .ref a ∧ fits (pw_Y2 5) (.ref a) = true := ⟨rfl, fun _ => ⟨rfl, rfl⟩⟩
theorem mty_3_0 : narrow (pw_Y3 0) (.ref 0) = .ref 0 ∧ ∀ a, narrow (pw_Y3 0) (.ref a) = .ref a ∧ fits (pw_Y3 0) (.ref a) = true := ⟨rfl, fun _ => ⟨rfl, rfl⟩⟩
theorem mty_4_0 : narrow (pw_Y4 0) (.ref 0) = .ref 0 ∧ ∀ a, narrow (pw_Y4 0) (.ref a) = .ref a ∧ fits (pw_Y4 0) (.ref a) = true := ⟨rfl, fun _ => ⟨rfl, rfl⟩⟩
theorem mty_5_0 : narrow (pw_Y5 0) (.ref 0) = .ref 0 ∧ ∀ a, narrow (pw_Y5 0) (.ref a) = .ref a ∧ fits (pw_Y5 0) (.ref a) = true := ⟨rfl, fun _ => ⟨rfl, rfl⟩⟩
theorem mty_5_1 : narrow (pw_Y5 1) (.ref 0) = .ref 0 ∧ ∀ a, narrow (pw_Y5 1) (.ref a) = .ref a ∧ fits (pw_Y5 1) (.ref a) = true := ⟨rfl, fun _ => ⟨rfl, rfl⟩⟩
theorem mty_5_2 : narrow (pw_Y5 2) (.ref 0) = .ref 0 ∧ ∀ a, narrow (pw_Y5 2) (.ref a) = .ref a ∧ fits (pw_Y5 2) (.ref a) = true := ⟨rfl, fun _ => ⟨rfl, rfl⟩⟩
theorem mty_6_0 : narrow (pw_Y6 0) (.ref 0) = .ref 0 ∧ ∀ a, narrow (pw_Y6 0) (.ref a) = .ref a ∧ fits (pw_Y6 0) (.ref a) = true := ⟨rfl, fun _ => ⟨rfl, rfl⟩⟩
theorem mty_6_1 : narrow (pw_Y6 1) (.ref 0) = .ref 0 ∧ ∀ a, narrow (pw_Y6 1) (.ref a) = .ref a ∧ fits (pw_Y6 1) (.ref a) = true := ⟨rfl, fun _ => ⟨rfl, rfl⟩⟩
theorem mty_7_1 : narrow (pw_Y7 1) (.ref 0) = .ref 0 ∧ ∀ a, narrow (pw_Y7 1) (.ref a) = .ref a ∧ fits (pw_Y7 1) (.ref a) = true := ⟨rfl, fun _ => ⟨rfl, rfl⟩⟩
theorem mty_7_3 : narrow (pw_Y7 3) (.ref 0) = .ref 0 ∧ ∀ a, narrow (pw_Y7 3) (.ref a) = .ref a ∧ fits (pw_Y7 3) (.ref a) = true := ⟨rfl, fun _ => ⟨rfl, rfl⟩⟩
theorem mty_7_4 : narrow (pw_Y7 4) (.ref 0) = .ref 0 ∧ ∀ a, narrow (pw_Y7 4) (.ref a) = .ref a ∧ fits (pw_Y7 4) (.ref a) = true := ⟨rfl, fun _ => ⟨rfl, rfl⟩⟩
theorem mty_8_0 : narrow (pw_Y8 0) (.ref 0) = .ref 0 ∧ ∀ a, narrow (pw_Y8 0) (.ref a) = .ref a ∧ fits (pw_Y8 0) (.ref a) = true := ⟨rfl, fun _ => ⟨rfl, rfl⟩⟩
theorem mty_9_0 : narrow (pw_Y9 0) (.ref 0) = .ref 0 ∧ ∀ a, narrow (pw_Y9 0) (.ref a) = .ref a ∧ fits (pw_Y9 0) (.ref a) = true := ⟨rfl, fun _ => ⟨rfl, rfl⟩⟩
theorem mty_9_1 : narrow (pw_Y9 1) (.ref 0) = .ref 0 ∧ ∀ a, narrow (pw_Y9 1) (.ref a) = .ref a ∧ fits (pw_Y9 1) (.ref a) = true := ⟨rfl, fun _ => ⟨rfl, rfl⟩⟩
theorem mty_9_2 : narrow (pw_Y9 2) (.ref 0) = .ref 0 ∧ ∀ a, narrow (pw_Y9 2) (.ref a) = .ref a ∧ fits (pw_Y9 2) (.ref a) = true := ⟨rfl, fun _ => ⟨rfl, rfl⟩⟩
theorem mty_9_3 : narrow (pw_Y9 3) (.ref 0) = .ref 0 ∧ ∀ a, narrow (pw_Y9 3) (.ref a) = .ref a ∧ fits (pw_Y9 3) (.ref a) = true := ⟨rfl, fun _ => ⟨rfl, rfl⟩⟩
theorem mty_9_4 : narrow (pw_Y9 4) (.ref 0) = .ref 0 ∧ ∀ a, narrow (pw_Y9 4) (.ref a) = .ref a ∧ fits (pw_Y9 4) (.ref a) = true := ⟨rfl, fun _ => ⟨rfl, rfl⟩⟩
theorem mty_9_5 : narrow (pw_Y9 5) (.ref 0) = .ref 0 ∧ ∀ a, narrow (pw_Y9 5) (.ref a) = .ref a ∧ fits (pw_Y9 5) (.ref a) = true := ⟨rfl, fun _ => ⟨rfl, rfl⟩⟩
theorem mty_9_6 : narrow (pw_Y9 6) (.ref 0) = .ref 0 ∧ ∀ a, narrow (pw_Y9 6) (.ref a) = .ref a ∧ fits (pw_Y9 6) (.ref a) = true := ⟨rfl, fun _ => ⟨rfl, rfl⟩⟩
theorem mty_9_7 : narrow (pw_Y9 7) (.ref 0) = .ref 0 ∧ ∀ a, narrow (pw_Y9 7) (.ref a) = .ref a ∧ fits (pw_Y9 7) (.ref a) = true := ⟨rfl, fun _ => ⟨rfl, rfl⟩⟩
theorem mty_9_8 : narrow (pw_Y9 8) (.ref 0) = .ref 0 ∧ ∀ a, narrow (pw_Y9 8) (.ref a) = .ref a ∧ fits (pw_Y9 8) (.ref a) = true := ⟨rfl, fun _ => ⟨rfl, rfl⟩⟩
theorem mty_9_9 : narrow (pw_Y9 9) (.ref 0) = .ref 0 ∧ ∀ a, narrow (pw_Y9 9) (.ref a) = .ref a ∧ fits (pw_Y9 9) (.ref a) = true := ⟨rfl, fun _ => ⟨rfl, rfl⟩⟩
theorem mty_9_10 : narrow (pw_Y9 10) (.ref 0) = .ref 0 ∧ ∀ a, narrow (pw_Y9 10) (.ref a) = .ref a ∧ fits (pw_Y9 10) (.ref a) = true := ⟨rfl, fun _ => ⟨rfl, rfl⟩⟩
theorem mty_10_0 : narrow (pw_Y10 0) (.ref 0) = .ref 0 ∧ ∀ a, narrow (pw_Y10 0) (.ref a) = .ref a ∧ fits (pw_Y10 0) (.ref a) = true := ⟨rfl, fun _ => ⟨rfl, rfl⟩⟩
theorem mty_10_1 : narrow (pw_Y10 1) (.ref 0) = .ref 0 ∧ ∀ a, narrow (pw_Y10 1) (.ref a) = .ref a ∧ fits (pw_Y10 1) (.ref a) = true := ⟨rfl, fun _ => ⟨rfl, rfl⟩⟩
theorem mty_10_3 : narrow (pw_Y10 3) (.ref 0) = .ref 0 ∧ ∀ a, narrow (pw_Y10 3) (.ref a) = .ref a ∧ fits (pw_Y10 3) (.ref a) = true := ⟨rfl, fun _ => ⟨rfl, rfl⟩⟩
theorem mty_10_4 : narrow (pw_Y10 4) (.ref 0) = .ref 0 ∧ ∀ a, narrow (pw_Y10 4) (.ref a) = .ref a ∧ fits (pw_Y10 4) (.ref a) = true := ⟨rfl, fun _ => ⟨rfl, rfl⟩⟩
theorem mty_10_6 : narrow (pw_Y10 6) (.ref 0) = .ref 0 ∧ ∀ a, narrow (pw_Y10 6) (.ref a) = .ref a ∧ fits (pw_Y10 6) (.ref a) = true := ⟨rfl, fun _ => ⟨rfl, rfl⟩⟩
theorem mty_10_7 : narrow (pw_Y10 7) (.ref 0) = .ref 0 ∧ ∀ a, narrow (pw_Y10 7) (.ref a) = .ref a ∧ fits (pw_Y10 7) (.ref a) = true := ⟨rfl, fun _ => ⟨rfl, rfl⟩⟩
theorem mty_10_8 : narrow (pw_Y10 8) (.ref 0) = .ref 0 ∧ ∀ a, narrow (pw_Y10 8) (.ref a) = .ref a ∧ fits (pw_Y10 8) (.ref a) = true := ⟨rfl, fun _ => ⟨rfl, rfl⟩⟩
theorem mty_10_10 : narrow (pw_Y10 10) (.ref 0) = .ref 0 ∧ ∀ a, narrow (pw_Y10 10) (.ref a) = .ref a ∧ fits (pw_Y10 10) (.ref a) = true := ⟨rfl, fun _ => ⟨rfl, rfl⟩⟩
theorem mty_10_11 : narrow (pw_Y10 11) (.ref 0) = .ref 0 ∧ ∀ a, narrow (pw_Y10 11) (.ref a) = .ref a ∧ fits (pw_Y10 11) (.ref a) = true := ⟨rfl, fun _ => ⟨rfl, rfl⟩⟩
theorem mty_10_12 : narrow (pw_Y10 12) (.ref 0) = .ref 0 ∧ ∀ a, narrow (pw_Y10 12) (.ref a) = .ref a ∧ fits (pw_Y10 12) (.ref a) = true := ⟨rfl, fun _ => ⟨rfl, rfl⟩⟩
theorem mty_10_13 : narrow (pw_Y10 13) (.ref 0) = .ref 0 ∧ ∀ a, narrow (pw_Y10 13) (.ref a) = .ref a ∧ fits (pw_Y10 13) (.ref a) = true := ⟨rfl, fun _ => ⟨rfl, rfl⟩⟩
theorem mty_10_14 : narrow (pw_Y10 14) (.ref 0) = .ref 0 ∧ ∀ a, narrow (pw_Y10 14) (.ref a) = .ref a ∧ fits (pw_Y10 14) (.ref a) = true := ⟨rfl, fun _ => ⟨rfl, rfl⟩⟩
theorem mty_10_15 : narrow (pw_Y10 15) (.ref 0) = .ref 0 ∧ ∀ a, narrow (pw_Y10 15) (.ref a) = .ref a ∧ fits (pw_Y10 15) (.ref a) = true := ⟨rfl, fun _ => ⟨rfl, rfl⟩⟩
theorem mty_10_16 : narrow (pw_Y10 16) (.ref 0) = .ref 0 ∧ ∀ a, narrow (pw_Y10 16) (.ref a) = .ref a ∧ fits (pw_Y10 16) (.ref a) = true := ⟨rfl, fun _ => ⟨rfl, rfl⟩⟩
theorem mty_10_17 : narrow (pw_Y10 17) (.ref 0) = .ref 0 ∧ ∀ a, narrow (pw_Y10 17) (.ref a) = .ref a ∧ fits (pw_Y10 17) (.ref a) = true := ⟨rfl, fun _ => ⟨rfl, rfl⟩⟩
theorem mty_10_18 : narrow (pw_Y10 18) (.ref 0) = .ref 0 ∧ ∀ a, narrow (pw_Y10 18) (.ref a) = .ref a ∧ fits (pw_Y10 18) (.ref a) = true := ⟨rfl, fun _ => ⟨rfl, rfl⟩⟩
theorem mty_10_19 : narrow (pw_Y10 19) (.ref 0) = .ref 0 ∧ ∀ a, narrow (pw_Y10 19) (.ref a) = .ref a ∧ fits (pw_Y10 19) (.ref a) = true := ⟨rfl, fun _ => ⟨rfl, rfl⟩⟩
theorem mk_Z_init : pw_Cal my_Z_init prog_11_method_1_code 1 none 0 := ⟨mq_96, mq_70, by decide +kernel⟩
theorem mk_H_init : pw_Cal my_H_init prog_6_method_1_code 2 none 0 := ⟨mq_130, mq_71, by decide +kernel⟩
theorem mk_T_init : pw_Cal my_T_init prog_5_method_1_code 1 none 0 := ⟨mq_150, mq_72, by decide +kernel⟩
theorem mk_P_init : pw_Cal my_P_init prog_7_method_1_code 1 none 0 := ⟨mq_185, mq_74, by decide +kernel⟩
theorem mk_E_init : pw_Cal my_E_init prog_2_method_1_code 1 none 0 := ⟨mq_179, mq_73, by decide +kernel⟩
theorem mk_R_init : pw_Cal my_R_init prog_4_method_1_code 1 none 0 := ⟨mq_226, mq_75, by decide +kernel⟩
theorem mk_D_init : pw_Cal my_D_init prog_12_method_1_code 1 none 0 := ⟨mq_243, mq_76, by decide +kernel⟩
theorem mk_Q_init : pw_Cal my_Q_init prog_9_method_1_code 1 none 0 := ⟨mq_254, mq_77, by decide +kernel⟩
theorem mk_B_init : pw_Cal my_B_init prog_8_method_1_code 1 none 0 := ⟨mq_267, mq_78, by decide +kernel⟩
theorem mk_W_init : pw_Cal my_W_init prog_1_method_1_code 1 none 0 := ⟨mq_88, mq_69, by decide +kernel⟩
theorem mk_W_isPrime : pw_Cal my_W_isPrime prog_1_method_44_code 2 (some .boolean) 1 := ⟨mq_324, mq_69, by decide +kernel⟩
theorem mk_W_fail : pw_Cal my_W_fail prog_1_method_37_code 3 (some .int) 1 := ⟨mq_328, mq_69, by decide +kernel⟩
theorem mv_W_fail : pw_CalV my_W_fail := ⟨mq_327, mq_0⟩
theorem mk_Z_copyFrom : pw_Cal my_Z_copyFrom prog_11_method_2_code 3 none 1 := ⟨mq_336, mq_70, by decide +kernel⟩
theorem mv_Z_copyFrom : pw_CalV my_Z_copyFrom := ⟨mq_334, mq_335⟩
theorem mk_H_keep : pw_Cal my_H_keep prog_6_method_2_code 2 none 1 := ⟨mq_332, mq_71, by decide +kernel⟩
theorem mv_H_keep : pw_CalV my_H_keep := ⟨mq_330, mq_331⟩
theorem mk_A_fill : pw_Cal my_A_fill prog_16_method_103_code 4 none 2 := ⟨mq_346, mq_81, by decide +kernel⟩
theorem mk_Z_restart : pw_Cal my_Z_restart prog_11_method_3_code 3 none 1 := ⟨mq_343, mq_70, by decide +kernel⟩
theorem mv_Z_restart : pw_CalV my_Z_restart := ⟨mq_341, mq_342⟩
theorem mk_W_setPrime : pw_Cal my_W_setPrime prog_1_method_2_code 3 (some .int) 1 := ⟨mq_321, mq_69, by decide +kernel⟩
theorem mv_W_setPrime : pw_CalV my_W_setPrime := ⟨mq_319, mq_320⟩
theorem mk_W_isSlot : pw_Cal my_W_isSlot prog_1_method_38_code 1 (some .boolean) 1 := ⟨mq_353, mq_69, by decide +kernel⟩
theorem mk_W_isTerm : pw_Cal my_W_isTerm prog_1_method_39_code 1 (some .boolean) 1 := ⟨mq_356, mq_69, by decide +kernel⟩
theorem mk_W_isElement : pw_Cal my_W_isElement prog_1_method_40_code 2 (some .boolean) 1 := ⟨mq_360, mq_69, by decide +kernel⟩
theorem mv_W_isElement : pw_CalV my_W_isElement := ⟨mq_359, mq_1⟩
theorem mk_W_set : pw_Cal my_W_set prog_1_method_3_code 5 (some .int) 3 := ⟨mq_350, mq_69, by decide +kernel⟩
theorem mv_W_set : pw_CalV my_W_set := ⟨mq_348, mq_349⟩
theorem mk_W_coefficient : pw_Cal my_W_coefficient prog_1_method_4_code 3 (some .int) 2 := ⟨mq_364, mq_69, by decide +kernel⟩
theorem mv_W_coefficient : pw_CalV my_W_coefficient := ⟨mq_362, mq_363⟩
theorem mk_K_reduce : pw_Cal my_K_reduce prog_3_method_2_code 2 (some .int) 2 := ⟨mq_374, mq_83, by decide +kernel⟩
theorem mk_S_sum : pw_Cal my_S_sum prog_10_method_2_code 5 none 4 := ⟨mq_371, mq_82, by decide +kernel⟩
theorem mk_S_countOfNonZero : pw_Cal my_S_countOfNonZero prog_10_method_6_code 3 (some .int) 1 := ⟨mq_382, mq_82, by decide +kernel⟩
theorem mk_W_store : pw_Cal my_W_store prog_1_method_45_code 2 (some .int) 1 := ⟨mq_378, mq_69, by decide +kernel⟩
theorem mv_W_store : pw_CalV my_W_store := ⟨mq_377, mq_2⟩
theorem mk_W_add : pw_Cal my_W_add prog_1_method_5_code 4 (some .int) 3 := ⟨mq_368, mq_69, by decide +kernel⟩
theorem mv_W_add : pw_CalV my_W_add := ⟨mq_366, mq_367⟩
theorem mk_S_product : pw_Cal my_S_product prog_10_method_3_code 7 none 4 := ⟨mq_389, mq_82, by decide +kernel⟩
theorem mk_W_multiply : pw_Cal my_W_multiply prog_1_method_6_code 4 (some .int) 3 := ⟨mq_386, mq_69, by decide +kernel⟩
theorem mv_W_multiply : pw_CalV my_W_multiply := ⟨mq_384, mq_385⟩
theorem mk_K_inverse : pw_Cal my_K_inverse prog_3_method_5_code 5 (some .int) 2 := ⟨mq_399, mq_83, by decide +kernel⟩
theorem mk_K_times : pw_Cal my_K_times prog_3_method_4_code 3 (some .int) 3 := ⟨mq_403, mq_83, by decide +kernel⟩
theorem mk_K_negative : pw_Cal my_K_negative prog_3_method_3_code 2 (some .int) 2 := ⟨mq_406, mq_83, by decide +kernel⟩
theorem mk_S_reciprocal : pw_Cal my_S_reciprocal prog_10_method_4_code 7 none 3 := ⟨mq_396, mq_82, by decide +kernel⟩
theorem mk_W_invert : pw_Cal my_W_invert prog_1_method_7_code 3 (some .int) 2 := ⟨mq_393, mq_69, by decide +kernel⟩
theorem mv_W_invert : pw_CalV my_W_invert := ⟨mq_391, mq_392⟩
theorem mk_W_composeIntoResult : pw_Cal my_W_composeIntoResult prog_1_method_46_code 4 none 2 := ⟨mq_414, mq_69, by decide +kernel⟩
theorem mv_W_composeIntoResult : pw_CalV my_W_composeIntoResult := ⟨mq_413, mq_3⟩
theorem mk_W_substitute : pw_Cal my_W_substitute prog_1_method_8_code 4 (some .int) 3 := ⟨mq_410, mq_69, by decide +kernel⟩
theorem mv_W_substitute : pw_CalV my_W_substitute := ⟨mq_408, mq_409⟩
theorem mk_S_slope : pw_Cal my_S_slope prog_10_method_5_code 4 none 3 := ⟨mq_423, mq_82, by decide +kernel⟩
theorem mk_W_derivative : pw_Cal my_W_derivative prog_1_method_9_code 3 (some .int) 2 := ⟨mq_420, mq_69, by decide +kernel⟩
theorem mv_W_derivative : pw_CalV my_W_derivative := ⟨mq_418, mq_419⟩
theorem mk_T_put : pw_Cal my_T_put prog_5_method_2_code 2 none 1 := ⟨mq_431, mq_72, by decide +kernel⟩
theorem mv_T_put : pw_CalV my_T_put := ⟨mq_429, mq_430⟩
theorem mk_W_append : pw_Cal my_W_append prog_1_method_10_code 2 (some .int) 1 := ⟨mq_427, mq_69, by decide +kernel⟩
theorem mv_W_append : pw_CalV my_W_append := ⟨mq_425, mq_426⟩
theorem mk_W_clearText : pw_Cal my_W_clearText prog_1_method_11_code 2 (some .int) 0 := ⟨mq_435, mq_69, by decide +kernel⟩
theorem mv_W_clearText : pw_CalV my_W_clearText := ⟨mq_433, mq_434⟩
theorem mk_T_here : pw_Cal my_T_here prog_5_method_10_code 1 (some .int) 0 := ⟨mq_460, mq_72, by decide +kernel⟩
theorem mv_T_here : pw_CalV my_T_here := ⟨mq_459, mq_7⟩
theorem mk_T_peek : pw_Cal my_T_peek prog_5_method_9_code 1 (some .int) 0 := ⟨mq_456, mq_72, by decide +kernel⟩
theorem mv_T_peek : pw_CalV my_T_peek := ⟨mq_455, mq_6⟩
theorem mk_T_took : pw_Cal my_T_took prog_5_method_8_code 2 (some .boolean) 1 := ⟨mq_452, mq_72, by decide +kernel⟩
theorem mv_T_took : pw_CalV my_T_took := ⟨mq_451, mq_5⟩
theorem mk_T_isDigit : pw_Cal my_T_isDigit prog_5_method_11_code 1 (some .boolean) 1 := ⟨mq_467, mq_72, by decide +kernel⟩
theorem mk_T_readNumber : pw_Cal my_T_readNumber prog_5_method_6_code 3 (some .int) 0 := ⟨mq_471, mq_72, by decide +kernel⟩
theorem mv_T_readNumber : pw_CalV my_T_readNumber := ⟨mq_470, mq_9⟩
theorem mk_T_readExponent : pw_Cal my_T_readExponent prog_5_method_7_code 3 (some .int) 0 := ⟨mq_475, mq_72, by decide +kernel⟩
theorem mv_T_readExponent : pw_CalV my_T_readExponent := ⟨mq_474, mq_10⟩
theorem mk_T_readTerm : pw_Cal my_T_readTerm prog_5_method_5_code 7 (some .boolean) 2 := ⟨mq_464, mq_72, by decide +kernel⟩
theorem mv_T_readTerm : pw_CalV my_T_readTerm := ⟨mq_463, mq_8⟩
theorem mk_T_readPolynomial : pw_Cal my_T_readPolynomial prog_5_method_4_code 4 (some .boolean) 1 := ⟨mq_448, mq_72, by decide +kernel⟩
theorem mv_T_readPolynomial : pw_CalV my_T_readPolynomial := ⟨mq_447, mq_4⟩
theorem mk_T_readFraction : pw_Cal my_T_readFraction prog_5_method_3_code 2 (some .boolean) 1 := ⟨mq_443, mq_72, by decide +kernel⟩
theorem mv_T_readFraction : pw_CalV my_T_readFraction := ⟨mq_441, mq_442⟩
theorem mk_W_parse : pw_Cal my_W_parse prog_1_method_12_code 2 (some .int) 1 := ⟨mq_439, mq_69, by decide +kernel⟩
theorem mv_W_parse : pw_CalV my_W_parse := ⟨mq_437, mq_438⟩
theorem mk_W_isApproximant : pw_Cal my_W_isApproximant prog_1_method_41_code 3 (some .boolean) 3 := ⟨mq_483, mq_69, by decide +kernel⟩
theorem mk_P_becomeZero : pw_Cal my_P_becomeZero prog_7_method_2_code 1 none 0 := ⟨mq_499, mq_74, by decide +kernel⟩
theorem mv_P_becomeZero : pw_CalV my_P_becomeZero := ⟨mq_497, mq_498⟩
theorem mk_P_becomePower : pw_Cal my_P_becomePower prog_7_method_3_code 2 none 1 := ⟨mq_495, mq_74, by decide +kernel⟩
theorem mv_P_becomePower : pw_CalV my_P_becomePower := ⟨mq_493, mq_494⟩
theorem mk_P_measure : pw_Cal my_P_measure prog_7_method_6_code 1 none 0 := ⟨mq_508, mq_74, by decide +kernel⟩
theorem mv_P_measure : pw_CalV my_P_measure := ⟨mq_506, mq_507⟩
theorem mk_P_becomeStart : pw_Cal my_P_becomeStart prog_7_method_4_code 4 none 2 := ⟨mq_504, mq_74, by decide +kernel⟩
theorem mv_P_becomeStart : pw_CalV my_P_becomeStart := ⟨mq_502, mq_503⟩
theorem mk_E_startCofactors : pw_Cal my_E_startCofactors prog_2_method_4_code 1 none 0 := ⟨mq_512, mq_73, by decide +kernel⟩
theorem mv_E_startCofactors : pw_CalV my_E_startCofactors := ⟨mq_511, mq_12⟩
theorem mk_E_startWithSeries : pw_Cal my_E_startWithSeries prog_2_method_2_code 4 none 3 := ⟨mq_491, mq_73, by decide +kernel⟩
theorem mv_E_startWithSeries : pw_CalV my_E_startWithSeries := ⟨mq_489, mq_490⟩
theorem mk_P_gather : pw_Cal my_P_gather prog_7_method_8_code 6 none 4 := ⟨mq_528, mq_74, by decide +kernel⟩
theorem mv_P_gather : pw_CalV my_P_gather := ⟨mq_526, mq_527⟩
theorem mk_E_divide : pw_Cal my_E_divide prog_2_method_6_code 4 none 0 := ⟨mq_521, mq_73, by decide +kernel⟩
theorem mv_E_divide : pw_CalV my_E_divide := ⟨mq_519, mq_520⟩
theorem mk_E_followWithCofactors : pw_Cal my_E_followWithCofactors prog_2_method_7_code 3 none 0 := ⟨mq_534, mq_73, by decide +kernel⟩
theorem mv_E_followWithCofactors : pw_CalV my_E_followWithCofactors := ⟨mq_533, mq_13⟩
theorem mk_E_runDownTo : pw_Cal my_E_runDownTo prog_2_method_5_code 3 none 1 := ⟨mq_517, mq_73, by decide +kernel⟩
theorem mv_E_runDownTo : pw_CalV my_E_runDownTo := ⟨mq_515, mq_516⟩
theorem mk_P_copyFrom : pw_Cal my_P_copyFrom prog_7_method_5_code 2 none 1 := ⟨mq_542, mq_74, by decide +kernel⟩
theorem mv_P_copyFrom : pw_CalV my_P_copyFrom := ⟨mq_540, mq_541⟩
theorem mk_R_take : pw_Cal my_R_take prog_4_method_2_code 3 none 2 := ⟨mq_538, mq_75, by decide +kernel⟩
theorem mv_R_take : pw_CalV my_R_take := ⟨mq_536, mq_537⟩
theorem mk_P_valueAt : pw_Cal my_P_valueAt prog_7_method_7_code 5 (some .int) 2 := ⟨mq_552, mq_74, by decide +kernel⟩
theorem mv_P_valueAt : pw_CalV my_P_valueAt := ⟨mq_550, mq_551⟩
theorem mk_P_divideByRoot : pw_Cal my_P_divideByRoot prog_7_method_11_code 6 none 2 := ⟨mq_556, mq_74, by decide +kernel⟩
theorem mv_P_divideByRoot : pw_CalV my_P_divideByRoot := ⟨mq_554, mq_555⟩
theorem mk_R_cancelRoot : pw_Cal my_R_cancelRoot prog_4_method_3_code 4 none 2 := ⟨mq_548, mq_75, by decide +kernel⟩
theorem mv_R_cancelRoot : pw_CalV my_R_cancelRoot := ⟨mq_546, mq_547⟩
theorem mk_P_lowest : pw_Cal my_P_lowest prog_7_method_12_code 2 (some .int) 0 := ⟨mq_564, mq_74, by decide +kernel⟩
theorem mv_P_lowest : pw_CalV my_P_lowest := ⟨mq_562, mq_563⟩
theorem mk_P_scaleBy : pw_Cal my_P_scaleBy prog_7_method_9_code 4 none 2 := ⟨mq_569, mq_74, by decide +kernel⟩
theorem mv_P_scaleBy : pw_CalV my_P_scaleBy := ⟨mq_567, mq_568⟩
theorem mk_R_scale : pw_Cal my_R_scale prog_4_method_4_code 3 none 1 := ⟨mq_560, mq_75, by decide +kernel⟩
theorem mv_R_scale : pw_CalV my_R_scale := ⟨mq_558, mq_559⟩
theorem mk_W_approximate : pw_Cal my_W_approximate prog_1_method_47_code 4 none 3 := ⟨mq_487, mq_69, by decide +kernel⟩
theorem mv_W_approximate : pw_CalV my_W_approximate := ⟨mq_486, mq_11⟩
theorem mk_W_numeratorDegree : pw_Cal my_W_numeratorDegree prog_1_method_13_code 4 (some .int) 3 := ⟨mq_480, mq_69, by decide +kernel⟩
theorem mv_W_numeratorDegree : pw_CalV my_W_numeratorDegree := ⟨mq_478, mq_479⟩
theorem mk_W_denominatorDegree : pw_Cal my_W_denominatorDegree prog_1_method_14_code 4 (some .int) 3 := ⟨mq_574, mq_69, by decide +kernel⟩
theorem mv_W_denominatorDegree : pw_CalV my_W_denominatorDegree := ⟨mq_572, mq_573⟩
theorem mk_W_numerator : pw_Cal my_W_numerator prog_1_method_15_code 5 (some .int) 4 := ⟨mq_578, mq_69, by decide +kernel⟩
theorem mv_W_numerator : pw_CalV my_W_numerator := ⟨mq_576, mq_577⟩
theorem mk_W_denominator : pw_Cal my_W_denominator prog_1_method_16_code 5 (some .int) 4 := ⟨mq_582, mq_69, by decide +kernel⟩
theorem mv_W_denominator : pw_CalV my_W_denominator := ⟨mq_580, mq_581⟩
theorem mk_R_agreement : pw_Cal my_R_agreement prog_4_method_5_code 6 (some .int) 2 := ⟨mq_590, mq_75, by decide +kernel⟩
theorem mv_R_agreement : pw_CalV my_R_agreement := ⟨mq_588, mq_589⟩
theorem mk_W_order : pw_Cal my_W_order prog_1_method_17_code 4 (some .int) 3 := ⟨mq_586, mq_69, by decide +kernel⟩
theorem mv_W_order : pw_CalV my_W_order := ⟨mq_584, mq_585⟩
theorem mk_R_block : pw_Cal my_R_block prog_4_method_6_code 2 (some .int) 1 := ⟨mq_599, mq_75, by decide +kernel⟩
theorem mv_R_block : pw_CalV my_R_block := ⟨mq_597, mq_598⟩
theorem mk_W_blockSize : pw_Cal my_W_blockSize prog_1_method_18_code 4 (some .int) 3 := ⟨mq_595, mq_69, by decide +kernel⟩
theorem mv_W_blockSize : pw_CalV my_W_blockSize := ⟨mq_593, mq_594⟩
theorem mk_K_over : pw_Cal my_K_over prog_3_method_6_code 3 (some .int) 3 := ⟨mq_607, mq_83, by decide +kernel⟩
theorem mk_W_evaluate : pw_Cal my_W_evaluate prog_1_method_19_code 6 (some .int) 4 := ⟨mq_603, mq_69, by decide +kernel⟩
theorem mv_W_evaluate : pw_CalV my_W_evaluate := ⟨mq_601, mq_602⟩
theorem mk_W_normalCount : pw_Cal my_W_normalCount prog_1_method_20_code 5 (some .int) 2 := ⟨mq_613, mq_69, by decide +kernel⟩
theorem mv_W_normalCount : pw_CalV my_W_normalCount := ⟨mq_611, mq_612⟩
theorem mk_D_fill : pw_Cal my_D_fill prog_12_method_3_code 7 none 3 := ⟨mq_625, mq_76, by decide +kernel⟩
theorem mv_D_fill : pw_CalV my_D_fill := ⟨mq_624, mq_14⟩
theorem mk_D_pivotRow : pw_Cal my_D_pivotRow prog_12_method_4_code 4 (some .int) 2 := ⟨mq_630, mq_76, by decide +kernel⟩
theorem mv_D_pivotRow : pw_CalV my_D_pivotRow := ⟨mq_629, mq_15⟩
theorem mk_D_swapRows : pw_Cal my_D_swapRows prog_12_method_5_code 5 none 2 := ⟨mq_634, mq_76, by decide +kernel⟩
theorem mv_D_swapRows : pw_CalV my_D_swapRows := ⟨mq_633, mq_16⟩
theorem mk_D_clearBelow : pw_Cal my_D_clearBelow prog_12_method_6_code 8 none 3 := ⟨mq_640, mq_76, by decide +kernel⟩
theorem mv_D_clearBelow : pw_CalV my_D_clearBelow := ⟨mq_639, mq_17⟩
theorem mk_D_valueOf : pw_Cal my_D_valueOf prog_12_method_2_code 8 (some .int) 4 := ⟨mq_621, mq_76, by decide +kernel⟩
theorem mv_D_valueOf : pw_CalV my_D_valueOf := ⟨mq_619, mq_620⟩
theorem mk_W_determinant : pw_Cal my_W_determinant prog_1_method_21_code 4 (some .int) 3 := ⟨mq_617, mq_69, by decide +kernel⟩
theorem mv_W_determinant : pw_CalV my_W_determinant := ⟨mq_615, mq_616⟩
theorem mk_W_isSchemePlace : pw_Cal my_W_isSchemePlace prog_1_method_42_code 3 (some .boolean) 3 := ⟨mq_649, mq_69, by decide +kernel⟩
theorem mk_Q_ratio : pw_Cal my_Q_ratio prog_9_method_6_code 3 (some .int) 3 := ⟨mq_661, mq_77, by decide +kernel⟩
theorem mk_Q_firstColumns : pw_Cal my_Q_firstColumns prog_9_method_3_code 4 none 2 := ⟨mq_657, mq_77, by decide +kernel⟩
theorem mv_Q_firstColumns : pw_CalV my_Q_firstColumns := ⟨mq_656, mq_18⟩
theorem mk_Q_nextE : pw_Cal my_Q_nextE prog_9_method_4_code 4 none 1 := ⟨mq_666, mq_77, by decide +kernel⟩
theorem mv_Q_nextE : pw_CalV my_Q_nextE := ⟨mq_665, mq_19⟩
theorem mk_Q_nextQ : pw_Cal my_Q_nextQ prog_9_method_5_code 4 none 1 := ⟨mq_671, mq_77, by decide +kernel⟩
theorem mv_Q_nextQ : pw_CalV my_Q_nextQ := ⟨mq_670, mq_20⟩
theorem mk_Q_number : pw_Cal my_Q_number prog_9_method_2_code 7 (some .int) 5 := ⟨mq_653, mq_77, by decide +kernel⟩
theorem mv_Q_number : pw_CalV my_Q_number := ⟨mq_651, mq_652⟩
theorem mk_W_quotientDifference : pw_Cal my_W_quotientDifference prog_1_method_22_code 5 (some .int) 4 := ⟨mq_646, mq_69, by decide +kernel⟩
theorem mv_W_quotientDifference : pw_CalV my_W_quotientDifference := ⟨mq_644, mq_645⟩
theorem mk_W_quotientCount : pw_Cal my_W_quotientCount prog_1_method_23_code 4 (some .int) 2 := ⟨mq_676, mq_69, by decide +kernel⟩
theorem mv_W_quotientCount : pw_CalV my_W_quotientCount := ⟨mq_674, mq_675⟩
theorem mk_W_quotient : pw_Cal my_W_quotient prog_1_method_24_code 6 (some .int) 4 := ⟨mq_681, mq_69, by decide +kernel⟩
theorem mv_W_quotient : pw_CalV my_W_quotient := ⟨mq_679, mq_680⟩
theorem mk_B_gapAt : pw_Cal my_B_gapAt prog_8_method_3_code 6 (some .int) 3 := ⟨mq_694, mq_78, by decide +kernel⟩
theorem mv_B_gapAt : pw_CalV my_B_gapAt := ⟨mq_693, mq_21⟩
theorem mk_B_correct : pw_Cal my_B_correct prog_8_method_4_code 6 none 3 := ⟨mq_700, mq_78, by decide +kernel⟩
theorem mv_B_correct : pw_CalV my_B_correct := ⟨mq_699, mq_22⟩
theorem mk_B_keepOlder : pw_Cal my_B_keepOlder prog_8_method_5_code 2 none 0 := ⟨mq_705, mq_78, by decide +kernel⟩
theorem mv_B_keepOlder : pw_CalV my_B_keepOlder := ⟨mq_704, mq_23⟩
theorem mk_B_fit : pw_Cal my_B_fit prog_8_method_2_code 8 none 3 := ⟨mq_689, mq_78, by decide +kernel⟩
theorem mv_B_fit : pw_CalV my_B_fit := ⟨mq_687, mq_688⟩
theorem mk_W_complexity : pw_Cal my_W_complexity prog_1_method_25_code 3 (some .int) 2 := ⟨mq_685, mq_69, by decide +kernel⟩
theorem mv_W_complexity : pw_CalV my_W_complexity := ⟨mq_683, mq_684⟩
theorem mk_W_recurrence : pw_Cal my_W_recurrence prog_1_method_26_code 4 (some .int) 3 := ⟨mq_709, mq_69, by decide +kernel⟩
theorem mv_W_recurrence : pw_CalV my_W_recurrence := ⟨mq_707, mq_708⟩
theorem mk_Z_hasPointAt : pw_Cal my_Z_hasPointAt prog_11_method_4_code 3 (some .boolean) 1 := ⟨mq_718, mq_70, by decide +kernel⟩
theorem mv_Z_hasPointAt : pw_CalV my_Z_hasPointAt := ⟨mq_716, mq_717⟩
theorem mk_Z_putPoint : pw_Cal my_Z_putPoint prog_11_method_5_code 3 none 2 := ⟨mq_722, mq_70, by decide +kernel⟩
theorem mv_Z_putPoint : pw_CalV my_Z_putPoint := ⟨mq_720, mq_721⟩
theorem mk_W_addPoint : pw_Cal my_W_addPoint prog_1_method_27_code 3 (some .int) 2 := ⟨mq_714, mq_69, by decide +kernel⟩
theorem mv_W_addPoint : pw_CalV my_W_addPoint := ⟨mq_712, mq_713⟩
theorem mk_W_clearPoints : pw_Cal my_W_clearPoints prog_1_method_28_code 2 (some .int) 0 := ⟨mq_726, mq_69, by decide +kernel⟩
theorem mv_W_clearPoints : pw_CalV my_W_clearPoints := ⟨mq_724, mq_725⟩
theorem mk_W_isInterpolant : pw_Cal my_W_isInterpolant prog_1_method_43_code 2 (some .boolean) 1 := ⟨mq_734, mq_69, by decide +kernel⟩
theorem mv_W_isInterpolant : pw_CalV my_W_isInterpolant := ⟨mq_733, mq_24⟩
theorem mk_P_multiplyByRoot : pw_Cal my_P_multiplyByRoot prog_7_method_10_code 6 none 2 := ⟨mq_749, mq_74, by decide +kernel⟩
theorem mv_P_multiplyByRoot : pw_CalV my_P_multiplyByRoot := ⟨mq_747, mq_748⟩
theorem mk_E_startWithPoints : pw_Cal my_E_startWithPoints prog_2_method_3_code 6 none 1 := ⟨mq_742, mq_73, by decide +kernel⟩
theorem mv_E_startWithPoints : pw_CalV my_E_startWithPoints := ⟨mq_740, mq_741⟩
theorem mk_W_interpolate : pw_Cal my_W_interpolate prog_1_method_48_code 3 none 1 := ⟨mq_738, mq_69, by decide +kernel⟩
theorem mv_W_interpolate : pw_CalV my_W_interpolate := ⟨mq_737, mq_25⟩
theorem mk_W_interpolant : pw_Cal my_W_interpolant prog_1_method_29_code 4 (some .int) 3 := ⟨mq_730, mq_69, by decide +kernel⟩
theorem mv_W_interpolant : pw_CalV my_W_interpolant := ⟨mq_728, mq_729⟩
theorem mk_R_passes : pw_Cal my_R_passes prog_4_method_7_code 5 (some .boolean) 3 := ⟨mq_762, mq_75, by decide +kernel⟩
theorem mv_R_passes : pw_CalV my_R_passes := ⟨mq_760, mq_761⟩
theorem mk_W_missedPoints : pw_Cal my_W_missedPoints prog_1_method_49_code 3 (some .int) 0 := ⟨mq_758, mq_69, by decide +kernel⟩
theorem mv_W_missedPoints : pw_CalV my_W_missedPoints := ⟨mq_757, mq_26⟩
theorem mk_W_unattainable : pw_Cal my_W_unattainable prog_1_method_30_code 2 (some .int) 1 := ⟨mq_754, mq_69, by decide +kernel⟩
theorem mv_W_unattainable : pw_CalV my_W_unattainable := ⟨mq_752, mq_753⟩
theorem mk_H_giveBack : pw_Cal my_H_giveBack prog_6_method_3_code 2 none 1 := ⟨mq_771, mq_71, by decide +kernel⟩
theorem mv_H_giveBack : pw_CalV my_H_giveBack := ⟨mq_769, mq_770⟩
theorem mk_W_undo : pw_Cal my_W_undo prog_1_method_31_code 1 (some .int) 0 := ⟨mq_767, mq_69, by decide +kernel⟩
theorem mv_W_undo : pw_CalV my_W_undo := ⟨mq_765, mq_766⟩
theorem mk_W_errorCount : pw_Cal my_W_errorCount prog_1_method_32_code 2 (some .int) 1 := ⟨mq_775, mq_69, by decide +kernel⟩
theorem mv_W_errorCount : pw_CalV my_W_errorCount := ⟨mq_773, mq_774⟩
theorem mk_W_mix : pw_Cal my_W_mix prog_1_method_34_code 3 (some .long) 2 := ⟨mq_783, mq_69, by decide +kernel⟩
theorem mk_W_mixSeries : pw_Cal my_W_mixSeries prog_1_method_35_code 10 (some .long) 2 := ⟨mq_788, mq_69, by decide +kernel⟩
theorem mv_W_mixSeries : pw_CalV my_W_mixSeries := ⟨mq_787, mq_27⟩
theorem mk_W_mixPoints : pw_Cal my_W_mixPoints prog_1_method_36_code 6 (some .long) 1 := ⟨mq_792, mq_69, by decide +kernel⟩
theorem mv_W_mixPoints : pw_CalV my_W_mixPoints := ⟨mq_791, mq_28⟩
theorem mk_W_digest : pw_Cal my_W_digest prog_1_method_33_code 4 (some .long) 0 := ⟨mq_779, mq_69, by decide +kernel⟩
theorem mv_W_digest : pw_CalV my_W_digest := ⟨mq_777, mq_778⟩
theorem mk_M_init : pw_Cal my_M_init prog_14_method_1_code 1 none 0 := ⟨mq_797, mq_79, by decide +kernel⟩
theorem mk_M_in : pw_Cal my_M_in prog_14_method_2_code 3 (some .boolean) 3 := ⟨mq_869, mq_79, by decide +kernel⟩
theorem mk_M_fail : pw_Cal my_M_fail prog_14_method_3_code 2 (some .int) 1 := ⟨mq_873, mq_79, by decide +kernel⟩
theorem mv_M_fail : pw_CalV my_M_fail := ⟨mq_872, mq_29⟩
theorem mk_M_prime : pw_Cal my_M_prime prog_14_method_4_code 1 (some .int) 0 := ⟨mq_881, mq_79, by decide +kernel⟩
theorem mv_M_prime : pw_CalV my_M_prime := ⟨mq_880, mq_31⟩
theorem mk_M_mod : pw_Cal my_M_mod prog_14_method_5_code 3 (some .int) 1 := ⟨mq_904, mq_79, by decide +kernel⟩
theorem mv_M_mod : pw_CalV my_M_mod := ⟨mq_903, mq_33⟩
theorem mk_M_inverse : pw_Cal my_M_inverse prog_14_method_6_code 4 (some .int) 1 := ⟨mq_935, mq_79, by decide +kernel⟩
theorem mv_M_inverse : pw_CalV my_M_inverse := ⟨mq_934, mq_38⟩
theorem mk_M_isPrime : pw_Cal my_M_isPrime prog_14_method_7_code 3 (some .boolean) 1 := ⟨mq_866, mq_79, by decide +kernel⟩
theorem mk_M_isSlot : pw_Cal my_M_isSlot prog_14_method_8_code 1 (some .boolean) 1 := ⟨mq_888, mq_79, by decide +kernel⟩
theorem mk_M_term : pw_Cal my_M_term prog_14_method_9_code 3 (some .int) 2 := ⟨mq_892, mq_79, by decide +kernel⟩
theorem mv_M_term : pw_CalV my_M_term := ⟨mq_891, mq_32⟩
theorem mk_M_save : pw_Cal my_M_save prog_14_method_10_code 2 none 0 := ⟨mq_877, mq_79, by decide +kernel⟩
theorem mv_M_save : pw_CalV my_M_save := ⟨mq_876, mq_30⟩
theorem mk_M_setPrime : pw_Cal my_M_setPrime prog_14_method_11_code 4 (some .int) 1 := ⟨mq_863, mq_79, by decide +kernel⟩
theorem mv_M_setPrime : pw_CalV my_M_setPrime := ⟨mq_861, mq_862⟩
theorem mk_M_set : pw_Cal my_M_set prog_14_method_12_code 5 (some .int) 3 := ⟨mq_885, mq_79, by decide +kernel⟩
theorem mv_M_set : pw_CalV my_M_set := ⟨mq_883, mq_884⟩
theorem mk_M_coefficient : pw_Cal my_M_coefficient prog_14_method_13_code 3 (some .int) 2 := ⟨mq_896, mq_79, by decide +kernel⟩
theorem mv_M_coefficient : pw_CalV my_M_coefficient := ⟨mq_894, mq_895⟩
theorem mk_M_take : pw_Cal my_M_take prog_14_method_14_code 4 none 2 := ⟨mq_916, mq_79, by decide +kernel⟩
theorem mv_M_take : pw_CalV my_M_take := ⟨mq_915, mq_35⟩
theorem mk_M_clear : pw_Cal my_M_clear prog_14_method_15_code 2 none 1 := ⟨mq_927, mq_79, by decide +kernel⟩
theorem mk_M_store : pw_Cal my_M_store prog_14_method_16_code 4 (some .int) 1 := ⟨mq_908, mq_79, by decide +kernel⟩
theorem mv_M_store : pw_CalV my_M_store := ⟨mq_907, mq_34⟩
theorem mk_M_makeProduct : pw_Cal my_M_makeProduct prog_14_method_17_code 4 none 0 := ⟨mq_920, mq_79, by decide +kernel⟩
theorem mv_M_makeProduct : pw_CalV my_M_makeProduct := ⟨mq_919, mq_36⟩
theorem mk_M_makeQuotient : pw_Cal my_M_makeQuotient prog_14_method_18_code 5 none 0 := ⟨mq_931, mq_79, by decide +kernel⟩
theorem mv_M_makeQuotient : pw_CalV my_M_makeQuotient := ⟨mq_930, mq_37⟩
theorem mk_M_add : pw_Cal my_M_add prog_14_method_19_code 5 (some .int) 3 := ⟨mq_900, mq_79, by decide +kernel⟩
theorem mv_M_add : pw_CalV my_M_add := ⟨mq_898, mq_899⟩
theorem mk_M_multiply : pw_Cal my_M_multiply prog_14_method_20_code 4 (some .int) 3 := ⟨mq_912, mq_79, by decide +kernel⟩
theorem mv_M_multiply : pw_CalV my_M_multiply := ⟨mq_910, mq_911⟩
theorem mk_M_invert : pw_Cal my_M_invert prog_14_method_21_code 3 (some .int) 2 := ⟨mq_924, mq_79, by decide +kernel⟩
theorem mv_M_invert : pw_CalV my_M_invert := ⟨mq_922, mq_923⟩
theorem mk_M_substitute : pw_Cal my_M_substitute prog_14_method_22_code 6 (some .int) 3 := ⟨mq_939, mq_79, by decide +kernel⟩
theorem mv_M_substitute : pw_CalV my_M_substitute := ⟨mq_937, mq_938⟩
theorem mk_M_derivative : pw_Cal my_M_derivative prog_14_method_23_code 4 (some .int) 2 := ⟨mq_943, mq_79, by decide +kernel⟩
theorem mv_M_derivative : pw_CalV my_M_derivative := ⟨mq_941, mq_942⟩
theorem mk_M_append : pw_Cal my_M_append prog_14_method_24_code 2 (some .int) 1 := ⟨mq_947, mq_79, by decide +kernel⟩
theorem mv_M_append : pw_CalV my_M_append := ⟨mq_945, mq_946⟩
theorem mk_M_clearText : pw_Cal my_M_clearText prog_14_method_25_code 2 (some .int) 0 := ⟨mq_951, mq_79, by decide +kernel⟩
theorem mv_M_clearText : pw_CalV my_M_clearText := ⟨mq_949, mq_950⟩
theorem mk_M_here : pw_Cal my_M_here prog_14_method_26_code 1 (some .int) 0 := ⟨mq_971, mq_79, by decide +kernel⟩
theorem mv_M_here : pw_CalV my_M_here := ⟨mq_970, mq_42⟩
theorem mk_M_isDigit : pw_Cal my_M_isDigit prog_14_method_27_code 1 (some .boolean) 0 := ⟨mq_979, mq_79, by decide +kernel⟩
theorem mv_M_isDigit : pw_CalV my_M_isDigit := ⟨mq_978, mq_44⟩
theorem mk_M_skip : pw_Cal my_M_skip prog_14_method_28_code 1 none 0 := ⟨mq_967, mq_79, by decide +kernel⟩
theorem mv_M_skip : pw_CalV my_M_skip := ⟨mq_966, mq_41⟩
theorem mk_M_readExponent : pw_Cal my_M_readExponent prog_14_method_29_code 3 (some .int) 0 := ⟨mq_983, mq_79, by decide +kernel⟩
theorem mv_M_readExponent : pw_CalV my_M_readExponent := ⟨mq_982, mq_45⟩
theorem mk_M_readTerm : pw_Cal my_M_readTerm prog_14_method_30_code 6 (some .boolean) 2 := ⟨mq_975, mq_79, by decide +kernel⟩
theorem mv_M_readTerm : pw_CalV my_M_readTerm := ⟨mq_974, mq_43⟩
theorem mk_M_readPolynomial : pw_Cal my_M_readPolynomial prog_14_method_31_code 4 (some .boolean) 1 := ⟨mq_963, mq_79, by decide +kernel⟩
theorem mv_M_readPolynomial : pw_CalV my_M_readPolynomial := ⟨mq_962, mq_40⟩
theorem mk_M_readFraction : pw_Cal my_M_readFraction prog_14_method_32_code 1 (some .boolean) 0 := ⟨mq_959, mq_79, by decide +kernel⟩
theorem mv_M_readFraction : pw_CalV my_M_readFraction := ⟨mq_958, mq_39⟩
theorem mk_M_parse : pw_Cal my_M_parse prog_14_method_33_code 2 (some .int) 1 := ⟨mq_955, mq_79, by decide +kernel⟩
theorem mv_M_parse : pw_CalV my_M_parse := ⟨mq_953, mq_954⟩
theorem mk_M_exchange : pw_Cal my_M_exchange prog_14_method_34_code 5 none 2 := ⟨mq_1011, mq_79, by decide +kernel⟩
theorem mv_M_exchange : pw_CalV my_M_exchange := ⟨mq_1010, mq_51⟩
theorem mk_M_lessRow : pw_Cal my_M_lessRow prog_14_method_35_code 5 none 3 := ⟨mq_1015, mq_79, by decide +kernel⟩
theorem mv_M_lessRow : pw_CalV my_M_lessRow := ⟨mq_1014, mq_52⟩
theorem mk_M_rowWith : pw_Cal my_M_rowWith prog_14_method_36_code 5 (some .int) 3 := ⟨mq_1007, mq_79, by decide +kernel⟩
theorem mv_M_rowWith : pw_CalV my_M_rowWith := ⟨mq_1006, mq_50⟩
theorem mk_M_reduce : pw_Cal my_M_reduce prog_14_method_37_code 8 none 2 := ⟨mq_1003, mq_79, by decide +kernel⟩
theorem mv_M_reduce : pw_CalV my_M_reduce := ⟨mq_1002, mq_49⟩
theorem mk_M_findVector : pw_Cal my_M_findVector prog_14_method_38_code 5 none 2 := ⟨mq_999, mq_79, by decide +kernel⟩
theorem mv_M_findVector : pw_CalV my_M_findVector := ⟨mq_998, mq_48⟩
theorem mk_M_degree : pw_Cal my_M_degree prog_14_method_39_code 3 (some .int) 1 := ⟨mq_1022, mq_79, by decide +kernel⟩
theorem mk_M_copy : pw_Cal my_M_copy prog_14_method_40_code 3 none 2 := ⟨mq_1025, mq_79, by decide +kernel⟩
theorem mk_M_divide : pw_Cal my_M_divide prog_14_method_41_code 9 none 3 := ⟨mq_1029, mq_79, by decide +kernel⟩
theorem mv_M_divide : pw_CalV my_M_divide := ⟨mq_1028, mq_54⟩
theorem mk_M_toLowest : pw_Cal my_M_toLowest prog_14_method_42_code 4 none 0 := ⟨mq_1019, mq_79, by decide +kernel⟩
theorem mv_M_toLowest : pw_CalV my_M_toLowest := ⟨mq_1018, mq_53⟩
theorem mk_M_valueAt : pw_Cal my_M_valueAt prog_14_method_43_code 5 (some .int) 2 := ⟨mq_1069, mq_79, by decide +kernel⟩
theorem mv_M_valueAt : pw_CalV my_M_valueAt := ⟨mq_1068, mq_58⟩
theorem mk_M_isPair : pw_Cal my_M_isPair prog_14_method_44_code 4 (some .boolean) 3 := ⟨mq_991, mq_79, by decide +kernel⟩
theorem mv_M_isPair : pw_CalV my_M_isPair := ⟨mq_990, mq_46⟩
theorem mk_M_approximate : pw_Cal my_M_approximate prog_14_method_45_code 7 none 3 := ⟨mq_995, mq_79, by decide +kernel⟩
theorem mv_M_approximate : pw_CalV my_M_approximate := ⟨mq_994, mq_47⟩
theorem mk_M_orderOf : pw_Cal my_M_orderOf prog_14_method_46_code 3 (some .int) 1 := ⟨mq_1053, mq_79, by decide +kernel⟩
theorem mv_M_orderOf : pw_CalV my_M_orderOf := ⟨mq_1052, mq_56⟩
theorem mk_M_sizeOf : pw_Cal my_M_sizeOf prog_14_method_47_code 2 (some .int) 1 := ⟨mq_1061, mq_79, by decide +kernel⟩
theorem mv_M_sizeOf : pw_CalV my_M_sizeOf := ⟨mq_1060, mq_57⟩
theorem mk_M_degreeOrNone : pw_Cal my_M_degreeOrNone prog_14_method_48_code 3 (some .int) 1 := ⟨mq_1033, mq_79, by decide +kernel⟩
theorem mv_M_degreeOrNone : pw_CalV my_M_degreeOrNone := ⟨mq_1032, mq_55⟩
theorem mk_M_numeratorDegree : pw_Cal my_M_numeratorDegree prog_14_method_49_code 4 (some .int) 3 := ⟨mq_987, mq_79, by decide +kernel⟩
theorem mv_M_numeratorDegree : pw_CalV my_M_numeratorDegree := ⟨mq_985, mq_986⟩
theorem mk_M_denominatorDegree : pw_Cal my_M_denominatorDegree prog_14_method_50_code 4 (some .int) 3 := ⟨mq_1037, mq_79, by decide +kernel⟩
theorem mv_M_denominatorDegree : pw_CalV my_M_denominatorDegree := ⟨mq_1035, mq_1036⟩
theorem mk_M_numerator : pw_Cal my_M_numerator prog_14_method_51_code 5 (some .int) 4 := ⟨mq_1041, mq_79, by decide +kernel⟩
theorem mv_M_numerator : pw_CalV my_M_numerator := ⟨mq_1039, mq_1040⟩
theorem mk_M_denominator : pw_Cal my_M_denominator prog_14_method_52_code 5 (some .int) 4 := ⟨mq_1045, mq_79, by decide +kernel⟩
theorem mv_M_denominator : pw_CalV my_M_denominator := ⟨mq_1043, mq_1044⟩
theorem mk_M_order : pw_Cal my_M_order prog_14_method_53_code 4 (some .int) 3 := ⟨mq_1049, mq_79, by decide +kernel⟩
theorem mv_M_order : pw_CalV my_M_order := ⟨mq_1047, mq_1048⟩
theorem mk_M_blockSize : pw_Cal my_M_blockSize prog_14_method_54_code 4 (some .int) 3 := ⟨mq_1057, mq_79, by decide +kernel⟩
theorem mv_M_blockSize : pw_CalV my_M_blockSize := ⟨mq_1055, mq_1056⟩
theorem mk_M_evaluate : pw_Cal my_M_evaluate prog_14_method_55_code 6 (some .int) 4 := ⟨mq_1065, mq_79, by decide +kernel⟩
theorem mv_M_evaluate : pw_CalV my_M_evaluate := ⟨mq_1063, mq_1064⟩
theorem mk_M_normals : pw_Cal my_M_normals prog_14_method_56_code 5 (some .int) 2 := ⟨mq_1077, mq_79, by decide +kernel⟩
theorem mv_M_normals : pw_CalV my_M_normals := ⟨mq_1076, mq_59⟩
theorem mk_M_normalCount : pw_Cal my_M_normalCount prog_14_method_57_code 3 (some .int) 2 := ⟨mq_1073, mq_79, by decide +kernel⟩
theorem mv_M_normalCount : pw_CalV my_M_normalCount := ⟨mq_1071, mq_1072⟩
theorem mk_M_determinant : pw_Cal my_M_determinant prog_14_method_58_code 9 (some .int) 3 := ⟨mq_1081, mq_79, by decide +kernel⟩
theorem mv_M_determinant : pw_CalV my_M_determinant := ⟨mq_1079, mq_1080⟩
theorem mk_M_cell : pw_Cal my_M_cell prog_14_method_59_code 2 (some .int) 2 := ⟨mq_1092, mq_79, by decide +kernel⟩
theorem mk_M_findScheme : pw_Cal my_M_findScheme prog_14_method_60_code 7 none 1 := ⟨mq_1089, mq_79, by decide +kernel⟩
theorem mv_M_findScheme : pw_CalV my_M_findScheme := ⟨mq_1088, mq_60⟩
theorem mk_M_quotientDifference : pw_Cal my_M_quotientDifference prog_14_method_61_code 7 (some .int) 4 := ⟨mq_1085, mq_79, by decide +kernel⟩
theorem mv_M_quotientDifference : pw_CalV my_M_quotientDifference := ⟨mq_1083, mq_1084⟩
theorem mk_M_isCut : pw_Cal my_M_isCut prog_14_method_62_code 3 (some .boolean) 2 := ⟨mq_1100, mq_79, by decide +kernel⟩
theorem mv_M_isCut : pw_CalV my_M_isCut := ⟨mq_1099, mq_61⟩
theorem mk_M_findQuotients : pw_Cal my_M_findQuotients prog_14_method_63_code 5 (some .int) 3 := ⟨mq_1104, mq_79, by decide +kernel⟩
theorem mv_M_findQuotients : pw_CalV my_M_findQuotients := ⟨mq_1103, mq_62⟩
theorem mk_M_quotientCount : pw_Cal my_M_quotientCount prog_14_method_64_code 3 (some .int) 2 := ⟨mq_1096, mq_79, by decide +kernel⟩
theorem mv_M_quotientCount : pw_CalV my_M_quotientCount := ⟨mq_1094, mq_1095⟩
theorem mk_M_quotient : pw_Cal my_M_quotient prog_14_method_65_code 5 (some .int) 4 := ⟨mq_1108, mq_79, by decide +kernel⟩
theorem mv_M_quotient : pw_CalV my_M_quotient := ⟨mq_1106, mq_1107⟩
theorem mk_M_isRecurrent : pw_Cal my_M_isRecurrent prog_14_method_66_code 6 (some .boolean) 3 := ⟨mq_1120, mq_79, by decide +kernel⟩
theorem mv_M_isRecurrent : pw_CalV my_M_isRecurrent := ⟨mq_1119, mq_64⟩
theorem mk_M_complexityOf : pw_Cal my_M_complexityOf prog_14_method_67_code 4 (some .int) 2 := ⟨mq_1116, mq_79, by decide +kernel⟩
theorem mv_M_complexityOf : pw_CalV my_M_complexityOf := ⟨mq_1115, mq_63⟩
theorem mk_M_complexity : pw_Cal my_M_complexity prog_14_method_68_code 3 (some .int) 2 := ⟨mq_1112, mq_79, by decide +kernel⟩
theorem mv_M_complexity : pw_CalV my_M_complexity := ⟨mq_1110, mq_1111⟩
theorem mk_M_recurrence : pw_Cal my_M_recurrence prog_14_method_69_code 5 (some .int) 3 := ⟨mq_1124, mq_79, by decide +kernel⟩
theorem mv_M_recurrence : pw_CalV my_M_recurrence := ⟨mq_1122, mq_1123⟩
theorem mk_M_points : pw_Cal my_M_points prog_14_method_70_code 1 (some .int) 0 := ⟨mq_1132, mq_79, by decide +kernel⟩
theorem mv_M_points : pw_CalV my_M_points := ⟨mq_1131, mq_65⟩
theorem mk_M_addPoint : pw_Cal my_M_addPoint prog_14_method_71_code 4 (some .int) 2 := ⟨mq_1128, mq_79, by decide +kernel⟩
theorem mv_M_addPoint : pw_CalV my_M_addPoint := ⟨mq_1126, mq_1127⟩
theorem mk_M_clearPoints : pw_Cal my_M_clearPoints prog_14_method_72_code 3 (some .int) 0 := ⟨mq_1136, mq_79, by decide +kernel⟩
theorem mv_M_clearPoints : pw_CalV my_M_clearPoints := ⟨mq_1134, mq_1135⟩
theorem mk_M_interpolate : pw_Cal my_M_interpolate prog_14_method_73_code 6 none 1 := ⟨mq_1144, mq_79, by decide +kernel⟩
theorem mv_M_interpolate : pw_CalV my_M_interpolate := ⟨mq_1143, mq_66⟩
theorem mk_M_missed : pw_Cal my_M_missed prog_14_method_74_code 5 (some .int) 1 := ⟨mq_1152, mq_79, by decide +kernel⟩
theorem mv_M_missed : pw_CalV my_M_missed := ⟨mq_1151, mq_67⟩
theorem mk_M_interpolant : pw_Cal my_M_interpolant prog_14_method_75_code 4 (some .int) 3 := ⟨mq_1140, mq_79, by decide +kernel⟩
theorem mv_M_interpolant : pw_CalV my_M_interpolant := ⟨mq_1138, mq_1139⟩
theorem mk_M_unattainable : pw_Cal my_M_unattainable prog_14_method_76_code 2 (some .int) 1 := ⟨mq_1148, mq_79, by decide +kernel⟩
theorem mv_M_unattainable : pw_CalV my_M_unattainable := ⟨mq_1146, mq_1147⟩
theorem mk_M_undo : pw_Cal my_M_undo prog_14_method_77_code 2 (some .int) 0 := ⟨mq_1156, mq_79, by decide +kernel⟩
theorem mv_M_undo : pw_CalV my_M_undo := ⟨mq_1154, mq_1155⟩
theorem mk_M_errorCount : pw_Cal my_M_errorCount prog_14_method_78_code 2 (some .int) 1 := ⟨mq_1160, mq_79, by decide +kernel⟩
theorem mv_M_errorCount : pw_CalV my_M_errorCount := ⟨mq_1158, mq_1159⟩
theorem mk_M_digest : pw_Cal my_M_digest prog_14_method_79_code 5 (some .long) 0 := ⟨mq_1164, mq_79, by decide +kernel⟩
theorem mv_M_digest : pw_CalV my_M_digest := ⟨mq_1162, mq_1163⟩
section PWx
variable {α : Type} {X : pw_X α} {cc : ByteArray} {own : String} {rm : Room} {nL cells slots pc : Nat} {L : List (Nat × Value)} {st : List Value} {σ : pw_Sto} {F : Option (α × pw_Sto)}
theorem sp_icmp_geT (hX : pw_Ok X cc own rm nL) {x y : Int} {off : Int} (tgt : Nat) (hr : pw_R x ∧ pw_R y) (h : y ≤ x) (ht : (pc : Int) + off = (tgt : Int)) (d : decode cc pc = .ok (.if_icmp .ge off, 3)) (K : pw_Sp X cells slots tgt L st σ F) : pw_Sp X cells slots pc L (.int (iI y) :: .int (iI x) :: st) σ F := by
  have h1 := sp_icmp_ge (cells := cells) (slots := slots) (L := L) (st := st) (σ := σ) (x := x) (y := y) (G1 := F) (G2 := none) hX tgt ht d (fun _ => K) (fun q => absurd h q)
  rw [pw_ck_ok hr.1 hr.2, if_pos h] at h1
  exact h1
theorem sp_icmp_geF (hX : pw_Ok X cc own rm nL) {x y : Int} {off : Int} (hr : pw_R x ∧ pw_R y) (h : ¬ y ≤ x) (d : decode cc pc = .ok (.if_icmp .ge off, 3)) (K : pw_Sp X cells slots (pc + 3) L st σ F) : pw_Sp X cells slots pc L (.int (iI y) :: .int (iI x) :: st) σ F := by
  obtain ⟨⟨p, l, e, R, s, m, args, below, meth, c⟩, Q, ⟨b, D, c1, c2, c3⟩, out, mc, ms⟩ := X
  intro hF hN H locs ls hl hH hS
  intro T hT Y
  obtain ⟨t, a, b'⟩ := K hF hN H locs ls hl hH hS T hT Y
  refine ⟨t, ?_, b'⟩
  have hx := hX.1
  have hb := hX.2.1
  have h2 : ¬ iI y ≤ iI x := mt (iI_le hr.2 hr.1).mp h
  dsimp only at hx hb
  jvm_step Y.here [Y.here.top, hx, hb, d, Op.if_icmp.holds, h2, pw_tr]
  exact a
end PWx

