theorem ckL_law_0 : (qL_law_0 []).all (ceB mL_law) = true := by decide +kernel
theorem ckL_law_1 : (qL_law_1 []).all (ceB mL_law) = true := by decide +kernel
theorem ckL_law_2 : (qL_law_2 []).all (ceB mL_law) = true := by decide +kernel
theorem ckL_law_3 : (qL_law_3 []).all (ceB mL_law) = true := by decide +kernel
theorem ckL_law_4 : (qL_law_4 []).all (ceB mL_law) = true := by decide +kernel
theorem ckL_law_5 : (qL_law_5 []).all (ceB mL_law) = true := by decide +kernel
theorem ckL_law_6 : (qL_law_6 []).all (ceB mL_law) = true := by decide +kernel
theorem ckL_law_7 : (qL_law_7 []).all (ceB mL_law) = true := by decide +kernel
theorem ckL_law_8 : (qL_law_8 []).all (ceB mL_law) = true := by decide +kernel
theorem ckL_law_9 : (qL_law_9 []).all (ceB mL_law) = true := by decide +kernel
theorem ckL_law_10 : (qL_law_10 []).all (ceB mL_law) = true := by decide +kernel
theorem ckL_law_11 : (qL_law_11 []).all (ceB mL_law) = true := by decide +kernel
theorem ckL_law_12 : (qL_law_12 []).all (ceB mL_law) = true := by decide +kernel
theorem ckL_law_13 : (qL_law_13 []).all (ceB mL_law) = true := by decide +kernel
theorem ckL_law_14 : (qL_law_14 []).all (ceB mL_law) = true := by decide +kernel
theorem ckL_law_15 : (qL_law_15 []).all (ceB mL_law) = true := by decide +kernel
theorem ckL_law_16 : (qL_law_16 []).all (ceB mL_law) = true := by decide +kernel
theorem ckL_law_17 : (qL_law_17 []).all (ceB mL_law) = true := by decide +kernel
theorem ckL_law_18 : (qL_law_18 []).all (ceB mL_law) = true := by decide +kernel
theorem ckL_law_19 : (qL_law_19 []).all (ceB mL_law) = true := by decide +kernel
theorem ckL_law_20 : (qL_law_20 []).all (ceB mL_law) = true := by decide +kernel
theorem ckL_law_21 : (qL_law_21 []).all (ceB mL_law) = true := by decide +kernel
theorem qaL_law_0 (r : List CE) : qL_law_0 r = qL_law_0 [] ++ r := rfl
theorem qaL_law_1 (r : List CE) : qL_law_1 r = qL_law_1 [] ++ r := rfl
theorem qaL_law_2 (r : List CE) : qL_law_2 r = qL_law_2 [] ++ r := rfl
theorem qaL_law_3 (r : List CE) : qL_law_3 r = qL_law_3 [] ++ r := rfl
theorem qaL_law_4 (r : List CE) : qL_law_4 r = qL_law_4 [] ++ r := rfl
theorem qaL_law_5 (r : List CE) : qL_law_5 r = qL_law_5 [] ++ r := rfl
theorem qaL_law_6 (r : List CE) : qL_law_6 r = qL_law_6 [] ++ r := rfl
theorem qaL_law_7 (r : List CE) : qL_law_7 r = qL_law_7 [] ++ r := rfl
theorem qaL_law_8 (r : List CE) : qL_law_8 r = qL_law_8 [] ++ r := rfl
theorem qaL_law_9 (r : List CE) : qL_law_9 r = qL_law_9 [] ++ r := rfl
theorem qaL_law_10 (r : List CE) : qL_law_10 r = qL_law_10 [] ++ r := rfl
theorem qaL_law_11 (r : List CE) : qL_law_11 r = qL_law_11 [] ++ r := rfl
theorem qaL_law_12 (r : List CE) : qL_law_12 r = qL_law_12 [] ++ r := rfl
theorem qaL_law_13 (r : List CE) : qL_law_13 r = qL_law_13 [] ++ r := rfl
theorem qaL_law_14 (r : List CE) : qL_law_14 r = qL_law_14 [] ++ r := rfl
theorem qaL_law_15 (r : List CE) : qL_law_15 r = qL_law_15 [] ++ r := rfl
theorem qaL_law_16 (r : List CE) : qL_law_16 r = qL_law_16 [] ++ r := rfl
theorem qaL_law_17 (r : List CE) : qL_law_17 r = qL_law_17 [] ++ r := rfl
theorem qaL_law_18 (r : List CE) : qL_law_18 r = qL_law_18 [] ++ r := rfl
theorem qaL_law_19 (r : List CE) : qL_law_19 r = qL_law_19 [] ++ r := rfl
theorem qaL_law_20 (r : List CE) : qL_law_20 r = qL_law_20 [] ++ r := rfl
theorem ckL_law : mL_law.2.1.all (ceB mL_law) = true := by
  show (qL_law_0 (qL_law_1 (qL_law_2 (qL_law_3 (qL_law_4 (qL_law_5 (qL_law_6 (qL_law_7 (qL_law_8 (qL_law_9 (qL_law_10 (qL_law_11 (qL_law_12 (qL_law_13 (qL_law_14 (qL_law_15 (qL_law_16 (qL_law_17 (qL_law_18 (qL_law_19 (qL_law_20 (qL_law_21 [])))))))))))))))))))))).all (ceB mL_law) = true
  rw [qaL_law_0, List.all_append, ckL_law_0, Bool.true_and, qaL_law_1, List.all_append, ckL_law_1, Bool.true_and, qaL_law_2, List.all_append, ckL_law_2, Bool.true_and, qaL_law_3, List.all_append, ckL_law_3, Bool.true_and, qaL_law_4, List.all_append, ckL_law_4, Bool.true_and, qaL_law_5, List.all_append, ckL_law_5, Bool.true_and, qaL_law_6, List.all_append, ckL_law_6, Bool.true_and, qaL_law_7, List.all_append, ckL_law_7, Bool.true_and, qaL_law_8, List.all_append, ckL_law_8, Bool.true_and, qaL_law_9, List.all_append, ckL_law_9, Bool.true_and, qaL_law_10, List.all_append, ckL_law_10, Bool.true_and, qaL_law_11, List.all_append, ckL_law_11, Bool.true_and, qaL_law_12, List.all_append, ckL_law_12, Bool.true_and, qaL_law_13, List.all_append, ckL_law_13, Bool.true_and, qaL_law_14, List.all_append, ckL_law_14, Bool.true_and, qaL_law_15, List.all_append, ckL_law_15, Bool.true_and, qaL_law_16, List.all_append, ckL_law_16, Bool.true_and, qaL_law_17, List.all_append, ckL_law_17, Bool.true_and, qaL_law_18, List.all_append, ckL_law_18, Bool.true_and, qaL_law_19, List.all_append, ckL_law_19, Bool.true_and, qaL_law_20, List.all_append, ckL_law_20, Bool.true_and]
  exact ckL_law_21
