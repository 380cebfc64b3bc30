set_option maxRecDepth 40000 in
theorem okL_law_0 : kL_law_0.all (dmCk mL_law) = true := by decide +kernel
set_option maxRecDepth 40000 in
theorem okL_law_1 : kL_law_1.all (dmCk mL_law) = true := by decide +kernel
set_option maxRecDepth 40000 in
theorem okL_law_2 : kL_law_2.all (dmCk mL_law) = true := by decide +kernel
set_option maxRecDepth 40000 in
theorem okL_law_3 : kL_law_3.all (dmCk mL_law) = true := by decide +kernel
set_option maxRecDepth 40000 in
theorem okL_law_4 : kL_law_4.all (dmCk mL_law) = true := by decide +kernel
set_option maxRecDepth 40000 in
theorem okL_law_5 : kL_law_5.all (dmCk mL_law) = true := by decide +kernel
set_option maxRecDepth 40000 in
theorem okL_law_6 : kL_law_6.all (dmCk mL_law) = true := by decide +kernel
set_option maxRecDepth 40000 in
theorem okL_law_7 : kL_law_7.all (dmCk mL_law) = true := by decide +kernel
set_option maxRecDepth 40000 in
theorem okL_law_8 : kL_law_8.all (dmCk mL_law) = true := by decide +kernel
set_option maxRecDepth 40000 in
theorem okL_law_9 : kL_law_9.all (dmCk mL_law) = true := by decide +kernel
set_option maxRecDepth 40000 in
theorem okL_law_10 : kL_law_10.all (dmCk mL_law) = true := by decide +kernel
set_option maxRecDepth 40000 in
theorem okL_law_11 : kL_law_11.all (dmCk mL_law) = true := by decide +kernel
set_option maxRecDepth 40000 in
theorem okL_law_12 : kL_law_12.all (dmCk mL_law) = true := by decide +kernel
set_option maxRecDepth 40000 in
theorem okL_law_13 : kL_law_13.all (dmCk mL_law) = true := by decide +kernel
set_option maxRecDepth 40000 in
theorem okL_law_14 : kL_law_14.all (dmCk mL_law) = true := by decide +kernel
set_option maxRecDepth 40000 in
theorem okL_law_15 : kL_law_15.all (dmCk mL_law) = true := by decide +kernel
set_option maxRecDepth 40000 in
theorem okL_law_16 : kL_law_16.all (dmCk mL_law) = true := by decide +kernel
set_option maxRecDepth 40000 in
theorem okL_law_17 : kL_law_17.all (dmCk mL_law) = true := by decide +kernel
set_option maxRecDepth 40000 in
theorem okL_law_18 : kL_law_18.all (dmCk mL_law) = true := by decide +kernel
set_option maxRecDepth 40000 in
theorem okL_law_19 : kL_law_19.all (dmCk mL_law) = true := by decide +kernel
set_option maxRecDepth 40000 in
theorem okL_law_20 : kL_law_20.all (dmCk mL_law) = true := by decide +kernel
set_option maxRecDepth 40000 in
theorem okL_law_21 : kL_law_21.all (dmCk mL_law) = true := by decide +kernel
set_option maxRecDepth 40000 in
theorem okL_law_22 : kL_law_22.all (dmCk mL_law) = true := by decide +kernel
set_option maxRecDepth 40000 in
theorem okL_law_23 : kL_law_23.all (dmCk mL_law) = true := by decide +kernel
set_option maxRecDepth 40000 in
theorem okL_law_24 : kL_law_24.all (dmCk mL_law) = true := by decide +kernel
set_option maxRecDepth 40000 in
theorem okL_law_25 : kL_law_25.all (dmCk mL_law) = true := by decide +kernel
set_option maxRecDepth 40000 in
theorem okL_law_26 : kL_law_26.all (dmCk mL_law) = true := by decide +kernel
set_option maxRecDepth 40000 in
theorem okL_law_27 : kL_law_27.all (dmCk mL_law) = true := by decide +kernel
set_option maxRecDepth 40000 in
theorem okL_law_28 : kL_law_28.all (dmCk mL_law) = true := by decide +kernel
set_option maxRecDepth 40000 in
theorem okL_law_29 : kL_law_29.all (dmCk mL_law) = true := by decide +kernel
set_option maxRecDepth 40000 in
theorem okL_law_30 : kL_law_30.all (dmCk mL_law) = true := by decide +kernel
set_option maxRecDepth 40000 in
theorem okL_law_31 : kL_law_31.all (dmCk mL_law) = true := by decide +kernel
set_option maxRecDepth 40000 in
theorem okL_law_32 : kL_law_32.all (dmCk mL_law) = true := by decide +kernel
set_option maxRecDepth 40000 in
theorem okL_law_33 : kL_law_33.all (dmCk mL_law) = true := by decide +kernel
set_option maxRecDepth 40000 in
theorem okL_law_34 : kL_law_34.all (dmCk mL_law) = true := by decide +kernel
set_option maxRecDepth 40000 in
theorem okL_law_35 : kL_law_35.all (dmCk mL_law) = true := by decide +kernel
set_option maxRecDepth 40000 in
theorem okL_law_36 : kL_law_36.all (dmCk mL_law) = true := by decide +kernel
set_option maxRecDepth 40000 in
theorem okL_law_37 : kL_law_37.all (dmCk mL_law) = true := by decide +kernel
set_option maxRecDepth 40000 in
theorem okL_law_38 : kL_law_38.all (dmCk mL_law) = true := by decide +kernel
set_option maxRecDepth 40000 in
theorem okL_law_39 : kL_law_39.all (dmCk mL_law) = true := by decide +kernel
set_option maxRecDepth 40000 in
theorem okL_law_40 : kL_law_40.all (dmCk mL_law) = true := by decide +kernel
set_option maxRecDepth 40000 in
theorem okL_law_41 : kL_law_41.all (dmCk mL_law) = true := by decide +kernel
set_option maxRecDepth 40000 in
theorem okL_law_42 : kL_law_42.all (dmCk mL_law) = true := by decide +kernel
set_option maxRecDepth 40000 in
theorem okL_law_43 : kL_law_43.all (dmCk mL_law) = true := by decide +kernel
set_option maxRecDepth 40000 in
theorem okL_law_44 : kL_law_44.all (dmCk mL_law) = true := by decide +kernel
set_option maxRecDepth 40000 in
theorem okL_law_45 : kL_law_45.all (dmCk mL_law) = true := by decide +kernel
set_option maxRecDepth 40000 in
theorem okL_law_46 : kL_law_46.all (dmCk mL_law) = true := by decide +kernel
set_option maxRecDepth 40000 in
theorem okL_law_47 : kL_law_47.all (dmCk mL_law) = true := by decide +kernel
set_option maxRecDepth 40000 in
theorem okL_law_48 : kL_law_48.all (dmCk mL_law) = true := by decide +kernel
set_option maxRecDepth 40000 in
theorem okL_law_49 : kL_law_49.all (dmCk mL_law) = true := by decide +kernel
set_option maxRecDepth 40000 in
theorem okL_law_50 : kL_law_50.all (dmCk mL_law) = true := by decide +kernel
set_option maxRecDepth 40000 in
theorem okL_law_51 : kL_law_51.all (dmCk mL_law) = true := by decide +kernel
set_option maxRecDepth 40000 in
theorem okL_law_52 : kL_law_52.all (dmCk mL_law) = true := by decide +kernel
set_option maxRecDepth 40000 in
theorem okL_law_53 : kL_law_53.all (dmCk mL_law) = true := by decide +kernel
set_option maxRecDepth 40000 in
theorem okL_law_54 : kL_law_54.all (dmCk mL_law) = true := by decide +kernel
set_option maxRecDepth 40000 in
theorem okL_law_55 : kL_law_55.all (dmCk mL_law) = true := by decide +kernel
set_option maxRecDepth 40000 in
theorem okL_law_56 : kL_law_56.all (dmCk mL_law) = true := by decide +kernel
set_option maxRecDepth 40000 in
theorem okL_law_57 : kL_law_57.all (dmCk mL_law) = true := by decide +kernel
set_option maxRecDepth 40000 in
theorem okL_law_58 : kL_law_58.all (dmCk mL_law) = true := by decide +kernel
set_option maxRecDepth 40000 in
theorem okL_law_59 : kL_law_59.all (dmCk mL_law) = true := by decide +kernel
set_option maxRecDepth 40000 in
theorem okL_law_60 : kL_law_60.all (dmCk mL_law) = true := by decide +kernel
set_option maxRecDepth 40000 in
theorem okL_law_61 : kL_law_61.all (dmCk mL_law) = true := by decide +kernel
set_option maxRecDepth 40000 in
theorem okL_law_62 : kL_law_62.all (dmCk mL_law) = true := by decide +kernel
set_option maxRecDepth 40000 in
theorem okL_law_63 : kL_law_63.all (dmCk mL_law) = true := by decide +kernel
set_option maxRecDepth 40000 in
theorem okL_law_64 : kL_law_64.all (dmCk mL_law) = true := by decide +kernel
set_option maxRecDepth 40000 in
theorem okL_law_65 : kL_law_65.all (dmCk mL_law) = true := by decide +kernel
set_option maxRecDepth 40000 in
theorem okL_law_66 : kL_law_66.all (dmCk mL_law) = true := by decide +kernel
set_option maxRecDepth 40000 in
theorem okL_law_67 : kL_law_67.all (dmCk mL_law) = true := by decide +kernel
set_option maxRecDepth 40000 in
theorem okL_law_68 : kL_law_68.all (dmCk mL_law) = true := by decide +kernel
set_option maxRecDepth 40000 in
theorem okL_law_69 : kL_law_69.all (dmCk mL_law) = true := by decide +kernel
set_option maxRecDepth 40000 in
theorem okL_law_70 : kL_law_70.all (dmCk mL_law) = true := by decide +kernel
set_option maxRecDepth 40000 in
theorem okL_law_71 : kL_law_71.all (dmCk mL_law) = true := by decide +kernel
set_option maxRecDepth 40000 in
theorem okL_law_72 : kL_law_72.all (dmCk mL_law) = true := by decide +kernel
set_option maxRecDepth 40000 in
theorem okL_law_73 : kL_law_73.all (dmCk mL_law) = true := by decide +kernel
set_option maxRecDepth 40000 in
theorem okL_law_74 : kL_law_74.all (dmCk mL_law) = true := by decide +kernel
set_option maxRecDepth 40000 in
theorem okL_law_75 : kL_law_75.all (dmCk mL_law) = true := by decide +kernel
set_option maxRecDepth 40000 in
theorem okL_law_76 : kL_law_76.all (dmCk mL_law) = true := by decide +kernel
set_option maxRecDepth 40000 in
theorem okL_law_77 : kL_law_77.all (dmCk mL_law) = true := by decide +kernel
theorem okL_law : dmOK mL_law = true := by
  show (kL_law.all (fun bl => bl.all (dmCk mL_law))) = true
  simp only [kL_law, List.all_cons, List.all_nil, Bool.and_true, Bool.and_self, okL_law_0, okL_law_1, okL_law_2, okL_law_3, okL_law_4, okL_law_5, okL_law_6, okL_law_7, okL_law_8, okL_law_9, okL_law_10, okL_law_11, okL_law_12, okL_law_13, okL_law_14, okL_law_15, okL_law_16, okL_law_17, okL_law_18, okL_law_19, okL_law_20, okL_law_21, okL_law_22, okL_law_23, okL_law_24, okL_law_25, okL_law_26, okL_law_27, okL_law_28, okL_law_29, okL_law_30, okL_law_31, okL_law_32, okL_law_33, okL_law_34, okL_law_35, okL_law_36, okL_law_37, okL_law_38, okL_law_39, okL_law_40, okL_law_41, okL_law_42, okL_law_43, okL_law_44, okL_law_45, okL_law_46, okL_law_47, okL_law_48, okL_law_49, okL_law_50, okL_law_51, okL_law_52, okL_law_53, okL_law_54, okL_law_55, okL_law_56, okL_law_57, okL_law_58, okL_law_59, okL_law_60, okL_law_61, okL_law_62, okL_law_63, okL_law_64, okL_law_65, okL_law_66, okL_law_67, okL_law_68, okL_law_69, okL_law_70, okL_law_71, okL_law_72, okL_law_73, okL_law_74, okL_law_75, okL_law_76, okL_law_77]
