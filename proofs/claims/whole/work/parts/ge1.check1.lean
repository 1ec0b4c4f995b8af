/-! THE TABLES pass their checks -/
set_option maxRecDepth 100000 in
theorem tn_0 : tx_chkM lw_tbl "ContentRulesModel" tm_0 = true := by decide +kernel
set_option maxRecDepth 100000 in
theorem tn_1 : tx_chkM lw_tbl "ContentRulesModel" tm_1 = true := by decide +kernel
set_option maxRecDepth 100000 in
theorem tn_2 : tx_chkM lw_tbl "ContentRulesModel" tm_2 = true := by decide +kernel
set_option maxRecDepth 100000 in
theorem tn_3 : tx_chkM lw_tbl "ContentRulesModel" tm_3 = true := by decide +kernel
set_option maxRecDepth 100000 in
theorem tn_4 : tx_chkM lw_tbl "ContentRulesModel" tm_4 = true := by decide +kernel
set_option maxRecDepth 100000 in
theorem tn_5 : tx_chkM lw_tbl "ContentRulesModel" tm_5 = true := by decide +kernel
set_option maxRecDepth 100000 in
theorem tn_6 : tx_chkM lw_tbl "ContentRulesModel" tm_6 = true := by decide +kernel
set_option maxRecDepth 100000 in
theorem tn_7 : tx_chkM lw_tbl "ContentRulesModel" tm_7 = true := by decide +kernel
set_option maxRecDepth 100000 in
theorem tn_8 : tx_chkM lw_tbl "ContentRulesModel" tm_8 = true := by decide +kernel
set_option maxRecDepth 100000 in
theorem tn_9 : tx_chkM lw_tbl "ContentRulesModel" tm_9 = true := by decide +kernel
set_option maxRecDepth 100000 in
theorem tn_10 : tx_chkM lw_tbl "ContentRulesModel" tm_10 = true := by decide +kernel
set_option maxRecDepth 100000 in
theorem tn_11 : tx_chkM lw_tbl "ContentRulesModel" tm_11 = true := by decide +kernel
set_option maxRecDepth 100000 in
theorem tn_12 : tx_chkM lw_tbl "ContentRulesModel" tm_12 = true := by decide +kernel
set_option maxRecDepth 100000 in
theorem tn_13 : tx_chkM lw_tbl "ContentRulesModel" tm_13 = true := by decide +kernel
set_option maxRecDepth 100000 in
theorem tn_14 : tx_chkM lw_tbl "ContentRulesModel" tm_14 = true := by decide +kernel
set_option maxRecDepth 100000 in
theorem tn_15 : tx_chkM lw_tbl "ContentRulesModel" tm_15 = true := by decide +kernel
set_option maxRecDepth 100000 in
theorem tn_16 : tx_chkM lw_tbl "ContentRulesModel" tm_16 = true := by decide +kernel
set_option maxRecDepth 100000 in
theorem tn_17 : tx_chkM lw_tbl "ContentRulesModel" tm_17 = true := by decide +kernel
set_option maxRecDepth 100000 in
theorem tn_18 : tx_chkM lw_tbl "ContentRulesModel" tm_18 = true := by decide +kernel
set_option maxRecDepth 100000 in
theorem tn_19 : tx_chkM lw_tbl "ContentRulesModel" tm_19 = true := by decide +kernel
set_option maxRecDepth 100000 in
theorem tn_20 : tx_chkM lw_tbl "ContentRulesModel" tm_20 = true := by decide +kernel
set_option maxRecDepth 100000 in
theorem tn_21 : tx_chkM lw_tbl "ContentRulesModel" tm_21 = true := by decide +kernel
set_option maxRecDepth 100000 in
theorem tn_22 : tx_chkM lw_tbl "ContentRulesModel" tm_22 = true := by decide +kernel
set_option maxRecDepth 100000 in
theorem tn_23 : tx_chkM lw_tbl "ContentRulesModel" tm_23 = true := by decide +kernel
set_option maxRecDepth 100000 in
theorem tn_24 : tx_chkM lw_tbl "ContentRulesModel" tm_24 = true := by decide +kernel
set_option maxRecDepth 100000 in
theorem tn_25 : tx_chkM lw_tbl "ContentRulesModel" tm_25 = true := by decide +kernel
set_option maxRecDepth 100000 in
theorem tn_26 : tx_chkM lw_tbl "ContentRulesModel" tm_26 = true := by decide +kernel
set_option maxRecDepth 100000 in
theorem tn_27 : tx_chkM lw_tbl "ContentRulesModel" tm_27 = true := by decide +kernel
set_option maxRecDepth 100000 in
theorem tn_28 : tx_chkM lw_tbl "ContentRulesModel" tm_28 = true := by decide +kernel
set_option maxRecDepth 100000 in
theorem tn_29 : tx_chkM lw_tbl "ContentRulesModel" tm_29 = true := by decide +kernel
set_option maxRecDepth 100000 in
theorem tn_30 : tx_chkM lw_tbl "ContentRulesModel" tm_30 = true := by decide +kernel
set_option maxRecDepth 100000 in
theorem tn_31 : tx_chkM lw_tbl "ContentRulesModel" tm_31 = true := by decide +kernel
set_option maxRecDepth 100000 in
theorem tn_32 : tx_chkM lw_tbl "ContentRulesModel" tm_32 = true := by decide +kernel
set_option maxRecDepth 100000 in
theorem tn_33 : tx_chkM lw_tbl "ContentRulesModel" tm_33 = true := by decide +kernel
set_option maxRecDepth 100000 in
theorem tn_34 : tx_chkM lw_tbl "ContentRulesModel" tm_34 = true := by decide +kernel
set_option maxRecDepth 100000 in
theorem tn_35 : tx_chkM lw_tbl "ContentRulesModel" tm_35 = true := by decide +kernel
set_option maxRecDepth 100000 in
theorem tn_36 : tx_chkM lw_tbl "ContentRulesModel" tm_36 = true := by decide +kernel
set_option maxRecDepth 100000 in
theorem tn_37 : tx_chkM lw_tbl "ContentRulesModel" tm_37 = true := by decide +kernel
set_option maxRecDepth 100000 in
theorem tn_38 : tx_chkM lw_tbl "ContentRulesModel" tm_38 = true := by decide +kernel
set_option maxRecDepth 100000 in
theorem tn_39 : tx_chkM lw_tbl "ContentRulesModel" tm_39 = true := by decide +kernel
set_option maxRecDepth 100000 in
theorem tn_40 : tx_chkM lw_tbl "ContentRulesModel" tm_40 = true := by decide +kernel
set_option maxRecDepth 100000 in
theorem tn_41 : tx_chkM lw_tbl "ContentRulesModel" tm_41 = true := by decide +kernel
set_option maxRecDepth 100000 in
theorem tn_42 : tx_chkM lw_tbl "ContentRulesModel" tm_42 = true := by decide +kernel
set_option maxRecDepth 100000 in
theorem tn_43 : tx_chkM lw_tbl "ContentRulesModel" tm_43 = true := by decide +kernel
set_option maxRecDepth 100000 in
theorem tn_44 : tx_chkM lw_tbl "ContentRulesModel" tm_44 = true := by decide +kernel
set_option maxRecDepth 100000 in
theorem tn_45 : tx_chkM lw_tbl "ContentRulesModel" tm_45 = true := by decide +kernel
set_option maxRecDepth 100000 in
theorem tn_46 : tx_chkM lw_tbl "ContentRulesModel" tm_46 = true := by decide +kernel
set_option maxRecDepth 100000 in
theorem tn_47 : tx_chkM lw_tbl "ContentRulesModel" tm_47 = true := by decide +kernel
set_option maxRecDepth 100000 in
theorem tn_48 : tx_chkM lw_tbl "ContentRulesModel" tm_48 = true := by decide +kernel
set_option maxRecDepth 100000 in
theorem tn_49 : tx_chkM lw_tbl "ContentRulesModel" tm_49 = true := by decide +kernel
set_option maxRecDepth 100000 in
theorem tn_50 : tx_chkM lw_tbl "ContentRulesModel" tm_50 = true := by decide +kernel
set_option maxRecDepth 100000 in
theorem tn_51 : tx_chkM lw_tbl "ContentRulesModel" tm_51 = true := by decide +kernel
set_option maxRecDepth 100000 in
theorem tn_52 : tx_chkM lw_tbl "ContentRulesModel" tm_52 = true := by decide +kernel
set_option maxRecDepth 100000 in
theorem tn_53 : tx_chkM lw_tbl "ContentRulesModel" tm_53 = true := by decide +kernel
set_option maxRecDepth 100000 in
theorem tn_54 : tx_chkM lw_tbl "ContentRulesModel" tm_54 = true := by decide +kernel
set_option maxRecDepth 100000 in
theorem tn_55 : tx_chkM lw_tbl "ContentRulesModel" tm_55 = true := by decide +kernel
set_option maxRecDepth 100000 in
theorem tn_56 : tx_chkM lw_tbl "ContentRulesModel" tm_56 = true := by decide +kernel
set_option maxRecDepth 100000 in
theorem tn_57 : tx_chkM lw_tbl "ContentRulesModel" tm_57 = true := by decide +kernel
set_option maxRecDepth 100000 in
theorem tn_58 : tx_chkM lw_tbl "ContentRulesModel" tm_58 = true := by decide +kernel
set_option maxRecDepth 100000 in
theorem tn_59 : tx_chkM lw_tbl "ContentRulesModel" tm_59 = true := by decide +kernel
set_option maxRecDepth 100000 in
theorem tn_60 : tx_chkM lw_tbl "ContentRulesModel" tm_60 = true := by decide +kernel
set_option maxRecDepth 100000 in
theorem tn_61 : tx_chkM lw_tbl "ContentRulesModel" tm_61 = true := by decide +kernel
set_option maxRecDepth 100000 in
theorem tn_62 : tx_chkM lw_tbl "ContentRulesModel" tm_62 = true := by decide +kernel
set_option maxRecDepth 100000 in
theorem tn_63 : tx_chkM lw_tbl "ContentRulesModel" tm_63 = true := by decide +kernel
set_option maxRecDepth 100000 in
theorem tn_64 : tx_chkM lw_tbl "ContentRulesModel" tm_64 = true := by decide +kernel
set_option maxRecDepth 100000 in
theorem tn_65 : tx_chkM lw_tbl "ContentRulesModel" tm_65 = true := by decide +kernel
set_option maxRecDepth 100000 in
theorem tn_66 : tx_chkM lw_tbl "ContentRulesModel" tm_66 = true := by decide +kernel
set_option maxRecDepth 100000 in
theorem tn_67 : tx_chkM lw_tbl "ContentRulesModel" tm_67 = true := by decide +kernel
set_option maxRecDepth 100000 in
theorem tn_68 : tx_chkM lw_tbl "ContentRulesModel" tm_68 = true := by decide +kernel
set_option maxRecDepth 100000 in
theorem tn_69 : tx_chkM lw_tbl "ContentRulesModel" tm_69 = true := by decide +kernel
set_option maxRecDepth 100000 in
theorem tn_70 : tx_chkM lw_tbl "ContentRulesModel" tm_70 = true := by decide +kernel
set_option maxRecDepth 100000 in
theorem tn_71 : tx_chkM lw_tbl "ContentRulesModel" tm_71 = true := by decide +kernel
set_option maxRecDepth 100000 in
theorem tn_72 : tx_chkM lw_tbl "ContentRulesModel" tm_72 = true := by decide +kernel
set_option maxRecDepth 100000 in
theorem tn_73 : tx_chkM lw_tbl "ContentRulesModel" tm_73 = true := by decide +kernel
set_option maxRecDepth 100000 in
theorem tn_74 : tx_chkM lw_tbl "ContentRulesModel" tm_74 = true := by decide +kernel
set_option maxRecDepth 100000 in
theorem tn_75 : tx_chkM lw_tbl "ContentRulesModel" tm_75 = true := by decide +kernel
set_option maxRecDepth 100000 in
theorem tn_76 : tx_chkM lw_tbl "ContentRulesModel" tm_76 = true := by decide +kernel
set_option maxRecDepth 100000 in
theorem tn_77 : tx_chkM lw_tbl "ContentRulesModel" tm_77 = true := by decide +kernel
set_option maxRecDepth 100000 in
theorem tn_78 : tx_chkM lw_tbl "ContentRulesModel" tm_78 = true := by decide +kernel
set_option maxRecDepth 100000 in
theorem tn_79 : tx_chkM lw_tbl "ContentRulesModel" tm_79 = true := by decide +kernel
