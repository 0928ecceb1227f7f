/-! The tables hold: decided by the kernel. -/
set_option maxRecDepth 100000 in
theorem ck_0 : (chkM 0 && chkR 0 && (List.range (cln 0)).all (fun pc => chkP 0 pc)) = true := by decide +kernel
set_option maxRecDepth 100000 in
theorem ck_1 : (chkM 1 && chkR 1 && (List.range (cln 1)).all (fun pc => chkP 1 pc)) = true := by decide +kernel
set_option maxRecDepth 100000 in
theorem ck_2 : (chkM 2 && chkR 2 && (List.range (cln 2)).all (fun pc => chkP 2 pc)) = true := by decide +kernel
set_option maxRecDepth 100000 in
theorem ck_3 : (chkM 3 && chkR 3 && (List.range (cln 3)).all (fun pc => chkP 3 pc)) = true := by decide +kernel
set_option maxRecDepth 100000 in
theorem ck_4 : (chkM 4 && chkR 4 && (List.range (cln 4)).all (fun pc => chkP 4 pc)) = true := by decide +kernel
set_option maxRecDepth 100000 in
theorem ck_5 : (chkM 5 && chkR 5 && (List.range (cln 5)).all (fun pc => chkP 5 pc)) = true := by decide +kernel
set_option maxRecDepth 100000 in
theorem ck_6 : (chkM 6 && chkR 6 && (List.range (cln 6)).all (fun pc => chkP 6 pc)) = true := by decide +kernel
set_option maxRecDepth 100000 in
theorem ck_7 : (chkM 7 && chkR 7 && (List.range (cln 7)).all (fun pc => chkP 7 pc)) = true := by decide +kernel
set_option maxRecDepth 100000 in
theorem ck_8 : (chkM 8 && chkR 8 && (List.range (cln 8)).all (fun pc => chkP 8 pc)) = true := by decide +kernel
set_option maxRecDepth 100000 in
theorem ck_9 : (chkM 9 && chkR 9 && (List.range (cln 9)).all (fun pc => chkP 9 pc)) = true := by decide +kernel
set_option maxRecDepth 100000 in
theorem ck_10 : (chkM 10 && chkR 10 && (List.range (cln 10)).all (fun pc => chkP 10 pc)) = true := by decide +kernel
set_option maxRecDepth 100000 in
theorem ck_11 : (chkM 11 && chkR 11 && (List.range (cln 11)).all (fun pc => chkP 11 pc)) = true := by decide +kernel
set_option maxRecDepth 100000 in
theorem ck_12 : (chkM 12 && chkR 12 && (List.range (cln 12)).all (fun pc => chkP 12 pc)) = true := by decide +kernel
set_option maxRecDepth 100000 in
theorem ck_13 : (chkM 13 && chkR 13 && (List.range (cln 13)).all (fun pc => chkP 13 pc)) = true := by decide +kernel
set_option maxRecDepth 100000 in
theorem ck_14 : (chkM 14 && chkR 14 && (List.range (cln 14)).all (fun pc => chkP 14 pc)) = true := by decide +kernel
set_option maxRecDepth 100000 in
theorem ck_15 : (chkM 15 && chkR 15 && (List.range (cln 15)).all (fun pc => chkP 15 pc)) = true := by decide +kernel
set_option maxRecDepth 100000 in
theorem ck_16 : (chkM 16 && chkR 16 && (List.range (cln 16)).all (fun pc => chkP 16 pc)) = true := by decide +kernel
set_option maxRecDepth 100000 in
theorem ck_17 : (chkM 17 && chkR 17 && (List.range (cln 17)).all (fun pc => chkP 17 pc)) = true := by decide +kernel
set_option maxRecDepth 100000 in
theorem ck_18 : (chkM 18 && chkR 18 && (List.range (cln 18)).all (fun pc => chkP 18 pc)) = true := by decide +kernel
set_option maxRecDepth 100000 in
theorem ck_19 : (chkM 19 && chkR 19 && (List.range (cln 19)).all (fun pc => chkP 19 pc)) = true := by decide +kernel
set_option maxRecDepth 100000 in
theorem ck_20 : (chkM 20 && chkR 20 && (List.range (cln 20)).all (fun pc => chkP 20 pc)) = true := by decide +kernel
set_option maxRecDepth 100000 in
theorem ck_21 : (chkM 21 && chkR 21 && (List.range (cln 21)).all (fun pc => chkP 21 pc)) = true := by decide +kernel
set_option maxRecDepth 100000 in
theorem ck_22 : (chkM 22 && chkR 22 && (List.range (cln 22)).all (fun pc => chkP 22 pc)) = true := by decide +kernel
set_option maxRecDepth 100000 in
theorem ck_23 : (chkM 23 && chkR 23 && (List.range (cln 23)).all (fun pc => chkP 23 pc)) = true := by decide +kernel
set_option maxRecDepth 100000 in
theorem ck_24 : (chkM 24 && chkR 24 && (List.range (cln 24)).all (fun pc => chkP 24 pc)) = true := by decide +kernel
set_option maxRecDepth 100000 in
theorem ck_25 : (chkM 25 && chkR 25 && (List.range (cln 25)).all (fun pc => chkP 25 pc)) = true := by decide +kernel
set_option maxRecDepth 100000 in
theorem ck_26 : (chkM 26 && chkR 26 && (List.range (cln 26)).all (fun pc => chkP 26 pc)) = true := by decide +kernel
set_option maxRecDepth 100000 in
theorem ck_27 : (chkM 27 && chkR 27 && (List.range (cln 27)).all (fun pc => chkP 27 pc)) = true := by decide +kernel
set_option maxRecDepth 100000 in
theorem ck_28 : (chkM 28 && chkR 28 && (List.range (cln 28)).all (fun pc => chkP 28 pc)) = true := by decide +kernel
set_option maxRecDepth 100000 in
theorem ck_29 : (chkM 29 && chkR 29 && (List.range (cln 29)).all (fun pc => chkP 29 pc)) = true := by decide +kernel
set_option maxRecDepth 100000 in
theorem ck_30 : (chkM 30 && chkR 30 && (List.range (cln 30)).all (fun pc => chkP 30 pc)) = true := by decide +kernel
set_option maxRecDepth 100000 in
theorem ck_31 : (chkM 31 && chkR 31 && (List.range (cln 31)).all (fun pc => chkP 31 pc)) = true := by decide +kernel
set_option maxRecDepth 100000 in
theorem ck_32 : (chkM 32 && chkR 32 && (List.range (cln 32)).all (fun pc => chkP 32 pc)) = true := by decide +kernel
set_option maxRecDepth 100000 in
theorem ck_33 : (chkM 33 && chkR 33 && (List.range (cln 33)).all (fun pc => chkP 33 pc)) = true := by decide +kernel
set_option maxRecDepth 100000 in
theorem ck_34 : (chkM 34 && chkR 34 && (List.range (cln 34)).all (fun pc => chkP 34 pc)) = true := by decide +kernel
set_option maxRecDepth 100000 in
theorem ck_35 : (chkM 35 && chkR 35 && (List.range (cln 35)).all (fun pc => chkP 35 pc)) = true := by decide +kernel
set_option maxRecDepth 100000 in
theorem ck_36 : (chkM 36 && chkR 36 && (List.range (cln 36)).all (fun pc => chkP 36 pc)) = true := by decide +kernel
set_option maxRecDepth 100000 in
theorem ck_37 : (chkM 37 && chkR 37 && (List.range (cln 37)).all (fun pc => chkP 37 pc)) = true := by decide +kernel
set_option maxRecDepth 100000 in
theorem ck_38 : (chkM 38 && chkR 38 && (List.range (cln 38)).all (fun pc => chkP 38 pc)) = true := by decide +kernel
set_option maxRecDepth 100000 in
theorem ck_39 : (chkM 39 && chkR 39 && (List.range (cln 39)).all (fun pc => chkP 39 pc)) = true := by decide +kernel
set_option maxRecDepth 100000 in
theorem ck_40 : (chkM 40 && chkR 40 && (List.range (cln 40)).all (fun pc => chkP 40 pc)) = true := by decide +kernel
set_option maxRecDepth 100000 in
theorem ck_41 : (chkM 41 && chkR 41 && (List.range (cln 41)).all (fun pc => chkP 41 pc)) = true := by decide +kernel
set_option maxRecDepth 100000 in
theorem ck_42 : (chkM 42 && chkR 42 && (List.range (cln 42)).all (fun pc => chkP 42 pc)) = true := by decide +kernel
set_option maxRecDepth 100000 in
theorem ck_43 : (chkM 43 && chkR 43 && (List.range (cln 43)).all (fun pc => chkP 43 pc)) = true := by decide +kernel
set_option maxRecDepth 100000 in
theorem ck_44 : (chkM 44 && chkR 44 && (List.range (cln 44)).all (fun pc => chkP 44 pc)) = true := by decide +kernel
set_option maxRecDepth 100000 in
theorem ck_45 : (chkM 45 && chkR 45 && (List.range (cln 45)).all (fun pc => chkP 45 pc)) = true := by decide +kernel
set_option maxRecDepth 100000 in
theorem ck_46 : (chkM 46 && chkR 46 && (List.range (cln 46)).all (fun pc => chkP 46 pc)) = true := by decide +kernel
set_option maxRecDepth 100000 in
theorem ck_47 : (chkM 47 && chkR 47 && (List.range (cln 47)).all (fun pc => chkP 47 pc)) = true := by decide +kernel
set_option maxRecDepth 100000 in
theorem ck_48 : (chkM 48 && chkR 48 && (List.range (cln 48)).all (fun pc => chkP 48 pc)) = true := by decide +kernel
set_option maxRecDepth 100000 in
theorem ck_49 : (chkM 49 && chkR 49 && (List.range (cln 49)).all (fun pc => chkP 49 pc)) = true := by decide +kernel
set_option maxRecDepth 100000 in
theorem ck_50 : (chkM 50 && chkR 50 && (List.range (cln 50)).all (fun pc => chkP 50 pc)) = true := by decide +kernel
set_option maxRecDepth 100000 in
theorem ck_51 : (chkM 51 && chkR 51 && (List.range (cln 51)).all (fun pc => chkP 51 pc)) = true := by decide +kernel
set_option maxRecDepth 100000 in
theorem ck_52 : (chkM 52 && chkR 52 && (List.range (cln 52)).all (fun pc => chkP 52 pc)) = true := by decide +kernel
set_option maxRecDepth 100000 in
theorem ck_53 : (chkM 53 && chkR 53 && (List.range (cln 53)).all (fun pc => chkP 53 pc)) = true := by decide +kernel
set_option maxRecDepth 100000 in
theorem ck_54 : (chkM 54 && chkR 54 && (List.range (cln 54)).all (fun pc => chkP 54 pc)) = true := by decide +kernel
set_option maxRecDepth 100000 in
theorem ck_55 : (chkM 55 && chkR 55 && (List.range (cln 55)).all (fun pc => chkP 55 pc)) = true := by decide +kernel
set_option maxRecDepth 100000 in
theorem ck_56 : (chkM 56 && chkR 56 && (List.range (cln 56)).all (fun pc => chkP 56 pc)) = true := by decide +kernel
set_option maxRecDepth 100000 in
theorem ck_57 : (chkM 57 && chkR 57 && (List.range (cln 57)).all (fun pc => chkP 57 pc)) = true := by decide +kernel
set_option maxRecDepth 100000 in
theorem ck_58 : (chkM 58 && chkR 58 && (List.range (cln 58)).all (fun pc => chkP 58 pc)) = true := by decide +kernel
set_option maxRecDepth 100000 in
theorem ck_59 : (chkM 59 && chkR 59 && (List.range (cln 59)).all (fun pc => chkP 59 pc)) = true := by decide +kernel
set_option maxRecDepth 100000 in
theorem ck_60 : (chkM 60 && chkR 60 && (List.range (cln 60)).all (fun pc => chkP 60 pc)) = true := by decide +kernel
set_option maxRecDepth 100000 in
theorem ck_61 : (chkM 61 && chkR 61 && (List.range (cln 61)).all (fun pc => chkP 61 pc)) = true := by decide +kernel
set_option maxRecDepth 100000 in
theorem ck_62 : (chkM 62 && chkR 62 && (List.range (cln 62)).all (fun pc => chkP 62 pc)) = true := by decide +kernel
set_option maxRecDepth 100000 in
theorem ck_63 : (chkM 63 && chkR 63 && (List.range (cln 63)).all (fun pc => chkP 63 pc)) = true := by decide +kernel
set_option maxRecDepth 100000 in
theorem ck_64 : (chkM 64 && chkR 64 && (List.range (cln 64)).all (fun pc => chkP 64 pc)) = true := by decide +kernel
set_option maxRecDepth 100000 in
theorem ck_65 : (chkM 65 && chkR 65 && (List.range (cln 65)).all (fun pc => chkP 65 pc)) = true := by decide +kernel
set_option maxRecDepth 100000 in
theorem ck_66 : (chkM 66 && chkR 66 && (List.range (cln 66)).all (fun pc => chkP 66 pc)) = true := by decide +kernel
set_option maxRecDepth 100000 in
theorem ck_67 : (chkM 67 && chkR 67 && (List.range (cln 67)).all (fun pc => chkP 67 pc)) = true := by decide +kernel
set_option maxRecDepth 100000 in
theorem ck_68 : (chkM 68 && chkR 68 && (List.range (cln 68)).all (fun pc => chkP 68 pc)) = true := by decide +kernel
set_option maxRecDepth 100000 in
theorem ck_69 : (chkM 69 && chkR 69 && (List.range (cln 69)).all (fun pc => chkP 69 pc)) = true := by decide +kernel
set_option maxRecDepth 100000 in
theorem ck_70 : (chkM 70 && chkR 70 && (List.range (cln 70)).all (fun pc => chkP 70 pc)) = true := by decide +kernel
set_option maxRecDepth 100000 in
theorem ck_71 : (chkM 71 && chkR 71 && (List.range (cln 71)).all (fun pc => chkP 71 pc)) = true := by decide +kernel
set_option maxRecDepth 100000 in
theorem ck_72 : (chkM 72 && chkR 72 && (List.range (cln 72)).all (fun pc => chkP 72 pc)) = true := by decide +kernel
set_option maxRecDepth 100000 in
theorem ck_73 : (chkM 73 && chkR 73 && (List.range (cln 73)).all (fun pc => chkP 73 pc)) = true := by decide +kernel
set_option maxRecDepth 100000 in
theorem ck_74 : (chkM 74 && chkR 74 && (List.range (cln 74)).all (fun pc => chkP 74 pc)) = true := by decide +kernel
set_option maxRecDepth 100000 in
theorem ck_75 : (chkM 75 && chkR 75 && (List.range (cln 75)).all (fun pc => chkP 75 pc)) = true := by decide +kernel
set_option maxRecDepth 100000 in
theorem ck_76 : (chkM 76 && chkR 76 && (List.range (cln 76)).all (fun pc => chkP 76 pc)) = true := by decide +kernel
set_option maxRecDepth 100000 in
theorem ck_77 : (chkM 77 && chkR 77 && (List.range (cln 77)).all (fun pc => chkP 77 pc)) = true := by decide +kernel
set_option maxRecDepth 100000 in
theorem ck_78 : (chkM 78 && chkR 78 && (List.range (cln 78)).all (fun pc => chkP 78 pc)) = true := by decide +kernel
set_option maxRecDepth 100000 in
theorem ck_79 : (chkM 79 && chkR 79 && (List.range (cln 79)).all (fun pc => chkP 79 pc)) = true := by decide +kernel
set_option maxRecDepth 100000 in
theorem ck_80 : (chkM 80 && chkR 80 && (List.range (cln 80)).all (fun pc => chkP 80 pc)) = true := by decide +kernel
set_option maxRecDepth 100000 in
theorem ck_81 : (chkM 81 && chkR 81 && (List.range (cln 81)).all (fun pc => chkP 81 pc)) = true := by decide +kernel
set_option maxRecDepth 100000 in
theorem ck_82 : (chkM 82 && chkR 82 && (List.range (cln 82)).all (fun pc => chkP 82 pc)) = true := by decide +kernel
set_option maxRecDepth 100000 in
theorem ck_83 : (chkM 83 && chkR 83 && (List.range (cln 83)).all (fun pc => chkP 83 pc)) = true := by decide +kernel
set_option maxRecDepth 100000 in
theorem ck_84 : (chkM 84 && chkR 84 && (List.range (cln 84)).all (fun pc => chkP 84 pc)) = true := by decide +kernel
set_option maxRecDepth 100000 in
theorem ck_85 : (chkM 85 && chkR 85 && (List.range (cln 85)).all (fun pc => chkP 85 pc)) = true := by decide +kernel
set_option maxRecDepth 100000 in
theorem ck_86 : (chkM 86 && chkR 86 && (List.range (cln 86)).all (fun pc => chkP 86 pc)) = true := by decide +kernel
set_option maxRecDepth 100000 in
theorem ck_87 : (chkM 87 && chkR 87 && (List.range (cln 87)).all (fun pc => chkP 87 pc)) = true := by decide +kernel
set_option maxRecDepth 100000 in
theorem ck_88 : (chkM 88 && chkR 88 && (List.range (cln 88)).all (fun pc => chkP 88 pc)) = true := by decide +kernel
set_option maxRecDepth 100000 in
theorem ck_89 : (chkM 89 && chkR 89 && (List.range (cln 89)).all (fun pc => chkP 89 pc)) = true := by decide +kernel
set_option maxRecDepth 100000 in
theorem ck_90 : (chkM 90 && chkR 90 && (List.range (cln 90)).all (fun pc => chkP 90 pc)) = true := by decide +kernel
set_option maxRecDepth 100000 in
theorem ck_91 : (chkM 91 && chkR 91 && (List.range (cln 91)).all (fun pc => chkP 91 pc)) = true := by decide +kernel
set_option maxRecDepth 100000 in
theorem ck_92 : (chkM 92 && chkR 92 && (List.range (cln 92)).all (fun pc => chkP 92 pc)) = true := by decide +kernel
set_option maxRecDepth 100000 in
theorem ck_93 : (chkM 93 && chkR 93 && (List.range (cln 93)).all (fun pc => chkP 93 pc)) = true := by decide +kernel
set_option maxRecDepth 100000 in
theorem ck_94 : (chkM 94 && chkR 94 && (List.range (cln 94)).all (fun pc => chkP 94 pc)) = true := by decide +kernel
set_option maxRecDepth 100000 in
theorem ck_95 : (chkM 95 && chkR 95 && (List.range (cln 95)).all (fun pc => chkP 95 pc)) = true := by decide +kernel
set_option maxRecDepth 100000 in
theorem ck_96 : (chkM 96 && chkR 96 && (List.range (cln 96)).all (fun pc => chkP 96 pc)) = true := by decide +kernel
set_option maxRecDepth 100000 in
theorem ck_97 : (chkM 97 && chkR 97 && (List.range (cln 97)).all (fun pc => chkP 97 pc)) = true := by decide +kernel
set_option maxRecDepth 100000 in
theorem ck_98 : (chkM 98 && chkR 98 && (List.range (cln 98)).all (fun pc => chkP 98 pc)) = true := by decide +kernel
set_option maxRecDepth 100000 in
theorem ck_99 : (chkM 99 && chkR 99 && (List.range (cln 99)).all (fun pc => chkP 99 pc)) = true := by decide +kernel
set_option maxRecDepth 100000 in
theorem ck_100 : (chkM 100 && chkR 100 && (List.range (cln 100)).all (fun pc => chkP 100 pc)) = true := by decide +kernel
set_option maxRecDepth 100000 in
theorem ck_101 : (chkM 101 && chkR 101 && (List.range (cln 101)).all (fun pc => chkP 101 pc)) = true := by decide +kernel
set_option maxRecDepth 100000 in
theorem ck_102 : (chkM 102 && chkR 102 && (List.range (cln 102)).all (fun pc => chkP 102 pc)) = true := by decide +kernel
set_option maxRecDepth 100000 in
theorem ck_103 : (chkM 103 && chkR 103 && (List.range (cln 103)).all (fun pc => chkP 103 pc)) = true := by decide +kernel
set_option maxRecDepth 100000 in
theorem ck_104 : (chkM 104 && chkR 104 && (List.range (cln 104)).all (fun pc => chkP 104 pc)) = true := by decide +kernel
set_option maxRecDepth 100000 in
theorem ck_105 : (chkM 105 && chkR 105 && (List.range (cln 105)).all (fun pc => chkP 105 pc)) = true := by decide +kernel
set_option maxRecDepth 100000 in
theorem ck_106 : (chkM 106 && chkR 106 && (List.range (cln 106)).all (fun pc => chkP 106 pc)) = true := by decide +kernel
