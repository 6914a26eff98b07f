/-! Values of the names' functions, a row each. Written by wip/gen/names.py. -/
theorem mrk_0 : mrk 0 = 1 := rfl
theorem mml_0 : mml 0 = 2 := rfl
theorem mcl_0 : mcl 0 = 0 := rfl
theorem mrk_1 : mrk 1 = 0 := rfl
theorem mml_1 : mml 1 = 4 := rfl
theorem mcl_1 : mcl 1 = 0 := rfl
theorem mrk_2 : mrk 2 = 0 := rfl
theorem mml_2 : mml 2 = 3 := rfl
theorem mcl_2 : mcl 2 = 0 := rfl
theorem mrk_3 : mrk 3 = 2 := rfl
theorem mml_3 : mml 3 = 2 := rfl
theorem mcl_3 : mcl 3 = 0 := rfl
theorem mrk_4 : mrk 4 = 1 := rfl
theorem mml_4 : mml 4 = 1 := rfl
theorem mcl_4 : mcl 4 = 0 := rfl
theorem mrk_5 : mrk 5 = 1 := rfl
theorem mml_5 : mml 5 = 1 := rfl
theorem mcl_5 : mcl 5 = 0 := rfl
theorem mrk_6 : mrk 6 = 2 := rfl
theorem mml_6 : mml 6 = 1 := rfl
theorem mcl_6 : mcl 6 = 0 := rfl
theorem mrk_7 : mrk 7 = 1 := rfl
theorem mml_7 : mml 7 = 3 := rfl
theorem mcl_7 : mcl 7 = 0 := rfl
theorem mrk_8 : mrk 8 = 2 := rfl
theorem mml_8 : mml 8 = 2 := rfl
theorem mcl_8 : mcl 8 = 0 := rfl
theorem mrk_9 : mrk 9 = 1 := rfl
theorem mml_9 : mml 9 = 1 := rfl
theorem mcl_9 : mcl 9 = 0 := rfl
theorem mrk_10 : mrk 10 = 1 := rfl
theorem mml_10 : mml 10 = 1 := rfl
theorem mcl_10 : mcl 10 = 0 := rfl
theorem mrk_11 : mrk 11 = 1 := rfl
theorem mml_11 : mml 11 = 1 := rfl
theorem mcl_11 : mcl 11 = 0 := rfl
theorem mrk_12 : mrk 12 = 1 := rfl
theorem mml_12 : mml 12 = 4 := rfl
theorem mcl_12 : mcl 12 = 0 := rfl
theorem mrk_13 : mrk 13 = 0 := rfl
theorem mml_13 : mml 13 = 1 := rfl
theorem mcl_13 : mcl 13 = 0 := rfl
theorem mrk_14 : mrk 14 = 0 := rfl
theorem mml_14 : mml 14 = 1 := rfl
theorem mcl_14 : mcl 14 = 0 := rfl
theorem mrk_15 : mrk 15 = 2 := rfl
theorem mml_15 : mml 15 = 3 := rfl
theorem mcl_15 : mcl 15 = 0 := rfl
theorem mrk_16 : mrk 16 = 2 := rfl
theorem mml_16 : mml 16 = 3 := rfl
theorem mcl_16 : mcl 16 = 0 := rfl
theorem mrk_17 : mrk 17 = 1 := rfl
theorem mml_17 : mml 17 = 5 := rfl
theorem mcl_17 : mcl 17 = 0 := rfl
theorem mrk_18 : mrk 18 = 2 := rfl
theorem mml_18 : mml 18 = 1 := rfl
theorem mcl_18 : mcl 18 = 0 := rfl
theorem mrk_19 : mrk 19 = 1 := rfl
theorem mml_19 : mml 19 = 5 := rfl
theorem mcl_19 : mcl 19 = 0 := rfl
theorem mrk_20 : mrk 20 = 1 := rfl
theorem mml_20 : mml 20 = 1 := rfl
theorem mcl_20 : mcl 20 = 0 := rfl
theorem mrk_21 : mrk 21 = 2 := rfl
theorem mml_21 : mml 21 = 1 := rfl
theorem mcl_21 : mcl 21 = 0 := rfl
theorem mrk_22 : mrk 22 = 1 := rfl
theorem mml_22 : mml 22 = 2 := rfl
theorem mcl_22 : mcl 22 = 0 := rfl
theorem mrk_23 : mrk 23 = 1 := rfl
theorem mml_23 : mml 23 = 1 := rfl
theorem mcl_23 : mcl 23 = 0 := rfl
theorem mrk_24 : mrk 24 = 1 := rfl
theorem mml_24 : mml 24 = 1 := rfl
theorem mcl_24 : mcl 24 = 0 := rfl
theorem mrk_25 : mrk 25 = 1 := rfl
theorem mml_25 : mml 25 = 1 := rfl
theorem mcl_25 : mcl 25 = 0 := rfl
theorem mrk_26 : mrk 26 = 1 := rfl
theorem mml_26 : mml 26 = 1 := rfl
theorem mcl_26 : mcl 26 = 0 := rfl
theorem mrk_27 : mrk 27 = 1 := rfl
theorem mml_27 : mml 27 = 3 := rfl
theorem mcl_27 : mcl 27 = 0 := rfl
theorem mrk_28 : mrk 28 = 1 := rfl
theorem mml_28 : mml 28 = 3 := rfl
theorem mcl_28 : mcl 28 = 0 := rfl
theorem mrk_29 : mrk 29 = 2 := rfl
theorem mml_29 : mml 29 = 1 := rfl
theorem mcl_29 : mcl 29 = 0 := rfl
theorem mrk_30 : mrk 30 = 1 := rfl
theorem mml_30 : mml 30 = 2 := rfl
theorem mcl_30 : mcl 30 = 0 := rfl
theorem mrk_31 : mrk 31 = 1 := rfl
theorem mml_31 : mml 31 = 1 := rfl
theorem mcl_31 : mcl 31 = 0 := rfl
theorem mrk_32 : mrk 32 = 1 := rfl
theorem mml_32 : mml 32 = 1 := rfl
theorem mcl_32 : mcl 32 = 0 := rfl
theorem mrk_33 : mrk 33 = 1 := rfl
theorem mml_33 : mml 33 = 2 := rfl
theorem mcl_33 : mcl 33 = 0 := rfl
theorem mrk_34 : mrk 34 = 1 := rfl
theorem mml_34 : mml 34 = 5 := rfl
theorem mcl_34 : mcl 34 = 0 := rfl
theorem mrk_35 : mrk 35 = 1 := rfl
theorem mml_35 : mml 35 = 1 := rfl
theorem mcl_35 : mcl 35 = 0 := rfl
theorem mrk_36 : mrk 36 = 1 := rfl
theorem mml_36 : mml 36 = 5 := rfl
theorem mcl_36 : mcl 36 = 0 := rfl
theorem mrk_37 : mrk 37 = 0 := rfl
theorem mml_37 : mml 37 = 4 := rfl
theorem mcl_37 : mcl 37 = 1 := rfl
theorem mrk_38 : mrk 38 = 2 := rfl
theorem mml_38 : mml 38 = 5 := rfl
theorem mcl_38 : mcl 38 = 1 := rfl
theorem mrk_39 : mrk 39 = 1 := rfl
theorem mml_39 : mml 39 = 10 := rfl
theorem mcl_39 : mcl 39 = 1 := rfl
theorem mrk_40 : mrk 40 = 1 := rfl
theorem mml_40 : mml 40 = 3 := rfl
theorem mcl_40 : mcl 40 = 1 := rfl
theorem mrk_41 : mrk 41 = 2 := rfl
theorem mml_41 : mml 41 = 2 := rfl
theorem mcl_41 : mcl 41 = 1 := rfl
theorem mrk_42 : mrk 42 = 1 := rfl
theorem mml_42 : mml 42 = 2 := rfl
theorem mcl_42 : mcl 42 = 1 := rfl
theorem mrk_43 : mrk 43 = 0 := rfl
theorem mml_43 : mml 43 = 3 := rfl
theorem mcl_43 : mcl 43 = 1 := rfl
theorem mrk_44 : mrk 44 = 0 := rfl
theorem mml_44 : mml 44 = 6 := rfl
theorem mcl_44 : mcl 44 = 1 := rfl
theorem mrk_45 : mrk 45 = 0 := rfl
theorem mml_45 : mml 45 = 6 := rfl
theorem mcl_45 : mcl 45 = 1 := rfl
theorem mrk_46 : mrk 46 = 2 := rfl
theorem mml_46 : mml 46 = 1 := rfl
theorem mcl_46 : mcl 46 = 1 := rfl
theorem mrk_47 : mrk 47 = 1 := rfl
theorem mml_47 : mml 47 = 6 := rfl
theorem mcl_47 : mcl 47 = 1 := rfl
theorem mrk_48 : mrk 48 = 0 := rfl
theorem mml_48 : mml 48 = 2 := rfl
theorem mcl_48 : mcl 48 = 2 := rfl
theorem mrk_49 : mrk 49 = 0 := rfl
theorem mml_49 : mml 49 = 1 := rfl
theorem mcl_49 : mcl 49 = 2 := rfl
theorem mrk_50 : mrk 50 = 1 := rfl
theorem mml_50 : mml 50 = 4 := rfl
theorem mcl_50 : mcl 50 = 2 := rfl
theorem mrk_51 : mrk 51 = 1 := rfl
theorem mml_51 : mml 51 = 6 := rfl
theorem mcl_51 : mcl 51 = 2 := rfl
theorem mrk_52 : mrk 52 = 1 := rfl
theorem mml_52 : mml 52 = 6 := rfl
theorem mcl_52 : mcl 52 = 2 := rfl
theorem mrk_53 : mrk 53 = 2 := rfl
theorem mml_53 : mml 53 = 7 := rfl
theorem mcl_53 : mcl 53 = 2 := rfl
theorem mrk_54 : mrk 54 = 2 := rfl
theorem mml_54 : mml 54 = 6 := rfl
theorem mcl_54 : mcl 54 = 2 := rfl
theorem mrk_55 : mrk 55 = 2 := rfl
theorem mml_55 : mml 55 = 7 := rfl
theorem mcl_55 : mcl 55 = 2 := rfl
theorem mrk_56 : mrk 56 = 1 := rfl
theorem mml_56 : mml 56 = 5 := rfl
theorem mcl_56 : mcl 56 = 2 := rfl
theorem mrk_57 : mrk 57 = 0 := rfl
theorem mml_57 : mml 57 = 2 := rfl
theorem mcl_57 : mcl 57 = 3 := rfl
theorem mrk_58 : mrk 58 = 0 := rfl
theorem mml_58 : mml 58 = 3 := rfl
theorem mcl_58 : mcl 58 = 3 := rfl
theorem mrk_59 : mrk 59 = 2 := rfl
theorem mml_59 : mml 59 = 3 := rfl
theorem mcl_59 : mcl 59 = 3 := rfl
theorem mrk_60 : mrk 60 = 0 := rfl
theorem mml_60 : mml 60 = 7 := rfl
theorem mcl_60 : mcl 60 = 4 := rfl
theorem mrk_61 : mrk 61 = 1 := rfl
theorem mml_61 : mml 61 = 3 := rfl
theorem mcl_61 : mcl 61 = 4 := rfl
theorem mrk_62 : mrk 62 = 2 := rfl
theorem mml_62 : mml 62 = 3 := rfl
theorem mcl_62 : mcl 62 = 4 := rfl
theorem mrk_63 : mrk 63 = 2 := rfl
theorem mml_63 : mml 63 = 1 := rfl
theorem mcl_63 : mcl 63 = 4 := rfl
theorem mrk_64 : mrk 64 = 0 := rfl
theorem mml_64 : mml 64 = 3 := rfl
theorem mcl_64 : mcl 64 = 4 := rfl
theorem mrk_65 : mrk 65 = 1 := rfl
theorem mml_65 : mml 65 = 1 := rfl
theorem mcl_65 : mcl 65 = 4 := rfl
theorem mrk_66 : mrk 66 = 1 := rfl
theorem mml_66 : mml 66 = 1 := rfl
theorem mcl_66 : mcl 66 = 4 := rfl
theorem mrk_67 : mrk 67 = 0 := rfl
theorem mml_67 : mml 67 = 1 := rfl
theorem mcl_67 : mcl 67 = 4 := rfl
theorem mrk_68 : mrk 68 = 0 := rfl
theorem mml_68 : mml 68 = 3 := rfl
theorem mcl_68 : mcl 68 = 5 := rfl
theorem mrk_69 : mrk 69 = 0 := rfl
theorem mml_69 : mml 69 = 2 := rfl
theorem mcl_69 : mcl 69 = 5 := rfl
theorem mrk_70 : mrk 70 = 0 := rfl
theorem mml_70 : mml 70 = 4 := rfl
theorem mcl_70 : mcl 70 = 5 := rfl
theorem mrk_71 : mrk 71 = 0 := rfl
theorem mml_71 : mml 71 = 5 := rfl
theorem mcl_71 : mcl 71 = 5 := rfl
theorem mrk_72 : mrk 72 = 2 := rfl
theorem mml_72 : mml 72 = 3 := rfl
theorem mcl_72 : mcl 72 = 5 := rfl
theorem mrk_73 : mrk 73 = 1 := rfl
theorem mml_73 : mml 73 = 1 := rfl
theorem mcl_73 : mcl 73 = 5 := rfl
theorem mrk_74 : mrk 74 = 2 := rfl
theorem mml_74 : mml 74 = 5 := rfl
theorem mcl_74 : mcl 74 = 5 := rfl
theorem mrk_75 : mrk 75 = 2 := rfl
theorem mml_75 : mml 75 = 6 := rfl
theorem mcl_75 : mcl 75 = 5 := rfl
theorem mrk_76 : mrk 76 = 2 := rfl
theorem mml_76 : mml 76 = 2 := rfl
theorem mcl_76 : mcl 76 = 5 := rfl
theorem mrk_77 : mrk 77 = 2 := rfl
theorem mml_77 : mml 77 = 9 := rfl
theorem mcl_77 : mcl 77 = 5 := rfl
theorem mrk_78 : mrk 78 = 2 := rfl
theorem mml_78 : mml 78 = 9 := rfl
theorem mcl_78 : mcl 78 = 5 := rfl
theorem mrk_79 : mrk 79 = 1 := rfl
theorem mml_79 : mml 79 = 1 := rfl
theorem mcl_79 : mcl 79 = 5 := rfl
theorem mrk_80 : mrk 80 = 2 := rfl
theorem mml_80 : mml 80 = 9 := rfl
theorem mcl_80 : mcl 80 = 5 := rfl
theorem mrk_81 : mrk 81 = 2 := rfl
theorem mml_81 : mml 81 = 11 := rfl
theorem mcl_81 : mcl 81 = 5 := rfl
theorem mrk_82 : mrk 82 = 2 := rfl
theorem mml_82 : mml 82 = 4 := rfl
theorem mcl_82 : mcl 82 = 5 := rfl
theorem mrk_83 : mrk 83 = 1 := rfl
theorem mml_83 : mml 83 = 6 := rfl
theorem mcl_83 : mcl 83 = 5 := rfl
theorem mrk_84 : mrk 84 = 0 := rfl
theorem mml_84 : mml 84 = 11 := rfl
theorem mcl_84 : mcl 84 = 5 := rfl
theorem mrk_85 : mrk 85 = 1 := rfl
theorem mml_85 : mml 85 = 3 := rfl
theorem mcl_85 : mcl 85 = 5 := rfl
theorem mrk_86 : mrk 86 = 0 := rfl
theorem mml_86 : mml 86 = 1 := rfl
theorem mcl_86 : mcl 86 = 5 := rfl
theorem mrk_87 : mrk 87 = 2 := rfl
theorem mml_87 : mml 87 = 3 := rfl
theorem mcl_87 : mcl 87 = 5 := rfl
theorem mrk_88 : mrk 88 = 1 := rfl
theorem mml_88 : mml 88 = 4 := rfl
theorem mcl_88 : mcl 88 = 5 := rfl
theorem mrk_89 : mrk 89 = 2 := rfl
theorem mml_89 : mml 89 = 5 := rfl
theorem mcl_89 : mcl 89 = 5 := rfl
theorem mrk_90 : mrk 90 = 2 := rfl
theorem mml_90 : mml 90 = 3 := rfl
theorem mcl_90 : mcl 90 = 5 := rfl
theorem mrk_91 : mrk 91 = 2 := rfl
theorem mml_91 : mml 91 = 8 := rfl
theorem mcl_91 : mcl 91 = 5 := rfl
theorem mrk_92 : mrk 92 = 2 := rfl
theorem mml_92 : mml 92 = 4 := rfl
theorem mcl_92 : mcl 92 = 5 := rfl
theorem mrk_93 : mrk 93 = 1 := rfl
theorem mml_93 : mml 93 = 6 := rfl
theorem mcl_93 : mcl 93 = 5 := rfl
theorem mrk_94 : mrk 94 = 1 := rfl
theorem mml_94 : mml 94 = 1 := rfl
theorem mcl_94 : mcl 94 = 5 := rfl
theorem mrk_95 : mrk 95 = 1 := rfl
theorem mml_95 : mml 95 = 7 := rfl
theorem mcl_95 : mcl 95 = 5 := rfl
theorem mrk_96 : mrk 96 = 1 := rfl
theorem mml_96 : mml 96 = 2 := rfl
theorem mcl_96 : mcl 96 = 5 := rfl
theorem mrk_97 : mrk 97 = 2 := rfl
theorem mml_97 : mml 97 = 8 := rfl
theorem mcl_97 : mcl 97 = 5 := rfl
theorem mrk_98 : mrk 98 = 1 := rfl
theorem mml_98 : mml 98 = 5 := rfl
theorem mcl_98 : mcl 98 = 5 := rfl
theorem mrk_99 : mrk 99 = 2 := rfl
theorem mml_99 : mml 99 = 1 := rfl
theorem mcl_99 : mcl 99 = 5 := rfl
theorem mrk_100 : mrk 100 = 0 := rfl
theorem mml_100 : mml 100 = 2 := rfl
theorem mcl_100 : mcl 100 = 5 := rfl
theorem mrk_101 : mrk 101 = 1 := rfl
theorem mml_101 : mml 101 = 2 := rfl
theorem mcl_101 : mcl 101 = 5 := rfl
theorem mrk_102 : mrk 102 = 1 := rfl
theorem mml_102 : mml 102 = 1 := rfl
theorem mcl_102 : mcl 102 = 5 := rfl
theorem mrk_103 : mrk 103 = 1 := rfl
theorem mml_103 : mml 103 = 1 := rfl
theorem mcl_103 : mcl 103 = 5 := rfl
theorem mrk_104 : mrk 104 = 1 := rfl
theorem mml_104 : mml 104 = 1 := rfl
theorem mcl_104 : mcl 104 = 5 := rfl
theorem mrk_105 : mrk 105 = 1 := rfl
theorem mml_105 : mml 105 = 1 := rfl
theorem mcl_105 : mcl 105 = 5 := rfl
theorem mrk_106 : mrk 106 = 1 := rfl
theorem mml_106 : mml 106 = 6 := rfl
theorem mcl_106 : mcl 106 = 5 := rfl
theorem mrk_107 : mrk 107 = 1 := rfl
theorem mml_107 : mml 107 = 3 := rfl
theorem mcl_107 : mcl 107 = 5 := rfl
theorem mrk_108 : mrk 108 = 2 := rfl
theorem mml_108 : mml 108 = 1 := rfl
theorem mcl_108 : mcl 108 = 5 := rfl
theorem mrk_109 : mrk 109 = 1 := rfl
theorem mml_109 : mml 109 = 1 := rfl
theorem mcl_109 : mcl 109 = 5 := rfl
theorem mrk_110 : mrk 110 = 1 := rfl
theorem mml_110 : mml 110 = 1 := rfl
theorem mcl_110 : mcl 110 = 5 := rfl
theorem mrk_111 : mrk 111 = 1 := rfl
theorem mml_111 : mml 111 = 1 := rfl
theorem mcl_111 : mcl 111 = 5 := rfl
theorem mrk_112 : mrk 112 = 1 := rfl
theorem mml_112 : mml 112 = 2 := rfl
theorem mcl_112 : mcl 112 = 5 := rfl
theorem mrk_113 : mrk 113 = 1 := rfl
theorem mml_113 : mml 113 = 7 := rfl
theorem mcl_113 : mcl 113 = 5 := rfl
theorem mrk_114 : mrk 114 = 1 := rfl
theorem mml_114 : mml 114 = 7 := rfl
theorem mcl_114 : mcl 114 = 5 := rfl
theorem mrk_115 : mrk 115 = 1 := rfl
theorem mml_115 : mml 115 = 2 := rfl
theorem mcl_115 : mcl 115 = 5 := rfl
theorem mrk_116 : mrk 116 = 1 := rfl
theorem mml_116 : mml 116 = 6 := rfl
theorem mcl_116 : mcl 116 = 5 := rfl
theorem mrk_117 : mrk 117 = 0 := rfl
theorem mml_117 : mml 117 = 4 := rfl
theorem mcl_117 : mcl 117 = 6 := rfl
theorem mrk_118 : mrk 118 = 0 := rfl
theorem mml_118 : mml 118 = 7 := rfl
theorem mcl_118 : mcl 118 = 6 := rfl
theorem mrk_119 : mrk 119 = 0 := rfl
theorem mml_119 : mml 119 = 4 := rfl
theorem mcl_119 : mcl 119 = 6 := rfl
theorem mrk_120 : mrk 120 = 0 := rfl
theorem mml_120 : mml 120 = 6 := rfl
theorem mcl_120 : mcl 120 = 6 := rfl
theorem mrk_121 : mrk 121 = 0 := rfl
theorem mml_121 : mml 121 = 6 := rfl
theorem mcl_121 : mcl 121 = 6 := rfl
theorem mrk_122 : mrk 122 = 0 := rfl
theorem mml_122 : mml 122 = 10 := rfl
theorem mcl_122 : mcl 122 = 6 := rfl
theorem mrk_123 : mrk 123 = 0 := rfl
theorem mml_123 : mml 123 = 8 := rfl
theorem mcl_123 : mcl 123 = 6 := rfl
theorem mrk_124 : mrk 124 = 2 := rfl
theorem mml_124 : mml 124 = 4 := rfl
theorem mcl_124 : mcl 124 = 6 := rfl
theorem mrk_125 : mrk 125 = 1 := rfl
theorem mml_125 : mml 125 = 4 := rfl
theorem mcl_125 : mcl 125 = 7 := rfl
theorem mrk_126 : mrk 126 = 2 := rfl
theorem mml_126 : mml 126 = 6 := rfl
theorem mcl_126 : mcl 126 = 7 := rfl
theorem mrk_127 : mrk 127 = 2 := rfl
theorem mml_127 : mml 127 = 2 := rfl
theorem mcl_127 : mcl 127 = 7 := rfl
theorem mrk_128 : mrk 128 = 2 := rfl
theorem mml_128 : mml 128 = 5 := rfl
theorem mcl_128 : mcl 128 = 7 := rfl
theorem mrk_129 : mrk 129 = 2 := rfl
theorem mml_129 : mml 129 = 5 := rfl
theorem mcl_129 : mcl 129 = 7 := rfl
theorem mrk_130 : mrk 130 = 0 := rfl
theorem mml_130 : mml 130 = 4 := rfl
theorem mcl_130 : mcl 130 = 8 := rfl
theorem mrk_131 : mrk 131 = 2 := rfl
theorem okd_0 : okd 0 = 1 := rfl
theorem ocl_0 : ocl 0 = 0 := rfl
theorem fld_0_0 : fld 0 0 = 2 := rfl
theorem fld_0_1 : fld 0 1 = 6 := rfl
theorem fld_0_2 : fld 0 2 = 8 := rfl
theorem fld_0_3 : fld 0 3 = 10 := rfl
theorem fld_0_4 : fld 0 4 = 0 := rfl
theorem okd_1 : okd 1 = 1 := rfl
theorem ocl_1 : ocl 1 = 1 := rfl
theorem fld_1_0 : fld 1 0 = 3 := rfl
theorem fld_1_1 : fld 1 1 = 5 := rfl
theorem fld_1_2 : fld 1 2 = 0 := rfl
theorem fld_1_3 : fld 1 3 = 0 := rfl
theorem fld_1_4 : fld 1 4 = 0 := rfl
theorem fld_1_5 : fld 1 5 = 0 := rfl
theorem okd_2 : okd 2 = 1 := rfl
theorem ocl_2 : ocl 2 = 2 := rfl
theorem fld_2_0 : fld 2 0 = 4 := rfl
theorem okd_3 : okd 3 = 2 := rfl
theorem oln_3 : oln 3 = 64 := rfl
theorem okd_4 : okd 4 = 2 := rfl
theorem oln_4 : oln 4 = 2 := rfl
theorem okd_5 : okd 5 = 1 := rfl
theorem ocl_5 : ocl 5 = 3 := rfl
theorem fld_5_0 : fld 5 0 = 7 := rfl
theorem fld_5_1 : fld 5 1 = 0 := rfl
theorem okd_6 : okd 6 = 2 := rfl
theorem oln_6 : oln 6 = 415 := rfl
theorem okd_7 : okd 7 = 1 := rfl
theorem ocl_7 : ocl 7 = 3 := rfl
theorem fld_7_0 : fld 7 0 = 9 := rfl
theorem fld_7_1 : fld 7 1 = 0 := rfl
theorem okd_8 : okd 8 = 2 := rfl
theorem oln_8 : oln 8 = 415 := rfl
theorem okd_9 : okd 9 = 1 := rfl
theorem ocl_9 : ocl 9 = 4 := rfl
theorem fld_9_0 : fld 9 0 = 11 := rfl
theorem fld_9_1 : fld 9 1 = 12 := rfl
theorem fld_9_2 : fld 9 2 = 13 := rfl
theorem fld_9_3 : fld 9 3 = 14 := rfl
theorem fld_9_4 : fld 9 4 = 0 := rfl
theorem okd_10 : okd 10 = 2 := rfl
theorem oln_10 : oln 10 = 512 := rfl
theorem okd_11 : okd 11 = 2 := rfl
theorem oln_11 : oln 11 = 512 := rfl
theorem okd_12 : okd 12 = 5 := rfl
theorem oln_12 : oln 12 = 2052 := rfl
theorem okd_13 : okd 13 = 2 := rfl
theorem oln_13 : oln 13 = 513 := rfl
theorem okd_14 : okd 14 = 1 := rfl
theorem ocl_14 : ocl 14 = 5 := rfl
theorem fld_14_0 : fld 14 0 = 16 := rfl
theorem fld_14_1 : fld 14 1 = 17 := rfl
theorem fld_14_2 : fld 14 2 = 18 := rfl
theorem fld_14_3 : fld 14 3 = 19 := rfl
theorem fld_14_4 : fld 14 4 = 0 := rfl
theorem fld_14_5 : fld 14 5 = 0 := rfl
theorem fld_14_6 : fld 14 6 = 20 := rfl
theorem fld_14_7 : fld 14 7 = 21 := rfl
theorem fld_14_8 : fld 14 8 = 22 := rfl
theorem fld_14_9 : fld 14 9 = 23 := rfl
theorem fld_14_10 : fld 14 10 = 24 := rfl
theorem fld_14_11 : fld 14 11 = 0 := rfl
theorem fld_14_12 : fld 14 12 = 0 := rfl
theorem okd_15 : okd 15 = 2 := rfl
theorem oln_15 : oln 15 = 192 := rfl
theorem okd_16 : okd 16 = 2 := rfl
theorem oln_16 : oln 16 = 3 := rfl
theorem okd_17 : okd 17 = 2 := rfl
theorem oln_17 : oln 17 = 3 := rfl
theorem okd_18 : okd 18 = 2 := rfl
theorem oln_18 : oln 18 = 3 := rfl
theorem okd_19 : okd 19 = 5 := rfl
theorem oln_19 : oln 19 = 2052 := rfl
theorem okd_20 : okd 20 = 3 := rfl
theorem oln_20 : oln 20 = 513 := rfl
theorem okd_21 : okd 21 = 3 := rfl
theorem oln_21 : oln 21 = 513 := rfl
theorem okd_22 : okd 22 = 3 := rfl
theorem oln_22 : oln 22 = 513 := rfl
theorem okd_23 : okd 23 = 4 := rfl
theorem oln_23 : oln 23 = 513 := rfl
theorem okd_24 : okd 24 = 6 := rfl
theorem oln_24 : oln 24 = 4 := rfl
theorem okd_25 : okd 25 = 6 := rfl
theorem oln_25 : oln 25 = 4 := rfl
theorem okd_26 : okd 26 = 6 := rfl
theorem oln_26 : oln 26 = 8 := rfl
theorem okd_27 : okd 27 = 6 := rfl
theorem oln_27 : oln 27 = 8 := rfl
theorem okd_28 : okd 28 = 6 := rfl
theorem oln_28 : oln 28 = 8 := rfl
theorem okd_29 : okd 29 = 6 := rfl
theorem oln_29 : oln 29 = 8 := rfl
theorem okd_30 : okd 30 = 6 := rfl
theorem oln_30 : oln 30 = 8 := rfl
theorem okd_31 : okd 31 = 6 := rfl
theorem oln_31 : oln 31 = 8 := rfl
theorem okd_40 : okd 40 = 7 := rfl
theorem isZ_0_4 : isZ 0 4 = true := rfl
theorem isZ_1_2 : isZ 1 2 = false := rfl
theorem isZ_1_3 : isZ 1 3 = false := rfl
theorem isZ_1_4 : isZ 1 4 = false := rfl
theorem isZ_1_5 : isZ 1 5 = false := rfl
theorem isZ_3_1 : isZ 3 1 = false := rfl
theorem isZ_4_4 : isZ 4 4 = false := rfl
theorem isZ_5_4 : isZ 5 4 = true := rfl
theorem isZ_5_5 : isZ 5 5 = false := rfl
theorem isZ_5_11 : isZ 5 11 = false := rfl
theorem isZ_5_12 : isZ 5 12 = false := rfl
theorem bk_0_0 : mbk 0 0 = [(.iload_n 0, 1, 0, 0, 0), (.bipush 8, 2, 0, 0, 0), (.iload_n 1, 1, 0, 0, 0), (.imul, 1, 0, 0, 0), (.iadd, 1, 0, 0, 0), (.ireturn, 1, 0, 0, 0)] := rfl
theorem bk_1_0 : mbk 1 0 = [(.aload_n 0, 1, 0, 0, 0), (.getfield 12, 3, 0, 0, 0), (.iload_n 1, 1, 0, 0, 0), (.iload_n 2, 1, 0, 0, 0), (.iload_n 3, 1, 0, 0, 0), (.invokevirtual 171, 3, 39, 4, 0), (.aload_n 0, 1, 0, 0, 0), (.iconst 1, 1, 0, 0, 0), (.putfield 46, 3, 0, 4, 0), (.aload_n 0, 1, 0, 0, 0), (.getfield 29, 3, 0, 3, 0), (.iconst 0, 1, 0, 0, 0), (.putfield 106, 3, 4, 4, 0), (.aload_n 0, 1, 0, 0, 0), (.invokevirtual 96, 3, 4, 1, 0), (.aload_n 0, 1, 0, 0, 0), (.getfield 29, 3, 0, 3, 0), (.aload_n 0, 1, 0, 0, 0), (.getfield 12, 3, 0, 0, 0), (.aload_n 0, 1, 0, 0, 0), (.invokevirtual 99, 3, 14, 1, 0), (.invokevirtual 102, 3, 62, 3, 0), (.return_, 1, 0, 0, 0)] := rfl
theorem bk_2_0 : mbk 2 0 = [(.aload_n 0, 1, 0, 0, 0), (.getfield 23, 3, 0, 2, 0), (.iconst 0, 1, 0, 0, 0), (.putfield 131, 3, 3, 1, 0), (.aload_n 0, 1, 0, 0, 0), (.getfield 12, 3, 0, 0, 0), (.aload_n 0, 1, 0, 0, 0), (.getfield 23, 3, 0, 2, 0), (.invokestatic 174, 3, 119, 2, 0), (.aload_n 0, 1, 0, 0, 0), (.getfield 12, 3, 0, 0, 0), (.aload_n 0, 1, 0, 0, 0), (.getfield 23, 3, 0, 2, 0), (.invokestatic 180, 3, 125, 2, 0), (.aload_n 0, 1, 0, 0, 0), (.getfield 19, 3, 0, 1, 0), (.iconst 0, 1, 0, 0, 0), (.putfield 131, 3, 3, 1, 0), (.iconst 0, 1, 0, 0, 0), (.istore_n 1, 1, 0, 0, 0)] := rfl
theorem bk_2_40 : mbk 2 40 = [(.iload_n 1, 1, 0, 0, 0), (.aload_n 0, 1, 0, 0, 0), (.getfield 23, 3, 0, 2, 0), (.getfield 131, 3, 3, 1, 0), (.if_icmp .ge (38), 3, 0, 0, 0), (.aload_n 0, 1, 0, 0, 0), (.getfield 23, 3, 0, 2, 0), (.getfield 134, 3, 3, 0, 0), (.iload_n 1, 1, 0, 0, 0), (.iaload, 1, 0, 0, 0), (.istore_n 2, 1, 0, 0, 0), (.aload_n 0, 1, 0, 0, 0), (.getfield 12, 3, 0, 0, 0), (.iload_n 2, 1, 0, 0, 0), (.invokevirtual 183, 3, 40, 2, 0), (.ifCond .eq (11), 3, 0, 0, 0), (.aload_n 0, 1, 0, 0, 0), (.getfield 19, 3, 0, 1, 0), (.iload_n 2, 1, 0, 0, 0), (.invokevirtual 186, 3, 60, 2, 0)] := rfl
theorem bk_2_80 : mbk 2 80 = [(.iinc 1 (1), 3, 0, 0, 0), (.goto (-43), 3, 0, 0, 0)] := rfl
theorem bk_2_86 : mbk 2 86 = [(.return_, 1, 0, 0, 0)] := rfl
theorem bk_3_0 : mbk 3 0 = [(.iload_n 0, 1, 0, 0, 0), (.ifCond .eq (14), 3, 0, 0, 0), (.iload_n 0, 1, 0, 0, 0), (.iconst 3, 1, 0, 0, 0), (.ishr, 1, 0, 0, 0), (.iload_n 1, 1, 0, 0, 0), (.if_icmp .ne (7), 3, 0, 0, 0), (.iconst 1, 1, 0, 0, 0), (.goto (4), 3, 0, 0, 0)] := rfl
theorem bk_3_15 : mbk 3 15 = [(.iconst 0, 1, 0, 0, 0)] := rfl
theorem bk_3_16 : mbk 3 16 = [(.ireturn, 1, 0, 0, 0)] := rfl
theorem bk_4_0 : mbk 4 0 = [(.iload_n 0, 1, 0, 0, 0), (.bipush 7, 2, 0, 0, 0), (.iand, 1, 0, 0, 0), (.ireturn, 1, 0, 0, 0)] := rfl
theorem bk_5_0 : mbk 5 0 = [(.iload_n 0, 1, 0, 0, 0), (.ifCond .ne (8), 3, 0, 0, 0), (.bipush 8, 2, 0, 0, 0), (.goto (5), 3, 0, 0, 0)] := rfl
theorem bk_5_9 : mbk 5 9 = [(.bipush (-8), 2, 0, 0, 0)] := rfl
theorem bk_5_11 : mbk 5 11 = [(.ireturn, 1, 0, 0, 0)] := rfl
theorem bk_6_0 : mbk 6 0 = [(.iload_n 0, 1, 0, 0, 0), (.ifCond .lt (13), 3, 0, 0, 0), (.iload_n 0, 1, 0, 0, 0), (.bipush 64, 2, 0, 0, 0), (.if_icmp .ge (7), 3, 0, 0, 0), (.iconst 1, 1, 0, 0, 0), (.goto (4), 3, 0, 0, 0)] := rfl
theorem bk_6_14 : mbk 6 14 = [(.iconst 0, 1, 0, 0, 0)] := rfl
theorem bk_6_15 : mbk 6 15 = [(.ireturn, 1, 0, 0, 0)] := rfl
theorem bk_7_0 : mbk 7 0 = [(.iload_n 0, 1, 0, 0, 0), (.bipush 9, 2, 0, 0, 0), (.ishl, 1, 0, 0, 0), (.iload_n 1, 1, 0, 0, 0), (.iconst 3, 1, 0, 0, 0), (.ishl, 1, 0, 0, 0), (.ior, 1, 0, 0, 0), (.iload_n 2, 1, 0, 0, 0), (.ior, 1, 0, 0, 0), (.ireturn, 1, 0, 0, 0)] := rfl
theorem bk_8_0 : mbk 8 0 = [(.iload_n 0, 1, 0, 0, 0), (.ifCond .lt (23), 3, 0, 0, 0), (.iload_n 0, 1, 0, 0, 0), (.bipush 8, 2, 0, 0, 0), (.if_icmp .ge (17), 3, 0, 0, 0), (.iload_n 1, 1, 0, 0, 0), (.ifCond .lt (13), 3, 0, 0, 0), (.iload_n 1, 1, 0, 0, 0), (.bipush 8, 2, 0, 0, 0), (.if_icmp .ge (7), 3, 0, 0, 0), (.iconst 1, 1, 0, 0, 0), (.goto (4), 3, 0, 0, 0)] := rfl
theorem bk_8_24 : mbk 8 24 = [(.iconst 0, 1, 0, 0, 0)] := rfl
theorem bk_8_25 : mbk 8 25 = [(.ireturn, 1, 0, 0, 0)] := rfl
theorem bk_9_0 : mbk 9 0 = [(.iload_n 0, 1, 0, 0, 0), (.bipush 9, 2, 0, 0, 0), (.ishr, 1, 0, 0, 0), (.bipush 63, 2, 0, 0, 0), (.iand, 1, 0, 0, 0), (.ireturn, 1, 0, 0, 0)] := rfl
theorem bk_10_0 : mbk 10 0 = [(.iload_n 0, 1, 0, 0, 0), (.iconst 3, 1, 0, 0, 0), (.ishr, 1, 0, 0, 0), (.bipush 63, 2, 0, 0, 0), (.iand, 1, 0, 0, 0), (.ireturn, 1, 0, 0, 0)] := rfl
theorem bk_11_0 : mbk 11 0 = [(.iload_n 0, 1, 0, 0, 0), (.bipush 7, 2, 0, 0, 0), (.iand, 1, 0, 0, 0), (.ireturn, 1, 0, 0, 0)] := rfl
theorem bk_12_0 : mbk 12 0 = [(.aload_n 0, 1, 0, 0, 0), (.getfield 12, 3, 0, 0, 0), (.getfield 128, 3, 1, 4, 0), (.iconst (-1), 1, 0, 0, 0), (.if_icmp .ne (5), 3, 0, 0, 0), (.iconst (-1), 1, 0, 0, 0), (.ireturn, 1, 0, 0, 0)] := rfl
theorem bk_12_13 : mbk 12 13 = [(.iconst 0, 1, 0, 0, 0), (.istore_n 1, 1, 0, 0, 0)] := rfl
theorem bk_12_15 : mbk 12 15 = [(.iload_n 1, 1, 0, 0, 0), (.aload_n 0, 1, 0, 0, 0), (.getfield 19, 3, 0, 1, 0), (.getfield 131, 3, 3, 1, 0), (.if_icmp .ge (65), 3, 0, 0, 0), (.aload_n 0, 1, 0, 0, 0), (.getfield 19, 3, 0, 1, 0), (.getfield 134, 3, 3, 0, 0), (.iload_n 1, 1, 0, 0, 0), (.iaload, 1, 0, 0, 0), (.istore_n 2, 1, 0, 0, 0), (.aload_n 0, 1, 0, 0, 0), (.getfield 12, 3, 0, 0, 0), (.getfield 33, 3, 1, 0, 0), (.getfield 60, 3, 2, 0, 0), (.iload_n 2, 1, 0, 0, 0), (.invokestatic 137, 3, 11, 1, 0), (.iaload, 1, 0, 0, 0), (.invokestatic 190, 3, 6, 1, 0), (.istore_n 3, 1, 0, 0, 0), (.iload_n 3, 1, 0, 0, 0), (.iconst 1, 1, 0, 0, 0), (.if_icmp .ne (25), 3, 0, 0, 0), (.iload_n 2, 1, 0, 0, 0), (.invokestatic 140, 3, 12, 1, 0), (.aload_n 0, 1, 0, 0, 0), (.getfield 12, 3, 0, 0, 0), (.getfield 128, 3, 1, 4, 0), (.if_icmp .ne (11), 3, 0, 0, 0), (.aload_n 0, 1, 0, 0, 0), (.getfield 12, 3, 0, 0, 0), (.getfield 128, 3, 1, 4, 0), (.ireturn, 1, 0, 0, 0)] := rfl
theorem bk_12_82 : mbk 12 82 = [(.iinc 1 (1), 3, 0, 0, 0), (.goto (-70), 3, 0, 0, 0)] := rfl
theorem bk_12_88 : mbk 12 88 = [(.iconst (-1), 1, 0, 0, 0), (.ireturn, 1, 0, 0, 0)] := rfl
theorem bk_13_0 : mbk 13 0 = [(.aload_n 0, 1, 0, 0, 0), (.getfield 12, 3, 0, 0, 0), (.getfield 33, 3, 1, 0, 0), (.invokevirtual 37, 3, 50, 1, 0), (.aload_n 0, 1, 0, 0, 0), (.iconst 0, 1, 0, 0, 0), (.bipush 15, 2, 0, 0, 0), (.iconst (-1), 1, 0, 0, 0), (.invokevirtual 42, 3, 3, 4, 0), (.return_, 1, 0, 0, 0)] := rfl
theorem bk_14_0 : mbk 14 0 = [(.aload_n 0, 1, 0, 0, 0), (.iconst 0, 1, 0, 0, 0), (.putfield 46, 3, 0, 4, 0), (.aload_n 0, 1, 0, 0, 0), (.getfield 12, 3, 0, 0, 0), (.getfield 33, 3, 1, 0, 0), (.invokevirtual 50, 3, 51, 1, 0), (.return_, 1, 0, 0, 0)] := rfl
theorem bk_15_0 : mbk 15 0 = [(.aload_n 0, 1, 0, 0, 0), (.getfield 46, 3, 0, 4, 0), (.ifCond .ne (17), 3, 0, 0, 0), (.iload_n 1, 1, 0, 0, 0), (.invokestatic 53, 3, 8, 1, 0), (.ifCond .eq (10), 3, 0, 0, 0), (.iload_n 2, 1, 0, 0, 0), (.invokestatic 57, 3, 18, 1, 0), (.ifCond .ne (5), 3, 0, 0, 0)] := rfl
theorem bk_15_21 : mbk 15 21 = [(.iconst 0, 1, 0, 0, 0), (.ireturn, 1, 0, 0, 0)] := rfl
theorem bk_15_23 : mbk 15 23 = [(.aload_n 0, 1, 0, 0, 0), (.getfield 12, 3, 0, 0, 0), (.getfield 33, 3, 1, 0, 0), (.getfield 60, 3, 2, 0, 0), (.iload_n 1, 1, 0, 0, 0), (.iload_n 2, 1, 0, 0, 0), (.iastore, 1, 0, 0, 0), (.iconst 1, 1, 0, 0, 0), (.ireturn, 1, 0, 0, 0)] := rfl
theorem bk_16_0 : mbk 16 0 = [(.iload_n 0, 1, 0, 0, 0), (.iconst 1, 1, 0, 0, 0), (.if_icmp .lt (13), 3, 0, 0, 0), (.iload_n 0, 1, 0, 0, 0), (.bipush 6, 2, 0, 0, 0), (.if_icmp .gt (7), 3, 0, 0, 0), (.iconst 1, 1, 0, 0, 0), (.goto (4), 3, 0, 0, 0)] := rfl
theorem bk_16_15 : mbk 16 15 = [(.iconst 0, 1, 0, 0, 0)] := rfl
theorem bk_16_16 : mbk 16 16 = [(.istore_n 1, 1, 0, 0, 0), (.iload_n 0, 1, 0, 0, 0), (.bipush 9, 2, 0, 0, 0), (.if_icmp .lt (13), 3, 0, 0, 0), (.iload_n 0, 1, 0, 0, 0), (.bipush 14, 2, 0, 0, 0), (.if_icmp .gt (7), 3, 0, 0, 0), (.iconst 1, 1, 0, 0, 0), (.goto (4), 3, 0, 0, 0)] := rfl
theorem bk_16_33 : mbk 16 33 = [(.iconst 0, 1, 0, 0, 0)] := rfl
theorem bk_16_34 : mbk 16 34 = [(.istore_n 2, 1, 0, 0, 0), (.iload_n 0, 1, 0, 0, 0), (.ifCond .eq (11), 3, 0, 0, 0), (.iload_n 1, 1, 0, 0, 0), (.ifCond .ne (7), 3, 0, 0, 0), (.iload_n 2, 1, 0, 0, 0), (.ifCond .eq (7), 3, 0, 0, 0)] := rfl
theorem bk_16_47 : mbk 16 47 = [(.iconst 1, 1, 0, 0, 0), (.goto (4), 3, 0, 0, 0)] := rfl
theorem bk_16_51 : mbk 16 51 = [(.iconst 0, 1, 0, 0, 0)] := rfl
theorem bk_16_52 : mbk 16 52 = [(.ireturn, 1, 0, 0, 0)] := rfl
theorem bk_17_0 : mbk 17 0 = [(.aload_n 0, 1, 0, 0, 0), (.getfield 46, 3, 0, 4, 0), (.ifCond .ne (20), 3, 0, 0, 0), (.iload_n 1, 1, 0, 0, 0), (.invokestatic 64, 3, 20, 1, 0), (.ifCond .eq (13), 3, 0, 0, 0), (.iload_n 2, 1, 0, 0, 0), (.ifCond .lt (9), 3, 0, 0, 0), (.iload_n 2, 1, 0, 0, 0), (.bipush 15, 2, 0, 0, 0), (.if_icmp .le (5), 3, 0, 0, 0)] := rfl
theorem bk_17_24 : mbk 17 24 = [(.iconst (-1), 1, 0, 0, 0), (.ireturn, 1, 0, 0, 0)] := rfl
theorem bk_17_26 : mbk 17 26 = [(.iload_n 3, 1, 0, 0, 0), (.iconst (-1), 1, 0, 0, 0), (.if_icmp .eq (12), 3, 0, 0, 0), (.iload_n 3, 1, 0, 0, 0), (.invokestatic 53, 3, 8, 1, 0), (.ifCond .ne (5), 3, 0, 0, 0), (.iconst (-1), 1, 0, 0, 0), (.ireturn, 1, 0, 0, 0)] := rfl
theorem bk_17_40 : mbk 17 40 = [(.aload_n 0, 1, 0, 0, 0), (.getfield 12, 3, 0, 0, 0), (.getfield 33, 3, 1, 0, 0), (.iload_n 1, 1, 0, 0, 0), (.iload_n 2, 1, 0, 0, 0), (.iload_n 3, 1, 0, 0, 0), (.invokestatic 67, 3, 127, 4, 0), (.istore 4, 2, 0, 0, 0), (.iload 4, 2, 0, 0, 0), (.ifCond .eq (6), 3, 0, 0, 0), (.iload 4, 2, 0, 0, 0), (.ireturn, 1, 0, 0, 0)] := rfl
theorem bk_17_63 : mbk 17 63 = [(.aload_n 0, 1, 0, 0, 0), (.iload_n 1, 1, 0, 0, 0), (.iload_n 2, 1, 0, 0, 0), (.iload_n 3, 1, 0, 0, 0), (.invokevirtual 42, 3, 3, 4, 0), (.iconst 0, 1, 0, 0, 0), (.ireturn, 1, 0, 0, 0)] := rfl
theorem bk_18_0 : mbk 18 0 = [(.iload_n 0, 1, 0, 0, 0), (.ifCond .eq (8), 3, 0, 0, 0), (.iload_n 0, 1, 0, 0, 0), (.iconst 1, 1, 0, 0, 0), (.if_icmp .ne (7), 3, 0, 0, 0)] := rfl
theorem bk_18_9 : mbk 18 9 = [(.iconst 1, 1, 0, 0, 0), (.goto (4), 3, 0, 0, 0)] := rfl
theorem bk_18_13 : mbk 18 13 = [(.iconst 0, 1, 0, 0, 0)] := rfl
theorem bk_18_14 : mbk 18 14 = [(.ireturn, 1, 0, 0, 0)] := rfl
theorem bk_19_0 : mbk 19 0 = [(.aload_n 0, 1, 0, 0, 0), (.getfield 46, 3, 0, 4, 0), (.ifCond .ne (5), 3, 0, 0, 0), (.iconst (-1), 1, 0, 0, 0), (.ireturn, 1, 0, 0, 0)] := rfl
theorem bk_19_9 : mbk 19 9 = [(.aload_n 0, 1, 0, 0, 0), (.invokevirtual 73, 3, 22, 1, 0), (.ifCond .eq (6), 3, 0, 0, 0), (.bipush (-7), 2, 0, 0, 0), (.ireturn, 1, 0, 0, 0)] := rfl
theorem bk_19_19 : mbk 19 19 = [(.iload_n 1, 1, 0, 0, 0), (.invokestatic 53, 3, 8, 1, 0), (.ifCond .eq (19), 3, 0, 0, 0), (.iload_n 2, 1, 0, 0, 0), (.invokestatic 53, 3, 8, 1, 0), (.ifCond .eq (12), 3, 0, 0, 0), (.iload_n 3, 1, 0, 0, 0), (.ifCond .lt (8), 3, 0, 0, 0), (.iload_n 3, 1, 0, 0, 0), (.iconst 5, 1, 0, 0, 0), (.if_icmp .le (5), 3, 0, 0, 0)] := rfl
theorem bk_19_42 : mbk 19 42 = [(.iconst (-1), 1, 0, 0, 0), (.ireturn, 1, 0, 0, 0)] := rfl
theorem bk_19_44 : mbk 19 44 = [(.iload_n 1, 1, 0, 0, 0), (.iload_n 2, 1, 0, 0, 0), (.iload_n 3, 1, 0, 0, 0), (.invokestatic 77, 3, 9, 3, 0), (.istore 4, 2, 0, 0, 0), (.aload_n 0, 1, 0, 0, 0), (.getfield 29, 3, 0, 3, 0), (.invokevirtual 81, 3, 65, 1, 0), (.ifCond .ne (15), 3, 0, 0, 0), (.aload_n 0, 1, 0, 0, 0), (.getfield 19, 3, 0, 1, 0), (.iload 4, 2, 0, 0, 0), (.invokevirtual 85, 3, 61, 2, 0), (.ifCond .ne (5), 3, 0, 0, 0)] := rfl
theorem bk_19_74 : mbk 19 74 = [(.iconst (-1), 1, 0, 0, 0), (.ireturn, 1, 0, 0, 0)] := rfl
theorem bk_19_76 : mbk 19 76 = [(.aload_n 0, 1, 0, 0, 0), (.getfield 29, 3, 0, 3, 0), (.iload 4, 2, 0, 0, 0), (.aload_n 0, 1, 0, 0, 0), (.getfield 12, 3, 0, 0, 0), (.iload 4, 2, 0, 0, 0), (.invokevirtual 88, 3, 41, 2, 0), (.invokevirtual 92, 3, 66, 3, 0), (.aload_n 0, 1, 0, 0, 0), (.invokevirtual 96, 3, 4, 1, 0), (.aload_n 0, 1, 0, 0, 0), (.getfield 29, 3, 0, 3, 0), (.aload_n 0, 1, 0, 0, 0), (.getfield 12, 3, 0, 0, 0), (.aload_n 0, 1, 0, 0, 0), (.invokevirtual 99, 3, 14, 1, 0), (.invokevirtual 102, 3, 62, 3, 0), (.iconst 0, 1, 0, 0, 0), (.ireturn, 1, 0, 0, 0)] := rfl
theorem bk_20_0 : mbk 20 0 = [(.aload_n 0, 1, 0, 0, 0), (.getfield 46, 3, 0, 4, 0), (.ifCond .ne (5), 3, 0, 0, 0), (.iconst 0, 1, 0, 0, 0), (.ireturn, 1, 0, 0, 0)] := rfl
theorem bk_20_9 : mbk 20 9 = [(.aload_n 0, 1, 0, 0, 0), (.getfield 19, 3, 0, 1, 0), (.getfield 131, 3, 3, 1, 0), (.ifCond .ne (19), 3, 0, 0, 0), (.aload_n 0, 1, 0, 0, 0), (.getfield 12, 3, 0, 0, 0), (.invokevirtual 150, 3, 48, 1, 0), (.ifCond .eq (7), 3, 0, 0, 0), (.iconst 1, 1, 0, 0, 0), (.goto (4), 3, 0, 0, 0)] := rfl
theorem bk_20_33 : mbk 20 33 = [(.iconst 2, 1, 0, 0, 0)] := rfl
theorem bk_20_34 : mbk 20 34 = [(.ireturn, 1, 0, 0, 0)] := rfl
theorem bk_20_35 : mbk 20 35 = [(.aload_n 0, 1, 0, 0, 0), (.getfield 12, 3, 0, 0, 0), (.getfield 33, 3, 1, 0, 0), (.invokevirtual 153, 3, 57, 1, 0), (.ifCond .eq (5), 3, 0, 0, 0), (.iconst 3, 1, 0, 0, 0), (.ireturn, 1, 0, 0, 0)] := rfl
theorem bk_20_50 : mbk 20 50 = [(.aload_n 0, 1, 0, 0, 0), (.getfield 29, 3, 0, 3, 0), (.invokevirtual 156, 3, 63, 1, 0), (.iconst 5, 1, 0, 0, 0), (.if_icmp .lt (5), 3, 0, 0, 0), (.iconst 4, 1, 0, 0, 0), (.ireturn, 1, 0, 0, 0)] := rfl
theorem bk_20_63 : mbk 20 63 = [(.aload_n 0, 1, 0, 0, 0), (.getfield 12, 3, 0, 0, 0), (.getfield 159, 3, 1, 5, 0), (.sipush 150, 3, 0, 0, 0), (.if_icmp .lt (7), 3, 0, 0, 0), (.iconst 5, 1, 0, 0, 0), (.goto (4), 3, 0, 0, 0)] := rfl
theorem bk_20_80 : mbk 20 80 = [(.iconst 0, 1, 0, 0, 0)] := rfl
theorem bk_20_81 : mbk 20 81 = [(.ireturn, 1, 0, 0, 0)] := rfl
theorem bk_21_0 : mbk 21 0 = [(.aload_n 0, 1, 0, 0, 0), (.getfield 46, 3, 0, 4, 0), (.ifCond .eq (13), 3, 0, 0, 0), (.aload_n 0, 1, 0, 0, 0), (.getfield 29, 3, 0, 3, 0), (.getfield 106, 3, 4, 4, 0), (.ifCond .ne (5), 3, 0, 0, 0)] := rfl
theorem bk_21_17 : mbk 21 17 = [(.iconst 0, 1, 0, 0, 0), (.ireturn, 1, 0, 0, 0)] := rfl
theorem bk_21_19 : mbk 21 19 = [(.aload_n 0, 1, 0, 0, 0), (.getfield 12, 3, 0, 0, 0), (.aload_n 0, 1, 0, 0, 0), (.getfield 29, 3, 0, 3, 0), (.invokevirtual 110, 3, 67, 1, 0), (.aload_n 0, 1, 0, 0, 0), (.getfield 29, 3, 0, 3, 0), (.invokevirtual 113, 3, 68, 1, 0), (.invokevirtual 116, 3, 47, 3, 0), (.aload_n 0, 1, 0, 0, 0), (.getfield 29, 3, 0, 3, 0), (.invokevirtual 119, 3, 69, 1, 0), (.aload_n 0, 1, 0, 0, 0), (.invokevirtual 96, 3, 4, 1, 0), (.iconst 1, 1, 0, 0, 0), (.ireturn, 1, 0, 0, 0)] := rfl
theorem bk_22_0 : mbk 22 0 = [(.iload_n 1, 1, 0, 0, 0), (.invokestatic 53, 3, 8, 1, 0), (.ifCond .eq (18), 3, 0, 0, 0), (.aload_n 0, 1, 0, 0, 0), (.getfield 12, 3, 0, 0, 0), (.getfield 33, 3, 1, 0, 0), (.getfield 60, 3, 2, 0, 0), (.iload_n 1, 1, 0, 0, 0), (.iaload, 1, 0, 0, 0), (.goto (4), 3, 0, 0, 0)] := rfl
theorem bk_22_22 : mbk 22 22 = [(.iconst (-1), 1, 0, 0, 0)] := rfl
theorem bk_22_23 : mbk 22 23 = [(.ireturn, 1, 0, 0, 0)] := rfl
theorem bk_23_0 : mbk 23 0 = [(.aload_n 0, 1, 0, 0, 0), (.getfield 46, 3, 0, 4, 0), (.ifCond .eq (13), 3, 0, 0, 0), (.aload_n 0, 1, 0, 0, 0), (.getfield 12, 3, 0, 0, 0), (.getfield 122, 3, 1, 2, 0), (.goto (4), 3, 0, 0, 0)] := rfl
theorem bk_23_17 : mbk 23 17 = [(.iconst (-1), 1, 0, 0, 0)] := rfl
theorem bk_23_18 : mbk 23 18 = [(.ireturn, 1, 0, 0, 0)] := rfl
theorem bk_24_0 : mbk 24 0 = [(.aload_n 0, 1, 0, 0, 0), (.getfield 46, 3, 0, 4, 0), (.ifCond .eq (13), 3, 0, 0, 0), (.aload_n 0, 1, 0, 0, 0), (.getfield 12, 3, 0, 0, 0), (.getfield 125, 3, 1, 3, 0), (.goto (4), 3, 0, 0, 0)] := rfl
theorem bk_24_17 : mbk 24 17 = [(.iconst (-1), 1, 0, 0, 0)] := rfl
theorem bk_24_18 : mbk 24 18 = [(.ireturn, 1, 0, 0, 0)] := rfl
theorem bk_25_0 : mbk 25 0 = [(.aload_n 0, 1, 0, 0, 0), (.getfield 46, 3, 0, 4, 0), (.ifCond .eq (24), 3, 0, 0, 0), (.aload_n 0, 1, 0, 0, 0), (.getfield 12, 3, 0, 0, 0), (.getfield 128, 3, 1, 4, 0), (.iconst (-1), 1, 0, 0, 0), (.if_icmp .eq (13), 3, 0, 0, 0), (.aload_n 0, 1, 0, 0, 0), (.getfield 12, 3, 0, 0, 0), (.getfield 128, 3, 1, 4, 0), (.goto (4), 3, 0, 0, 0)] := rfl
theorem bk_25_28 : mbk 25 28 = [(.iconst (-1), 1, 0, 0, 0)] := rfl
theorem bk_25_29 : mbk 25 29 = [(.ireturn, 1, 0, 0, 0)] := rfl
theorem bk_26_0 : mbk 26 0 = [(.aload_n 0, 1, 0, 0, 0), (.getfield 46, 3, 0, 4, 0), (.ifCond .eq (13), 3, 0, 0, 0), (.aload_n 0, 1, 0, 0, 0), (.getfield 19, 3, 0, 1, 0), (.getfield 131, 3, 3, 1, 0), (.goto (4), 3, 0, 0, 0)] := rfl
theorem bk_26_17 : mbk 26 17 = [(.iconst 0, 1, 0, 0, 0)] := rfl
theorem bk_26_18 : mbk 26 18 = [(.ireturn, 1, 0, 0, 0)] := rfl
theorem bk_27_0 : mbk 27 0 = [(.aload_n 0, 1, 0, 0, 0), (.getfield 46, 3, 0, 4, 0), (.ifCond .eq (18), 3, 0, 0, 0), (.iload_n 1, 1, 0, 0, 0), (.ifCond .lt (14), 3, 0, 0, 0), (.iload_n 1, 1, 0, 0, 0), (.aload_n 0, 1, 0, 0, 0), (.getfield 19, 3, 0, 1, 0), (.getfield 131, 3, 3, 1, 0), (.if_icmp .lt (5), 3, 0, 0, 0)] := rfl
theorem bk_27_22 : mbk 27 22 = [(.iconst (-1), 1, 0, 0, 0), (.ireturn, 1, 0, 0, 0)] := rfl
theorem bk_27_24 : mbk 27 24 = [(.aload_n 0, 1, 0, 0, 0), (.getfield 19, 3, 0, 1, 0), (.getfield 134, 3, 3, 0, 0), (.iload_n 1, 1, 0, 0, 0), (.iaload, 1, 0, 0, 0), (.istore_n 2, 1, 0, 0, 0), (.iload_n 2, 1, 0, 0, 0), (.invokestatic 137, 3, 11, 1, 0), (.bipush 64, 2, 0, 0, 0), (.iload_n 2, 1, 0, 0, 0), (.invokestatic 140, 3, 12, 1, 0), (.imul, 1, 0, 0, 0), (.iadd, 1, 0, 0, 0), (.sipush 4096, 3, 0, 0, 0), (.iload_n 2, 1, 0, 0, 0), (.invokestatic 143, 3, 13, 1, 0), (.imul, 1, 0, 0, 0), (.iadd, 1, 0, 0, 0), (.ireturn, 1, 0, 0, 0)] := rfl
theorem bk_28_0 : mbk 28 0 = [(.iload_n 1, 1, 0, 0, 0), (.invokestatic 53, 3, 8, 1, 0), (.ifCond .eq (10), 3, 0, 0, 0), (.iload_n 2, 1, 0, 0, 0), (.invokestatic 64, 3, 20, 1, 0), (.ifCond .ne (5), 3, 0, 0, 0)] := rfl
theorem bk_28_14 : mbk 28 14 = [(.iconst (-1), 1, 0, 0, 0), (.ireturn, 1, 0, 0, 0)] := rfl
theorem bk_28_16 : mbk 28 16 = [(.aload_n 0, 1, 0, 0, 0), (.getfield 12, 3, 0, 0, 0), (.getfield 33, 3, 1, 0, 0), (.iload_n 1, 1, 0, 0, 0), (.iload_n 2, 1, 0, 0, 0), (.invokevirtual 146, 3, 53, 3, 0), (.ireturn, 1, 0, 0, 0)] := rfl
theorem bk_29_0 : mbk 29 0 = [(.aload_n 0, 1, 0, 0, 0), (.getfield 46, 3, 0, 4, 0), (.ifCond .eq (17), 3, 0, 0, 0), (.aload_n 0, 1, 0, 0, 0), (.getfield 12, 3, 0, 0, 0), (.invokevirtual 150, 3, 48, 1, 0), (.ifCond .eq (7), 3, 0, 0, 0), (.iconst 1, 1, 0, 0, 0), (.goto (4), 3, 0, 0, 0)] := rfl
theorem bk_29_21 : mbk 29 21 = [(.iconst 0, 1, 0, 0, 0)] := rfl
theorem bk_29_22 : mbk 29 22 = [(.ireturn, 1, 0, 0, 0)] := rfl
theorem bk_30_0 : mbk 30 0 = [(.aload_n 0, 1, 0, 0, 0), (.getfield 46, 3, 0, 4, 0), (.ifCond .ne (5), 3, 0, 0, 0), (.iconst 0, 1, 0, 0, 0), (.ireturn, 1, 0, 0, 0)] := rfl
theorem bk_30_9 : mbk 30 9 = [(.aload_n 0, 1, 0, 0, 0), (.getfield 29, 3, 0, 3, 0), (.invokevirtual 156, 3, 63, 1, 0), (.iconst 3, 1, 0, 0, 0), (.if_icmp .lt (7), 3, 0, 0, 0), (.iconst 1, 1, 0, 0, 0), (.goto (4), 3, 0, 0, 0)] := rfl
theorem bk_30_24 : mbk 30 24 = [(.iconst 0, 1, 0, 0, 0)] := rfl
theorem bk_30_25 : mbk 30 25 = [(.istore_n 1, 1, 0, 0, 0), (.aload_n 0, 1, 0, 0, 0), (.getfield 12, 3, 0, 0, 0), (.getfield 159, 3, 1, 5, 0), (.bipush 100, 2, 0, 0, 0), (.if_icmp .lt (9), 3, 0, 0, 0), (.iload_n 1, 1, 0, 0, 0), (.iconst 2, 1, 0, 0, 0), (.iadd, 1, 0, 0, 0), (.goto (4), 3, 0, 0, 0)] := rfl
theorem bk_30_44 : mbk 30 44 = [(.iload_n 1, 1, 0, 0, 0)] := rfl
theorem bk_30_45 : mbk 30 45 = [(.ireturn, 1, 0, 0, 0)] := rfl
theorem bk_31_0 : mbk 31 0 = [(.aload_n 0, 1, 0, 0, 0), (.getfield 46, 3, 0, 4, 0), (.ifCond .eq (13), 3, 0, 0, 0), (.aload_n 0, 1, 0, 0, 0), (.getfield 12, 3, 0, 0, 0), (.getfield 159, 3, 1, 5, 0), (.goto (4), 3, 0, 0, 0)] := rfl
theorem bk_31_17 : mbk 31 17 = [(.iconst 0, 1, 0, 0, 0)] := rfl
theorem bk_31_18 : mbk 31 18 = [(.ireturn, 1, 0, 0, 0)] := rfl
theorem bk_32_0 : mbk 32 0 = [(.aload_n 0, 1, 0, 0, 0), (.getfield 46, 3, 0, 4, 0), (.ifCond .eq (13), 3, 0, 0, 0), (.aload_n 0, 1, 0, 0, 0), (.getfield 29, 3, 0, 3, 0), (.getfield 106, 3, 4, 4, 0), (.goto (4), 3, 0, 0, 0)] := rfl
theorem bk_32_17 : mbk 32 17 = [(.iconst 0, 1, 0, 0, 0)] := rfl
theorem bk_32_18 : mbk 32 18 = [(.ireturn, 1, 0, 0, 0)] := rfl
theorem bk_33_0 : mbk 33 0 = [(.aload_n 0, 1, 0, 0, 0), (.getfield 46, 3, 0, 4, 0), (.ifCond .eq (12), 3, 0, 0, 0), (.iload_n 1, 1, 0, 0, 0), (.ifCond .lt (8), 3, 0, 0, 0), (.iload_n 1, 1, 0, 0, 0), (.iconst 2, 1, 0, 0, 0), (.if_icmp .le (7), 3, 0, 0, 0)] := rfl
theorem bk_33_16 : mbk 33 16 = [(.sipush (-10000), 3, 0, 0, 0), (.ireturn, 1, 0, 0, 0)] := rfl
theorem bk_33_20 : mbk 33 20 = [(.iload_n 1, 1, 0, 0, 0), (.ifCond .ne (21), 3, 0, 0, 0), (.aload_n 0, 1, 0, 0, 0), (.getfield 12, 3, 0, 0, 0), (.getfield 33, 3, 1, 0, 0), (.aload_n 0, 1, 0, 0, 0), (.getfield 12, 3, 0, 0, 0), (.getfield 122, 3, 1, 2, 0), (.invokevirtual 162, 3, 58, 2, 0), (.ireturn, 1, 0, 0, 0)] := rfl
theorem bk_33_42 : mbk 33 42 = [(.iload_n 1, 1, 0, 0, 0), (.iconst 1, 1, 0, 0, 0), (.if_icmp .ne (10), 3, 0, 0, 0), (.aload_n 0, 1, 0, 0, 0), (.invokevirtual 165, 3, 36, 1, 0), (.goto (7), 3, 0, 0, 0)] := rfl
theorem bk_33_54 : mbk 33 54 = [(.aload_n 0, 1, 0, 0, 0), (.invokevirtual 168, 3, 38, 1, 0)] := rfl
theorem bk_33_58 : mbk 33 58 = [(.ireturn, 1, 0, 0, 0)] := rfl
theorem bk_34_0 : mbk 34 0 = [(.aload_n 0, 1, 0, 0, 0), (.getfield 23, 3, 0, 2, 0), (.iconst 0, 1, 0, 0, 0), (.putfield 131, 3, 3, 1, 0), (.aload_n 0, 1, 0, 0, 0), (.getfield 12, 3, 0, 0, 0), (.aload_n 0, 1, 0, 0, 0), (.getfield 23, 3, 0, 2, 0), (.invokestatic 174, 3, 119, 2, 0), (.aload_n 0, 1, 0, 0, 0), (.getfield 12, 3, 0, 0, 0), (.aload_n 0, 1, 0, 0, 0), (.getfield 23, 3, 0, 2, 0), (.invokestatic 180, 3, 125, 2, 0), (.iconst (-1), 1, 0, 0, 0), (.istore_n 1, 1, 0, 0, 0), (.iconst 0, 1, 0, 0, 0), (.istore_n 2, 1, 0, 0, 0)] := rfl
theorem bk_34_34 : mbk 34 34 = [(.iload_n 2, 1, 0, 0, 0), (.aload_n 0, 1, 0, 0, 0), (.getfield 23, 3, 0, 2, 0), (.getfield 131, 3, 3, 1, 0), (.if_icmp .ge (49), 3, 0, 0, 0), (.aload_n 0, 1, 0, 0, 0), (.getfield 23, 3, 0, 2, 0), (.getfield 134, 3, 3, 0, 0), (.iload_n 2, 1, 0, 0, 0), (.iaload, 1, 0, 0, 0), (.istore_n 3, 1, 0, 0, 0), (.aload_n 0, 1, 0, 0, 0), (.getfield 12, 3, 0, 0, 0), (.iload_n 3, 1, 0, 0, 0), (.invokevirtual 193, 3, 49, 2, 0), (.istore 4, 2, 0, 0, 0), (.iload 4, 2, 0, 0, 0), (.iload_n 1, 1, 0, 0, 0), (.if_icmp .le (17), 3, 0, 0, 0), (.aload_n 0, 1, 0, 0, 0), (.getfield 12, 3, 0, 0, 0), (.iload_n 3, 1, 0, 0, 0), (.invokevirtual 183, 3, 40, 2, 0), (.ifCond .eq (6), 3, 0, 0, 0), (.iload 4, 2, 0, 0, 0), (.istore_n 1, 1, 0, 0, 0)] := rfl
theorem bk_34_85 : mbk 34 85 = [(.iinc 2 (1), 3, 0, 0, 0), (.goto (-54), 3, 0, 0, 0)] := rfl
theorem bk_34_91 : mbk 34 91 = [(.iload_n 1, 1, 0, 0, 0), (.ifCond .ge (8), 3, 0, 0, 0), (.aload_n 0, 1, 0, 0, 0), (.invokevirtual 196, 3, 37, 1, 0), (.ireturn, 1, 0, 0, 0)] := rfl
theorem bk_34_100 : mbk 34 100 = [(.aload_n 0, 1, 0, 0, 0), (.getfield 12, 3, 0, 0, 0), (.getfield 33, 3, 1, 0, 0), (.aload_n 0, 1, 0, 0, 0), (.getfield 12, 3, 0, 0, 0), (.getfield 122, 3, 1, 2, 0), (.invokevirtual 162, 3, 58, 2, 0), (.iload_n 1, 1, 0, 0, 0), (.iadd, 1, 0, 0, 0), (.ireturn, 1, 0, 0, 0)] := rfl
theorem bk_35_0 : mbk 35 0 = [(.aload_n 0, 1, 0, 0, 0), (.getfield 12, 3, 0, 0, 0), (.invokevirtual 150, 3, 48, 1, 0), (.ifCond .eq (9), 3, 0, 0, 0), (.sipush (-1000), 3, 0, 0, 0), (.goto (4), 3, 0, 0, 0)] := rfl
theorem bk_35_16 : mbk 35 16 = [(.iconst 0, 1, 0, 0, 0)] := rfl
theorem bk_35_17 : mbk 35 17 = [(.ireturn, 1, 0, 0, 0)] := rfl
theorem bk_36_0 : mbk 36 0 = [(.aload_n 0, 1, 0, 0, 0), (.getfield 19, 3, 0, 1, 0), (.getfield 131, 3, 3, 1, 0), (.ifCond .ne (8), 3, 0, 0, 0), (.aload_n 0, 1, 0, 0, 0), (.invokevirtual 196, 3, 37, 1, 0), (.ireturn, 1, 0, 0, 0)] := rfl
theorem bk_36_15 : mbk 36 15 = [(.sipush (-1000), 3, 0, 0, 0), (.istore_n 1, 1, 0, 0, 0), (.iconst 0, 1, 0, 0, 0), (.istore_n 2, 1, 0, 0, 0)] := rfl
theorem bk_36_21 : mbk 36 21 = [(.iload_n 2, 1, 0, 0, 0), (.aload_n 0, 1, 0, 0, 0), (.getfield 19, 3, 0, 1, 0), (.getfield 131, 3, 3, 1, 0), (.if_icmp .ge (49), 3, 0, 0, 0), (.aload_n 0, 1, 0, 0, 0), (.getfield 19, 3, 0, 1, 0), (.getfield 134, 3, 3, 0, 0), (.iload_n 2, 1, 0, 0, 0), (.iaload, 1, 0, 0, 0), (.istore_n 3, 1, 0, 0, 0), (.aload_n 0, 1, 0, 0, 0), (.getfield 12, 3, 0, 0, 0), (.iload_n 3, 1, 0, 0, 0), (.invokevirtual 88, 3, 41, 2, 0), (.istore 4, 2, 0, 0, 0), (.iload_n 1, 1, 0, 0, 0), (.aload_n 0, 1, 0, 0, 0), (.invokevirtual 165, 3, 36, 1, 0), (.ineg, 1, 0, 0, 0), (.invokestatic 199, 3, 1, 2, 0), (.istore_n 1, 1, 0, 0, 0), (.aload_n 0, 1, 0, 0, 0), (.getfield 12, 3, 0, 0, 0), (.iload_n 3, 1, 0, 0, 0), (.iload 4, 2, 0, 0, 0), (.invokevirtual 116, 3, 47, 3, 0), (.iinc 2 (1), 3, 0, 0, 0), (.goto (-54), 3, 0, 0, 0)] := rfl
theorem bk_36_78 : mbk 36 78 = [(.iload_n 1, 1, 0, 0, 0), (.ireturn, 1, 0, 0, 0)] := rfl
theorem bk_37_0 : mbk 37 0 = [(.aload_n 0, 1, 0, 0, 0), (.iload_n 1, 1, 0, 0, 0), (.putfield 22, 3, 1, 2, 0), (.aload_n 0, 1, 0, 0, 0), (.iload_n 2, 1, 0, 0, 0), (.putfield 26, 3, 1, 3, 0), (.aload_n 0, 1, 0, 0, 0), (.iload_n 3, 1, 0, 0, 0), (.putfield 29, 3, 1, 4, 0), (.aload_n 0, 1, 0, 0, 0), (.iconst 0, 1, 0, 0, 0), (.putfield 32, 3, 1, 5, 0), (.aload_n 0, 1, 0, 0, 0), (.getfield 18, 3, 1, 1, 0), (.iconst 0, 1, 0, 0, 0), (.aload_n 0, 1, 0, 0, 0), (.getfield 12, 3, 1, 0, 0), (.iconst 0, 1, 0, 0, 0), (.invokevirtual 35, 3, 52, 2, 0), (.iastore, 1, 0, 0, 0), (.aload_n 0, 1, 0, 0, 0), (.getfield 18, 3, 1, 1, 0), (.iconst 1, 1, 0, 0, 0), (.aload_n 0, 1, 0, 0, 0), (.getfield 12, 3, 1, 0, 0), (.iconst 1, 1, 0, 0, 0), (.invokevirtual 35, 3, 52, 2, 0), (.iastore, 1, 0, 0, 0), (.return_, 1, 0, 0, 0)] := rfl
theorem bk_38_0 : mbk 38 0 = [(.aload_n 0, 1, 0, 0, 0), (.getfield 22, 3, 1, 2, 0), (.istore_n 2, 1, 0, 0, 0), (.aload_n 0, 1, 0, 0, 0), (.iload_n 1, 1, 0, 0, 0), (.invokevirtual 43, 3, 41, 2, 0), (.istore_n 3, 1, 0, 0, 0), (.aload_n 0, 1, 0, 0, 0), (.getfield 12, 3, 1, 0, 0), (.aload_n 0, 1, 0, 0, 0), (.getfield 18, 3, 1, 1, 0), (.iload_n 2, 1, 0, 0, 0), (.iaload, 1, 0, 0, 0), (.iconst 1, 1, 0, 0, 0), (.iload_n 2, 1, 0, 0, 0), (.isub, 1, 0, 0, 0), (.invokevirtual 39, 3, 53, 3, 0), (.ifCond .ne (7), 3, 0, 0, 0), (.iconst 1, 1, 0, 0, 0), (.goto (4), 3, 0, 0, 0)] := rfl
theorem bk_38_34 : mbk 38 34 = [(.iconst 0, 1, 0, 0, 0)] := rfl
theorem bk_38_35 : mbk 38 35 = [(.istore 4, 2, 0, 0, 0), (.aload_n 0, 1, 0, 0, 0), (.iload_n 1, 1, 0, 0, 0), (.iload_n 3, 1, 0, 0, 0), (.invokevirtual 46, 3, 47, 3, 0), (.iload 4, 2, 0, 0, 0), (.ireturn, 1, 0, 0, 0)] := rfl
theorem bk_39_0 : mbk 39 0 = [(.iload_n 1, 1, 0, 0, 0), (.invokestatic 53, 3, 11, 1, 0), (.istore_n 2, 1, 0, 0, 0), (.iload_n 1, 1, 0, 0, 0), (.invokestatic 56, 3, 12, 1, 0), (.istore_n 3, 1, 0, 0, 0), (.aload_n 0, 1, 0, 0, 0), (.getfield 12, 3, 1, 0, 0), (.getfield 50, 3, 2, 0, 0), (.iload_n 2, 1, 0, 0, 0), (.iaload, 1, 0, 0, 0), (.istore 4, 2, 0, 0, 0), (.iload 4, 2, 0, 0, 0), (.invokestatic 68, 3, 6, 1, 0), (.istore 5, 2, 0, 0, 0), (.aload_n 0, 1, 0, 0, 0), (.iload 4, 2, 0, 0, 0), (.iload_n 3, 1, 0, 0, 0), (.invokevirtual 59, 3, 42, 3, 0), (.istore 6, 2, 0, 0, 0), (.aload_n 0, 1, 0, 0, 0), (.getfield 12, 3, 1, 0, 0), (.getfield 50, 3, 2, 0, 0), (.iload 6, 2, 0, 0, 0), (.iaload, 1, 0, 0, 0), (.istore 7, 2, 0, 0, 0), (.iload 7, 2, 0, 0, 0), (.aload_n 0, 1, 0, 0, 0), (.getfield 26, 3, 1, 3, 0), (.iconst 4, 1, 0, 0, 0), (.ishl, 1, 0, 0, 0), (.ior, 1, 0, 0, 0), (.aload_n 0, 1, 0, 0, 0), (.getfield 29, 3, 1, 4, 0), (.iconst 1, 1, 0, 0, 0), (.iadd, 1, 0, 0, 0), (.bipush 8, 2, 0, 0, 0), (.ishl, 1, 0, 0, 0), (.ior, 1, 0, 0, 0), (.aload_n 0, 1, 0, 0, 0), (.getfield 32, 3, 1, 5, 0), (.bipush 16, 2, 0, 0, 0), (.ishl, 1, 0, 0, 0), (.ior, 1, 0, 0, 0), (.istore 8, 2, 0, 0, 0), (.aload_n 0, 1, 0, 0, 0), (.getfield 12, 3, 1, 0, 0), (.getfield 50, 3, 2, 0, 0), (.iload 6, 2, 0, 0, 0), (.iconst 0, 1, 0, 0, 0), (.iastore, 1, 0, 0, 0), (.aload_n 0, 1, 0, 0, 0), (.getfield 12, 3, 1, 0, 0), (.getfield 50, 3, 2, 0, 0), (.iload_n 2, 1, 0, 0, 0), (.iconst 0, 1, 0, 0, 0), (.iastore, 1, 0, 0, 0), (.aload_n 0, 1, 0, 0, 0), (.getfield 12, 3, 1, 0, 0), (.getfield 50, 3, 2, 0, 0), (.iload_n 3, 1, 0, 0, 0), (.iload_n 1, 1, 0, 0, 0), (.invokestatic 62, 3, 13, 1, 0), (.ifCond .ne (8), 3, 0, 0, 0), (.iload 4, 2, 0, 0, 0), (.goto (14), 3, 0, 0, 0)] := rfl
theorem bk_39_119 : mbk 39 119 = [(.iload_n 1, 1, 0, 0, 0), (.invokestatic 62, 3, 13, 1, 0), (.aload_n 0, 1, 0, 0, 0), (.getfield 22, 3, 1, 2, 0), (.invokestatic 71, 3, 2, 2, 0)] := rfl
theorem bk_39_130 : mbk 39 130 = [(.iastore, 1, 0, 0, 0), (.iload 5, 2, 0, 0, 0), (.bipush 6, 2, 0, 0, 0), (.if_icmp .ne (35), 3, 0, 0, 0), (.aload_n 0, 1, 0, 0, 0), (.getfield 18, 3, 1, 1, 0), (.aload_n 0, 1, 0, 0, 0), (.getfield 22, 3, 1, 2, 0), (.iload_n 3, 1, 0, 0, 0), (.iastore, 1, 0, 0, 0), (.iload_n 2, 1, 0, 0, 0), (.iload_n 3, 1, 0, 0, 0), (.invokestatic 74, 3, 43, 2, 0), (.ifCond .eq (17), 3, 0, 0, 0), (.aload_n 0, 1, 0, 0, 0), (.iload_n 2, 1, 0, 0, 0), (.iload_n 3, 1, 0, 0, 0), (.invokestatic 78, 3, 44, 2, 0), (.iload_n 2, 1, 0, 0, 0), (.iload_n 3, 1, 0, 0, 0), (.iadd, 1, 0, 0, 0), (.iconst 2, 1, 0, 0, 0), (.idiv, 1, 0, 0, 0), (.invokevirtual 81, 3, 45, 3, 0)] := rfl
theorem bk_39_170 : mbk 39 170 = [(.iload 5, 2, 0, 0, 0), (.iconst 1, 1, 0, 0, 0), (.if_icmp .ne (18), 3, 0, 0, 0), (.iload_n 3, 1, 0, 0, 0), (.iload_n 2, 1, 0, 0, 0), (.isub, 1, 0, 0, 0), (.invokestatic 84, 3, 0, 1, 0), (.bipush 16, 2, 0, 0, 0), (.if_icmp .ne (7), 3, 0, 0, 0), (.iconst 1, 1, 0, 0, 0), (.goto (4), 3, 0, 0, 0)] := rfl
theorem bk_39_191 : mbk 39 191 = [(.iconst 0, 1, 0, 0, 0)] := rfl
theorem bk_39_192 : mbk 39 192 = [(.istore 9, 2, 0, 0, 0), (.aload_n 0, 1, 0, 0, 0), (.iload 9, 2, 0, 0, 0), (.ifCond .eq (11), 3, 0, 0, 0), (.iload_n 2, 1, 0, 0, 0), (.iload_n 3, 1, 0, 0, 0), (.iadd, 1, 0, 0, 0), (.iconst 2, 1, 0, 0, 0), (.idiv, 1, 0, 0, 0), (.goto (4), 3, 0, 0, 0)] := rfl
theorem bk_39_208 : mbk 39 208 = [(.iconst (-1), 1, 0, 0, 0)] := rfl
theorem bk_39_209 : mbk 39 209 = [(.putfield 29, 3, 1, 4, 0), (.aload_n 0, 1, 0, 0, 0), (.iload 5, 2, 0, 0, 0), (.iconst 1, 1, 0, 0, 0), (.if_icmp .eq (8), 3, 0, 0, 0), (.iload 7, 2, 0, 0, 0), (.ifCond .eq (7), 3, 0, 0, 0)] := rfl
theorem bk_39_224 : mbk 39 224 = [(.iconst 0, 1, 0, 0, 0), (.goto (9), 3, 0, 0, 0)] := rfl
theorem bk_39_228 : mbk 39 228 = [(.aload_n 0, 1, 0, 0, 0), (.getfield 32, 3, 1, 5, 0), (.iconst 1, 1, 0, 0, 0), (.iadd, 1, 0, 0, 0)] := rfl
theorem bk_39_234 : mbk 39 234 = [(.putfield 32, 3, 1, 5, 0), (.aload_n 0, 1, 0, 0, 0), (.iload_n 2, 1, 0, 0, 0), (.iload_n 3, 1, 0, 0, 0), (.invokevirtual 89, 3, 46, 3, 0), (.aload_n 0, 1, 0, 0, 0), (.iconst 1, 1, 0, 0, 0), (.aload_n 0, 1, 0, 0, 0), (.getfield 22, 3, 1, 2, 0), (.isub, 1, 0, 0, 0), (.putfield 22, 3, 1, 2, 0), (.iload 8, 2, 0, 0, 0), (.ireturn, 1, 0, 0, 0)] := rfl
theorem bk_40_0 : mbk 40 0 = [(.iload_n 1, 1, 0, 0, 0), (.invokestatic 68, 3, 6, 1, 0), (.iconst 1, 1, 0, 0, 0), (.if_icmp .ne (23), 3, 0, 0, 0), (.iload_n 2, 1, 0, 0, 0), (.aload_n 0, 1, 0, 0, 0), (.getfield 29, 3, 1, 4, 0), (.if_icmp .ne (15), 3, 0, 0, 0), (.iload_n 2, 1, 0, 0, 0), (.aload_n 0, 1, 0, 0, 0), (.getfield 22, 3, 1, 2, 0), (.invokestatic 92, 3, 7, 1, 0), (.isub, 1, 0, 0, 0), (.goto (4), 3, 0, 0, 0)] := rfl
theorem bk_40_28 : mbk 40 28 = [(.iload_n 2, 1, 0, 0, 0)] := rfl
theorem bk_40_29 : mbk 40 29 = [(.ireturn, 1, 0, 0, 0)] := rfl
theorem bk_41_0 : mbk 41 0 = [(.iload_n 1, 1, 0, 0, 0), (.iload_n 0, 1, 0, 0, 0), (.isub, 1, 0, 0, 0), (.invokestatic 84, 3, 0, 1, 0), (.iconst 2, 1, 0, 0, 0), (.if_icmp .ne (7), 3, 0, 0, 0), (.iconst 1, 1, 0, 0, 0), (.goto (4), 3, 0, 0, 0)] := rfl
theorem bk_41_14 : mbk 41 14 = [(.iconst 0, 1, 0, 0, 0)] := rfl
theorem bk_41_15 : mbk 41 15 = [(.ireturn, 1, 0, 0, 0)] := rfl
theorem bk_42_0 : mbk 42 0 = [(.iload_n 1, 1, 0, 0, 0), (.iload_n 0, 1, 0, 0, 0), (.if_icmp .le (9), 3, 0, 0, 0), (.iload_n 0, 1, 0, 0, 0), (.iconst 3, 1, 0, 0, 0), (.iadd, 1, 0, 0, 0), (.goto (6), 3, 0, 0, 0)] := rfl
theorem bk_42_11 : mbk 42 11 = [(.iload_n 0, 1, 0, 0, 0), (.iconst 4, 1, 0, 0, 0), (.isub, 1, 0, 0, 0)] := rfl
theorem bk_42_14 : mbk 42 14 = [(.ireturn, 1, 0, 0, 0)] := rfl
theorem bk_43_0 : mbk 43 0 = [(.aload_n 0, 1, 0, 0, 0), (.getfield 12, 3, 1, 0, 0), (.getfield 50, 3, 2, 0, 0), (.iload_n 2, 1, 0, 0, 0), (.aload_n 0, 1, 0, 0, 0), (.getfield 12, 3, 1, 0, 0), (.getfield 50, 3, 2, 0, 0), (.iload_n 1, 1, 0, 0, 0), (.iaload, 1, 0, 0, 0), (.iastore, 1, 0, 0, 0), (.aload_n 0, 1, 0, 0, 0), (.getfield 12, 3, 1, 0, 0), (.getfield 50, 3, 2, 0, 0), (.iload_n 1, 1, 0, 0, 0), (.iconst 0, 1, 0, 0, 0), (.iastore, 1, 0, 0, 0), (.return_, 1, 0, 0, 0)] := rfl
theorem bk_44_0 : mbk 44 0 = [(.aload_n 0, 1, 0, 0, 0), (.getfield 26, 3, 1, 3, 0), (.ifCond .ne (4), 3, 0, 0, 0), (.return_, 1, 0, 0, 0)] := rfl
theorem bk_44_8 : mbk 44 8 = [(.iconst 0, 1, 0, 0, 0), (.istore_n 3, 1, 0, 0, 0)] := rfl
theorem bk_44_10 : mbk 44 10 = [(.iload_n 3, 1, 0, 0, 0), (.iconst 4, 1, 0, 0, 0), (.if_icmp .ge (83), 3, 0, 0, 0), (.iload_n 1, 1, 0, 0, 0), (.getstatic 95, 3, 24, 0, 0), (.iload_n 3, 1, 0, 0, 0), (.iaload, 1, 0, 0, 0), (.if_icmp .eq (12), 3, 0, 0, 0), (.iload_n 2, 1, 0, 0, 0), (.getstatic 95, 3, 24, 0, 0), (.iload_n 3, 1, 0, 0, 0), (.iaload, 1, 0, 0, 0), (.if_icmp .ne (7), 3, 0, 0, 0)] := rfl
theorem bk_44_33 : mbk 44 33 = [(.iconst 1, 1, 0, 0, 0), (.goto (4), 3, 0, 0, 0)] := rfl
theorem bk_44_37 : mbk 44 37 = [(.iconst 0, 1, 0, 0, 0)] := rfl
theorem bk_44_38 : mbk 44 38 = [(.istore 4, 2, 0, 0, 0), (.iload_n 1, 1, 0, 0, 0), (.getstatic 98, 3, 25, 0, 0), (.iload_n 3, 1, 0, 0, 0), (.iaload, 1, 0, 0, 0), (.if_icmp .eq (12), 3, 0, 0, 0), (.iload_n 2, 1, 0, 0, 0), (.getstatic 98, 3, 25, 0, 0), (.iload_n 3, 1, 0, 0, 0), (.iaload, 1, 0, 0, 0), (.if_icmp .ne (7), 3, 0, 0, 0)] := rfl
theorem bk_44_58 : mbk 44 58 = [(.iconst 1, 1, 0, 0, 0), (.goto (4), 3, 0, 0, 0)] := rfl
theorem bk_44_62 : mbk 44 62 = [(.iconst 0, 1, 0, 0, 0)] := rfl
theorem bk_44_63 : mbk 44 63 = [(.istore 5, 2, 0, 0, 0), (.iload 4, 2, 0, 0, 0), (.ifCond .ne (8), 3, 0, 0, 0), (.iload 5, 2, 0, 0, 0), (.ifCond .eq (17), 3, 0, 0, 0)] := rfl
theorem bk_44_75 : mbk 44 75 = [(.aload_n 0, 1, 0, 0, 0), (.dup, 1, 0, 0, 0), (.getfield 26, 3, 1, 3, 0), (.iconst 1, 1, 0, 0, 0), (.iload_n 3, 1, 0, 0, 0), (.ishl, 1, 0, 0, 0), (.iconst (-1), 1, 0, 0, 0), (.ixor, 1, 0, 0, 0), (.iand, 1, 0, 0, 0), (.putfield 26, 3, 1, 3, 0)] := rfl
theorem bk_44_89 : mbk 44 89 = [(.iinc 3 (1), 3, 0, 0, 0), (.goto (-82), 3, 0, 0, 0)] := rfl
theorem bk_44_95 : mbk 44 95 = [(.return_, 1, 0, 0, 0)] := rfl
theorem bk_45_0 : mbk 45 0 = [(.iload_n 1, 1, 0, 0, 0), (.invokestatic 53, 3, 11, 1, 0), (.istore_n 3, 1, 0, 0, 0), (.iload_n 1, 1, 0, 0, 0), (.invokestatic 56, 3, 12, 1, 0), (.istore 4, 2, 0, 0, 0), (.aload_n 0, 1, 0, 0, 0), (.iconst 1, 1, 0, 0, 0), (.aload_n 0, 1, 0, 0, 0), (.getfield 22, 3, 1, 2, 0), (.isub, 1, 0, 0, 0), (.putfield 22, 3, 1, 2, 0), (.aload_n 0, 1, 0, 0, 0), (.iload_n 2, 1, 0, 0, 0), (.iconst 4, 1, 0, 0, 0), (.ishr, 1, 0, 0, 0), (.bipush 15, 2, 0, 0, 0), (.iand, 1, 0, 0, 0), (.putfield 26, 3, 1, 3, 0), (.aload_n 0, 1, 0, 0, 0), (.iload_n 2, 1, 0, 0, 0), (.bipush 8, 2, 0, 0, 0), (.ishr, 1, 0, 0, 0), (.bipush 127, 2, 0, 0, 0), (.iand, 1, 0, 0, 0), (.iconst 1, 1, 0, 0, 0), (.isub, 1, 0, 0, 0), (.putfield 29, 3, 1, 4, 0), (.aload_n 0, 1, 0, 0, 0), (.iload_n 2, 1, 0, 0, 0), (.bipush 16, 2, 0, 0, 0), (.ishr, 1, 0, 0, 0), (.putfield 32, 3, 1, 5, 0), (.iload_n 1, 1, 0, 0, 0), (.invokestatic 62, 3, 13, 1, 0), (.ifCond .ne (16), 3, 0, 0, 0), (.aload_n 0, 1, 0, 0, 0), (.getfield 12, 3, 1, 0, 0), (.getfield 50, 3, 2, 0, 0), (.iload 4, 2, 0, 0, 0), (.iaload, 1, 0, 0, 0), (.goto (11), 3, 0, 0, 0)] := rfl
theorem bk_45_72 : mbk 45 72 = [(.iconst 1, 1, 0, 0, 0), (.aload_n 0, 1, 0, 0, 0), (.getfield 22, 3, 1, 2, 0), (.invokestatic 71, 3, 2, 2, 0)] := rfl
theorem bk_45_80 : mbk 45 80 = [(.istore 5, 2, 0, 0, 0), (.aload_n 0, 1, 0, 0, 0), (.getfield 12, 3, 1, 0, 0), (.getfield 50, 3, 2, 0, 0), (.iload 4, 2, 0, 0, 0), (.iconst 0, 1, 0, 0, 0), (.iastore, 1, 0, 0, 0), (.aload_n 0, 1, 0, 0, 0), (.getfield 12, 3, 1, 0, 0), (.getfield 50, 3, 2, 0, 0), (.iload_n 3, 1, 0, 0, 0), (.iload 5, 2, 0, 0, 0), (.iastore, 1, 0, 0, 0), (.aload_n 0, 1, 0, 0, 0), (.getfield 12, 3, 1, 0, 0), (.getfield 50, 3, 2, 0, 0), (.aload_n 0, 1, 0, 0, 0), (.iload 5, 2, 0, 0, 0), (.iload 4, 2, 0, 0, 0), (.invokevirtual 59, 3, 42, 3, 0), (.iload_n 2, 1, 0, 0, 0), (.bipush 15, 2, 0, 0, 0), (.iand, 1, 0, 0, 0), (.iastore, 1, 0, 0, 0), (.iload 5, 2, 0, 0, 0), (.invokestatic 68, 3, 6, 1, 0), (.bipush 6, 2, 0, 0, 0), (.if_icmp .ne (38), 3, 0, 0, 0), (.aload_n 0, 1, 0, 0, 0), (.getfield 18, 3, 1, 1, 0), (.aload_n 0, 1, 0, 0, 0), (.getfield 22, 3, 1, 2, 0), (.iload_n 3, 1, 0, 0, 0), (.iastore, 1, 0, 0, 0), (.iload_n 3, 1, 0, 0, 0), (.iload 4, 2, 0, 0, 0), (.invokestatic 74, 3, 43, 2, 0), (.ifCond .eq (19), 3, 0, 0, 0), (.aload_n 0, 1, 0, 0, 0), (.iload_n 3, 1, 0, 0, 0), (.iload 4, 2, 0, 0, 0), (.iadd, 1, 0, 0, 0), (.iconst 2, 1, 0, 0, 0), (.idiv, 1, 0, 0, 0), (.iload_n 3, 1, 0, 0, 0), (.iload 4, 2, 0, 0, 0), (.invokestatic 78, 3, 44, 2, 0), (.invokevirtual 81, 3, 45, 3, 0)] := rfl
theorem bk_45_169 : mbk 45 169 = [(.return_, 1, 0, 0, 0)] := rfl
theorem bk_46_0 : mbk 46 0 = [(.aload_n 0, 1, 0, 0, 0), (.getfield 12, 3, 1, 0, 0), (.aload_n 0, 1, 0, 0, 0), (.getfield 18, 3, 1, 1, 0), (.aload_n 0, 1, 0, 0, 0), (.getfield 22, 3, 1, 2, 0), (.iaload, 1, 0, 0, 0), (.iconst 1, 1, 0, 0, 0), (.aload_n 0, 1, 0, 0, 0), (.getfield 22, 3, 1, 2, 0), (.isub, 1, 0, 0, 0), (.invokevirtual 39, 3, 53, 3, 0), (.ifCond .le (7), 3, 0, 0, 0), (.iconst 1, 1, 0, 0, 0), (.goto (4), 3, 0, 0, 0)] := rfl
theorem bk_46_29 : mbk 46 29 = [(.iconst 0, 1, 0, 0, 0)] := rfl
theorem bk_46_30 : mbk 46 30 = [(.ireturn, 1, 0, 0, 0)] := rfl
theorem bk_47_0 : mbk 47 0 = [(.aload_n 0, 1, 0, 0, 0), (.getfield 12, 3, 1, 0, 0), (.getfield 50, 3, 2, 0, 0), (.iload_n 1, 1, 0, 0, 0), (.invokestatic 53, 3, 11, 1, 0), (.iaload, 1, 0, 0, 0), (.istore_n 2, 1, 0, 0, 0), (.aload_n 0, 1, 0, 0, 0), (.getfield 12, 3, 1, 0, 0), (.getfield 50, 3, 2, 0, 0), (.aload_n 0, 1, 0, 0, 0), (.iload_n 2, 1, 0, 0, 0), (.iload_n 1, 1, 0, 0, 0), (.invokestatic 56, 3, 12, 1, 0), (.invokevirtual 59, 3, 42, 3, 0), (.iaload, 1, 0, 0, 0), (.istore_n 3, 1, 0, 0, 0), (.iload_n 1, 1, 0, 0, 0), (.invokestatic 62, 3, 13, 1, 0), (.istore 4, 2, 0, 0, 0), (.iload 4, 2, 0, 0, 0), (.ifCond .ne (7), 3, 0, 0, 0), (.iconst 0, 1, 0, 0, 0), (.goto (15), 3, 0, 0, 0)] := rfl
theorem bk_47_46 : mbk 47 46 = [(.getstatic 65, 3, 31, 0, 0), (.iload 4, 2, 0, 0, 0), (.iaload, 1, 0, 0, 0), (.getstatic 65, 3, 31, 0, 0), (.iconst 1, 1, 0, 0, 0), (.iaload, 1, 0, 0, 0), (.isub, 1, 0, 0, 0)] := rfl
theorem bk_47_58 : mbk 47 58 = [(.istore 5, 2, 0, 0, 0), (.getstatic 65, 3, 31, 0, 0), (.iload_n 3, 1, 0, 0, 0), (.invokestatic 68, 3, 6, 1, 0), (.iaload, 1, 0, 0, 0), (.iload 5, 2, 0, 0, 0), (.iadd, 1, 0, 0, 0), (.ireturn, 1, 0, 0, 0)] := rfl
theorem bk_48_0 : mbk 48 0 = [(.aload_n 0, 1, 0, 0, 0), (.invokevirtual 21, 3, 51, 1, 0), (.iconst 0, 1, 0, 0, 0), (.istore_n 1, 1, 0, 0, 0)] := rfl
theorem bk_48_6 : mbk 48 6 = [(.iload_n 1, 1, 0, 0, 0), (.bipush 8, 2, 0, 0, 0), (.if_icmp .ge (70), 3, 0, 0, 0), (.aload_n 0, 1, 0, 0, 0), (.getfield 9, 3, 2, 0, 0), (.iload_n 1, 1, 0, 0, 0), (.getstatic 24, 3, 30, 0, 0), (.iload_n 1, 1, 0, 0, 0), (.iaload, 1, 0, 0, 0), (.iconst 0, 1, 0, 0, 0), (.invokestatic 27, 3, 2, 2, 0), (.iastore, 1, 0, 0, 0), (.aload_n 0, 1, 0, 0, 0), (.getfield 9, 3, 2, 0, 0), (.bipush 8, 2, 0, 0, 0), (.iload_n 1, 1, 0, 0, 0), (.iadd, 1, 0, 0, 0), (.iconst 1, 1, 0, 0, 0), (.iconst 0, 1, 0, 0, 0), (.invokestatic 27, 3, 2, 2, 0), (.iastore, 1, 0, 0, 0), (.aload_n 0, 1, 0, 0, 0), (.getfield 9, 3, 2, 0, 0), (.bipush 48, 2, 0, 0, 0), (.iload_n 1, 1, 0, 0, 0), (.iadd, 1, 0, 0, 0), (.iconst 1, 1, 0, 0, 0), (.iconst 1, 1, 0, 0, 0), (.invokestatic 27, 3, 2, 2, 0), (.iastore, 1, 0, 0, 0), (.aload_n 0, 1, 0, 0, 0), (.getfield 9, 3, 2, 0, 0), (.bipush 56, 2, 0, 0, 0), (.iload_n 1, 1, 0, 0, 0), (.iadd, 1, 0, 0, 0), (.getstatic 24, 3, 30, 0, 0), (.iload_n 1, 1, 0, 0, 0), (.iaload, 1, 0, 0, 0), (.iconst 1, 1, 0, 0, 0), (.invokestatic 27, 3, 2, 2, 0), (.iastore, 1, 0, 0, 0), (.iinc 1 (1), 3, 0, 0, 0), (.goto (-70), 3, 0, 0, 0)] := rfl
theorem bk_48_79 : mbk 48 79 = [(.return_, 1, 0, 0, 0)] := rfl
theorem bk_49_0 : mbk 49 0 = [(.aload_n 0, 1, 0, 0, 0), (.getfield 9, 3, 2, 0, 0), (.iconst 0, 1, 0, 0, 0), (.invokestatic 15, 3, 132, 2, 0), (.return_, 1, 0, 0, 0)] := rfl
theorem bk_50_0 : mbk 50 0 = [(.bipush 6, 2, 0, 0, 0), (.iload_n 1, 1, 0, 0, 0), (.invokestatic 27, 3, 2, 2, 0), (.istore_n 2, 1, 0, 0, 0), (.iconst 0, 1, 0, 0, 0), (.istore_n 3, 1, 0, 0, 0)] := rfl
theorem bk_50_9 : mbk 50 9 = [(.iload_n 3, 1, 0, 0, 0), (.bipush 64, 2, 0, 0, 0), (.if_icmp .ge (21), 3, 0, 0, 0), (.aload_n 0, 1, 0, 0, 0), (.getfield 9, 3, 2, 0, 0), (.iload_n 3, 1, 0, 0, 0), (.iaload, 1, 0, 0, 0), (.iload_n 2, 1, 0, 0, 0), (.if_icmp .ne (5), 3, 0, 0, 0), (.iload_n 3, 1, 0, 0, 0), (.ireturn, 1, 0, 0, 0)] := rfl
theorem bk_50_27 : mbk 50 27 = [(.iinc 3 (1), 3, 0, 0, 0), (.goto (-21), 3, 0, 0, 0)] := rfl
theorem bk_50_33 : mbk 50 33 = [(.iconst (-1), 1, 0, 0, 0), (.ireturn, 1, 0, 0, 0)] := rfl
theorem bk_51_0 : mbk 51 0 = [(.iconst 0, 1, 0, 0, 0), (.istore_n 3, 1, 0, 0, 0), (.iconst 0, 1, 0, 0, 0), (.istore 4, 2, 0, 0, 0)] := rfl
theorem bk_51_5 : mbk 51 5 = [(.iload 4, 2, 0, 0, 0), (.bipush 8, 2, 0, 0, 0), (.if_icmp .ge (67), 3, 0, 0, 0), (.aload_n 0, 1, 0, 0, 0), (.iload_n 1, 1, 0, 0, 0), (.iload 4, 2, 0, 0, 0), (.invokevirtual 31, 3, 54, 3, 0), (.istore 5, 2, 0, 0, 0), (.iload 5, 2, 0, 0, 0), (.iconst (-1), 1, 0, 0, 0), (.if_icmp .eq (32), 3, 0, 0, 0), (.aload_n 0, 1, 0, 0, 0), (.getfield 9, 3, 2, 0, 0), (.iload 5, 2, 0, 0, 0), (.iaload, 1, 0, 0, 0), (.iload_n 2, 1, 0, 0, 0), (.invokestatic 34, 3, 5, 2, 0), (.ifCond .eq (18), 3, 0, 0, 0), (.aload_n 0, 1, 0, 0, 0), (.iload 5, 2, 0, 0, 0), (.iload_n 1, 1, 0, 0, 0), (.iload 4, 2, 0, 0, 0), (.invokevirtual 38, 3, 55, 4, 0), (.ifCond .eq (6), 3, 0, 0, 0), (.iinc 3 (1), 3, 0, 0, 0)] := rfl
theorem bk_51_56 : mbk 51 56 = [(.aload_n 0, 1, 0, 0, 0), (.iload_n 1, 1, 0, 0, 0), (.iload 4, 2, 0, 0, 0), (.iload_n 2, 1, 0, 0, 0), (.invokevirtual 42, 3, 56, 4, 0), (.ifCond .eq (6), 3, 0, 0, 0), (.iinc 3 (1), 3, 0, 0, 0)] := rfl
theorem bk_51_70 : mbk 51 70 = [(.iinc 4 (1), 3, 0, 0, 0), (.goto (-68), 3, 0, 0, 0)] := rfl
theorem bk_51_76 : mbk 51 76 = [(.iload_n 3, 1, 0, 0, 0), (.ireturn, 1, 0, 0, 0)] := rfl
theorem bk_52_0 : mbk 52 0 = [(.iload_n 1, 1, 0, 0, 0), (.bipush 8, 2, 0, 0, 0), (.irem, 1, 0, 0, 0), (.istore_n 3, 1, 0, 0, 0), (.iload_n 1, 1, 0, 0, 0), (.bipush 8, 2, 0, 0, 0), (.idiv, 1, 0, 0, 0), (.istore 4, 2, 0, 0, 0), (.iconst 1, 1, 0, 0, 0), (.istore 5, 2, 0, 0, 0)] := rfl
theorem bk_52_14 : mbk 52 14 = [(.iload 5, 2, 0, 0, 0), (.bipush 8, 2, 0, 0, 0), (.if_icmp .ge (61), 3, 0, 0, 0), (.iload_n 3, 1, 0, 0, 0), (.getstatic 45, 3, 26, 0, 0), (.iload_n 2, 1, 0, 0, 0), (.iaload, 1, 0, 0, 0), (.iadd, 1, 0, 0, 0), (.istore_n 3, 1, 0, 0, 0), (.iload 4, 2, 0, 0, 0), (.getstatic 48, 3, 27, 0, 0), (.iload_n 2, 1, 0, 0, 0), (.iaload, 1, 0, 0, 0), (.iadd, 1, 0, 0, 0), (.istore 4, 2, 0, 0, 0), (.iload_n 3, 1, 0, 0, 0), (.iload 4, 2, 0, 0, 0), (.invokestatic 51, 3, 10, 2, 0), (.ifCond .ne (5), 3, 0, 0, 0), (.iconst (-1), 1, 0, 0, 0), (.ireturn, 1, 0, 0, 0)] := rfl
theorem bk_52_50 : mbk 52 50 = [(.aload_n 0, 1, 0, 0, 0), (.getfield 9, 3, 2, 0, 0), (.bipush 8, 2, 0, 0, 0), (.iload 4, 2, 0, 0, 0), (.imul, 1, 0, 0, 0), (.iload_n 3, 1, 0, 0, 0), (.iadd, 1, 0, 0, 0), (.iaload, 1, 0, 0, 0), (.ifCond .eq (11), 3, 0, 0, 0), (.bipush 8, 2, 0, 0, 0), (.iload 4, 2, 0, 0, 0), (.imul, 1, 0, 0, 0), (.iload_n 3, 1, 0, 0, 0), (.iadd, 1, 0, 0, 0), (.ireturn, 1, 0, 0, 0)] := rfl
theorem bk_52_73 : mbk 52 73 = [(.iinc 5 (1), 3, 0, 0, 0), (.goto (-62), 3, 0, 0, 0)] := rfl
theorem bk_52_79 : mbk 52 79 = [(.iconst (-1), 1, 0, 0, 0), (.ireturn, 1, 0, 0, 0)] := rfl
theorem bk_53_0 : mbk 53 0 = [(.aload_n 0, 1, 0, 0, 0), (.getfield 9, 3, 2, 0, 0), (.iload_n 1, 1, 0, 0, 0), (.iaload, 1, 0, 0, 0), (.istore 4, 2, 0, 0, 0), (.iload_n 1, 1, 0, 0, 0), (.iload_n 2, 1, 0, 0, 0), (.isub, 1, 0, 0, 0), (.bipush 8, 2, 0, 0, 0), (.getstatic 48, 3, 27, 0, 0), (.iload_n 3, 1, 0, 0, 0), (.iaload, 1, 0, 0, 0), (.imul, 1, 0, 0, 0), (.getstatic 45, 3, 26, 0, 0), (.iload_n 3, 1, 0, 0, 0), (.iaload, 1, 0, 0, 0), (.iadd, 1, 0, 0, 0), (.if_icmp .ne (7), 3, 0, 0, 0), (.iconst 1, 1, 0, 0, 0), (.goto (4), 3, 0, 0, 0)] := rfl
theorem bk_53_32 : mbk 53 32 = [(.iconst 0, 1, 0, 0, 0)] := rfl
theorem bk_53_33 : mbk 53 33 = [(.istore 5, 2, 0, 0, 0), (.getstatic 45, 3, 26, 0, 0), (.iload_n 3, 1, 0, 0, 0), (.iaload, 1, 0, 0, 0), (.ifCond .eq (15), 3, 0, 0, 0), (.getstatic 48, 3, 27, 0, 0), (.iload_n 3, 1, 0, 0, 0), (.iaload, 1, 0, 0, 0), (.ifCond .eq (7), 3, 0, 0, 0), (.iconst 1, 1, 0, 0, 0), (.goto (4), 3, 0, 0, 0)] := rfl
theorem bk_53_55 : mbk 53 55 = [(.iconst 0, 1, 0, 0, 0)] := rfl
theorem bk_53_56 : mbk 53 56 = [(.istore 6, 2, 0, 0, 0), (.iload 4, 2, 0, 0, 0), (.invokestatic 54, 3, 6, 1, 0), (.tableswitch 91 1 6 #[37, 91, 72, 75, 86, 88], 37, 0, 0, 0)] := rfl
theorem bk_53_100 : mbk 53 100 = [(.iload 5, 2, 0, 0, 0), (.ifCond .eq (31), 3, 0, 0, 0), (.iload 6, 2, 0, 0, 0), (.ifCond .eq (26), 3, 0, 0, 0), (.bipush 8, 2, 0, 0, 0), (.getstatic 48, 3, 27, 0, 0), (.iload_n 3, 1, 0, 0, 0), (.iaload, 1, 0, 0, 0), (.imul, 1, 0, 0, 0), (.iload 4, 2, 0, 0, 0), (.iconst 3, 1, 0, 0, 0), (.ishr, 1, 0, 0, 0), (.invokestatic 58, 3, 7, 1, 0), (.ineg, 1, 0, 0, 0), (.if_icmp .ne (7), 3, 0, 0, 0), (.iconst 1, 1, 0, 0, 0), (.goto (4), 3, 0, 0, 0)] := rfl
theorem bk_53_133 : mbk 53 133 = [(.iconst 0, 1, 0, 0, 0)] := rfl
theorem bk_53_134 : mbk 53 134 = [(.ireturn, 1, 0, 0, 0)] := rfl
theorem bk_53_135 : mbk 53 135 = [(.iload 6, 2, 0, 0, 0), (.ireturn, 1, 0, 0, 0)] := rfl
theorem bk_53_138 : mbk 53 138 = [(.iload 6, 2, 0, 0, 0), (.ifCond .ne (7), 3, 0, 0, 0), (.iconst 1, 1, 0, 0, 0), (.goto (4), 3, 0, 0, 0)] := rfl
theorem bk_53_147 : mbk 53 147 = [(.iconst 0, 1, 0, 0, 0)] := rfl
theorem bk_53_148 : mbk 53 148 = [(.ireturn, 1, 0, 0, 0)] := rfl
theorem bk_53_149 : mbk 53 149 = [(.iconst 1, 1, 0, 0, 0), (.ireturn, 1, 0, 0, 0)] := rfl
theorem bk_53_151 : mbk 53 151 = [(.iload 5, 2, 0, 0, 0), (.ireturn, 1, 0, 0, 0)] := rfl
theorem bk_53_154 : mbk 53 154 = [(.iconst 0, 1, 0, 0, 0), (.ireturn, 1, 0, 0, 0)] := rfl
theorem bk_54_0 : mbk 54 0 = [(.iload_n 1, 1, 0, 0, 0), (.bipush 8, 2, 0, 0, 0), (.irem, 1, 0, 0, 0), (.getstatic 61, 3, 28, 0, 0), (.iload_n 2, 1, 0, 0, 0), (.iaload, 1, 0, 0, 0), (.iadd, 1, 0, 0, 0), (.istore 4, 2, 0, 0, 0), (.iload_n 1, 1, 0, 0, 0), (.bipush 8, 2, 0, 0, 0), (.idiv, 1, 0, 0, 0), (.getstatic 64, 3, 29, 0, 0), (.iload_n 2, 1, 0, 0, 0), (.iaload, 1, 0, 0, 0), (.iadd, 1, 0, 0, 0), (.istore 5, 2, 0, 0, 0), (.iload 4, 2, 0, 0, 0), (.iload 5, 2, 0, 0, 0), (.invokestatic 51, 3, 10, 2, 0), (.ifCond .eq (28), 3, 0, 0, 0), (.aload_n 0, 1, 0, 0, 0), (.getfield 9, 3, 2, 0, 0), (.bipush 8, 2, 0, 0, 0), (.iload 5, 2, 0, 0, 0), (.imul, 1, 0, 0, 0), (.iload 4, 2, 0, 0, 0), (.iadd, 1, 0, 0, 0), (.iaload, 1, 0, 0, 0), (.iconst 2, 1, 0, 0, 0), (.iload_n 3, 1, 0, 0, 0), (.invokestatic 27, 3, 2, 2, 0), (.if_icmp .ne (7), 3, 0, 0, 0), (.iconst 1, 1, 0, 0, 0), (.goto (4), 3, 0, 0, 0)] := rfl
theorem bk_54_59 : mbk 54 59 = [(.iconst 0, 1, 0, 0, 0)] := rfl
theorem bk_54_60 : mbk 54 60 = [(.ireturn, 1, 0, 0, 0)] := rfl
theorem bk_55_0 : mbk 55 0 = [(.iconst 0, 1, 0, 0, 0), (.istore_n 1, 1, 0, 0, 0), (.iconst 0, 1, 0, 0, 0), (.istore_n 2, 1, 0, 0, 0), (.iconst 0, 1, 0, 0, 0), (.istore_n 3, 1, 0, 0, 0), (.iconst 0, 1, 0, 0, 0), (.istore 4, 2, 0, 0, 0), (.iconst 0, 1, 0, 0, 0), (.istore 5, 2, 0, 0, 0)] := rfl
theorem bk_55_12 : mbk 55 12 = [(.iload 5, 2, 0, 0, 0), (.bipush 64, 2, 0, 0, 0), (.if_icmp .ge (118), 3, 0, 0, 0), (.aload_n 0, 1, 0, 0, 0), (.getfield 9, 3, 2, 0, 0), (.iload 5, 2, 0, 0, 0), (.iaload, 1, 0, 0, 0), (.invokestatic 54, 3, 6, 1, 0), (.istore 6, 2, 0, 0, 0), (.iload 6, 2, 0, 0, 0), (.iconst 1, 1, 0, 0, 0), (.if_icmp .eq (15), 3, 0, 0, 0), (.iload 6, 2, 0, 0, 0), (.iconst 4, 1, 0, 0, 0), (.if_icmp .eq (9), 3, 0, 0, 0), (.iload 6, 2, 0, 0, 0), (.iconst 5, 1, 0, 0, 0), (.if_icmp .ne (5), 3, 0, 0, 0)] := rfl
theorem bk_55_49 : mbk 55 49 = [(.iconst 0, 1, 0, 0, 0), (.ireturn, 1, 0, 0, 0)] := rfl
theorem bk_55_51 : mbk 55 51 = [(.iload 6, 2, 0, 0, 0), (.iconst 2, 1, 0, 0, 0), (.if_icmp .ne (6), 3, 0, 0, 0), (.iinc 1 (1), 3, 0, 0, 0)] := rfl
theorem bk_55_60 : mbk 55 60 = [(.iload 6, 2, 0, 0, 0), (.iconst 3, 1, 0, 0, 0), (.if_icmp .ne (65), 3, 0, 0, 0), (.iload_n 2, 1, 0, 0, 0), (.aload_n 0, 1, 0, 0, 0), (.getfield 9, 3, 2, 0, 0), (.iload 5, 2, 0, 0, 0), (.iaload, 1, 0, 0, 0), (.iconst 0, 1, 0, 0, 0), (.invokestatic 34, 3, 5, 2, 0), (.ifCond .eq (7), 3, 0, 0, 0), (.iconst 1, 1, 0, 0, 0), (.goto (4), 3, 0, 0, 0)] := rfl
theorem bk_55_85 : mbk 55 85 = [(.iconst 0, 1, 0, 0, 0)] := rfl
theorem bk_55_86 : mbk 55 86 = [(.iadd, 1, 0, 0, 0), (.istore_n 2, 1, 0, 0, 0), (.iload_n 3, 1, 0, 0, 0), (.aload_n 0, 1, 0, 0, 0), (.getfield 9, 3, 2, 0, 0), (.iload 5, 2, 0, 0, 0), (.iaload, 1, 0, 0, 0), (.iconst 1, 1, 0, 0, 0), (.invokestatic 34, 3, 5, 2, 0), (.ifCond .eq (7), 3, 0, 0, 0), (.iconst 1, 1, 0, 0, 0), (.goto (4), 3, 0, 0, 0)] := rfl
theorem bk_55_107 : mbk 55 107 = [(.iconst 0, 1, 0, 0, 0)] := rfl
theorem bk_55_108 : mbk 55 108 = [(.iadd, 1, 0, 0, 0), (.istore_n 3, 1, 0, 0, 0), (.iload 4, 2, 0, 0, 0), (.iload 5, 2, 0, 0, 0), (.bipush 8, 2, 0, 0, 0), (.irem, 1, 0, 0, 0), (.iload 5, 2, 0, 0, 0), (.bipush 8, 2, 0, 0, 0), (.idiv, 1, 0, 0, 0), (.iadd, 1, 0, 0, 0), (.iconst 2, 1, 0, 0, 0), (.irem, 1, 0, 0, 0), (.iadd, 1, 0, 0, 0), (.istore 4, 2, 0, 0, 0)] := rfl
theorem bk_55_128 : mbk 55 128 = [(.iinc 5 (1), 3, 0, 0, 0), (.goto (-119), 3, 0, 0, 0)] := rfl
theorem bk_55_134 : mbk 55 134 = [(.iload_n 1, 1, 0, 0, 0), (.iload_n 2, 1, 0, 0, 0), (.iadd, 1, 0, 0, 0), (.iload_n 3, 1, 0, 0, 0), (.iadd, 1, 0, 0, 0), (.iconst 1, 1, 0, 0, 0), (.if_icmp .gt (5), 3, 0, 0, 0), (.iconst 1, 1, 0, 0, 0), (.ireturn, 1, 0, 0, 0)] := rfl
theorem bk_55_145 : mbk 55 145 = [(.iload_n 1, 1, 0, 0, 0), (.ifCond .ne (23), 3, 0, 0, 0), (.iload_n 2, 1, 0, 0, 0), (.iconst 1, 1, 0, 0, 0), (.if_icmp .ne (18), 3, 0, 0, 0), (.iload_n 3, 1, 0, 0, 0), (.iconst 1, 1, 0, 0, 0), (.if_icmp .ne (13), 3, 0, 0, 0), (.iload 4, 2, 0, 0, 0), (.iconst 1, 1, 0, 0, 0), (.if_icmp .eq (7), 3, 0, 0, 0), (.iconst 1, 1, 0, 0, 0), (.goto (4), 3, 0, 0, 0)] := rfl
theorem bk_55_169 : mbk 55 169 = [(.iconst 0, 1, 0, 0, 0)] := rfl
theorem bk_55_170 : mbk 55 170 = [(.ireturn, 1, 0, 0, 0)] := rfl
theorem bk_56_0 : mbk 56 0 = [(.iconst 0, 1, 0, 0, 0), (.istore_n 2, 1, 0, 0, 0), (.iconst 0, 1, 0, 0, 0), (.istore_n 3, 1, 0, 0, 0)] := rfl
theorem bk_56_4 : mbk 56 4 = [(.iload_n 3, 1, 0, 0, 0), (.bipush 64, 2, 0, 0, 0), (.if_icmp .ge (48), 3, 0, 0, 0), (.getstatic 67, 3, 31, 0, 0), (.aload_n 0, 1, 0, 0, 0), (.getfield 9, 3, 2, 0, 0), (.iload_n 3, 1, 0, 0, 0), (.iaload, 1, 0, 0, 0), (.invokestatic 54, 3, 6, 1, 0), (.iaload, 1, 0, 0, 0), (.istore 4, 2, 0, 0, 0), (.iload_n 2, 1, 0, 0, 0), (.aload_n 0, 1, 0, 0, 0), (.getfield 9, 3, 2, 0, 0), (.iload_n 3, 1, 0, 0, 0), (.iaload, 1, 0, 0, 0), (.iload_n 1, 1, 0, 0, 0), (.invokestatic 34, 3, 5, 2, 0), (.ifCond .eq (8), 3, 0, 0, 0), (.iload 4, 2, 0, 0, 0), (.goto (6), 3, 0, 0, 0)] := rfl
theorem bk_56_44 : mbk 56 44 = [(.iload 4, 2, 0, 0, 0), (.ineg, 1, 0, 0, 0)] := rfl
theorem bk_56_47 : mbk 56 47 = [(.iadd, 1, 0, 0, 0), (.istore_n 2, 1, 0, 0, 0), (.iinc 3 (1), 3, 0, 0, 0), (.goto (-48), 3, 0, 0, 0)] := rfl
theorem bk_56_55 : mbk 56 55 = [(.iload_n 2, 1, 0, 0, 0), (.ireturn, 1, 0, 0, 0)] := rfl
theorem bk_57_0 : mbk 57 0 = [(.aload_n 0, 1, 0, 0, 0), (.getfield 15, 3, 3, 1, 0), (.sipush 415, 3, 0, 0, 0), (.if_icmp .ge (23), 3, 0, 0, 0), (.aload_n 0, 1, 0, 0, 0), (.getfield 9, 3, 3, 0, 0), (.aload_n 0, 1, 0, 0, 0), (.getfield 15, 3, 3, 1, 0), (.iload_n 1, 1, 0, 0, 0), (.iastore, 1, 0, 0, 0), (.aload_n 0, 1, 0, 0, 0), (.dup, 1, 0, 0, 0), (.getfield 15, 3, 3, 1, 0), (.iconst 1, 1, 0, 0, 0), (.iadd, 1, 0, 0, 0), (.putfield 15, 3, 3, 1, 0)] := rfl
theorem bk_57_30 : mbk 57 30 = [(.return_, 1, 0, 0, 0)] := rfl
theorem bk_58_0 : mbk 58 0 = [(.aload_n 0, 1, 0, 0, 0), (.getfield 15, 3, 3, 1, 0), (.sipush 415, 3, 0, 0, 0), (.if_icmp .lt (4), 3, 0, 0, 0), (.return_, 1, 0, 0, 0)] := rfl
theorem bk_58_11 : mbk 58 11 = [(.aload_n 0, 1, 0, 0, 0), (.getfield 15, 3, 3, 1, 0), (.istore_n 2, 1, 0, 0, 0)] := rfl
theorem bk_58_16 : mbk 58 16 = [(.iload_n 2, 1, 0, 0, 0), (.ifCond .le (35), 3, 0, 0, 0), (.aload_n 0, 1, 0, 0, 0), (.getfield 9, 3, 3, 0, 0), (.iload_n 2, 1, 0, 0, 0), (.iconst 1, 1, 0, 0, 0), (.isub, 1, 0, 0, 0), (.iaload, 1, 0, 0, 0), (.iload_n 1, 1, 0, 0, 0), (.if_icmp .le (23), 3, 0, 0, 0), (.aload_n 0, 1, 0, 0, 0), (.getfield 9, 3, 3, 0, 0), (.iload_n 2, 1, 0, 0, 0), (.aload_n 0, 1, 0, 0, 0), (.getfield 9, 3, 3, 0, 0), (.iload_n 2, 1, 0, 0, 0), (.iconst 1, 1, 0, 0, 0), (.isub, 1, 0, 0, 0), (.iaload, 1, 0, 0, 0), (.iastore, 1, 0, 0, 0), (.iinc 2 (-1), 3, 0, 0, 0), (.goto (-33), 3, 0, 0, 0)] := rfl
theorem bk_58_52 : mbk 58 52 = [(.aload_n 0, 1, 0, 0, 0), (.getfield 9, 3, 3, 0, 0), (.iload_n 2, 1, 0, 0, 0), (.iload_n 1, 1, 0, 0, 0), (.iastore, 1, 0, 0, 0), (.aload_n 0, 1, 0, 0, 0), (.dup, 1, 0, 0, 0), (.getfield 15, 3, 3, 1, 0), (.iconst 1, 1, 0, 0, 0), (.iadd, 1, 0, 0, 0), (.putfield 15, 3, 3, 1, 0), (.return_, 1, 0, 0, 0)] := rfl
theorem bk_59_0 : mbk 59 0 = [(.iconst 0, 1, 0, 0, 0), (.istore_n 2, 1, 0, 0, 0)] := rfl
theorem bk_59_2 : mbk 59 2 = [(.iload_n 2, 1, 0, 0, 0), (.aload_n 0, 1, 0, 0, 0), (.getfield 15, 3, 3, 1, 0), (.if_icmp .ge (21), 3, 0, 0, 0), (.aload_n 0, 1, 0, 0, 0), (.getfield 9, 3, 3, 0, 0), (.iload_n 2, 1, 0, 0, 0), (.iaload, 1, 0, 0, 0), (.iload_n 1, 1, 0, 0, 0), (.if_icmp .ne (5), 3, 0, 0, 0), (.iconst 1, 1, 0, 0, 0), (.ireturn, 1, 0, 0, 0)] := rfl
theorem bk_59_22 : mbk 59 22 = [(.iinc 2 (1), 3, 0, 0, 0), (.goto (-23), 3, 0, 0, 0)] := rfl
theorem bk_59_28 : mbk 59 28 = [(.iconst 0, 1, 0, 0, 0), (.ireturn, 1, 0, 0, 0)] := rfl
theorem bk_60_0 : mbk 60 0 = [(.iconst 0, 1, 0, 0, 0), (.istore_n 3, 1, 0, 0, 0)] := rfl
theorem bk_60_2 : mbk 60 2 = [(.iload_n 3, 1, 0, 0, 0), (.iconst 4, 1, 0, 0, 0), (.if_icmp .ge (69), 3, 0, 0, 0), (.lconst 0, 1, 0, 0, 0), (.lstore 4, 2, 0, 0, 0), (.bipush 16, 2, 0, 0, 0), (.iload_n 3, 1, 0, 0, 0), (.imul, 1, 0, 0, 0), (.istore 6, 2, 0, 0, 0)] := rfl
theorem bk_60_16 : mbk 60 16 = [(.iload 6, 2, 0, 0, 0), (.bipush 16, 2, 0, 0, 0), (.iload_n 3, 1, 0, 0, 0), (.imul, 1, 0, 0, 0), (.bipush 16, 2, 0, 0, 0), (.iadd, 1, 0, 0, 0), (.if_icmp .ge (27), 3, 0, 0, 0), (.lload 4, 2, 0, 0, 0), (.iconst 4, 1, 0, 0, 0), (.lshl, 1, 0, 0, 0), (.aload_n 1, 1, 0, 0, 0), (.getfield 29, 3, 1, 0, 0), (.getfield 35, 3, 2, 0, 0), (.iload 6, 2, 0, 0, 0), (.iaload, 1, 0, 0, 0), (.i2l, 1, 0, 0, 0), (.lor, 1, 0, 0, 0), (.lstore 4, 2, 0, 0, 0), (.iinc 6 (1), 3, 0, 0, 0), (.goto (-33), 3, 0, 0, 0)] := rfl
theorem bk_60_52 : mbk 60 52 = [(.aload_n 0, 1, 0, 0, 0), (.getfield 18, 3, 4, 2, 0), (.iconst 4, 1, 0, 0, 0), (.aload_n 0, 1, 0, 0, 0), (.getfield 25, 3, 4, 4, 0), (.imul, 1, 0, 0, 0), (.iload_n 3, 1, 0, 0, 0), (.iadd, 1, 0, 0, 0), (.lload 4, 2, 0, 0, 0), (.lastore, 1, 0, 0, 0), (.iinc 3 (1), 3, 0, 0, 0), (.goto (-68), 3, 0, 0, 0)] := rfl
theorem bk_60_73 : mbk 60 73 = [(.aload_n 0, 1, 0, 0, 0), (.getfield 22, 3, 4, 3, 0), (.aload_n 0, 1, 0, 0, 0), (.getfield 25, 3, 4, 4, 0), (.aload_n 1, 1, 0, 0, 0), (.getfield 40, 3, 1, 2, 0), (.aload_n 1, 1, 0, 0, 0), (.getfield 43, 3, 1, 3, 0), (.iconst 1, 1, 0, 0, 0), (.ishl, 1, 0, 0, 0), (.ior, 1, 0, 0, 0), (.iload_n 2, 1, 0, 0, 0), (.iconst 1, 1, 0, 0, 0), (.iadd, 1, 0, 0, 0), (.iconst 5, 1, 0, 0, 0), (.ishl, 1, 0, 0, 0), (.ior, 1, 0, 0, 0), (.iastore, 1, 0, 0, 0), (.return_, 1, 0, 0, 0)] := rfl
theorem bk_61_0 : mbk 61 0 = [(.iconst 0, 1, 0, 0, 0), (.istore_n 1, 1, 0, 0, 0), (.iconst 0, 1, 0, 0, 0), (.istore_n 2, 1, 0, 0, 0)] := rfl
theorem bk_61_4 : mbk 61 4 = [(.iload_n 2, 1, 0, 0, 0), (.aload_n 0, 1, 0, 0, 0), (.getfield 25, 3, 4, 4, 0), (.if_icmp .gt (20), 3, 0, 0, 0), (.aload_n 0, 1, 0, 0, 0), (.iload_n 2, 1, 0, 0, 0), (.invokevirtual 46, 3, 64, 2, 0), (.ifCond .eq (6), 3, 0, 0, 0), (.iinc 1 (1), 3, 0, 0, 0)] := rfl
theorem bk_61_23 : mbk 61 23 = [(.iinc 2 (1), 3, 0, 0, 0), (.goto (-22), 3, 0, 0, 0)] := rfl
theorem bk_61_29 : mbk 61 29 = [(.iload_n 1, 1, 0, 0, 0), (.ireturn, 1, 0, 0, 0)] := rfl
theorem bk_62_0 : mbk 62 0 = [(.aload_n 0, 1, 0, 0, 0), (.getfield 22, 3, 4, 3, 0), (.iload_n 1, 1, 0, 0, 0), (.iaload, 1, 0, 0, 0), (.aload_n 0, 1, 0, 0, 0), (.getfield 22, 3, 4, 3, 0), (.aload_n 0, 1, 0, 0, 0), (.getfield 25, 3, 4, 4, 0), (.iaload, 1, 0, 0, 0), (.if_icmp .eq (5), 3, 0, 0, 0), (.iconst 0, 1, 0, 0, 0), (.ireturn, 1, 0, 0, 0)] := rfl
theorem bk_62_20 : mbk 62 20 = [(.iconst 0, 1, 0, 0, 0), (.istore_n 2, 1, 0, 0, 0)] := rfl
theorem bk_62_22 : mbk 62 22 = [(.iload_n 2, 1, 0, 0, 0), (.iconst 4, 1, 0, 0, 0), (.if_icmp .ge (38), 3, 0, 0, 0), (.aload_n 0, 1, 0, 0, 0), (.getfield 18, 3, 4, 2, 0), (.iconst 4, 1, 0, 0, 0), (.iload_n 1, 1, 0, 0, 0), (.imul, 1, 0, 0, 0), (.iload_n 2, 1, 0, 0, 0), (.iadd, 1, 0, 0, 0), (.laload, 1, 0, 0, 0), (.aload_n 0, 1, 0, 0, 0), (.getfield 18, 3, 4, 2, 0), (.iconst 4, 1, 0, 0, 0), (.aload_n 0, 1, 0, 0, 0), (.getfield 25, 3, 4, 4, 0), (.imul, 1, 0, 0, 0), (.iload_n 2, 1, 0, 0, 0), (.iadd, 1, 0, 0, 0), (.laload, 1, 0, 0, 0), (.lcmp, 1, 0, 0, 0), (.ifCond .eq (5), 3, 0, 0, 0), (.iconst 0, 1, 0, 0, 0), (.ireturn, 1, 0, 0, 0)] := rfl
theorem bk_62_56 : mbk 62 56 = [(.iinc 2 (1), 3, 0, 0, 0), (.goto (-37), 3, 0, 0, 0)] := rfl
theorem bk_62_62 : mbk 62 62 = [(.iconst 1, 1, 0, 0, 0), (.ireturn, 1, 0, 0, 0)] := rfl
theorem bk_63_0 : mbk 63 0 = [(.aload_n 0, 1, 0, 0, 0), (.getfield 25, 3, 4, 4, 0), (.sipush 512, 3, 0, 0, 0), (.if_icmp .lt (7), 3, 0, 0, 0), (.iconst 1, 1, 0, 0, 0), (.goto (4), 3, 0, 0, 0)] := rfl
theorem bk_63_14 : mbk 63 14 = [(.iconst 0, 1, 0, 0, 0)] := rfl
theorem bk_63_15 : mbk 63 15 = [(.ireturn, 1, 0, 0, 0)] := rfl
theorem bk_64_0 : mbk 64 0 = [(.aload_n 0, 1, 0, 0, 0), (.getfield 25, 3, 4, 4, 0), (.sipush 512, 3, 0, 0, 0), (.if_icmp .ge (33), 3, 0, 0, 0), (.aload_n 0, 1, 0, 0, 0), (.getfield 9, 3, 4, 0, 0), (.aload_n 0, 1, 0, 0, 0), (.getfield 25, 3, 4, 4, 0), (.iload_n 1, 1, 0, 0, 0), (.iastore, 1, 0, 0, 0), (.aload_n 0, 1, 0, 0, 0), (.getfield 15, 3, 4, 1, 0), (.aload_n 0, 1, 0, 0, 0), (.getfield 25, 3, 4, 4, 0), (.iload_n 2, 1, 0, 0, 0), (.iastore, 1, 0, 0, 0), (.aload_n 0, 1, 0, 0, 0), (.dup, 1, 0, 0, 0), (.getfield 25, 3, 4, 4, 0), (.iconst 1, 1, 0, 0, 0), (.iadd, 1, 0, 0, 0), (.putfield 25, 3, 4, 4, 0)] := rfl
theorem bk_64_40 : mbk 64 40 = [(.return_, 1, 0, 0, 0)] := rfl
theorem bk_65_0 : mbk 65 0 = [(.aload_n 0, 1, 0, 0, 0), (.getfield 25, 3, 4, 4, 0), (.ifCond .le (17), 3, 0, 0, 0), (.aload_n 0, 1, 0, 0, 0), (.getfield 9, 3, 4, 0, 0), (.aload_n 0, 1, 0, 0, 0), (.getfield 25, 3, 4, 4, 0), (.iconst 1, 1, 0, 0, 0), (.isub, 1, 0, 0, 0), (.iaload, 1, 0, 0, 0), (.goto (4), 3, 0, 0, 0)] := rfl
theorem bk_65_21 : mbk 65 21 = [(.iconst 0, 1, 0, 0, 0)] := rfl
theorem bk_65_22 : mbk 65 22 = [(.ireturn, 1, 0, 0, 0)] := rfl
theorem bk_66_0 : mbk 66 0 = [(.aload_n 0, 1, 0, 0, 0), (.getfield 25, 3, 4, 4, 0), (.ifCond .le (17), 3, 0, 0, 0), (.aload_n 0, 1, 0, 0, 0), (.getfield 15, 3, 4, 1, 0), (.aload_n 0, 1, 0, 0, 0), (.getfield 25, 3, 4, 4, 0), (.iconst 1, 1, 0, 0, 0), (.isub, 1, 0, 0, 0), (.iaload, 1, 0, 0, 0), (.goto (4), 3, 0, 0, 0)] := rfl
theorem bk_66_21 : mbk 66 21 = [(.iconst 0, 1, 0, 0, 0)] := rfl
theorem bk_66_22 : mbk 66 22 = [(.ireturn, 1, 0, 0, 0)] := rfl
theorem bk_67_0 : mbk 67 0 = [(.aload_n 0, 1, 0, 0, 0), (.getfield 25, 3, 4, 4, 0), (.ifCond .le (13), 3, 0, 0, 0), (.aload_n 0, 1, 0, 0, 0), (.dup, 1, 0, 0, 0), (.getfield 25, 3, 4, 4, 0), (.iconst 1, 1, 0, 0, 0), (.isub, 1, 0, 0, 0), (.putfield 25, 3, 4, 4, 0)] := rfl
theorem bk_67_17 : mbk 67 17 = [(.return_, 1, 0, 0, 0)] := rfl
theorem bk_68_0 : mbk 68 0 = [(.aload_n 0, 1, 0, 0, 0), (.invokevirtual 96, 3, 71, 1, 0), (.iconst 0, 1, 0, 0, 0), (.istore_n 1, 1, 0, 0, 0)] := rfl
theorem bk_68_6 : mbk 68 6 = [(.iload_n 1, 1, 0, 0, 0), (.bipush 8, 2, 0, 0, 0), (.if_icmp .ge (105), 3, 0, 0, 0), (.iload_n 1, 1, 0, 0, 0), (.ifCond .eq (9), 3, 0, 0, 0), (.iload_n 1, 1, 0, 0, 0), (.bipush 7, 2, 0, 0, 0), (.if_icmp .ne (7), 3, 0, 0, 0)] := rfl
theorem bk_68_22 : mbk 68 22 = [(.iconst 4, 1, 0, 0, 0), (.goto (43), 3, 0, 0, 0)] := rfl
theorem bk_68_26 : mbk 68 26 = [(.iload_n 1, 1, 0, 0, 0), (.iconst 1, 1, 0, 0, 0), (.if_icmp .eq (9), 3, 0, 0, 0), (.iload_n 1, 1, 0, 0, 0), (.bipush 6, 2, 0, 0, 0), (.if_icmp .ne (7), 3, 0, 0, 0)] := rfl
theorem bk_68_37 : mbk 68 37 = [(.iconst 2, 1, 0, 0, 0), (.goto (28), 3, 0, 0, 0)] := rfl
theorem bk_68_41 : mbk 68 41 = [(.iload_n 1, 1, 0, 0, 0), (.iconst 2, 1, 0, 0, 0), (.if_icmp .eq (8), 3, 0, 0, 0), (.iload_n 1, 1, 0, 0, 0), (.iconst 5, 1, 0, 0, 0), (.if_icmp .ne (7), 3, 0, 0, 0)] := rfl
theorem bk_68_51 : mbk 68 51 = [(.iconst 3, 1, 0, 0, 0), (.goto (14), 3, 0, 0, 0)] := rfl
theorem bk_68_55 : mbk 68 55 = [(.iload_n 1, 1, 0, 0, 0), (.iconst 3, 1, 0, 0, 0), (.if_icmp .ne (7), 3, 0, 0, 0), (.iconst 5, 1, 0, 0, 0), (.goto (5), 3, 0, 0, 0)] := rfl
theorem bk_68_64 : mbk 68 64 = [(.bipush 6, 2, 0, 0, 0)] := rfl
theorem bk_68_66 : mbk 68 66 = [(.istore_n 2, 1, 0, 0, 0), (.aload_n 0, 1, 0, 0, 0), (.getfield 7, 3, 5, 0, 0), (.iload_n 1, 1, 0, 0, 0), (.iload_n 2, 1, 0, 0, 0), (.iastore, 1, 0, 0, 0), (.aload_n 0, 1, 0, 0, 0), (.getfield 7, 3, 5, 0, 0), (.bipush 8, 2, 0, 0, 0), (.iload_n 1, 1, 0, 0, 0), (.iadd, 1, 0, 0, 0), (.iconst 1, 1, 0, 0, 0), (.iastore, 1, 0, 0, 0), (.aload_n 0, 1, 0, 0, 0), (.getfield 7, 3, 5, 0, 0), (.bipush 48, 2, 0, 0, 0), (.iload_n 1, 1, 0, 0, 0), (.iadd, 1, 0, 0, 0), (.bipush 9, 2, 0, 0, 0), (.iastore, 1, 0, 0, 0), (.aload_n 0, 1, 0, 0, 0), (.getfield 7, 3, 5, 0, 0), (.bipush 56, 2, 0, 0, 0), (.iload_n 1, 1, 0, 0, 0), (.iadd, 1, 0, 0, 0), (.iload_n 2, 1, 0, 0, 0), (.bipush 8, 2, 0, 0, 0), (.iadd, 1, 0, 0, 0), (.iastore, 1, 0, 0, 0), (.iinc 1 (1), 3, 0, 0, 0), (.goto (-105), 3, 0, 0, 0)] := rfl
theorem bk_68_114 : mbk 68 114 = [(.aload_n 0, 1, 0, 0, 0), (.iconst 0, 1, 0, 0, 0), (.bipush 15, 2, 0, 0, 0), (.iconst (-1), 1, 0, 0, 0), (.invokevirtual 99, 3, 72, 4, 0), (.return_, 1, 0, 0, 0)] := rfl
theorem bk_69_0 : mbk 69 0 = [(.iconst 0, 1, 0, 0, 0), (.istore_n 1, 1, 0, 0, 0)] := rfl
theorem bk_69_2 : mbk 69 2 = [(.iload_n 1, 1, 0, 0, 0), (.bipush 64, 2, 0, 0, 0), (.if_icmp .ge (16), 3, 0, 0, 0), (.aload_n 0, 1, 0, 0, 0), (.getfield 7, 3, 5, 0, 0), (.iload_n 1, 1, 0, 0, 0), (.iconst 0, 1, 0, 0, 0), (.iastore, 1, 0, 0, 0), (.iinc 1 (1), 3, 0, 0, 0), (.goto (-16), 3, 0, 0, 0)] := rfl
theorem bk_69_21 : mbk 69 21 = [(.aload_n 0, 1, 0, 0, 0), (.iconst 0, 1, 0, 0, 0), (.putfield 92, 3, 5, 4, 0), (.return_, 1, 0, 0, 0)] := rfl
theorem bk_70_0 : mbk 70 0 = [(.aload_n 0, 1, 0, 0, 0), (.iconst 1, 1, 0, 0, 0), (.putfield 92, 3, 5, 4, 0), (.aload_n 0, 1, 0, 0, 0), (.getfield 13, 3, 5, 1, 0), (.iconst 0, 1, 0, 0, 0), (.iload_n 1, 1, 0, 0, 0), (.iastore, 1, 0, 0, 0), (.aload_n 0, 1, 0, 0, 0), (.iload_n 1, 1, 0, 0, 0), (.putfield 103, 3, 5, 11, 0), (.aload_n 0, 1, 0, 0, 0), (.getfield 16, 3, 5, 2, 0), (.iconst 0, 1, 0, 0, 0), (.iload_n 2, 1, 0, 0, 0), (.iastore, 1, 0, 0, 0), (.aload_n 0, 1, 0, 0, 0), (.getfield 19, 3, 5, 3, 0), (.iconst 0, 1, 0, 0, 0), (.iload_n 3, 1, 0, 0, 0), (.iastore, 1, 0, 0, 0), (.aload_n 0, 1, 0, 0, 0), (.iconst 0, 1, 0, 0, 0), (.putfield 107, 3, 5, 12, 0), (.aload_n 0, 1, 0, 0, 0), (.iconst 0, 1, 0, 0, 0), (.putfield 110, 3, 5, 5, 0), (.aload_n 0, 1, 0, 0, 0), (.invokevirtual 113, 3, 73, 1, 0), (.return_, 1, 0, 0, 0)] := rfl
theorem bk_71_0 : mbk 71 0 = [(.iconst 0, 1, 0, 0, 0), (.istore_n 1, 1, 0, 0, 0)] := rfl
theorem bk_71_2 : mbk 71 2 = [(.iload_n 1, 1, 0, 0, 0), (.iconst 4, 1, 0, 0, 0), (.if_icmp .ge (62), 3, 0, 0, 0), (.lconst 0, 1, 0, 0, 0), (.lstore_n 2, 1, 0, 0, 0), (.iconst 0, 1, 0, 0, 0), (.istore 4, 2, 0, 0, 0)] := rfl
theorem bk_71_12 : mbk 71 12 = [(.iload 4, 2, 0, 0, 0), (.bipush 16, 2, 0, 0, 0), (.if_icmp .ge (30), 3, 0, 0, 0), (.lload_n 2, 1, 0, 0, 0), (.aload_n 0, 1, 0, 0, 0), (.getfield 7, 3, 5, 0, 0), (.bipush 16, 2, 0, 0, 0), (.iload_n 1, 1, 0, 0, 0), (.imul, 1, 0, 0, 0), (.iload 4, 2, 0, 0, 0), (.iadd, 1, 0, 0, 0), (.iaload, 1, 0, 0, 0), (.i2l, 1, 0, 0, 0), (.iconst 4, 1, 0, 0, 0), (.iload 4, 2, 0, 0, 0), (.imul, 1, 0, 0, 0), (.lshl, 1, 0, 0, 0), (.lor, 1, 0, 0, 0), (.lstore_n 2, 1, 0, 0, 0), (.iinc 4 (1), 3, 0, 0, 0), (.goto (-31), 3, 0, 0, 0)] := rfl
theorem bk_71_46 : mbk 71 46 = [(.aload_n 0, 1, 0, 0, 0), (.getfield 22, 3, 5, 6, 0), (.iconst 4, 1, 0, 0, 0), (.aload_n 0, 1, 0, 0, 0), (.getfield 110, 3, 5, 5, 0), (.imul, 1, 0, 0, 0), (.iload_n 1, 1, 0, 0, 0), (.iadd, 1, 0, 0, 0), (.lload_n 2, 1, 0, 0, 0), (.lastore, 1, 0, 0, 0), (.iinc 1 (1), 3, 0, 0, 0), (.goto (-61), 3, 0, 0, 0)] := rfl
theorem bk_71_66 : mbk 71 66 = [(.aload_n 0, 1, 0, 0, 0), (.getfield 26, 3, 5, 7, 0), (.aload_n 0, 1, 0, 0, 0), (.getfield 110, 3, 5, 5, 0), (.aload_n 0, 1, 0, 0, 0), (.getfield 16, 3, 5, 2, 0), (.iconst 0, 1, 0, 0, 0), (.iaload, 1, 0, 0, 0), (.i2b, 1, 0, 0, 0), (.bastore, 1, 0, 0, 0), (.aload_n 0, 1, 0, 0, 0), (.getfield 30, 3, 5, 8, 0), (.aload_n 0, 1, 0, 0, 0), (.getfield 110, 3, 5, 5, 0), (.aload_n 0, 1, 0, 0, 0), (.getfield 19, 3, 5, 3, 0), (.iconst 0, 1, 0, 0, 0), (.iaload, 1, 0, 0, 0), (.i2b, 1, 0, 0, 0), (.bastore, 1, 0, 0, 0), (.aload_n 0, 1, 0, 0, 0), (.getfield 33, 3, 5, 9, 0), (.aload_n 0, 1, 0, 0, 0), (.getfield 110, 3, 5, 5, 0), (.aload_n 0, 1, 0, 0, 0), (.invokevirtual 116, 3, 74, 1, 0), (.ifCond .eq (12), 3, 0, 0, 0), (.aload_n 0, 1, 0, 0, 0), (.getfield 19, 3, 5, 3, 0), (.iconst 0, 1, 0, 0, 0), (.iaload, 1, 0, 0, 0), (.goto (4), 3, 0, 0, 0)] := rfl
theorem bk_71_122 : mbk 71 122 = [(.iconst (-1), 1, 0, 0, 0)] := rfl
theorem bk_71_123 : mbk 71 123 = [(.i2b, 1, 0, 0, 0), (.bastore, 1, 0, 0, 0), (.aload_n 0, 1, 0, 0, 0), (.getfield 36, 3, 5, 10, 0), (.aload_n 0, 1, 0, 0, 0), (.getfield 110, 3, 5, 5, 0), (.aload_n 0, 1, 0, 0, 0), (.getfield 107, 3, 5, 12, 0), (.i2s, 1, 0, 0, 0), (.sastore, 1, 0, 0, 0), (.return_, 1, 0, 0, 0)] := rfl
theorem bk_72_0 : mbk 72 0 = [(.aload_n 0, 1, 0, 0, 0), (.getfield 19, 3, 5, 3, 0), (.iconst 0, 1, 0, 0, 0), (.iaload, 1, 0, 0, 0), (.ifCond .ge (5), 3, 0, 0, 0), (.iconst 0, 1, 0, 0, 0), (.ireturn, 1, 0, 0, 0)] := rfl
theorem bk_72_11 : mbk 72 11 = [(.iconst 0, 1, 0, 0, 0), (.istore_n 1, 1, 0, 0, 0), (.iconst 0, 1, 0, 0, 0), (.istore_n 2, 1, 0, 0, 0)] := rfl
theorem bk_72_15 : mbk 72 15 = [(.iload_n 2, 1, 0, 0, 0), (.bipush 64, 2, 0, 0, 0), (.if_icmp .ge (48), 3, 0, 0, 0), (.iload_n 1, 1, 0, 0, 0), (.ifCond .ne (32), 3, 0, 0, 0), (.aload_n 0, 1, 0, 0, 0), (.getfield 7, 3, 5, 0, 0), (.iload_n 2, 1, 0, 0, 0), (.iaload, 1, 0, 0, 0), (.invokestatic 47, 3, 75, 1, 0), (.iconst 1, 1, 0, 0, 0), (.if_icmp .ne (23), 3, 0, 0, 0), (.aload_n 0, 1, 0, 0, 0), (.iconst 0, 1, 0, 0, 0), (.iload_n 2, 1, 0, 0, 0), (.aload_n 0, 1, 0, 0, 0), (.getfield 19, 3, 5, 3, 0), (.iconst 0, 1, 0, 0, 0), (.iaload, 1, 0, 0, 0), (.iconst 0, 1, 0, 0, 0), (.invokevirtual 86, 3, 76, 5, 0), (.ifCond .eq (7), 3, 0, 0, 0)] := rfl
theorem bk_72_54 : mbk 72 54 = [(.iconst 1, 1, 0, 0, 0), (.goto (4), 3, 0, 0, 0)] := rfl
theorem bk_72_58 : mbk 72 58 = [(.iconst 0, 1, 0, 0, 0)] := rfl
theorem bk_72_59 : mbk 72 59 = [(.istore_n 1, 1, 0, 0, 0), (.iinc 2 (1), 3, 0, 0, 0), (.goto (-48), 3, 0, 0, 0)] := rfl
theorem bk_72_66 : mbk 72 66 = [(.iload_n 1, 1, 0, 0, 0), (.ireturn, 1, 0, 0, 0)] := rfl
theorem bk_73_0 : mbk 73 0 = [(.iload_n 0, 1, 0, 0, 0), (.bipush 7, 2, 0, 0, 0), (.iand, 1, 0, 0, 0), (.ireturn, 1, 0, 0, 0)] := rfl
theorem bk_74_0 : mbk 74 0 = [(.aload_n 0, 1, 0, 0, 0), (.iload_n 1, 1, 0, 0, 0), (.iload_n 2, 1, 0, 0, 0), (.iload_n 3, 1, 0, 0, 0), (.iload 4, 2, 0, 0, 0), (.invokevirtual 79, 3, 77, 5, 0), (.ifCond .ne (5), 3, 0, 0, 0), (.iconst 0, 1, 0, 0, 0), (.ireturn, 1, 0, 0, 0)] := rfl
theorem bk_74_14 : mbk 74 14 = [(.aload_n 0, 1, 0, 0, 0), (.iload_n 1, 1, 0, 0, 0), (.iload_n 2, 1, 0, 0, 0), (.iload_n 3, 1, 0, 0, 0), (.iload 4, 2, 0, 0, 0), (.invokevirtual 82, 3, 86, 5, 0), (.aload_n 0, 1, 0, 0, 0), (.iload_n 1, 1, 0, 0, 0), (.iconst 1, 1, 0, 0, 0), (.iadd, 1, 0, 0, 0), (.aload_n 0, 1, 0, 0, 0), (.getfield 13, 3, 5, 1, 0), (.iload_n 1, 1, 0, 0, 0), (.iaload, 1, 0, 0, 0), (.invokevirtual 65, 3, 84, 3, 0), (.ifCond .ne (7), 3, 0, 0, 0), (.iconst 1, 1, 0, 0, 0), (.goto (4), 3, 0, 0, 0)] := rfl
theorem bk_74_43 : mbk 74 43 = [(.iconst 0, 1, 0, 0, 0)] := rfl
theorem bk_74_44 : mbk 74 44 = [(.ireturn, 1, 0, 0, 0)] := rfl
theorem bk_75_0 : mbk 75 0 = [(.aload_n 0, 1, 0, 0, 0), (.getfield 7, 3, 5, 0, 0), (.bipush 64, 2, 0, 0, 0), (.iload_n 1, 1, 0, 0, 0), (.imul, 1, 0, 0, 0), (.iload_n 2, 1, 0, 0, 0), (.iadd, 1, 0, 0, 0), (.iaload, 1, 0, 0, 0), (.istore 5, 2, 0, 0, 0), (.iload 5, 2, 0, 0, 0), (.aload_n 0, 1, 0, 0, 0), (.getfield 13, 3, 5, 1, 0), (.iload_n 1, 1, 0, 0, 0), (.iaload, 1, 0, 0, 0), (.invokestatic 54, 3, 78, 2, 0), (.ifCond .eq (26), 3, 0, 0, 0), (.aload_n 0, 1, 0, 0, 0), (.getfield 7, 3, 5, 0, 0), (.bipush 64, 2, 0, 0, 0), (.iload_n 1, 1, 0, 0, 0), (.imul, 1, 0, 0, 0), (.iload_n 3, 1, 0, 0, 0), (.iadd, 1, 0, 0, 0), (.iaload, 1, 0, 0, 0), (.aload_n 0, 1, 0, 0, 0), (.getfield 13, 3, 5, 1, 0), (.iload_n 1, 1, 0, 0, 0), (.iaload, 1, 0, 0, 0), (.invokestatic 54, 3, 78, 2, 0), (.ifCond .eq (5), 3, 0, 0, 0)] := rfl
theorem bk_75_50 : mbk 75 50 = [(.iconst 0, 1, 0, 0, 0), (.ireturn, 1, 0, 0, 0)] := rfl
theorem bk_75_52 : mbk 75 52 = [(.iload 5, 2, 0, 0, 0), (.invokestatic 47, 3, 75, 1, 0), (.iconst 1, 1, 0, 0, 0), (.if_icmp .ne (13), 3, 0, 0, 0), (.aload_n 0, 1, 0, 0, 0), (.iload_n 1, 1, 0, 0, 0), (.iload_n 2, 1, 0, 0, 0), (.iload_n 3, 1, 0, 0, 0), (.iload 4, 2, 0, 0, 0), (.invokevirtual 68, 3, 79, 5, 0), (.ireturn, 1, 0, 0, 0)] := rfl
theorem bk_75_71 : mbk 75 71 = [(.iload 4, 2, 0, 0, 0), (.ifCond .ne (37), 3, 0, 0, 0), (.aload_n 0, 1, 0, 0, 0), (.iload_n 1, 1, 0, 0, 0), (.iload_n 2, 1, 0, 0, 0), (.iload_n 3, 1, 0, 0, 0), (.invokevirtual 58, 3, 80, 4, 0), (.ifCond .ne (23), 3, 0, 0, 0), (.iload 5, 2, 0, 0, 0), (.invokestatic 47, 3, 75, 1, 0), (.bipush 6, 2, 0, 0, 0), (.if_icmp .ne (17), 3, 0, 0, 0), (.aload_n 0, 1, 0, 0, 0), (.iload_n 1, 1, 0, 0, 0), (.iload_n 2, 1, 0, 0, 0), (.iload_n 3, 1, 0, 0, 0), (.invokevirtual 72, 3, 83, 4, 0), (.ifCond .eq (7), 3, 0, 0, 0)] := rfl
theorem bk_75_106 : mbk 75 106 = [(.iconst 1, 1, 0, 0, 0), (.goto (4), 3, 0, 0, 0)] := rfl
theorem bk_75_110 : mbk 75 110 = [(.iconst 0, 1, 0, 0, 0)] := rfl
theorem bk_75_111 : mbk 75 111 = [(.ireturn, 1, 0, 0, 0)] := rfl
theorem bk_76_0 : mbk 76 0 = [(.iload_n 0, 1, 0, 0, 0), (.ifCond .eq (14), 3, 0, 0, 0), (.iload_n 0, 1, 0, 0, 0), (.iconst 3, 1, 0, 0, 0), (.ishr, 1, 0, 0, 0), (.iload_n 1, 1, 0, 0, 0), (.if_icmp .ne (7), 3, 0, 0, 0), (.iconst 1, 1, 0, 0, 0), (.goto (4), 3, 0, 0, 0)] := rfl
theorem bk_76_15 : mbk 76 15 = [(.iconst 0, 1, 0, 0, 0)] := rfl
theorem bk_76_16 : mbk 76 16 = [(.ireturn, 1, 0, 0, 0)] := rfl
theorem bk_77_0 : mbk 77 0 = [(.aload_n 0, 1, 0, 0, 0), (.getfield 13, 3, 5, 1, 0), (.iload_n 1, 1, 0, 0, 0), (.iaload, 1, 0, 0, 0), (.istore 5, 2, 0, 0, 0), (.iload 5, 2, 0, 0, 0), (.ifCond .ne (8), 3, 0, 0, 0), (.bipush 8, 2, 0, 0, 0), (.goto (5), 3, 0, 0, 0)] := rfl
theorem bk_77_18 : mbk 77 18 = [(.bipush (-8), 2, 0, 0, 0)] := rfl
theorem bk_77_20 : mbk 77 20 = [(.istore 6, 2, 0, 0, 0), (.iload_n 3, 1, 0, 0, 0), (.bipush 8, 2, 0, 0, 0), (.idiv, 1, 0, 0, 0), (.iload 5, 2, 0, 0, 0), (.ifCond .ne (8), 3, 0, 0, 0), (.bipush 7, 2, 0, 0, 0), (.goto (4), 3, 0, 0, 0)] := rfl
theorem bk_77_36 : mbk 77 36 = [(.iconst 0, 1, 0, 0, 0)] := rfl
theorem bk_77_37 : mbk 77 37 = [(.if_icmp .ne (7), 3, 0, 0, 0), (.iconst 1, 1, 0, 0, 0), (.goto (4), 3, 0, 0, 0)] := rfl
theorem bk_77_44 : mbk 77 44 = [(.iconst 0, 1, 0, 0, 0)] := rfl
theorem bk_77_45 : mbk 77 45 = [(.istore 7, 2, 0, 0, 0), (.iload 7, 2, 0, 0, 0), (.ifCond .eq (18), 3, 0, 0, 0), (.iload 4, 2, 0, 0, 0), (.iconst 2, 1, 0, 0, 0), (.if_icmp .lt (17), 3, 0, 0, 0), (.iload 4, 2, 0, 0, 0), (.iconst 5, 1, 0, 0, 0), (.if_icmp .le (13), 3, 0, 0, 0), (.goto (8), 3, 0, 0, 0)] := rfl
theorem bk_77_67 : mbk 77 67 = [(.iload 4, 2, 0, 0, 0), (.ifCond .eq (5), 3, 0, 0, 0)] := rfl
theorem bk_77_72 : mbk 77 72 = [(.iconst 0, 1, 0, 0, 0), (.ireturn, 1, 0, 0, 0)] := rfl
theorem bk_77_74 : mbk 77 74 = [(.aload_n 0, 1, 0, 0, 0), (.getfield 7, 3, 5, 0, 0), (.bipush 64, 2, 0, 0, 0), (.iload_n 1, 1, 0, 0, 0), (.imul, 1, 0, 0, 0), (.iload_n 3, 1, 0, 0, 0), (.iadd, 1, 0, 0, 0), (.iaload, 1, 0, 0, 0), (.istore 8, 2, 0, 0, 0), (.iload_n 3, 1, 0, 0, 0), (.iload_n 2, 1, 0, 0, 0), (.iload 6, 2, 0, 0, 0), (.iadd, 1, 0, 0, 0), (.if_icmp .ne (14), 3, 0, 0, 0), (.iload 8, 2, 0, 0, 0), (.ifCond .ne (7), 3, 0, 0, 0), (.iconst 1, 1, 0, 0, 0), (.goto (4), 3, 0, 0, 0)] := rfl
theorem bk_77_104 : mbk 77 104 = [(.iconst 0, 1, 0, 0, 0)] := rfl
theorem bk_77_105 : mbk 77 105 = [(.ireturn, 1, 0, 0, 0)] := rfl
theorem bk_77_106 : mbk 77 106 = [(.iload_n 3, 1, 0, 0, 0), (.iload_n 2, 1, 0, 0, 0), (.iconst 2, 1, 0, 0, 0), (.iload 6, 2, 0, 0, 0), (.imul, 1, 0, 0, 0), (.iadd, 1, 0, 0, 0), (.if_icmp .ne (49), 3, 0, 0, 0), (.iload_n 2, 1, 0, 0, 0), (.bipush 8, 2, 0, 0, 0), (.idiv, 1, 0, 0, 0), (.iload 5, 2, 0, 0, 0), (.ifCond .ne (7), 3, 0, 0, 0), (.iconst 1, 1, 0, 0, 0), (.goto (5), 3, 0, 0, 0)] := rfl
theorem bk_77_129 : mbk 77 129 = [(.bipush 6, 2, 0, 0, 0)] := rfl
theorem bk_77_131 : mbk 77 131 = [(.if_icmp .ne (29), 3, 0, 0, 0), (.iload 8, 2, 0, 0, 0), (.ifCond .ne (24), 3, 0, 0, 0), (.aload_n 0, 1, 0, 0, 0), (.getfield 7, 3, 5, 0, 0), (.bipush 64, 2, 0, 0, 0), (.iload_n 1, 1, 0, 0, 0), (.imul, 1, 0, 0, 0), (.iload_n 2, 1, 0, 0, 0), (.iadd, 1, 0, 0, 0), (.iload 6, 2, 0, 0, 0), (.iadd, 1, 0, 0, 0), (.iaload, 1, 0, 0, 0), (.ifCond .ne (7), 3, 0, 0, 0), (.iconst 1, 1, 0, 0, 0), (.goto (4), 3, 0, 0, 0)] := rfl
theorem bk_77_160 : mbk 77 160 = [(.iconst 0, 1, 0, 0, 0)] := rfl
theorem bk_77_161 : mbk 77 161 = [(.ireturn, 1, 0, 0, 0)] := rfl
theorem bk_77_162 : mbk 77 162 = [(.aload_n 0, 1, 0, 0, 0), (.iload_n 1, 1, 0, 0, 0), (.iload_n 2, 1, 0, 0, 0), (.iload_n 3, 1, 0, 0, 0), (.invokevirtual 58, 3, 80, 4, 0), (.ifCond .eq (29), 3, 0, 0, 0), (.iload 8, 2, 0, 0, 0), (.iconst 1, 1, 0, 0, 0), (.iload 5, 2, 0, 0, 0), (.isub, 1, 0, 0, 0), (.invokestatic 54, 3, 78, 2, 0), (.ifCond .ne (13), 3, 0, 0, 0), (.iload_n 3, 1, 0, 0, 0), (.aload_n 0, 1, 0, 0, 0), (.getfield 19, 3, 5, 3, 0), (.iload_n 1, 1, 0, 0, 0), (.iaload, 1, 0, 0, 0), (.if_icmp .ne (7), 3, 0, 0, 0)] := rfl
theorem bk_77_194 : mbk 77 194 = [(.iconst 1, 1, 0, 0, 0), (.goto (4), 3, 0, 0, 0)] := rfl
theorem bk_77_198 : mbk 77 198 = [(.iconst 0, 1, 0, 0, 0)] := rfl
theorem bk_77_199 : mbk 77 199 = [(.ireturn, 1, 0, 0, 0)] := rfl
theorem bk_78_0 : mbk 78 0 = [(.aload_n 0, 1, 0, 0, 0), (.getfield 7, 3, 5, 0, 0), (.bipush 64, 2, 0, 0, 0), (.iload_n 1, 1, 0, 0, 0), (.imul, 1, 0, 0, 0), (.iload_n 2, 1, 0, 0, 0), (.iadd, 1, 0, 0, 0), (.iaload, 1, 0, 0, 0), (.istore 4, 2, 0, 0, 0), (.iload_n 3, 1, 0, 0, 0), (.bipush 8, 2, 0, 0, 0), (.irem, 1, 0, 0, 0), (.iload_n 2, 1, 0, 0, 0), (.bipush 8, 2, 0, 0, 0), (.irem, 1, 0, 0, 0), (.isub, 1, 0, 0, 0), (.invokestatic 43, 3, 81, 1, 0), (.istore 5, 2, 0, 0, 0), (.iload_n 3, 1, 0, 0, 0), (.bipush 8, 2, 0, 0, 0), (.idiv, 1, 0, 0, 0), (.iload_n 2, 1, 0, 0, 0), (.bipush 8, 2, 0, 0, 0), (.idiv, 1, 0, 0, 0), (.isub, 1, 0, 0, 0), (.istore 6, 2, 0, 0, 0), (.iload 5, 2, 0, 0, 0), (.iload 6, 2, 0, 0, 0), (.invokestatic 43, 3, 81, 1, 0), (.if_icmp .ne (12), 3, 0, 0, 0), (.iload 5, 2, 0, 0, 0), (.ifCond .le (7), 3, 0, 0, 0), (.iconst 1, 1, 0, 0, 0), (.goto (4), 3, 0, 0, 0)] := rfl
theorem bk_78_57 : mbk 78 57 = [(.iconst 0, 1, 0, 0, 0)] := rfl
theorem bk_78_58 : mbk 78 58 = [(.istore 7, 2, 0, 0, 0), (.iload 5, 2, 0, 0, 0), (.ifCond .ne (7), 3, 0, 0, 0), (.iconst 1, 1, 0, 0, 0), (.goto (4), 3, 0, 0, 0)] := rfl
theorem bk_78_69 : mbk 78 69 = [(.iconst 0, 1, 0, 0, 0)] := rfl
theorem bk_78_70 : mbk 78 70 = [(.iload 6, 2, 0, 0, 0), (.ifCond .ne (7), 3, 0, 0, 0), (.iconst 1, 1, 0, 0, 0), (.goto (4), 3, 0, 0, 0)] := rfl
theorem bk_78_79 : mbk 78 79 = [(.iconst 0, 1, 0, 0, 0)] := rfl
theorem bk_78_80 : mbk 78 80 = [(.if_icmp .eq (7), 3, 0, 0, 0), (.iconst 1, 1, 0, 0, 0), (.goto (4), 3, 0, 0, 0)] := rfl
theorem bk_78_87 : mbk 78 87 = [(.iconst 0, 1, 0, 0, 0)] := rfl
theorem bk_78_88 : mbk 78 88 = [(.istore 8, 2, 0, 0, 0), (.iload 4, 2, 0, 0, 0), (.invokestatic 47, 3, 75, 1, 0), (.tableswitch 178 1 6 #[37, 66, 84, 105, 126, 152], 37, 0, 0, 0)] := rfl
theorem bk_78_132 : mbk 78 132 = [(.iload 5, 2, 0, 0, 0), (.iconst 1, 1, 0, 0, 0), (.if_icmp .ne (24), 3, 0, 0, 0), (.iload 6, 2, 0, 0, 0), (.iload 4, 2, 0, 0, 0), (.bipush 8, 2, 0, 0, 0), (.if_icmp .ge (7), 3, 0, 0, 0), (.iconst 1, 1, 0, 0, 0), (.goto (4), 3, 0, 0, 0)] := rfl
theorem bk_78_151 : mbk 78 151 = [(.iconst (-1), 1, 0, 0, 0)] := rfl
theorem bk_78_152 : mbk 78 152 = [(.if_icmp .ne (7), 3, 0, 0, 0), (.iconst 1, 1, 0, 0, 0), (.goto (4), 3, 0, 0, 0)] := rfl
theorem bk_78_159 : mbk 78 159 = [(.iconst 0, 1, 0, 0, 0)] := rfl
theorem bk_78_160 : mbk 78 160 = [(.ireturn, 1, 0, 0, 0)] := rfl
theorem bk_78_161 : mbk 78 161 = [(.iload 5, 2, 0, 0, 0), (.iload 6, 2, 0, 0, 0), (.invokestatic 43, 3, 81, 1, 0), (.imul, 1, 0, 0, 0), (.iconst 2, 1, 0, 0, 0), (.if_icmp .ne (7), 3, 0, 0, 0), (.iconst 1, 1, 0, 0, 0), (.goto (4), 3, 0, 0, 0)] := rfl
theorem bk_78_177 : mbk 78 177 = [(.iconst 0, 1, 0, 0, 0)] := rfl
theorem bk_78_178 : mbk 78 178 = [(.ireturn, 1, 0, 0, 0)] := rfl
theorem bk_78_179 : mbk 78 179 = [(.iload 7, 2, 0, 0, 0), (.ifCond .eq (17), 3, 0, 0, 0), (.aload_n 0, 1, 0, 0, 0), (.iload_n 1, 1, 0, 0, 0), (.iload_n 2, 1, 0, 0, 0), (.iload_n 3, 1, 0, 0, 0), (.invokevirtual 50, 3, 82, 4, 0), (.ifCond .eq (7), 3, 0, 0, 0), (.iconst 1, 1, 0, 0, 0), (.goto (4), 3, 0, 0, 0)] := rfl
theorem bk_78_198 : mbk 78 198 = [(.iconst 0, 1, 0, 0, 0)] := rfl
theorem bk_78_199 : mbk 78 199 = [(.ireturn, 1, 0, 0, 0)] := rfl
theorem bk_78_200 : mbk 78 200 = [(.iload 8, 2, 0, 0, 0), (.ifCond .eq (17), 3, 0, 0, 0), (.aload_n 0, 1, 0, 0, 0), (.iload_n 1, 1, 0, 0, 0), (.iload_n 2, 1, 0, 0, 0), (.iload_n 3, 1, 0, 0, 0), (.invokevirtual 50, 3, 82, 4, 0), (.ifCond .eq (7), 3, 0, 0, 0), (.iconst 1, 1, 0, 0, 0), (.goto (4), 3, 0, 0, 0)] := rfl
theorem bk_78_219 : mbk 78 219 = [(.iconst 0, 1, 0, 0, 0)] := rfl
theorem bk_78_220 : mbk 78 220 = [(.ireturn, 1, 0, 0, 0)] := rfl
theorem bk_78_221 : mbk 78 221 = [(.iload 7, 2, 0, 0, 0), (.ifCond .ne (8), 3, 0, 0, 0), (.iload 8, 2, 0, 0, 0), (.ifCond .eq (17), 3, 0, 0, 0)] := rfl
theorem bk_78_231 : mbk 78 231 = [(.aload_n 0, 1, 0, 0, 0), (.iload_n 1, 1, 0, 0, 0), (.iload_n 2, 1, 0, 0, 0), (.iload_n 3, 1, 0, 0, 0), (.invokevirtual 50, 3, 82, 4, 0), (.ifCond .eq (7), 3, 0, 0, 0), (.iconst 1, 1, 0, 0, 0), (.goto (4), 3, 0, 0, 0)] := rfl
theorem bk_78_245 : mbk 78 245 = [(.iconst 0, 1, 0, 0, 0)] := rfl
theorem bk_78_246 : mbk 78 246 = [(.ireturn, 1, 0, 0, 0)] := rfl
theorem bk_78_247 : mbk 78 247 = [(.iload 5, 2, 0, 0, 0), (.iconst 1, 1, 0, 0, 0), (.if_icmp .gt (21), 3, 0, 0, 0), (.iload 6, 2, 0, 0, 0), (.invokestatic 43, 3, 81, 1, 0), (.iconst 1, 1, 0, 0, 0), (.if_icmp .gt (12), 3, 0, 0, 0), (.iload_n 2, 1, 0, 0, 0), (.iload_n 3, 1, 0, 0, 0), (.if_icmp .eq (7), 3, 0, 0, 0), (.iconst 1, 1, 0, 0, 0), (.goto (4), 3, 0, 0, 0)] := rfl
theorem bk_78_271 : mbk 78 271 = [(.iconst 0, 1, 0, 0, 0)] := rfl
theorem bk_78_272 : mbk 78 272 = [(.ireturn, 1, 0, 0, 0)] := rfl
theorem bk_78_273 : mbk 78 273 = [(.iconst 0, 1, 0, 0, 0), (.ireturn, 1, 0, 0, 0)] := rfl
theorem bk_79_0 : mbk 79 0 = [(.iload_n 0, 1, 0, 0, 0), (.ifCond .ge (8), 3, 0, 0, 0), (.iload_n 0, 1, 0, 0, 0), (.ineg, 1, 0, 0, 0), (.goto (4), 3, 0, 0, 0)] := rfl
theorem bk_79_9 : mbk 79 9 = [(.iload_n 0, 1, 0, 0, 0)] := rfl
theorem bk_79_10 : mbk 79 10 = [(.ireturn, 1, 0, 0, 0)] := rfl
theorem bk_80_0 : mbk 80 0 = [(.iload_n 3, 1, 0, 0, 0), (.bipush 8, 2, 0, 0, 0), (.irem, 1, 0, 0, 0), (.iload_n 2, 1, 0, 0, 0), (.bipush 8, 2, 0, 0, 0), (.irem, 1, 0, 0, 0), (.isub, 1, 0, 0, 0), (.istore 4, 2, 0, 0, 0), (.iload_n 3, 1, 0, 0, 0), (.bipush 8, 2, 0, 0, 0), (.idiv, 1, 0, 0, 0), (.iload_n 2, 1, 0, 0, 0), (.bipush 8, 2, 0, 0, 0), (.idiv, 1, 0, 0, 0), (.isub, 1, 0, 0, 0), (.istore 5, 2, 0, 0, 0), (.iload 4, 2, 0, 0, 0), (.ifCond .le (7), 3, 0, 0, 0), (.iconst 1, 1, 0, 0, 0), (.goto (13), 3, 0, 0, 0)] := rfl
theorem bk_80_31 : mbk 80 31 = [(.iload 4, 2, 0, 0, 0), (.ifCond .ge (7), 3, 0, 0, 0), (.iconst (-1), 1, 0, 0, 0), (.goto (4), 3, 0, 0, 0)] := rfl
theorem bk_80_40 : mbk 80 40 = [(.iconst 0, 1, 0, 0, 0)] := rfl
theorem bk_80_41 : mbk 80 41 = [(.iload 5, 2, 0, 0, 0), (.ifCond .le (8), 3, 0, 0, 0), (.bipush 8, 2, 0, 0, 0), (.goto (14), 3, 0, 0, 0)] := rfl
theorem bk_80_51 : mbk 80 51 = [(.iload 5, 2, 0, 0, 0), (.ifCond .ge (8), 3, 0, 0, 0), (.bipush (-8), 2, 0, 0, 0), (.goto (4), 3, 0, 0, 0)] := rfl
theorem bk_80_61 : mbk 80 61 = [(.iconst 0, 1, 0, 0, 0)] := rfl
theorem bk_80_62 : mbk 80 62 = [(.iadd, 1, 0, 0, 0), (.istore 6, 2, 0, 0, 0), (.iload_n 2, 1, 0, 0, 0), (.iload 6, 2, 0, 0, 0), (.iadd, 1, 0, 0, 0), (.istore 7, 2, 0, 0, 0), (.iconst 0, 1, 0, 0, 0), (.istore 8, 2, 0, 0, 0)] := rfl
theorem bk_80_74 : mbk 80 74 = [(.iload 8, 2, 0, 0, 0), (.bipush 8, 2, 0, 0, 0), (.if_icmp .ge (39), 3, 0, 0, 0), (.iload 7, 2, 0, 0, 0), (.iload_n 3, 1, 0, 0, 0), (.if_icmp .eq (33), 3, 0, 0, 0), (.aload_n 0, 1, 0, 0, 0), (.getfield 7, 3, 5, 0, 0), (.bipush 64, 2, 0, 0, 0), (.iload_n 1, 1, 0, 0, 0), (.imul, 1, 0, 0, 0), (.iload 7, 2, 0, 0, 0), (.iadd, 1, 0, 0, 0), (.iaload, 1, 0, 0, 0), (.ifCond .eq (5), 3, 0, 0, 0), (.iconst 0, 1, 0, 0, 0), (.ireturn, 1, 0, 0, 0)] := rfl
theorem bk_80_104 : mbk 80 104 = [(.iload 7, 2, 0, 0, 0), (.iload 6, 2, 0, 0, 0), (.iadd, 1, 0, 0, 0), (.istore 7, 2, 0, 0, 0), (.iinc 8 (1), 3, 0, 0, 0), (.goto (-40), 3, 0, 0, 0)] := rfl
theorem bk_80_117 : mbk 80 117 = [(.iconst 1, 1, 0, 0, 0), (.ireturn, 1, 0, 0, 0)] := rfl
theorem bk_81_0 : mbk 81 0 = [(.aload_n 0, 1, 0, 0, 0), (.getfield 13, 3, 5, 1, 0), (.iload_n 1, 1, 0, 0, 0), (.iaload, 1, 0, 0, 0), (.istore 4, 2, 0, 0, 0), (.iload 4, 2, 0, 0, 0), (.ifCond .ne (7), 3, 0, 0, 0), (.iconst 4, 1, 0, 0, 0), (.goto (5), 3, 0, 0, 0)] := rfl
theorem bk_81_17 : mbk 81 17 = [(.bipush 60, 2, 0, 0, 0)] := rfl
theorem bk_81_19 : mbk 81 19 = [(.istore 5, 2, 0, 0, 0), (.iload_n 3, 1, 0, 0, 0), (.iload 5, 2, 0, 0, 0), (.iconst 2, 1, 0, 0, 0), (.iadd, 1, 0, 0, 0), (.if_icmp .ne (7), 3, 0, 0, 0), (.iconst 1, 1, 0, 0, 0), (.goto (4), 3, 0, 0, 0)] := rfl
theorem bk_81_33 : mbk 81 33 = [(.iconst 0, 1, 0, 0, 0)] := rfl
theorem bk_81_34 : mbk 81 34 = [(.istore 6, 2, 0, 0, 0), (.iload 6, 2, 0, 0, 0), (.ifCond .eq (7), 3, 0, 0, 0), (.iconst 1, 1, 0, 0, 0), (.goto (4), 3, 0, 0, 0)] := rfl
theorem bk_81_45 : mbk 81 45 = [(.iconst 2, 1, 0, 0, 0)] := rfl
theorem bk_81_46 : mbk 81 46 = [(.iconst 2, 1, 0, 0, 0), (.iload 4, 2, 0, 0, 0), (.imul, 1, 0, 0, 0), (.ishl, 1, 0, 0, 0), (.istore 7, 2, 0, 0, 0), (.iload_n 2, 1, 0, 0, 0), (.iload 5, 2, 0, 0, 0), (.if_icmp .ne (31), 3, 0, 0, 0), (.iload_n 3, 1, 0, 0, 0), (.iload 5, 2, 0, 0, 0), (.iconst 2, 1, 0, 0, 0), (.iadd, 1, 0, 0, 0), (.if_icmp .eq (11), 3, 0, 0, 0), (.iload_n 3, 1, 0, 0, 0), (.iload 5, 2, 0, 0, 0), (.iconst 2, 1, 0, 0, 0), (.isub, 1, 0, 0, 0), (.if_icmp .ne (15), 3, 0, 0, 0)] := rfl
theorem bk_81_75 : mbk 81 75 = [(.aload_n 0, 1, 0, 0, 0), (.getfield 16, 3, 5, 2, 0), (.iload_n 1, 1, 0, 0, 0), (.iaload, 1, 0, 0, 0), (.iload 7, 2, 0, 0, 0), (.iand, 1, 0, 0, 0), (.ifCond .ne (5), 3, 0, 0, 0)] := rfl
theorem bk_81_87 : mbk 81 87 = [(.iconst 0, 1, 0, 0, 0), (.ireturn, 1, 0, 0, 0)] := rfl
theorem bk_81_89 : mbk 81 89 = [(.iload 6, 2, 0, 0, 0), (.ifCond .eq (10), 3, 0, 0, 0), (.iload 5, 2, 0, 0, 0), (.iconst 1, 1, 0, 0, 0), (.iadd, 1, 0, 0, 0), (.goto (7), 3, 0, 0, 0)] := rfl
theorem bk_81_101 : mbk 81 101 = [(.iload 5, 2, 0, 0, 0), (.iconst 3, 1, 0, 0, 0), (.isub, 1, 0, 0, 0)] := rfl
theorem bk_81_105 : mbk 81 105 = [(.istore 8, 2, 0, 0, 0), (.iload 6, 2, 0, 0, 0), (.ifCond .eq (10), 3, 0, 0, 0), (.iload 5, 2, 0, 0, 0), (.iconst 2, 1, 0, 0, 0), (.iadd, 1, 0, 0, 0), (.goto (7), 3, 0, 0, 0)] := rfl
theorem bk_81_119 : mbk 81 119 = [(.iload 5, 2, 0, 0, 0), (.iconst 1, 1, 0, 0, 0), (.isub, 1, 0, 0, 0)] := rfl
theorem bk_81_123 : mbk 81 123 = [(.istore 9, 2, 0, 0, 0), (.iload 8, 2, 0, 0, 0), (.istore 10, 2, 0, 0, 0)] := rfl
theorem bk_81_129 : mbk 81 129 = [(.iload 10, 2, 0, 0, 0), (.iload 9, 2, 0, 0, 0), (.if_icmp .gt (26), 3, 0, 0, 0), (.aload_n 0, 1, 0, 0, 0), (.getfield 7, 3, 5, 0, 0), (.bipush 64, 2, 0, 0, 0), (.iload_n 1, 1, 0, 0, 0), (.imul, 1, 0, 0, 0), (.iload 10, 2, 0, 0, 0), (.iadd, 1, 0, 0, 0), (.iaload, 1, 0, 0, 0), (.ifCond .eq (5), 3, 0, 0, 0), (.iconst 0, 1, 0, 0, 0), (.ireturn, 1, 0, 0, 0)] := rfl
theorem bk_81_153 : mbk 81 153 = [(.iinc 10 (1), 3, 0, 0, 0), (.goto (-27), 3, 0, 0, 0)] := rfl
theorem bk_81_159 : mbk 81 159 = [(.aload_n 0, 1, 0, 0, 0), (.iload_n 1, 1, 0, 0, 0), (.iload 4, 2, 0, 0, 0), (.invokevirtual 65, 3, 84, 3, 0), (.ifCond .ne (35), 3, 0, 0, 0), (.aload_n 0, 1, 0, 0, 0), (.iload_n 1, 1, 0, 0, 0), (.iload 6, 2, 0, 0, 0), (.ifCond .eq (10), 3, 0, 0, 0), (.iload 5, 2, 0, 0, 0), (.iconst 1, 1, 0, 0, 0), (.iadd, 1, 0, 0, 0), (.goto (7), 3, 0, 0, 0)] := rfl
theorem bk_81_183 : mbk 81 183 = [(.iload 5, 2, 0, 0, 0), (.iconst 1, 1, 0, 0, 0), (.isub, 1, 0, 0, 0)] := rfl
theorem bk_81_187 : mbk 81 187 = [(.iconst 1, 1, 0, 0, 0), (.iload 4, 2, 0, 0, 0), (.isub, 1, 0, 0, 0), (.invokevirtual 61, 3, 85, 4, 0), (.ifCond .ne (7), 3, 0, 0, 0), (.iconst 1, 1, 0, 0, 0), (.goto (4), 3, 0, 0, 0)] := rfl
theorem bk_81_201 : mbk 81 201 = [(.iconst 0, 1, 0, 0, 0)] := rfl
theorem bk_81_202 : mbk 81 202 = [(.ireturn, 1, 0, 0, 0)] := rfl
theorem bk_82_0 : mbk 82 0 = [(.iconst 0, 1, 0, 0, 0), (.istore_n 3, 1, 0, 0, 0)] := rfl
theorem bk_82_2 : mbk 82 2 = [(.iload_n 3, 1, 0, 0, 0), (.bipush 64, 2, 0, 0, 0), (.if_icmp .ge (48), 3, 0, 0, 0), (.aload_n 0, 1, 0, 0, 0), (.getfield 7, 3, 5, 0, 0), (.bipush 64, 2, 0, 0, 0), (.iload_n 1, 1, 0, 0, 0), (.imul, 1, 0, 0, 0), (.iload_n 3, 1, 0, 0, 0), (.iadd, 1, 0, 0, 0), (.iaload, 1, 0, 0, 0), (.bipush 6, 2, 0, 0, 0), (.bipush 8, 2, 0, 0, 0), (.iload_n 2, 1, 0, 0, 0), (.imul, 1, 0, 0, 0), (.iadd, 1, 0, 0, 0), (.if_icmp .ne (21), 3, 0, 0, 0), (.aload_n 0, 1, 0, 0, 0), (.iload_n 1, 1, 0, 0, 0), (.iload_n 3, 1, 0, 0, 0), (.iconst 1, 1, 0, 0, 0), (.iload_n 2, 1, 0, 0, 0), (.isub, 1, 0, 0, 0), (.invokevirtual 61, 3, 85, 4, 0), (.ifCond .le (7), 3, 0, 0, 0), (.iconst 1, 1, 0, 0, 0), (.goto (4), 3, 0, 0, 0)] := rfl
theorem bk_82_45 : mbk 82 45 = [(.iconst 0, 1, 0, 0, 0)] := rfl
theorem bk_82_46 : mbk 82 46 = [(.ireturn, 1, 0, 0, 0)] := rfl
theorem bk_82_47 : mbk 82 47 = [(.iinc 3 (1), 3, 0, 0, 0), (.goto (-48), 3, 0, 0, 0)] := rfl
theorem bk_82_53 : mbk 82 53 = [(.iconst 0, 1, 0, 0, 0), (.ireturn, 1, 0, 0, 0)] := rfl
theorem bk_83_0 : mbk 83 0 = [(.iconst 0, 1, 0, 0, 0), (.istore 4, 2, 0, 0, 0), (.iconst 0, 1, 0, 0, 0), (.istore 5, 2, 0, 0, 0)] := rfl
theorem bk_83_6 : mbk 83 6 = [(.iload 5, 2, 0, 0, 0), (.bipush 64, 2, 0, 0, 0), (.if_icmp .ge (42), 3, 0, 0, 0), (.aload_n 0, 1, 0, 0, 0), (.getfield 7, 3, 5, 0, 0), (.bipush 64, 2, 0, 0, 0), (.iload_n 1, 1, 0, 0, 0), (.imul, 1, 0, 0, 0), (.iload 5, 2, 0, 0, 0), (.iadd, 1, 0, 0, 0), (.iaload, 1, 0, 0, 0), (.iload_n 3, 1, 0, 0, 0), (.invokestatic 54, 3, 78, 2, 0), (.ifCond .eq (17), 3, 0, 0, 0), (.aload_n 0, 1, 0, 0, 0), (.iload_n 1, 1, 0, 0, 0), (.iload 5, 2, 0, 0, 0), (.iload_n 2, 1, 0, 0, 0), (.invokevirtual 58, 3, 80, 4, 0), (.ifCond .eq (6), 3, 0, 0, 0), (.iinc 4 (1), 3, 0, 0, 0)] := rfl
theorem bk_83_46 : mbk 83 46 = [(.iinc 5 (1), 3, 0, 0, 0), (.goto (-43), 3, 0, 0, 0)] := rfl
theorem bk_83_52 : mbk 83 52 = [(.iload 4, 2, 0, 0, 0), (.ireturn, 1, 0, 0, 0)] := rfl
theorem bk_84_0 : mbk 84 0 = [(.bipush 64, 2, 0, 0, 0), (.iload_n 1, 1, 0, 0, 0), (.imul, 1, 0, 0, 0), (.bipush 64, 2, 0, 0, 0), (.iadd, 1, 0, 0, 0), (.istore 5, 2, 0, 0, 0), (.iconst 0, 1, 0, 0, 0), (.istore 6, 2, 0, 0, 0)] := rfl
theorem bk_84_12 : mbk 84 12 = [(.iload 6, 2, 0, 0, 0), (.bipush 64, 2, 0, 0, 0), (.if_icmp .ge (32), 3, 0, 0, 0), (.aload_n 0, 1, 0, 0, 0), (.getfield 7, 3, 5, 0, 0), (.iload 5, 2, 0, 0, 0), (.iload 6, 2, 0, 0, 0), (.iadd, 1, 0, 0, 0), (.aload_n 0, 1, 0, 0, 0), (.getfield 7, 3, 5, 0, 0), (.iload 5, 2, 0, 0, 0), (.bipush 64, 2, 0, 0, 0), (.isub, 1, 0, 0, 0), (.iload 6, 2, 0, 0, 0), (.iadd, 1, 0, 0, 0), (.iaload, 1, 0, 0, 0), (.iastore, 1, 0, 0, 0), (.iinc 6 (1), 3, 0, 0, 0), (.goto (-33), 3, 0, 0, 0)] := rfl
theorem bk_84_48 : mbk 84 48 = [(.aload_n 0, 1, 0, 0, 0), (.getfield 13, 3, 5, 1, 0), (.iload_n 1, 1, 0, 0, 0), (.iaload, 1, 0, 0, 0), (.istore 6, 2, 0, 0, 0), (.aload_n 0, 1, 0, 0, 0), (.getfield 7, 3, 5, 0, 0), (.iload 5, 2, 0, 0, 0), (.iload_n 2, 1, 0, 0, 0), (.iadd, 1, 0, 0, 0), (.iaload, 1, 0, 0, 0), (.istore 7, 2, 0, 0, 0), (.iload 7, 2, 0, 0, 0), (.invokestatic 47, 3, 75, 1, 0), (.iconst 1, 1, 0, 0, 0), (.if_icmp .ne (7), 3, 0, 0, 0), (.iconst 1, 1, 0, 0, 0), (.goto (4), 3, 0, 0, 0)] := rfl
theorem bk_84_80 : mbk 84 80 = [(.iconst 0, 1, 0, 0, 0)] := rfl
theorem bk_84_81 : mbk 84 81 = [(.istore 8, 2, 0, 0, 0), (.iload 6, 2, 0, 0, 0), (.ifCond .ne (8), 3, 0, 0, 0), (.bipush 8, 2, 0, 0, 0), (.goto (5), 3, 0, 0, 0)] := rfl
theorem bk_84_93 : mbk 84 93 = [(.bipush (-8), 2, 0, 0, 0)] := rfl
theorem bk_84_95 : mbk 84 95 = [(.istore 9, 2, 0, 0, 0), (.iload 8, 2, 0, 0, 0), (.ifCond .eq (37), 3, 0, 0, 0), (.iload_n 3, 1, 0, 0, 0), (.aload_n 0, 1, 0, 0, 0), (.getfield 19, 3, 5, 3, 0), (.iload_n 1, 1, 0, 0, 0), (.iaload, 1, 0, 0, 0), (.if_icmp .ne (27), 3, 0, 0, 0), (.iload_n 3, 1, 0, 0, 0), (.bipush 8, 2, 0, 0, 0), (.irem, 1, 0, 0, 0), (.iload_n 2, 1, 0, 0, 0), (.bipush 8, 2, 0, 0, 0), (.irem, 1, 0, 0, 0), (.if_icmp .eq (16), 3, 0, 0, 0), (.aload_n 0, 1, 0, 0, 0), (.getfield 7, 3, 5, 0, 0), (.iload 5, 2, 0, 0, 0), (.iload_n 3, 1, 0, 0, 0), (.iadd, 1, 0, 0, 0), (.iload 9, 2, 0, 0, 0), (.isub, 1, 0, 0, 0), (.iconst 0, 1, 0, 0, 0), (.iastore, 1, 0, 0, 0)] := rfl
theorem bk_84_136 : mbk 84 136 = [(.iload 7, 2, 0, 0, 0), (.invokestatic 47, 3, 75, 1, 0), (.bipush 6, 2, 0, 0, 0), (.if_icmp .ne (63), 3, 0, 0, 0), (.iload_n 3, 1, 0, 0, 0), (.iload_n 2, 1, 0, 0, 0), (.isub, 1, 0, 0, 0), (.invokestatic 43, 3, 81, 1, 0), (.iconst 2, 1, 0, 0, 0), (.if_icmp .ne (53), 3, 0, 0, 0), (.iload_n 3, 1, 0, 0, 0), (.iload_n 2, 1, 0, 0, 0), (.if_icmp .le (9), 3, 0, 0, 0), (.iload_n 2, 1, 0, 0, 0), (.iconst 3, 1, 0, 0, 0), (.iadd, 1, 0, 0, 0), (.goto (6), 3, 0, 0, 0)] := rfl
theorem bk_84_167 : mbk 84 167 = [(.iload_n 2, 1, 0, 0, 0), (.iconst 4, 1, 0, 0, 0), (.isub, 1, 0, 0, 0)] := rfl
theorem bk_84_170 : mbk 84 170 = [(.istore 10, 2, 0, 0, 0), (.aload_n 0, 1, 0, 0, 0), (.getfield 7, 3, 5, 0, 0), (.iload 5, 2, 0, 0, 0), (.iload_n 2, 1, 0, 0, 0), (.iload_n 3, 1, 0, 0, 0), (.iadd, 1, 0, 0, 0), (.iconst 2, 1, 0, 0, 0), (.idiv, 1, 0, 0, 0), (.iadd, 1, 0, 0, 0), (.aload_n 0, 1, 0, 0, 0), (.getfield 7, 3, 5, 0, 0), (.iload 5, 2, 0, 0, 0), (.iload 10, 2, 0, 0, 0), (.iadd, 1, 0, 0, 0), (.iaload, 1, 0, 0, 0), (.iastore, 1, 0, 0, 0), (.aload_n 0, 1, 0, 0, 0), (.getfield 7, 3, 5, 0, 0), (.iload 5, 2, 0, 0, 0), (.iload 10, 2, 0, 0, 0), (.iadd, 1, 0, 0, 0), (.iconst 0, 1, 0, 0, 0), (.iastore, 1, 0, 0, 0)] := rfl
theorem bk_84_206 : mbk 84 206 = [(.aload_n 0, 1, 0, 0, 0), (.getfield 7, 3, 5, 0, 0), (.iload 5, 2, 0, 0, 0), (.iload_n 3, 1, 0, 0, 0), (.iadd, 1, 0, 0, 0), (.iload 4, 2, 0, 0, 0), (.ifCond .le (14), 3, 0, 0, 0), (.iload 4, 2, 0, 0, 0), (.bipush 8, 2, 0, 0, 0), (.iload 6, 2, 0, 0, 0), (.imul, 1, 0, 0, 0), (.iadd, 1, 0, 0, 0), (.goto (5), 3, 0, 0, 0)] := rfl
theorem bk_84_230 : mbk 84 230 = [(.iload 7, 2, 0, 0, 0)] := rfl
theorem bk_84_232 : mbk 84 232 = [(.iastore, 1, 0, 0, 0), (.aload_n 0, 1, 0, 0, 0), (.getfield 7, 3, 5, 0, 0), (.iload 5, 2, 0, 0, 0), (.iload_n 2, 1, 0, 0, 0), (.iadd, 1, 0, 0, 0), (.iconst 0, 1, 0, 0, 0), (.iastore, 1, 0, 0, 0), (.aload_n 0, 1, 0, 0, 0), (.getfield 13, 3, 5, 1, 0), (.iload_n 1, 1, 0, 0, 0), (.iconst 1, 1, 0, 0, 0), (.iadd, 1, 0, 0, 0), (.iconst 1, 1, 0, 0, 0), (.iload 6, 2, 0, 0, 0), (.isub, 1, 0, 0, 0), (.iastore, 1, 0, 0, 0), (.aload_n 0, 1, 0, 0, 0), (.getfield 19, 3, 5, 3, 0), (.iload_n 1, 1, 0, 0, 0), (.iconst 1, 1, 0, 0, 0), (.iadd, 1, 0, 0, 0), (.iload 8, 2, 0, 0, 0), (.ifCond .eq (21), 3, 0, 0, 0), (.iload_n 3, 1, 0, 0, 0), (.iload_n 2, 1, 0, 0, 0), (.isub, 1, 0, 0, 0), (.invokestatic 43, 3, 81, 1, 0), (.bipush 16, 2, 0, 0, 0), (.if_icmp .ne (10), 3, 0, 0, 0), (.iload_n 2, 1, 0, 0, 0), (.iload 9, 2, 0, 0, 0), (.iadd, 1, 0, 0, 0), (.goto (4), 3, 0, 0, 0)] := rfl
theorem bk_84_285 : mbk 84 285 = [(.iconst (-1), 1, 0, 0, 0)] := rfl
theorem bk_84_286 : mbk 84 286 = [(.iastore, 1, 0, 0, 0), (.aload_n 0, 1, 0, 0, 0), (.getfield 16, 3, 5, 2, 0), (.iload_n 1, 1, 0, 0, 0), (.iaload, 1, 0, 0, 0), (.iload_n 2, 1, 0, 0, 0), (.invokestatic 75, 3, 87, 2, 0), (.istore 10, 2, 0, 0, 0), (.aload_n 0, 1, 0, 0, 0), (.getfield 16, 3, 5, 2, 0), (.iload_n 1, 1, 0, 0, 0), (.iconst 1, 1, 0, 0, 0), (.iadd, 1, 0, 0, 0), (.iload 10, 2, 0, 0, 0), (.iload_n 3, 1, 0, 0, 0), (.invokestatic 75, 3, 87, 2, 0), (.iastore, 1, 0, 0, 0), (.return_, 1, 0, 0, 0)] := rfl
theorem bk_85_0 : mbk 85 0 = [(.iload_n 1, 1, 0, 0, 0), (.iconst 4, 1, 0, 0, 0), (.if_icmp .ne (7), 3, 0, 0, 0), (.iconst 3, 1, 0, 0, 0), (.goto (54), 3, 0, 0, 0)] := rfl
theorem bk_85_9 : mbk 85 9 = [(.iload_n 1, 1, 0, 0, 0), (.bipush 7, 2, 0, 0, 0), (.if_icmp .ne (7), 3, 0, 0, 0), (.iconst 1, 1, 0, 0, 0), (.goto (44), 3, 0, 0, 0)] := rfl
theorem bk_85_19 : mbk 85 19 = [(.iload_n 1, 1, 0, 0, 0), (.ifCond .ne (7), 3, 0, 0, 0), (.iconst 2, 1, 0, 0, 0), (.goto (36), 3, 0, 0, 0)] := rfl
theorem bk_85_27 : mbk 85 27 = [(.iload_n 1, 1, 0, 0, 0), (.bipush 60, 2, 0, 0, 0), (.if_icmp .ne (8), 3, 0, 0, 0), (.bipush 12, 2, 0, 0, 0), (.goto (25), 3, 0, 0, 0)] := rfl
theorem bk_85_38 : mbk 85 38 = [(.iload_n 1, 1, 0, 0, 0), (.bipush 63, 2, 0, 0, 0), (.if_icmp .ne (7), 3, 0, 0, 0), (.iconst 4, 1, 0, 0, 0), (.goto (15), 3, 0, 0, 0)] := rfl
theorem bk_85_48 : mbk 85 48 = [(.iload_n 1, 1, 0, 0, 0), (.bipush 56, 2, 0, 0, 0), (.if_icmp .ne (8), 3, 0, 0, 0), (.bipush 8, 2, 0, 0, 0), (.goto (4), 3, 0, 0, 0)] := rfl
theorem bk_85_59 : mbk 85 59 = [(.iconst 0, 1, 0, 0, 0)] := rfl
theorem bk_85_60 : mbk 85 60 = [(.istore_n 2, 1, 0, 0, 0), (.iload_n 0, 1, 0, 0, 0), (.iload_n 2, 1, 0, 0, 0), (.iconst (-1), 1, 0, 0, 0), (.ixor, 1, 0, 0, 0), (.iand, 1, 0, 0, 0), (.ireturn, 1, 0, 0, 0)] := rfl
theorem bk_86_0 : mbk 86 0 = [(.aload_n 0, 1, 0, 0, 0), (.invokevirtual 96, 3, 71, 1, 0), (.return_, 1, 0, 0, 0)] := rfl
theorem bk_87_0 : mbk 87 0 = [(.aload_n 0, 1, 0, 0, 0), (.getfield 92, 3, 5, 4, 0), (.ifCond .ne (35), 3, 0, 0, 0), (.iload_n 1, 1, 0, 0, 0), (.ifCond .lt (31), 3, 0, 0, 0), (.iload_n 1, 1, 0, 0, 0), (.bipush 63, 2, 0, 0, 0), (.if_icmp .gt (25), 3, 0, 0, 0), (.iload_n 2, 1, 0, 0, 0), (.ifCond .lt (21), 3, 0, 0, 0), (.iload_n 2, 1, 0, 0, 0), (.bipush 14, 2, 0, 0, 0), (.if_icmp .gt (15), 3, 0, 0, 0), (.iload_n 2, 1, 0, 0, 0), (.bipush 7, 2, 0, 0, 0), (.if_icmp .eq (9), 3, 0, 0, 0), (.iload_n 2, 1, 0, 0, 0), (.bipush 8, 2, 0, 0, 0), (.if_icmp .ne (5), 3, 0, 0, 0)] := rfl
theorem bk_87_39 : mbk 87 39 = [(.iconst 0, 1, 0, 0, 0), (.ireturn, 1, 0, 0, 0)] := rfl
theorem bk_87_41 : mbk 87 41 = [(.aload_n 0, 1, 0, 0, 0), (.getfield 7, 3, 5, 0, 0), (.iload_n 1, 1, 0, 0, 0), (.iload_n 2, 1, 0, 0, 0), (.iastore, 1, 0, 0, 0), (.iconst 1, 1, 0, 0, 0), (.ireturn, 1, 0, 0, 0)] := rfl
theorem bk_88_0 : mbk 88 0 = [(.aload_n 0, 1, 0, 0, 0), (.getfield 92, 3, 5, 4, 0), (.ifCond .ne (33), 3, 0, 0, 0), (.iload_n 1, 1, 0, 0, 0), (.ifCond .lt (29), 3, 0, 0, 0), (.iload_n 1, 1, 0, 0, 0), (.iconst 1, 1, 0, 0, 0), (.if_icmp .gt (24), 3, 0, 0, 0), (.iload_n 2, 1, 0, 0, 0), (.ifCond .lt (20), 3, 0, 0, 0), (.iload_n 2, 1, 0, 0, 0), (.bipush 15, 2, 0, 0, 0), (.if_icmp .gt (14), 3, 0, 0, 0), (.iload_n 3, 1, 0, 0, 0), (.iconst (-1), 1, 0, 0, 0), (.if_icmp .lt (9), 3, 0, 0, 0), (.iload_n 3, 1, 0, 0, 0), (.bipush 63, 2, 0, 0, 0), (.if_icmp .le (5), 3, 0, 0, 0)] := rfl
theorem bk_88_37 : mbk 88 37 = [(.iconst (-1), 1, 0, 0, 0), (.ireturn, 1, 0, 0, 0)] := rfl
theorem bk_88_39 : mbk 88 39 = [(.aload_n 0, 1, 0, 0, 0), (.iconst 0, 1, 0, 0, 0), (.invokevirtual 122, 3, 91, 2, 0), (.ifCond .eq (11), 3, 0, 0, 0), (.aload_n 0, 1, 0, 0, 0), (.iconst 1, 1, 0, 0, 0), (.invokevirtual 122, 3, 91, 2, 0), (.ifCond .ne (6), 3, 0, 0, 0)] := rfl
theorem bk_88_55 : mbk 88 55 = [(.bipush (-2), 2, 0, 0, 0), (.ireturn, 1, 0, 0, 0)] := rfl
theorem bk_88_58 : mbk 88 58 = [(.aload_n 0, 1, 0, 0, 0), (.invokevirtual 126, 3, 92, 1, 0), (.ifCond .ne (6), 3, 0, 0, 0), (.bipush (-3), 2, 0, 0, 0), (.ireturn, 1, 0, 0, 0)] := rfl
theorem bk_88_68 : mbk 88 68 = [(.aload_n 0, 1, 0, 0, 0), (.iconst 0, 1, 0, 0, 0), (.iconst 1, 1, 0, 0, 0), (.iload_n 1, 1, 0, 0, 0), (.isub, 1, 0, 0, 0), (.invokevirtual 65, 3, 84, 3, 0), (.ifCond .eq (6), 3, 0, 0, 0), (.bipush (-4), 2, 0, 0, 0), (.ireturn, 1, 0, 0, 0)] := rfl
theorem bk_88_82 : mbk 88 82 = [(.aload_n 0, 1, 0, 0, 0), (.iload_n 2, 1, 0, 0, 0), (.invokevirtual 129, 3, 93, 2, 0), (.ifCond .ne (6), 3, 0, 0, 0), (.bipush (-5), 2, 0, 0, 0), (.ireturn, 1, 0, 0, 0)] := rfl
theorem bk_88_93 : mbk 88 93 = [(.aload_n 0, 1, 0, 0, 0), (.iload_n 1, 1, 0, 0, 0), (.iload_n 3, 1, 0, 0, 0), (.invokevirtual 132, 3, 94, 3, 0), (.ifCond .ne (6), 3, 0, 0, 0), (.bipush (-6), 2, 0, 0, 0), (.ireturn, 1, 0, 0, 0)] := rfl
theorem bk_88_105 : mbk 88 105 = [(.aload_n 0, 1, 0, 0, 0), (.iload_n 1, 1, 0, 0, 0), (.iload_n 2, 1, 0, 0, 0), (.iload_n 3, 1, 0, 0, 0), (.invokevirtual 99, 3, 72, 4, 0), (.iconst 0, 1, 0, 0, 0), (.ireturn, 1, 0, 0, 0)] := rfl
theorem bk_89_0 : mbk 89 0 = [(.iconst 0, 1, 0, 0, 0), (.istore_n 2, 1, 0, 0, 0), (.iconst 0, 1, 0, 0, 0), (.istore_n 3, 1, 0, 0, 0), (.iconst 0, 1, 0, 0, 0), (.istore 4, 2, 0, 0, 0)] := rfl
theorem bk_89_7 : mbk 89 7 = [(.iload 4, 2, 0, 0, 0), (.bipush 64, 2, 0, 0, 0), (.if_icmp .ge (56), 3, 0, 0, 0), (.iload_n 2, 1, 0, 0, 0), (.aload_n 0, 1, 0, 0, 0), (.getfield 7, 3, 5, 0, 0), (.iload 4, 2, 0, 0, 0), (.iaload, 1, 0, 0, 0), (.iload_n 1, 1, 0, 0, 0), (.invokestatic 54, 3, 78, 2, 0), (.ifCond .eq (7), 3, 0, 0, 0), (.iconst 1, 1, 0, 0, 0), (.goto (4), 3, 0, 0, 0)] := rfl
theorem bk_89_33 : mbk 89 33 = [(.iconst 0, 1, 0, 0, 0)] := rfl
theorem bk_89_34 : mbk 89 34 = [(.iadd, 1, 0, 0, 0), (.istore_n 2, 1, 0, 0, 0), (.iload_n 3, 1, 0, 0, 0), (.aload_n 0, 1, 0, 0, 0), (.getfield 7, 3, 5, 0, 0), (.iload 4, 2, 0, 0, 0), (.iaload, 1, 0, 0, 0), (.bipush 6, 2, 0, 0, 0), (.bipush 8, 2, 0, 0, 0), (.iload_n 1, 1, 0, 0, 0), (.imul, 1, 0, 0, 0), (.iadd, 1, 0, 0, 0), (.if_icmp .ne (7), 3, 0, 0, 0), (.iconst 1, 1, 0, 0, 0), (.goto (4), 3, 0, 0, 0)] := rfl
theorem bk_89_58 : mbk 89 58 = [(.iconst 0, 1, 0, 0, 0)] := rfl
theorem bk_89_59 : mbk 89 59 = [(.iadd, 1, 0, 0, 0), (.istore_n 3, 1, 0, 0, 0), (.iinc 4 (1), 3, 0, 0, 0), (.goto (-57), 3, 0, 0, 0)] := rfl
theorem bk_89_67 : mbk 89 67 = [(.iload_n 3, 1, 0, 0, 0), (.iconst 1, 1, 0, 0, 0), (.if_icmp .ne (13), 3, 0, 0, 0), (.iload_n 2, 1, 0, 0, 0), (.bipush 16, 2, 0, 0, 0), (.if_icmp .gt (7), 3, 0, 0, 0), (.iconst 1, 1, 0, 0, 0), (.goto (4), 3, 0, 0, 0)] := rfl
theorem bk_89_82 : mbk 89 82 = [(.iconst 0, 1, 0, 0, 0)] := rfl
theorem bk_89_83 : mbk 89 83 = [(.ireturn, 1, 0, 0, 0)] := rfl
theorem bk_90_0 : mbk 90 0 = [(.iconst 1, 1, 0, 0, 0), (.istore_n 1, 1, 0, 0, 0), (.iconst 0, 1, 0, 0, 0), (.istore_n 2, 1, 0, 0, 0)] := rfl
theorem bk_90_4 : mbk 90 4 = [(.iload_n 2, 1, 0, 0, 0), (.bipush 8, 2, 0, 0, 0), (.if_icmp .ge (48), 3, 0, 0, 0), (.iload_n 1, 1, 0, 0, 0), (.ifCond .eq (36), 3, 0, 0, 0), (.aload_n 0, 1, 0, 0, 0), (.getfield 7, 3, 5, 0, 0), (.iload_n 2, 1, 0, 0, 0), (.iaload, 1, 0, 0, 0), (.invokestatic 47, 3, 75, 1, 0), (.iconst 1, 1, 0, 0, 0), (.if_icmp .eq (23), 3, 0, 0, 0), (.aload_n 0, 1, 0, 0, 0), (.getfield 7, 3, 5, 0, 0), (.bipush 56, 2, 0, 0, 0), (.iload_n 2, 1, 0, 0, 0), (.iadd, 1, 0, 0, 0), (.iaload, 1, 0, 0, 0), (.invokestatic 47, 3, 75, 1, 0), (.iconst 1, 1, 0, 0, 0), (.if_icmp .eq (7), 3, 0, 0, 0), (.iconst 1, 1, 0, 0, 0), (.goto (4), 3, 0, 0, 0)] := rfl
theorem bk_90_47 : mbk 90 47 = [(.iconst 0, 1, 0, 0, 0)] := rfl
theorem bk_90_48 : mbk 90 48 = [(.istore_n 1, 1, 0, 0, 0), (.iinc 2 (1), 3, 0, 0, 0), (.goto (-48), 3, 0, 0, 0)] := rfl
theorem bk_90_55 : mbk 90 55 = [(.iload_n 1, 1, 0, 0, 0), (.ireturn, 1, 0, 0, 0)] := rfl
theorem bk_91_0 : mbk 91 0 = [(.iconst 1, 1, 0, 0, 0), (.istore_n 2, 1, 0, 0, 0), (.iconst 0, 1, 0, 0, 0), (.istore_n 3, 1, 0, 0, 0)] := rfl
theorem bk_91_4 : mbk 91 4 = [(.iload_n 3, 1, 0, 0, 0), (.iconst 4, 1, 0, 0, 0), (.if_icmp .ge (113), 3, 0, 0, 0), (.iload_n 3, 1, 0, 0, 0), (.iconst 2, 1, 0, 0, 0), (.if_icmp .ge (7), 3, 0, 0, 0), (.iconst 4, 1, 0, 0, 0), (.goto (5), 3, 0, 0, 0)] := rfl
theorem bk_91_18 : mbk 91 18 = [(.bipush 60, 2, 0, 0, 0)] := rfl
theorem bk_91_20 : mbk 91 20 = [(.istore 4, 2, 0, 0, 0), (.iload_n 3, 1, 0, 0, 0), (.iconst 2, 1, 0, 0, 0), (.irem, 1, 0, 0, 0), (.ifCond .ne (10), 3, 0, 0, 0), (.iload 4, 2, 0, 0, 0), (.iconst 3, 1, 0, 0, 0), (.iadd, 1, 0, 0, 0), (.goto (7), 3, 0, 0, 0)] := rfl
theorem bk_91_35 : mbk 91 35 = [(.iload 4, 2, 0, 0, 0), (.iconst 4, 1, 0, 0, 0), (.isub, 1, 0, 0, 0)] := rfl
theorem bk_91_39 : mbk 91 39 = [(.istore 5, 2, 0, 0, 0), (.iload_n 3, 1, 0, 0, 0), (.iconst 2, 1, 0, 0, 0), (.if_icmp .ge (7), 3, 0, 0, 0), (.iconst 0, 1, 0, 0, 0), (.goto (5), 3, 0, 0, 0)] := rfl
theorem bk_91_50 : mbk 91 50 = [(.bipush 8, 2, 0, 0, 0)] := rfl
theorem bk_91_52 : mbk 91 52 = [(.istore 6, 2, 0, 0, 0), (.aload_n 0, 1, 0, 0, 0), (.getfield 7, 3, 5, 0, 0), (.iload 4, 2, 0, 0, 0), (.iaload, 1, 0, 0, 0), (.bipush 6, 2, 0, 0, 0), (.iload 6, 2, 0, 0, 0), (.iadd, 1, 0, 0, 0), (.if_icmp .ne (21), 3, 0, 0, 0), (.aload_n 0, 1, 0, 0, 0), (.getfield 7, 3, 5, 0, 0), (.iload 5, 2, 0, 0, 0), (.iaload, 1, 0, 0, 0), (.iconst 4, 1, 0, 0, 0), (.iload 6, 2, 0, 0, 0), (.iadd, 1, 0, 0, 0), (.if_icmp .ne (7), 3, 0, 0, 0), (.iconst 1, 1, 0, 0, 0), (.goto (4), 3, 0, 0, 0)] := rfl
theorem bk_91_87 : mbk 91 87 = [(.iconst 0, 1, 0, 0, 0)] := rfl
theorem bk_91_88 : mbk 91 88 = [(.istore 7, 2, 0, 0, 0), (.iload_n 2, 1, 0, 0, 0), (.ifCond .eq (20), 3, 0, 0, 0), (.iload_n 1, 1, 0, 0, 0), (.iload_n 3, 1, 0, 0, 0), (.ishr, 1, 0, 0, 0), (.iconst 1, 1, 0, 0, 0), (.iand, 1, 0, 0, 0), (.ifCond .eq (8), 3, 0, 0, 0), (.iload 7, 2, 0, 0, 0), (.ifCond .eq (7), 3, 0, 0, 0)] := rfl
theorem bk_91_107 : mbk 91 107 = [(.iconst 1, 1, 0, 0, 0), (.goto (4), 3, 0, 0, 0)] := rfl
theorem bk_91_111 : mbk 91 111 = [(.iconst 0, 1, 0, 0, 0)] := rfl
theorem bk_91_112 : mbk 91 112 = [(.istore_n 2, 1, 0, 0, 0), (.iinc 3 (1), 3, 0, 0, 0), (.goto (-112), 3, 0, 0, 0)] := rfl
theorem bk_91_119 : mbk 91 119 = [(.iload_n 2, 1, 0, 0, 0), (.ireturn, 1, 0, 0, 0)] := rfl
theorem bk_92_0 : mbk 92 0 = [(.iload_n 2, 1, 0, 0, 0), (.iconst (-1), 1, 0, 0, 0), (.if_icmp .ne (5), 3, 0, 0, 0), (.iconst 1, 1, 0, 0, 0), (.ireturn, 1, 0, 0, 0)] := rfl
theorem bk_92_7 : mbk 92 7 = [(.iload_n 1, 1, 0, 0, 0), (.ifCond .ne (8), 3, 0, 0, 0), (.bipush 8, 2, 0, 0, 0), (.goto (5), 3, 0, 0, 0)] := rfl
theorem bk_92_16 : mbk 92 16 = [(.bipush (-8), 2, 0, 0, 0)] := rfl
theorem bk_92_18 : mbk 92 18 = [(.istore_n 3, 1, 0, 0, 0), (.iload_n 2, 1, 0, 0, 0), (.bipush 8, 2, 0, 0, 0), (.idiv, 1, 0, 0, 0), (.iload_n 1, 1, 0, 0, 0), (.ifCond .ne (7), 3, 0, 0, 0), (.iconst 5, 1, 0, 0, 0), (.goto (4), 3, 0, 0, 0)] := rfl
theorem bk_92_31 : mbk 92 31 = [(.iconst 2, 1, 0, 0, 0)] := rfl
theorem bk_92_32 : mbk 92 32 = [(.if_icmp .eq (5), 3, 0, 0, 0), (.iconst 0, 1, 0, 0, 0), (.ireturn, 1, 0, 0, 0)] := rfl
theorem bk_92_37 : mbk 92 37 = [(.aload_n 0, 1, 0, 0, 0), (.getfield 7, 3, 5, 0, 0), (.iload_n 2, 1, 0, 0, 0), (.iaload, 1, 0, 0, 0), (.ifCond .ne (39), 3, 0, 0, 0), (.aload_n 0, 1, 0, 0, 0), (.getfield 7, 3, 5, 0, 0), (.iload_n 2, 1, 0, 0, 0), (.iload_n 3, 1, 0, 0, 0), (.iadd, 1, 0, 0, 0), (.iaload, 1, 0, 0, 0), (.ifCond .ne (28), 3, 0, 0, 0), (.aload_n 0, 1, 0, 0, 0), (.getfield 7, 3, 5, 0, 0), (.iload_n 2, 1, 0, 0, 0), (.iload_n 3, 1, 0, 0, 0), (.isub, 1, 0, 0, 0), (.iaload, 1, 0, 0, 0), (.iload_n 1, 1, 0, 0, 0), (.ifCond .ne (8), 3, 0, 0, 0), (.bipush 9, 2, 0, 0, 0), (.goto (4), 3, 0, 0, 0)] := rfl
theorem bk_92_74 : mbk 92 74 = [(.iconst 1, 1, 0, 0, 0)] := rfl
theorem bk_92_75 : mbk 92 75 = [(.if_icmp .ne (7), 3, 0, 0, 0), (.iconst 1, 1, 0, 0, 0), (.goto (4), 3, 0, 0, 0)] := rfl
theorem bk_92_82 : mbk 92 82 = [(.iconst 0, 1, 0, 0, 0)] := rfl
theorem bk_92_83 : mbk 92 83 = [(.ireturn, 1, 0, 0, 0)] := rfl
theorem bk_93_0 : mbk 93 0 = [(.aload_n 0, 1, 0, 0, 0), (.getfield 92, 3, 5, 4, 0), (.ifCond .ne (5), 3, 0, 0, 0), (.iconst (-1), 1, 0, 0, 0), (.ireturn, 1, 0, 0, 0)] := rfl
theorem bk_93_9 : mbk 93 9 = [(.aload_n 0, 1, 0, 0, 0), (.invokevirtual 135, 3, 96, 1, 0), (.ifCond .eq (6), 3, 0, 0, 0), (.bipush (-7), 2, 0, 0, 0), (.ireturn, 1, 0, 0, 0)] := rfl
theorem bk_93_19 : mbk 93 19 = [(.iload_n 1, 1, 0, 0, 0), (.ifCond .lt (30), 3, 0, 0, 0), (.iload_n 1, 1, 0, 0, 0), (.bipush 63, 2, 0, 0, 0), (.if_icmp .gt (24), 3, 0, 0, 0), (.iload_n 2, 1, 0, 0, 0), (.ifCond .lt (20), 3, 0, 0, 0), (.iload_n 2, 1, 0, 0, 0), (.bipush 63, 2, 0, 0, 0), (.if_icmp .gt (14), 3, 0, 0, 0), (.aload_n 0, 1, 0, 0, 0), (.iconst 0, 1, 0, 0, 0), (.iload_n 1, 1, 0, 0, 0), (.iload_n 2, 1, 0, 0, 0), (.iload_n 3, 1, 0, 0, 0), (.invokevirtual 86, 3, 76, 5, 0), (.ifCond .ne (5), 3, 0, 0, 0)] := rfl
theorem bk_93_50 : mbk 93 50 = [(.iconst (-1), 1, 0, 0, 0), (.ireturn, 1, 0, 0, 0)] := rfl
theorem bk_93_52 : mbk 93 52 = [(.aload_n 0, 1, 0, 0, 0), (.getfield 7, 3, 5, 0, 0), (.iload_n 1, 1, 0, 0, 0), (.iaload, 1, 0, 0, 0), (.invokestatic 47, 3, 75, 1, 0), (.iconst 1, 1, 0, 0, 0), (.if_icmp .eq (16), 3, 0, 0, 0), (.aload_n 0, 1, 0, 0, 0), (.getfield 7, 3, 5, 0, 0), (.iload_n 2, 1, 0, 0, 0), (.iaload, 1, 0, 0, 0), (.ifCond .ne (7), 3, 0, 0, 0), (.iconst 1, 1, 0, 0, 0), (.goto (4), 3, 0, 0, 0)] := rfl
theorem bk_93_78 : mbk 93 78 = [(.iconst 0, 1, 0, 0, 0)] := rfl
theorem bk_93_79 : mbk 93 79 = [(.istore 4, 2, 0, 0, 0), (.iconst 0, 1, 0, 0, 0), (.istore 5, 2, 0, 0, 0)] := rfl
theorem bk_93_84 : mbk 93 84 = [(.iload 5, 2, 0, 0, 0), (.bipush 64, 2, 0, 0, 0), (.if_icmp .ge (26), 3, 0, 0, 0), (.aload_n 0, 1, 0, 0, 0), (.getfield 7, 3, 5, 0, 0), (.iload 5, 2, 0, 0, 0), (.aload_n 0, 1, 0, 0, 0), (.getfield 7, 3, 5, 0, 0), (.bipush 64, 2, 0, 0, 0), (.iload 5, 2, 0, 0, 0), (.iadd, 1, 0, 0, 0), (.iaload, 1, 0, 0, 0), (.iastore, 1, 0, 0, 0), (.iinc 5 (1), 3, 0, 0, 0), (.goto (-27), 3, 0, 0, 0)] := rfl
theorem bk_93_114 : mbk 93 114 = [(.aload_n 0, 1, 0, 0, 0), (.getfield 13, 3, 5, 1, 0), (.iconst 0, 1, 0, 0, 0), (.aload_n 0, 1, 0, 0, 0), (.getfield 13, 3, 5, 1, 0), (.iconst 1, 1, 0, 0, 0), (.iaload, 1, 0, 0, 0), (.iastore, 1, 0, 0, 0), (.aload_n 0, 1, 0, 0, 0), (.getfield 16, 3, 5, 2, 0), (.iconst 0, 1, 0, 0, 0), (.aload_n 0, 1, 0, 0, 0), (.getfield 16, 3, 5, 2, 0), (.iconst 1, 1, 0, 0, 0), (.iaload, 1, 0, 0, 0), (.iastore, 1, 0, 0, 0), (.aload_n 0, 1, 0, 0, 0), (.getfield 19, 3, 5, 3, 0), (.iconst 0, 1, 0, 0, 0), (.aload_n 0, 1, 0, 0, 0), (.getfield 19, 3, 5, 3, 0), (.iconst 1, 1, 0, 0, 0), (.iaload, 1, 0, 0, 0), (.iastore, 1, 0, 0, 0), (.aload_n 0, 1, 0, 0, 0), (.iload 4, 2, 0, 0, 0), (.ifCond .eq (12), 3, 0, 0, 0), (.aload_n 0, 1, 0, 0, 0), (.getfield 107, 3, 5, 12, 0), (.iconst 1, 1, 0, 0, 0), (.iadd, 1, 0, 0, 0), (.goto (4), 3, 0, 0, 0)] := rfl
theorem bk_93_165 : mbk 93 165 = [(.iconst 0, 1, 0, 0, 0)] := rfl
theorem bk_93_166 : mbk 93 166 = [(.putfield 107, 3, 5, 12, 0), (.aload_n 0, 1, 0, 0, 0), (.dup, 1, 0, 0, 0), (.getfield 110, 3, 5, 5, 0), (.iconst 1, 1, 0, 0, 0), (.iadd, 1, 0, 0, 0), (.putfield 110, 3, 5, 5, 0), (.aload_n 0, 1, 0, 0, 0), (.invokevirtual 113, 3, 73, 1, 0), (.iconst 0, 1, 0, 0, 0), (.ireturn, 1, 0, 0, 0)] := rfl
theorem bk_94_0 : mbk 94 0 = [(.aload_n 0, 1, 0, 0, 0), (.getfield 92, 3, 5, 4, 0), (.ifCond .ne (5), 3, 0, 0, 0), (.iconst 0, 1, 0, 0, 0), (.ireturn, 1, 0, 0, 0)] := rfl
theorem bk_94_9 : mbk 94 9 = [(.aload_n 0, 1, 0, 0, 0), (.iconst 0, 1, 0, 0, 0), (.iconst 1, 1, 0, 0, 0), (.invokevirtual 142, 3, 97, 3, 0), (.ifCond .ne (23), 3, 0, 0, 0), (.aload_n 0, 1, 0, 0, 0), (.iconst 0, 1, 0, 0, 0), (.aload_n 0, 1, 0, 0, 0), (.getfield 13, 3, 5, 1, 0), (.iconst 0, 1, 0, 0, 0), (.iaload, 1, 0, 0, 0), (.invokevirtual 65, 3, 84, 3, 0), (.ifCond .eq (7), 3, 0, 0, 0), (.iconst 1, 1, 0, 0, 0), (.goto (4), 3, 0, 0, 0)] := rfl
theorem bk_94_36 : mbk 94 36 = [(.iconst 2, 1, 0, 0, 0)] := rfl
theorem bk_94_37 : mbk 94 37 = [(.ireturn, 1, 0, 0, 0)] := rfl
theorem bk_94_38 : mbk 94 38 = [(.aload_n 0, 1, 0, 0, 0), (.invokevirtual 145, 3, 99, 1, 0), (.ifCond .eq (7), 3, 0, 0, 0), (.iconst 3, 1, 0, 0, 0), (.goto (30), 3, 0, 0, 0)] := rfl
theorem bk_94_49 : mbk 94 49 = [(.aload_n 0, 1, 0, 0, 0), (.invokevirtual 148, 3, 100, 1, 0), (.iconst 5, 1, 0, 0, 0), (.if_icmp .lt (7), 3, 0, 0, 0), (.iconst 4, 1, 0, 0, 0), (.goto (18), 3, 0, 0, 0)] := rfl
theorem bk_94_61 : mbk 94 61 = [(.aload_n 0, 1, 0, 0, 0), (.getfield 107, 3, 5, 12, 0), (.sipush 150, 3, 0, 0, 0), (.if_icmp .lt (7), 3, 0, 0, 0), (.iconst 5, 1, 0, 0, 0), (.goto (4), 3, 0, 0, 0)] := rfl
theorem bk_94_75 : mbk 94 75 = [(.iconst 0, 1, 0, 0, 0)] := rfl
theorem bk_94_76 : mbk 94 76 = [(.ireturn, 1, 0, 0, 0)] := rfl
theorem bk_95_0 : mbk 95 0 = [(.iconst 0, 1, 0, 0, 0), (.istore_n 3, 1, 0, 0, 0), (.iconst 0, 1, 0, 0, 0), (.istore 4, 2, 0, 0, 0)] := rfl
theorem bk_95_5 : mbk 95 5 = [(.iload 4, 2, 0, 0, 0), (.bipush 64, 2, 0, 0, 0), (.if_icmp .ge (92), 3, 0, 0, 0), (.iconst 0, 1, 0, 0, 0), (.istore 5, 2, 0, 0, 0)] := rfl
theorem bk_95_15 : mbk 95 15 = [(.iload 5, 2, 0, 0, 0), (.bipush 64, 2, 0, 0, 0), (.if_icmp .ge (76), 3, 0, 0, 0), (.aload_n 0, 1, 0, 0, 0), (.getfield 7, 3, 5, 0, 0), (.bipush 64, 2, 0, 0, 0), (.iload_n 1, 1, 0, 0, 0), (.imul, 1, 0, 0, 0), (.iload 4, 2, 0, 0, 0), (.iadd, 1, 0, 0, 0), (.iaload, 1, 0, 0, 0), (.aload_n 0, 1, 0, 0, 0), (.getfield 13, 3, 5, 1, 0), (.iload_n 1, 1, 0, 0, 0), (.iaload, 1, 0, 0, 0), (.invokestatic 54, 3, 78, 2, 0), (.ifCond .eq (52), 3, 0, 0, 0), (.iconst 0, 1, 0, 0, 0), (.istore 6, 2, 0, 0, 0)] := rfl
theorem bk_95_49 : mbk 95 49 = [(.iload 6, 2, 0, 0, 0), (.bipush 6, 2, 0, 0, 0), (.if_icmp .ge (36), 3, 0, 0, 0), (.iload_n 3, 1, 0, 0, 0), (.iload_n 2, 1, 0, 0, 0), (.if_icmp .ge (20), 3, 0, 0, 0), (.aload_n 0, 1, 0, 0, 0), (.iload_n 1, 1, 0, 0, 0), (.iload 4, 2, 0, 0, 0), (.iload 5, 2, 0, 0, 0), (.iload 6, 2, 0, 0, 0), (.invokevirtual 86, 3, 76, 5, 0), (.ifCond .eq (6), 3, 0, 0, 0), (.iinc 3 (1), 3, 0, 0, 0)] := rfl
theorem bk_95_78 : mbk 95 78 = [(.aload_n 0, 1, 0, 0, 0), (.iload 6, 2, 0, 0, 0), (.invokevirtual 89, 3, 98, 2, 0), (.istore 6, 2, 0, 0, 0), (.goto (-37), 3, 0, 0, 0)] := rfl
theorem bk_95_89 : mbk 95 89 = [(.iinc 5 (1), 3, 0, 0, 0), (.goto (-77), 3, 0, 0, 0)] := rfl
theorem bk_95_95 : mbk 95 95 = [(.iinc 4 (1), 3, 0, 0, 0), (.goto (-93), 3, 0, 0, 0)] := rfl
theorem bk_95_101 : mbk 95 101 = [(.iload_n 3, 1, 0, 0, 0), (.ireturn, 1, 0, 0, 0)] := rfl
theorem bk_96_0 : mbk 96 0 = [(.iload_n 1, 1, 0, 0, 0), (.ifCond .ne (7), 3, 0, 0, 0), (.iconst 2, 1, 0, 0, 0), (.goto (6), 3, 0, 0, 0)] := rfl
theorem bk_96_8 : mbk 96 8 = [(.iload_n 1, 1, 0, 0, 0), (.iconst 1, 1, 0, 0, 0), (.iadd, 1, 0, 0, 0)] := rfl
theorem bk_96_11 : mbk 96 11 = [(.ireturn, 1, 0, 0, 0)] := rfl
theorem bk_97_0 : mbk 97 0 = [(.iconst 0, 1, 0, 0, 0), (.istore_n 1, 1, 0, 0, 0), (.iconst 0, 1, 0, 0, 0), (.istore_n 2, 1, 0, 0, 0), (.iconst 0, 1, 0, 0, 0), (.istore_n 3, 1, 0, 0, 0), (.iconst 0, 1, 0, 0, 0), (.istore 4, 2, 0, 0, 0), (.iconst 0, 1, 0, 0, 0), (.istore 5, 2, 0, 0, 0), (.iconst 0, 1, 0, 0, 0), (.istore 6, 2, 0, 0, 0)] := rfl
theorem bk_97_15 : mbk 97 15 = [(.iload 6, 2, 0, 0, 0), (.bipush 64, 2, 0, 0, 0), (.if_icmp .ge (115), 3, 0, 0, 0), (.aload_n 0, 1, 0, 0, 0), (.getfield 7, 3, 5, 0, 0), (.iload 6, 2, 0, 0, 0), (.iaload, 1, 0, 0, 0), (.invokestatic 47, 3, 75, 1, 0), (.istore 7, 2, 0, 0, 0), (.iload 7, 2, 0, 0, 0), (.ifCond .eq (92), 3, 0, 0, 0), (.iload 7, 2, 0, 0, 0), (.bipush 6, 2, 0, 0, 0), (.if_icmp .eq (85), 3, 0, 0, 0), (.iinc 1 (1), 3, 0, 0, 0), (.iload_n 2, 1, 0, 0, 0), (.iload 7, 2, 0, 0, 0), (.iconst 2, 1, 0, 0, 0), (.if_icmp .eq (9), 3, 0, 0, 0), (.iload 7, 2, 0, 0, 0), (.iconst 3, 1, 0, 0, 0), (.if_icmp .ne (7), 3, 0, 0, 0)] := rfl
theorem bk_97_62 : mbk 97 62 = [(.iconst 1, 1, 0, 0, 0), (.goto (4), 3, 0, 0, 0)] := rfl
theorem bk_97_66 : mbk 97 66 = [(.iconst 0, 1, 0, 0, 0)] := rfl
theorem bk_97_67 : mbk 97 67 = [(.iadd, 1, 0, 0, 0), (.istore_n 2, 1, 0, 0, 0), (.iload_n 3, 1, 0, 0, 0), (.aload_n 0, 1, 0, 0, 0), (.getfield 7, 3, 5, 0, 0), (.iload 6, 2, 0, 0, 0), (.iaload, 1, 0, 0, 0), (.iconst 3, 1, 0, 0, 0), (.if_icmp .ne (7), 3, 0, 0, 0), (.iconst 1, 1, 0, 0, 0), (.goto (4), 3, 0, 0, 0)] := rfl
theorem bk_97_85 : mbk 97 85 = [(.iconst 0, 1, 0, 0, 0)] := rfl
theorem bk_97_86 : mbk 97 86 = [(.iadd, 1, 0, 0, 0), (.istore_n 3, 1, 0, 0, 0), (.iload 4, 2, 0, 0, 0), (.aload_n 0, 1, 0, 0, 0), (.getfield 7, 3, 5, 0, 0), (.iload 6, 2, 0, 0, 0), (.iaload, 1, 0, 0, 0), (.bipush 11, 2, 0, 0, 0), (.if_icmp .ne (7), 3, 0, 0, 0), (.iconst 1, 1, 0, 0, 0), (.goto (4), 3, 0, 0, 0)] := rfl
theorem bk_97_106 : mbk 97 106 = [(.iconst 0, 1, 0, 0, 0)] := rfl
theorem bk_97_107 : mbk 97 107 = [(.iadd, 1, 0, 0, 0), (.istore 4, 2, 0, 0, 0), (.iload 5, 2, 0, 0, 0), (.iload 6, 2, 0, 0, 0), (.bipush 8, 2, 0, 0, 0), (.irem, 1, 0, 0, 0), (.iload 6, 2, 0, 0, 0), (.bipush 8, 2, 0, 0, 0), (.idiv, 1, 0, 0, 0), (.iadd, 1, 0, 0, 0), (.iconst 2, 1, 0, 0, 0), (.irem, 1, 0, 0, 0), (.iadd, 1, 0, 0, 0), (.istore 5, 2, 0, 0, 0)] := rfl
theorem bk_97_128 : mbk 97 128 = [(.iinc 6 (1), 3, 0, 0, 0), (.goto (-116), 3, 0, 0, 0)] := rfl
theorem bk_97_134 : mbk 97 134 = [(.iload_n 1, 1, 0, 0, 0), (.ifCond .eq (35), 3, 0, 0, 0), (.iload_n 1, 1, 0, 0, 0), (.iconst 1, 1, 0, 0, 0), (.if_icmp .ne (8), 3, 0, 0, 0), (.iload_n 2, 1, 0, 0, 0), (.iconst 1, 1, 0, 0, 0), (.if_icmp .eq (25), 3, 0, 0, 0)] := rfl
theorem bk_97_148 : mbk 97 148 = [(.iload_n 1, 1, 0, 0, 0), (.iconst 2, 1, 0, 0, 0), (.if_icmp .ne (24), 3, 0, 0, 0), (.iload_n 3, 1, 0, 0, 0), (.iconst 1, 1, 0, 0, 0), (.if_icmp .ne (19), 3, 0, 0, 0), (.iload 4, 2, 0, 0, 0), (.iconst 1, 1, 0, 0, 0), (.if_icmp .ne (13), 3, 0, 0, 0), (.iload 5, 2, 0, 0, 0), (.iconst 1, 1, 0, 0, 0), (.if_icmp .eq (7), 3, 0, 0, 0)] := rfl
theorem bk_97_170 : mbk 97 170 = [(.iconst 1, 1, 0, 0, 0), (.goto (4), 3, 0, 0, 0)] := rfl
theorem bk_97_174 : mbk 97 174 = [(.iconst 0, 1, 0, 0, 0)] := rfl
theorem bk_97_175 : mbk 97 175 = [(.ireturn, 1, 0, 0, 0)] := rfl
theorem bk_98_0 : mbk 98 0 = [(.iconst 0, 1, 0, 0, 0), (.istore_n 1, 1, 0, 0, 0), (.iconst 0, 1, 0, 0, 0), (.istore_n 2, 1, 0, 0, 0)] := rfl
theorem bk_98_4 : mbk 98 4 = [(.iload_n 2, 1, 0, 0, 0), (.aload_n 0, 1, 0, 0, 0), (.getfield 110, 3, 5, 5, 0), (.if_icmp .gt (128), 3, 0, 0, 0), (.aload_n 0, 1, 0, 0, 0), (.getfield 110, 3, 5, 5, 0), (.iload_n 2, 1, 0, 0, 0), (.isub, 1, 0, 0, 0), (.iconst 2, 1, 0, 0, 0), (.irem, 1, 0, 0, 0), (.ifCond .ne (43), 3, 0, 0, 0), (.aload_n 0, 1, 0, 0, 0), (.getfield 26, 3, 5, 7, 0), (.iload_n 2, 1, 0, 0, 0), (.baload, 1, 0, 0, 0), (.aload_n 0, 1, 0, 0, 0), (.getfield 26, 3, 5, 7, 0), (.aload_n 0, 1, 0, 0, 0), (.getfield 110, 3, 5, 5, 0), (.baload, 1, 0, 0, 0), (.if_icmp .ne (25), 3, 0, 0, 0), (.aload_n 0, 1, 0, 0, 0), (.getfield 33, 3, 5, 9, 0), (.iload_n 2, 1, 0, 0, 0), (.baload, 1, 0, 0, 0), (.aload_n 0, 1, 0, 0, 0), (.getfield 33, 3, 5, 9, 0), (.aload_n 0, 1, 0, 0, 0), (.getfield 110, 3, 5, 5, 0), (.baload, 1, 0, 0, 0), (.if_icmp .ne (7), 3, 0, 0, 0), (.iconst 1, 1, 0, 0, 0), (.goto (4), 3, 0, 0, 0)] := rfl
theorem bk_98_63 : mbk 98 63 = [(.iconst 0, 1, 0, 0, 0)] := rfl
theorem bk_98_64 : mbk 98 64 = [(.istore_n 3, 1, 0, 0, 0), (.iconst 0, 1, 0, 0, 0), (.istore 4, 2, 0, 0, 0)] := rfl
theorem bk_98_68 : mbk 98 68 = [(.iload 4, 2, 0, 0, 0), (.iconst 4, 1, 0, 0, 0), (.if_icmp .ge (48), 3, 0, 0, 0), (.iload_n 3, 1, 0, 0, 0), (.ifCond .eq (36), 3, 0, 0, 0), (.aload_n 0, 1, 0, 0, 0), (.getfield 22, 3, 5, 6, 0), (.iconst 4, 1, 0, 0, 0), (.iload_n 2, 1, 0, 0, 0), (.imul, 1, 0, 0, 0), (.iload 4, 2, 0, 0, 0), (.iadd, 1, 0, 0, 0), (.laload, 1, 0, 0, 0), (.aload_n 0, 1, 0, 0, 0), (.getfield 22, 3, 5, 6, 0), (.iconst 4, 1, 0, 0, 0), (.aload_n 0, 1, 0, 0, 0), (.getfield 110, 3, 5, 5, 0), (.imul, 1, 0, 0, 0), (.iload 4, 2, 0, 0, 0), (.iadd, 1, 0, 0, 0), (.laload, 1, 0, 0, 0), (.lcmp, 1, 0, 0, 0), (.ifCond .ne (7), 3, 0, 0, 0), (.iconst 1, 1, 0, 0, 0), (.goto (4), 3, 0, 0, 0)] := rfl
theorem bk_98_111 : mbk 98 111 = [(.iconst 0, 1, 0, 0, 0)] := rfl
theorem bk_98_112 : mbk 98 112 = [(.istore_n 3, 1, 0, 0, 0), (.iinc 4 (1), 3, 0, 0, 0), (.goto (-48), 3, 0, 0, 0)] := rfl
theorem bk_98_119 : mbk 98 119 = [(.iload_n 1, 1, 0, 0, 0), (.iload_n 3, 1, 0, 0, 0), (.ifCond .eq (7), 3, 0, 0, 0), (.iconst 1, 1, 0, 0, 0), (.goto (4), 3, 0, 0, 0)] := rfl
theorem bk_98_128 : mbk 98 128 = [(.iconst 0, 1, 0, 0, 0)] := rfl
theorem bk_98_129 : mbk 98 129 = [(.iadd, 1, 0, 0, 0), (.istore_n 1, 1, 0, 0, 0), (.iinc 2 (1), 3, 0, 0, 0), (.goto (-130), 3, 0, 0, 0)] := rfl
theorem bk_98_137 : mbk 98 137 = [(.iload_n 1, 1, 0, 0, 0), (.ireturn, 1, 0, 0, 0)] := rfl
theorem bk_99_0 : mbk 99 0 = [(.aload_n 0, 1, 0, 0, 0), (.getfield 92, 3, 5, 4, 0), (.ifCond .eq (10), 3, 0, 0, 0), (.aload_n 0, 1, 0, 0, 0), (.getfield 110, 3, 5, 5, 0), (.ifCond .ne (5), 3, 0, 0, 0)] := rfl
theorem bk_99_14 : mbk 99 14 = [(.iconst 0, 1, 0, 0, 0), (.ireturn, 1, 0, 0, 0)] := rfl
theorem bk_99_16 : mbk 99 16 = [(.aload_n 0, 1, 0, 0, 0), (.dup, 1, 0, 0, 0), (.getfield 110, 3, 5, 5, 0), (.iconst 1, 1, 0, 0, 0), (.isub, 1, 0, 0, 0), (.putfield 110, 3, 5, 5, 0), (.aload_n 0, 1, 0, 0, 0), (.invokevirtual 139, 3, 102, 1, 0), (.iconst 1, 1, 0, 0, 0), (.ireturn, 1, 0, 0, 0)] := rfl
theorem bk_100_0 : mbk 100 0 = [(.iconst 0, 1, 0, 0, 0), (.istore_n 1, 1, 0, 0, 0)] := rfl
theorem bk_100_2 : mbk 100 2 = [(.iload_n 1, 1, 0, 0, 0), (.bipush 64, 2, 0, 0, 0), (.if_icmp .ge (43), 3, 0, 0, 0), (.aload_n 0, 1, 0, 0, 0), (.getfield 7, 3, 5, 0, 0), (.iload_n 1, 1, 0, 0, 0), (.aload_n 0, 1, 0, 0, 0), (.getfield 22, 3, 5, 6, 0), (.iconst 4, 1, 0, 0, 0), (.aload_n 0, 1, 0, 0, 0), (.getfield 110, 3, 5, 5, 0), (.imul, 1, 0, 0, 0), (.iload_n 1, 1, 0, 0, 0), (.bipush 16, 2, 0, 0, 0), (.idiv, 1, 0, 0, 0), (.iadd, 1, 0, 0, 0), (.laload, 1, 0, 0, 0), (.iconst 4, 1, 0, 0, 0), (.iload_n 1, 1, 0, 0, 0), (.bipush 16, 2, 0, 0, 0), (.irem, 1, 0, 0, 0), (.imul, 1, 0, 0, 0), (.lshr, 1, 0, 0, 0), (.ldc2_w 120, 3, 0, 0, 15), (.land, 1, 0, 0, 0), (.l2i, 1, 0, 0, 0), (.iastore, 1, 0, 0, 0), (.iinc 1 (1), 3, 0, 0, 0), (.goto (-43), 3, 0, 0, 0)] := rfl
theorem bk_100_48 : mbk 100 48 = [(.aload_n 0, 1, 0, 0, 0), (.getfield 13, 3, 5, 1, 0), (.iconst 0, 1, 0, 0, 0), (.aload_n 0, 1, 0, 0, 0), (.getfield 110, 3, 5, 5, 0), (.iconst 2, 1, 0, 0, 0), (.irem, 1, 0, 0, 0), (.ifCond .ne (10), 3, 0, 0, 0), (.aload_n 0, 1, 0, 0, 0), (.getfield 103, 3, 5, 11, 0), (.goto (9), 3, 0, 0, 0)] := rfl
theorem bk_100_69 : mbk 100 69 = [(.iconst 1, 1, 0, 0, 0), (.aload_n 0, 1, 0, 0, 0), (.getfield 103, 3, 5, 11, 0), (.isub, 1, 0, 0, 0)] := rfl
theorem bk_100_75 : mbk 100 75 = [(.iastore, 1, 0, 0, 0), (.aload_n 0, 1, 0, 0, 0), (.getfield 16, 3, 5, 2, 0), (.iconst 0, 1, 0, 0, 0), (.aload_n 0, 1, 0, 0, 0), (.getfield 26, 3, 5, 7, 0), (.aload_n 0, 1, 0, 0, 0), (.getfield 110, 3, 5, 5, 0), (.baload, 1, 0, 0, 0), (.iastore, 1, 0, 0, 0), (.aload_n 0, 1, 0, 0, 0), (.getfield 19, 3, 5, 3, 0), (.iconst 0, 1, 0, 0, 0), (.aload_n 0, 1, 0, 0, 0), (.getfield 30, 3, 5, 8, 0), (.aload_n 0, 1, 0, 0, 0), (.getfield 110, 3, 5, 5, 0), (.baload, 1, 0, 0, 0), (.iastore, 1, 0, 0, 0), (.aload_n 0, 1, 0, 0, 0), (.aload_n 0, 1, 0, 0, 0), (.getfield 36, 3, 5, 10, 0), (.aload_n 0, 1, 0, 0, 0), (.getfield 110, 3, 5, 5, 0), (.saload, 1, 0, 0, 0), (.putfield 107, 3, 5, 12, 0), (.return_, 1, 0, 0, 0)] := rfl
theorem bk_101_0 : mbk 101 0 = [(.iload_n 1, 1, 0, 0, 0), (.ifCond .lt (9), 3, 0, 0, 0), (.iload_n 1, 1, 0, 0, 0), (.bipush 63, 2, 0, 0, 0), (.if_icmp .le (7), 3, 0, 0, 0)] := rfl
theorem bk_101_10 : mbk 101 10 = [(.iconst (-1), 1, 0, 0, 0), (.goto (9), 3, 0, 0, 0)] := rfl
theorem bk_101_14 : mbk 101 14 = [(.aload_n 0, 1, 0, 0, 0), (.getfield 7, 3, 5, 0, 0), (.iload_n 1, 1, 0, 0, 0), (.iaload, 1, 0, 0, 0)] := rfl
theorem bk_101_20 : mbk 101 20 = [(.ireturn, 1, 0, 0, 0)] := rfl
theorem bk_102_0 : mbk 102 0 = [(.aload_n 0, 1, 0, 0, 0), (.getfield 92, 3, 5, 4, 0), (.ifCond .eq (12), 3, 0, 0, 0), (.aload_n 0, 1, 0, 0, 0), (.getfield 13, 3, 5, 1, 0), (.iconst 0, 1, 0, 0, 0), (.iaload, 1, 0, 0, 0), (.goto (4), 3, 0, 0, 0)] := rfl
theorem bk_102_16 : mbk 102 16 = [(.iconst (-1), 1, 0, 0, 0)] := rfl
theorem bk_102_17 : mbk 102 17 = [(.ireturn, 1, 0, 0, 0)] := rfl
theorem bk_103_0 : mbk 103 0 = [(.aload_n 0, 1, 0, 0, 0), (.getfield 92, 3, 5, 4, 0), (.ifCond .eq (12), 3, 0, 0, 0), (.aload_n 0, 1, 0, 0, 0), (.getfield 16, 3, 5, 2, 0), (.iconst 0, 1, 0, 0, 0), (.iaload, 1, 0, 0, 0), (.goto (4), 3, 0, 0, 0)] := rfl
theorem bk_103_16 : mbk 103 16 = [(.iconst (-1), 1, 0, 0, 0)] := rfl
theorem bk_103_17 : mbk 103 17 = [(.ireturn, 1, 0, 0, 0)] := rfl
theorem bk_104_0 : mbk 104 0 = [(.aload_n 0, 1, 0, 0, 0), (.getfield 92, 3, 5, 4, 0), (.ifCond .eq (12), 3, 0, 0, 0), (.aload_n 0, 1, 0, 0, 0), (.getfield 19, 3, 5, 3, 0), (.iconst 0, 1, 0, 0, 0), (.iaload, 1, 0, 0, 0), (.goto (4), 3, 0, 0, 0)] := rfl
theorem bk_104_16 : mbk 104 16 = [(.iconst (-1), 1, 0, 0, 0)] := rfl
theorem bk_104_17 : mbk 104 17 = [(.ireturn, 1, 0, 0, 0)] := rfl
theorem bk_105_0 : mbk 105 0 = [(.aload_n 0, 1, 0, 0, 0), (.getfield 92, 3, 5, 4, 0), (.ifCond .eq (14), 3, 0, 0, 0), (.aload_n 0, 1, 0, 0, 0), (.iconst 0, 1, 0, 0, 0), (.sipush 10000, 3, 0, 0, 0), (.invokevirtual 142, 3, 97, 3, 0), (.goto (4), 3, 0, 0, 0)] := rfl
theorem bk_105_18 : mbk 105 18 = [(.iconst 0, 1, 0, 0, 0)] := rfl
theorem bk_105_19 : mbk 105 19 = [(.ireturn, 1, 0, 0, 0)] := rfl
theorem bk_106_0 : mbk 106 0 = [(.aload_n 0, 1, 0, 0, 0), (.getfield 92, 3, 5, 4, 0), (.ifCond .eq (7), 3, 0, 0, 0), (.iload_n 1, 1, 0, 0, 0), (.ifCond .ge (5), 3, 0, 0, 0)] := rfl
theorem bk_106_11 : mbk 106 11 = [(.iconst (-1), 1, 0, 0, 0), (.ireturn, 1, 0, 0, 0)] := rfl
theorem bk_106_13 : mbk 106 13 = [(.iload_n 1, 1, 0, 0, 0), (.istore_n 2, 1, 0, 0, 0), (.iconst 0, 1, 0, 0, 0), (.istore_n 3, 1, 0, 0, 0)] := rfl
theorem bk_106_17 : mbk 106 17 = [(.iload_n 3, 1, 0, 0, 0), (.bipush 64, 2, 0, 0, 0), (.if_icmp .ge (99), 3, 0, 0, 0), (.iconst 0, 1, 0, 0, 0), (.istore 4, 2, 0, 0, 0)] := rfl
theorem bk_106_26 : mbk 106 26 = [(.iload 4, 2, 0, 0, 0), (.bipush 64, 2, 0, 0, 0), (.if_icmp .ge (83), 3, 0, 0, 0), (.aload_n 0, 1, 0, 0, 0), (.getfield 7, 3, 5, 0, 0), (.iload_n 3, 1, 0, 0, 0), (.iaload, 1, 0, 0, 0), (.aload_n 0, 1, 0, 0, 0), (.getfield 13, 3, 5, 1, 0), (.iconst 0, 1, 0, 0, 0), (.iaload, 1, 0, 0, 0), (.invokestatic 54, 3, 78, 2, 0), (.ifCond .eq (65), 3, 0, 0, 0), (.iconst 0, 1, 0, 0, 0), (.istore 5, 2, 0, 0, 0)] := rfl
theorem bk_106_54 : mbk 106 54 = [(.iload 5, 2, 0, 0, 0), (.bipush 6, 2, 0, 0, 0), (.if_icmp .ge (49), 3, 0, 0, 0), (.aload_n 0, 1, 0, 0, 0), (.iconst 0, 1, 0, 0, 0), (.iload_n 3, 1, 0, 0, 0), (.iload 4, 2, 0, 0, 0), (.iload 5, 2, 0, 0, 0), (.invokevirtual 86, 3, 76, 5, 0), (.ifCond .eq (25), 3, 0, 0, 0), (.iload_n 2, 1, 0, 0, 0), (.ifCond .ne (18), 3, 0, 0, 0), (.iload_n 3, 1, 0, 0, 0), (.bipush 64, 2, 0, 0, 0), (.iload 4, 2, 0, 0, 0), (.imul, 1, 0, 0, 0), (.iadd, 1, 0, 0, 0), (.sipush 4096, 3, 0, 0, 0), (.iload 5, 2, 0, 0, 0), (.imul, 1, 0, 0, 0), (.iadd, 1, 0, 0, 0), (.ireturn, 1, 0, 0, 0)] := rfl
theorem bk_106_93 : mbk 106 93 = [(.iinc 2 (-1), 3, 0, 0, 0)] := rfl
theorem bk_106_96 : mbk 106 96 = [(.aload_n 0, 1, 0, 0, 0), (.iload 5, 2, 0, 0, 0), (.invokevirtual 89, 3, 98, 2, 0), (.istore 5, 2, 0, 0, 0), (.goto (-50), 3, 0, 0, 0)] := rfl
theorem bk_106_107 : mbk 106 107 = [(.iinc 4 (1), 3, 0, 0, 0), (.goto (-84), 3, 0, 0, 0)] := rfl
theorem bk_106_113 : mbk 106 113 = [(.iinc 3 (1), 3, 0, 0, 0), (.goto (-99), 3, 0, 0, 0)] := rfl
theorem bk_106_119 : mbk 106 119 = [(.iconst (-1), 1, 0, 0, 0), (.ireturn, 1, 0, 0, 0)] := rfl
theorem bk_107_0 : mbk 107 0 = [(.iload_n 1, 1, 0, 0, 0), (.ifCond .lt (18), 3, 0, 0, 0), (.iload_n 1, 1, 0, 0, 0), (.bipush 63, 2, 0, 0, 0), (.if_icmp .gt (12), 3, 0, 0, 0), (.iload_n 2, 1, 0, 0, 0), (.ifCond .lt (8), 3, 0, 0, 0), (.iload_n 2, 1, 0, 0, 0), (.iconst 1, 1, 0, 0, 0), (.if_icmp .le (7), 3, 0, 0, 0)] := rfl
theorem bk_107_19 : mbk 107 19 = [(.iconst (-1), 1, 0, 0, 0), (.goto (10), 3, 0, 0, 0)] := rfl
theorem bk_107_23 : mbk 107 23 = [(.aload_n 0, 1, 0, 0, 0), (.iconst 0, 1, 0, 0, 0), (.iload_n 1, 1, 0, 0, 0), (.iload_n 2, 1, 0, 0, 0), (.invokevirtual 61, 3, 85, 4, 0)] := rfl
theorem bk_107_30 : mbk 107 30 = [(.ireturn, 1, 0, 0, 0)] := rfl
theorem bk_108_0 : mbk 108 0 = [(.aload_n 0, 1, 0, 0, 0), (.getfield 92, 3, 5, 4, 0), (.ifCond .eq (21), 3, 0, 0, 0), (.aload_n 0, 1, 0, 0, 0), (.iconst 0, 1, 0, 0, 0), (.aload_n 0, 1, 0, 0, 0), (.getfield 13, 3, 5, 1, 0), (.iconst 0, 1, 0, 0, 0), (.iaload, 1, 0, 0, 0), (.invokevirtual 65, 3, 84, 3, 0), (.ifCond .eq (7), 3, 0, 0, 0), (.iconst 1, 1, 0, 0, 0), (.goto (4), 3, 0, 0, 0)] := rfl
theorem bk_108_25 : mbk 108 25 = [(.iconst 0, 1, 0, 0, 0)] := rfl
theorem bk_108_26 : mbk 108 26 = [(.ireturn, 1, 0, 0, 0)] := rfl
theorem bk_109_0 : mbk 109 0 = [(.aload_n 0, 1, 0, 0, 0), (.getfield 92, 3, 5, 4, 0), (.ifCond .eq (34), 3, 0, 0, 0), (.aload_n 0, 1, 0, 0, 0), (.invokevirtual 148, 3, 100, 1, 0), (.iconst 3, 1, 0, 0, 0), (.if_icmp .lt (7), 3, 0, 0, 0), (.iconst 1, 1, 0, 0, 0), (.goto (4), 3, 0, 0, 0)] := rfl
theorem bk_109_19 : mbk 109 19 = [(.iconst 0, 1, 0, 0, 0)] := rfl
theorem bk_109_20 : mbk 109 20 = [(.aload_n 0, 1, 0, 0, 0), (.getfield 107, 3, 5, 12, 0), (.bipush 100, 2, 0, 0, 0), (.if_icmp .lt (7), 3, 0, 0, 0), (.iconst 2, 1, 0, 0, 0), (.goto (4), 3, 0, 0, 0)] := rfl
theorem bk_109_33 : mbk 109 33 = [(.iconst 0, 1, 0, 0, 0)] := rfl
theorem bk_109_34 : mbk 109 34 = [(.iadd, 1, 0, 0, 0), (.goto (4), 3, 0, 0, 0)] := rfl
theorem bk_109_38 : mbk 109 38 = [(.iconst 0, 1, 0, 0, 0)] := rfl
theorem bk_109_39 : mbk 109 39 = [(.ireturn, 1, 0, 0, 0)] := rfl
theorem bk_110_0 : mbk 110 0 = [(.aload_n 0, 1, 0, 0, 0), (.getfield 92, 3, 5, 4, 0), (.ifCond .eq (10), 3, 0, 0, 0), (.aload_n 0, 1, 0, 0, 0), (.getfield 107, 3, 5, 12, 0), (.goto (4), 3, 0, 0, 0)] := rfl
theorem bk_110_14 : mbk 110 14 = [(.iconst 0, 1, 0, 0, 0)] := rfl
theorem bk_110_15 : mbk 110 15 = [(.ireturn, 1, 0, 0, 0)] := rfl
theorem bk_111_0 : mbk 111 0 = [(.aload_n 0, 1, 0, 0, 0), (.getfield 92, 3, 5, 4, 0), (.ifCond .eq (10), 3, 0, 0, 0), (.aload_n 0, 1, 0, 0, 0), (.getfield 110, 3, 5, 5, 0), (.goto (4), 3, 0, 0, 0)] := rfl
theorem bk_111_14 : mbk 111 14 = [(.iconst 0, 1, 0, 0, 0)] := rfl
theorem bk_111_15 : mbk 111 15 = [(.ireturn, 1, 0, 0, 0)] := rfl
theorem bk_112_0 : mbk 112 0 = [(.aload_n 0, 1, 0, 0, 0), (.getfield 92, 3, 5, 4, 0), (.ifCond .eq (12), 3, 0, 0, 0), (.iload_n 1, 1, 0, 0, 0), (.ifCond .lt (8), 3, 0, 0, 0), (.iload_n 1, 1, 0, 0, 0), (.iconst 2, 1, 0, 0, 0), (.if_icmp .le (7), 3, 0, 0, 0)] := rfl
theorem bk_112_16 : mbk 112 16 = [(.sipush (-10000), 3, 0, 0, 0), (.ireturn, 1, 0, 0, 0)] := rfl
theorem bk_112_20 : mbk 112 20 = [(.iload_n 1, 1, 0, 0, 0), (.ifCond .ne (11), 3, 0, 0, 0), (.aload_n 0, 1, 0, 0, 0), (.iconst 0, 1, 0, 0, 0), (.invokevirtual 152, 3, 115, 2, 0), (.goto (20), 3, 0, 0, 0)] := rfl
theorem bk_112_32 : mbk 112 32 = [(.iload_n 1, 1, 0, 0, 0), (.iconst 1, 1, 0, 0, 0), (.if_icmp .ne (11), 3, 0, 0, 0), (.aload_n 0, 1, 0, 0, 0), (.iconst 0, 1, 0, 0, 0), (.invokevirtual 158, 3, 116, 2, 0), (.goto (7), 3, 0, 0, 0)] := rfl
theorem bk_112_45 : mbk 112 45 = [(.aload_n 0, 1, 0, 0, 0), (.invokevirtual 161, 3, 118, 1, 0)] := rfl
theorem bk_112_49 : mbk 112 49 = [(.ireturn, 1, 0, 0, 0)] := rfl
theorem bk_113_0 : mbk 113 0 = [(.iconst 0, 1, 0, 0, 0), (.istore_n 2, 1, 0, 0, 0), (.iconst 0, 1, 0, 0, 0), (.istore_n 3, 1, 0, 0, 0)] := rfl
theorem bk_113_4 : mbk 113 4 = [(.iload_n 3, 1, 0, 0, 0), (.bipush 64, 2, 0, 0, 0), (.if_icmp .ge (104), 3, 0, 0, 0), (.aload_n 0, 1, 0, 0, 0), (.getfield 7, 3, 5, 0, 0), (.bipush 64, 2, 0, 0, 0), (.iload_n 1, 1, 0, 0, 0), (.imul, 1, 0, 0, 0), (.iload_n 3, 1, 0, 0, 0), (.iadd, 1, 0, 0, 0), (.iaload, 1, 0, 0, 0), (.istore 4, 2, 0, 0, 0), (.iload 4, 2, 0, 0, 0), (.invokestatic 47, 3, 75, 1, 0), (.istore 5, 2, 0, 0, 0), (.iload 5, 2, 0, 0, 0), (.iconst 1, 1, 0, 0, 0), (.if_icmp .ne (7), 3, 0, 0, 0), (.iconst 1, 1, 0, 0, 0), (.goto (41), 3, 0, 0, 0)] := rfl
theorem bk_113_40 : mbk 113 40 = [(.iload 5, 2, 0, 0, 0), (.iconst 2, 1, 0, 0, 0), (.if_icmp .eq (9), 3, 0, 0, 0), (.iload 5, 2, 0, 0, 0), (.iconst 3, 1, 0, 0, 0), (.if_icmp .ne (7), 3, 0, 0, 0)] := rfl
theorem bk_113_52 : mbk 113 52 = [(.iconst 3, 1, 0, 0, 0), (.goto (25), 3, 0, 0, 0)] := rfl
theorem bk_113_56 : mbk 113 56 = [(.iload 5, 2, 0, 0, 0), (.iconst 4, 1, 0, 0, 0), (.if_icmp .ne (7), 3, 0, 0, 0), (.iconst 5, 1, 0, 0, 0), (.goto (15), 3, 0, 0, 0)] := rfl
theorem bk_113_66 : mbk 113 66 = [(.iload 5, 2, 0, 0, 0), (.iconst 5, 1, 0, 0, 0), (.if_icmp .ne (8), 3, 0, 0, 0), (.bipush 9, 2, 0, 0, 0), (.goto (4), 3, 0, 0, 0)] := rfl
theorem bk_113_77 : mbk 113 77 = [(.iconst 0, 1, 0, 0, 0)] := rfl
theorem bk_113_78 : mbk 113 78 = [(.istore 6, 2, 0, 0, 0), (.iload_n 2, 1, 0, 0, 0), (.iload 4, 2, 0, 0, 0), (.aload_n 0, 1, 0, 0, 0), (.getfield 13, 3, 5, 1, 0), (.iload_n 1, 1, 0, 0, 0), (.iaload, 1, 0, 0, 0), (.invokestatic 54, 3, 78, 2, 0), (.ifCond .eq (8), 3, 0, 0, 0), (.iload 6, 2, 0, 0, 0), (.goto (6), 3, 0, 0, 0)] := rfl
theorem bk_113_100 : mbk 113 100 = [(.iload 6, 2, 0, 0, 0), (.ineg, 1, 0, 0, 0)] := rfl
theorem bk_113_103 : mbk 113 103 = [(.iadd, 1, 0, 0, 0), (.istore_n 2, 1, 0, 0, 0), (.iinc 3 (1), 3, 0, 0, 0), (.goto (-104), 3, 0, 0, 0)] := rfl
theorem bk_113_111 : mbk 113 111 = [(.iload_n 2, 1, 0, 0, 0), (.ireturn, 1, 0, 0, 0)] := rfl
theorem bk_114_0 : mbk 114 0 = [(.ldc 151, 2, 0, 0, (-100000)), (.istore_n 2, 1, 0, 0, 0), (.iconst 0, 1, 0, 0, 0), (.istore_n 3, 1, 0, 0, 0)] := rfl
theorem bk_114_5 : mbk 114 5 = [(.iload_n 3, 1, 0, 0, 0), (.bipush 64, 2, 0, 0, 0), (.if_icmp .ge (105), 3, 0, 0, 0), (.iconst 0, 1, 0, 0, 0), (.istore 4, 2, 0, 0, 0)] := rfl
theorem bk_114_14 : mbk 114 14 = [(.iload 4, 2, 0, 0, 0), (.bipush 64, 2, 0, 0, 0), (.if_icmp .ge (89), 3, 0, 0, 0), (.aload_n 0, 1, 0, 0, 0), (.getfield 7, 3, 5, 0, 0), (.bipush 64, 2, 0, 0, 0), (.iload_n 1, 1, 0, 0, 0), (.imul, 1, 0, 0, 0), (.iload_n 3, 1, 0, 0, 0), (.iadd, 1, 0, 0, 0), (.iaload, 1, 0, 0, 0), (.aload_n 0, 1, 0, 0, 0), (.getfield 13, 3, 5, 1, 0), (.iload_n 1, 1, 0, 0, 0), (.iaload, 1, 0, 0, 0), (.invokestatic 54, 3, 78, 2, 0), (.ifCond .eq (66), 3, 0, 0, 0), (.iconst 0, 1, 0, 0, 0), (.istore 5, 2, 0, 0, 0)] := rfl
theorem bk_114_47 : mbk 114 47 = [(.iload 5, 2, 0, 0, 0), (.bipush 6, 2, 0, 0, 0), (.if_icmp .ge (50), 3, 0, 0, 0), (.aload_n 0, 1, 0, 0, 0), (.iload_n 1, 1, 0, 0, 0), (.iload_n 3, 1, 0, 0, 0), (.iload 4, 2, 0, 0, 0), (.iload 5, 2, 0, 0, 0), (.invokevirtual 86, 3, 76, 5, 0), (.ifCond .eq (26), 3, 0, 0, 0), (.aload_n 0, 1, 0, 0, 0), (.iload_n 1, 1, 0, 0, 0), (.iconst 1, 1, 0, 0, 0), (.iadd, 1, 0, 0, 0), (.invokevirtual 152, 3, 115, 2, 0), (.ineg, 1, 0, 0, 0), (.istore 6, 2, 0, 0, 0), (.iload 6, 2, 0, 0, 0), (.iload_n 2, 1, 0, 0, 0), (.if_icmp .le (8), 3, 0, 0, 0), (.iload 6, 2, 0, 0, 0), (.goto (4), 3, 0, 0, 0)] := rfl
theorem bk_114_88 : mbk 114 88 = [(.iload_n 2, 1, 0, 0, 0)] := rfl
theorem bk_114_89 : mbk 114 89 = [(.istore_n 2, 1, 0, 0, 0)] := rfl
theorem bk_114_90 : mbk 114 90 = [(.aload_n 0, 1, 0, 0, 0), (.iload 5, 2, 0, 0, 0), (.invokevirtual 89, 3, 98, 2, 0), (.istore 5, 2, 0, 0, 0), (.goto (-51), 3, 0, 0, 0)] := rfl
theorem bk_114_101 : mbk 114 101 = [(.iinc 4 (1), 3, 0, 0, 0), (.goto (-90), 3, 0, 0, 0)] := rfl
theorem bk_114_107 : mbk 114 107 = [(.iinc 3 (1), 3, 0, 0, 0), (.goto (-105), 3, 0, 0, 0)] := rfl
theorem bk_114_113 : mbk 114 113 = [(.iload_n 2, 1, 0, 0, 0), (.ldc 151, 2, 0, 0, (-100000)), (.if_icmp .ne (11), 3, 0, 0, 0), (.aload_n 0, 1, 0, 0, 0), (.iload_n 1, 1, 0, 0, 0), (.invokevirtual 155, 3, 117, 2, 0), (.goto (4), 3, 0, 0, 0)] := rfl
theorem bk_114_127 : mbk 114 127 = [(.iload_n 2, 1, 0, 0, 0)] := rfl
theorem bk_114_128 : mbk 114 128 = [(.ireturn, 1, 0, 0, 0)] := rfl
theorem bk_115_0 : mbk 115 0 = [(.aload_n 0, 1, 0, 0, 0), (.iload_n 1, 1, 0, 0, 0), (.aload_n 0, 1, 0, 0, 0), (.getfield 13, 3, 5, 1, 0), (.iload_n 1, 1, 0, 0, 0), (.iaload, 1, 0, 0, 0), (.invokevirtual 65, 3, 84, 3, 0), (.ifCond .eq (9), 3, 0, 0, 0), (.sipush (-1000), 3, 0, 0, 0), (.goto (4), 3, 0, 0, 0)] := rfl
theorem bk_115_20 : mbk 115 20 = [(.iconst 0, 1, 0, 0, 0)] := rfl
theorem bk_115_21 : mbk 115 21 = [(.ireturn, 1, 0, 0, 0)] := rfl
theorem bk_116_0 : mbk 116 0 = [(.ldc 151, 2, 0, 0, (-100000)), (.istore_n 1, 1, 0, 0, 0), (.iconst 0, 1, 0, 0, 0), (.istore_n 2, 1, 0, 0, 0)] := rfl
theorem bk_116_5 : mbk 116 5 = [(.iload_n 2, 1, 0, 0, 0), (.bipush 64, 2, 0, 0, 0), (.if_icmp .ge (95), 3, 0, 0, 0), (.iconst 0, 1, 0, 0, 0), (.istore_n 3, 1, 0, 0, 0)] := rfl
theorem bk_116_13 : mbk 116 13 = [(.iload_n 3, 1, 0, 0, 0), (.bipush 64, 2, 0, 0, 0), (.if_icmp .ge (81), 3, 0, 0, 0), (.aload_n 0, 1, 0, 0, 0), (.getfield 7, 3, 5, 0, 0), (.iload_n 2, 1, 0, 0, 0), (.iaload, 1, 0, 0, 0), (.aload_n 0, 1, 0, 0, 0), (.getfield 13, 3, 5, 1, 0), (.iconst 0, 1, 0, 0, 0), (.iaload, 1, 0, 0, 0), (.invokestatic 54, 3, 78, 2, 0), (.ifCond .eq (63), 3, 0, 0, 0), (.iconst 0, 1, 0, 0, 0), (.istore 4, 2, 0, 0, 0)] := rfl
theorem bk_116_40 : mbk 116 40 = [(.iload 4, 2, 0, 0, 0), (.bipush 6, 2, 0, 0, 0), (.if_icmp .ge (47), 3, 0, 0, 0), (.aload_n 0, 1, 0, 0, 0), (.iconst 0, 1, 0, 0, 0), (.iload_n 2, 1, 0, 0, 0), (.iload_n 3, 1, 0, 0, 0), (.iload 4, 2, 0, 0, 0), (.invokevirtual 86, 3, 76, 5, 0), (.ifCond .eq (24), 3, 0, 0, 0), (.aload_n 0, 1, 0, 0, 0), (.iconst 1, 1, 0, 0, 0), (.invokevirtual 158, 3, 116, 2, 0), (.ineg, 1, 0, 0, 0), (.istore 5, 2, 0, 0, 0), (.iload 5, 2, 0, 0, 0), (.iload_n 1, 1, 0, 0, 0), (.if_icmp .le (8), 3, 0, 0, 0), (.iload 5, 2, 0, 0, 0), (.goto (4), 3, 0, 0, 0)] := rfl
theorem bk_116_78 : mbk 116 78 = [(.iload_n 1, 1, 0, 0, 0)] := rfl
theorem bk_116_79 : mbk 116 79 = [(.istore_n 1, 1, 0, 0, 0)] := rfl
theorem bk_116_80 : mbk 116 80 = [(.aload_n 0, 1, 0, 0, 0), (.iload 4, 2, 0, 0, 0), (.invokevirtual 89, 3, 98, 2, 0), (.istore 4, 2, 0, 0, 0), (.goto (-48), 3, 0, 0, 0)] := rfl
theorem bk_116_91 : mbk 116 91 = [(.iinc 3 (1), 3, 0, 0, 0), (.goto (-81), 3, 0, 0, 0)] := rfl
theorem bk_116_97 : mbk 116 97 = [(.iinc 2 (1), 3, 0, 0, 0), (.goto (-95), 3, 0, 0, 0)] := rfl
theorem bk_116_103 : mbk 116 103 = [(.iload_n 1, 1, 0, 0, 0), (.ldc 151, 2, 0, 0, (-100000)), (.if_icmp .ne (11), 3, 0, 0, 0), (.aload_n 0, 1, 0, 0, 0), (.iconst 0, 1, 0, 0, 0), (.invokevirtual 155, 3, 117, 2, 0), (.goto (4), 3, 0, 0, 0)] := rfl
theorem bk_116_117 : mbk 116 117 = [(.iload_n 1, 1, 0, 0, 0)] := rfl
theorem bk_116_118 : mbk 116 118 = [(.ireturn, 1, 0, 0, 0)] := rfl
theorem bk_117_0 : mbk 117 0 = [(.iconst 0, 1, 0, 0, 0), (.istore_n 2, 1, 0, 0, 0)] := rfl
theorem bk_117_2 : mbk 117 2 = [(.iload_n 2, 1, 0, 0, 0), (.bipush 64, 2, 0, 0, 0), (.if_icmp .ge (62), 3, 0, 0, 0), (.aload_n 0, 1, 0, 0, 0), (.getfield 9, 3, 1, 0, 0), (.getfield 15, 3, 2, 0, 0), (.iload_n 2, 1, 0, 0, 0), (.iaload, 1, 0, 0, 0), (.istore_n 3, 1, 0, 0, 0), (.iload_n 3, 1, 0, 0, 0), (.aload_n 0, 1, 0, 0, 0), (.getfield 21, 3, 1, 2, 0), (.invokestatic 25, 3, 5, 2, 0), (.ifCond .ne (6), 3, 0, 0, 0), (.goto (32), 3, 0, 0, 0)] := rfl
theorem bk_117_32 : mbk 117 32 = [(.iload_n 3, 1, 0, 0, 0), (.invokestatic 29, 3, 6, 1, 0), (.iconst 1, 1, 0, 0, 0), (.if_icmp .ne (18), 3, 0, 0, 0), (.aload_n 0, 1, 0, 0, 0), (.iload_n 2, 1, 0, 0, 0), (.aload_n 1, 1, 0, 0, 0), (.invokestatic 33, 3, 120, 3, 0), (.aload_n 0, 1, 0, 0, 0), (.iload_n 2, 1, 0, 0, 0), (.aload_n 1, 1, 0, 0, 0), (.invokestatic 39, 3, 122, 3, 0), (.goto (9), 3, 0, 0, 0)] := rfl
theorem bk_117_55 : mbk 117 55 = [(.aload_n 0, 1, 0, 0, 0), (.iload_n 2, 1, 0, 0, 0), (.aload_n 1, 1, 0, 0, 0), (.invokestatic 42, 3, 123, 3, 0)] := rfl
theorem bk_117_61 : mbk 117 61 = [(.iinc 2 (1), 3, 0, 0, 0), (.goto (-62), 3, 0, 0, 0)] := rfl
theorem bk_117_67 : mbk 117 67 = [(.return_, 1, 0, 0, 0)] := rfl
theorem bk_118_0 : mbk 118 0 = [(.aload_n 0, 1, 0, 0, 0), (.getfield 9, 3, 1, 0, 0), (.getfield 15, 3, 2, 0, 0), (.astore_n 3, 1, 0, 0, 0), (.aload_n 0, 1, 0, 0, 0), (.getfield 21, 3, 1, 2, 0), (.invokestatic 74, 3, 7, 1, 0), (.istore 4, 2, 0, 0, 0), (.iload_n 1, 1, 0, 0, 0), (.iload 4, 2, 0, 0, 0), (.iadd, 1, 0, 0, 0), (.istore 5, 2, 0, 0, 0), (.iload 5, 2, 0, 0, 0), (.invokestatic 77, 3, 8, 1, 0), (.ifCond .eq (10), 3, 0, 0, 0), (.aload_n 3, 1, 0, 0, 0), (.iload 5, 2, 0, 0, 0), (.iaload, 1, 0, 0, 0), (.ifCond .eq (4), 3, 0, 0, 0)] := rfl
theorem bk_118_38 : mbk 118 38 = [(.return_, 1, 0, 0, 0)] := rfl
theorem bk_118_39 : mbk 118 39 = [(.iload_n 1, 1, 0, 0, 0), (.iload 5, 2, 0, 0, 0), (.aload_n 2, 1, 0, 0, 0), (.invokestatic 81, 3, 121, 3, 0), (.iload_n 1, 1, 0, 0, 0), (.bipush 8, 2, 0, 0, 0), (.idiv, 1, 0, 0, 0), (.aload_n 0, 1, 0, 0, 0), (.getfield 21, 3, 1, 2, 0), (.ifCond .ne (7), 3, 0, 0, 0), (.iconst 1, 1, 0, 0, 0), (.goto (5), 3, 0, 0, 0)] := rfl
theorem bk_118_61 : mbk 118 61 = [(.bipush 6, 2, 0, 0, 0)] := rfl
theorem bk_118_63 : mbk 118 63 = [(.if_icmp .ne (7), 3, 0, 0, 0), (.iconst 1, 1, 0, 0, 0), (.goto (4), 3, 0, 0, 0)] := rfl
theorem bk_118_70 : mbk 118 70 = [(.iconst 0, 1, 0, 0, 0)] := rfl
theorem bk_118_71 : mbk 118 71 = [(.istore 6, 2, 0, 0, 0), (.iload 6, 2, 0, 0, 0), (.ifCond .eq (23), 3, 0, 0, 0), (.aload_n 3, 1, 0, 0, 0), (.iload 5, 2, 0, 0, 0), (.iload 4, 2, 0, 0, 0), (.iadd, 1, 0, 0, 0), (.iaload, 1, 0, 0, 0), (.ifCond .ne (13), 3, 0, 0, 0), (.iload_n 1, 1, 0, 0, 0), (.iload 5, 2, 0, 0, 0), (.iload 4, 2, 0, 0, 0), (.iadd, 1, 0, 0, 0), (.aload_n 2, 1, 0, 0, 0), (.invokestatic 81, 3, 121, 3, 0)] := rfl
theorem bk_118_98 : mbk 118 98 = [(.return_, 1, 0, 0, 0)] := rfl
theorem bk_119_0 : mbk 119 0 = [(.iload_n 1, 1, 0, 0, 0), (.bipush 8, 2, 0, 0, 0), (.idiv, 1, 0, 0, 0), (.ifCond .eq (23), 3, 0, 0, 0), (.iload_n 1, 1, 0, 0, 0), (.bipush 8, 2, 0, 0, 0), (.idiv, 1, 0, 0, 0), (.bipush 7, 2, 0, 0, 0), (.if_icmp .eq (14), 3, 0, 0, 0), (.aload_n 2, 1, 0, 0, 0), (.iload_n 0, 1, 0, 0, 0), (.iload_n 1, 1, 0, 0, 0), (.iconst 0, 1, 0, 0, 0), (.invokestatic 64, 3, 9, 3, 0), (.invokevirtual 68, 3, 59, 2, 0), (.return_, 1, 0, 0, 0)] := rfl
theorem bk_119_27 : mbk 119 27 = [(.iconst 2, 1, 0, 0, 0), (.istore_n 3, 1, 0, 0, 0)] := rfl
theorem bk_119_29 : mbk 119 29 = [(.iload_n 3, 1, 0, 0, 0), (.iconst 5, 1, 0, 0, 0), (.if_icmp .gt (19), 3, 0, 0, 0), (.aload_n 2, 1, 0, 0, 0), (.iload_n 0, 1, 0, 0, 0), (.iload_n 1, 1, 0, 0, 0), (.iload_n 3, 1, 0, 0, 0), (.invokestatic 64, 3, 9, 3, 0), (.invokevirtual 68, 3, 59, 2, 0), (.iinc 3 (1), 3, 0, 0, 0), (.goto (-18), 3, 0, 0, 0)] := rfl
theorem bk_119_50 : mbk 119 50 = [(.return_, 1, 0, 0, 0)] := rfl
theorem bk_120_0 : mbk 120 0 = [(.iload_n 1, 1, 0, 0, 0), (.bipush 8, 2, 0, 0, 0), (.idiv, 1, 0, 0, 0), (.aload_n 0, 1, 0, 0, 0), (.getfield 21, 3, 1, 2, 0), (.ifCond .ne (7), 3, 0, 0, 0), (.iconst 1, 1, 0, 0, 0), (.goto (4), 3, 0, 0, 0)] := rfl
theorem bk_120_15 : mbk 120 15 = [(.iconst (-1), 1, 0, 0, 0)] := rfl
theorem bk_120_16 : mbk 120 16 = [(.iadd, 1, 0, 0, 0), (.istore_n 3, 1, 0, 0, 0), (.iload_n 1, 1, 0, 0, 0), (.bipush 8, 2, 0, 0, 0), (.irem, 1, 0, 0, 0), (.iconst 1, 1, 0, 0, 0), (.isub, 1, 0, 0, 0), (.istore 4, 2, 0, 0, 0)] := rfl
theorem bk_120_26 : mbk 120 26 = [(.iload 4, 2, 0, 0, 0), (.iload_n 1, 1, 0, 0, 0), (.bipush 8, 2, 0, 0, 0), (.irem, 1, 0, 0, 0), (.iconst 1, 1, 0, 0, 0), (.iadd, 1, 0, 0, 0), (.if_icmp .gt (68), 3, 0, 0, 0), (.iload 4, 2, 0, 0, 0), (.iload_n 3, 1, 0, 0, 0), (.invokestatic 61, 3, 10, 2, 0), (.ifCond .ne (6), 3, 0, 0, 0), (.goto (50), 3, 0, 0, 0)] := rfl
theorem bk_120_49 : mbk 120 49 = [(.bipush 8, 2, 0, 0, 0), (.iload_n 3, 1, 0, 0, 0), (.imul, 1, 0, 0, 0), (.iload 4, 2, 0, 0, 0), (.iadd, 1, 0, 0, 0), (.istore 5, 2, 0, 0, 0), (.iload 5, 2, 0, 0, 0), (.aload_n 0, 1, 0, 0, 0), (.getfield 85, 3, 1, 4, 0), (.if_icmp .eq (25), 3, 0, 0, 0), (.aload_n 0, 1, 0, 0, 0), (.getfield 9, 3, 1, 0, 0), (.getfield 15, 3, 2, 0, 0), (.iload 5, 2, 0, 0, 0), (.iaload, 1, 0, 0, 0), (.iconst 1, 1, 0, 0, 0), (.aload_n 0, 1, 0, 0, 0), (.getfield 21, 3, 1, 2, 0), (.isub, 1, 0, 0, 0), (.invokestatic 25, 3, 5, 2, 0), (.ifCond .eq (10), 3, 0, 0, 0)] := rfl
theorem bk_120_89 : mbk 120 89 = [(.iload_n 1, 1, 0, 0, 0), (.iload 5, 2, 0, 0, 0), (.aload_n 2, 1, 0, 0, 0), (.invokestatic 81, 3, 121, 3, 0)] := rfl
theorem bk_120_96 : mbk 120 96 = [(.iinc 4 (2), 3, 0, 0, 0), (.goto (-73), 3, 0, 0, 0)] := rfl
theorem bk_120_102 : mbk 120 102 = [(.return_, 1, 0, 0, 0)] := rfl
theorem bk_121_0 : mbk 121 0 = [(.aload_n 0, 1, 0, 0, 0), (.getfield 9, 3, 1, 0, 0), (.getfield 15, 3, 2, 0, 0), (.iload_n 1, 1, 0, 0, 0), (.iaload, 1, 0, 0, 0), (.invokestatic 29, 3, 6, 1, 0), (.istore_n 3, 1, 0, 0, 0), (.iconst 0, 1, 0, 0, 0), (.istore 4, 2, 0, 0, 0)] := rfl
theorem bk_121_16 : mbk 121 16 = [(.iload 4, 2, 0, 0, 0), (.bipush 8, 2, 0, 0, 0), (.if_icmp .ge (129), 3, 0, 0, 0), (.getstatic 45, 3, 26, 0, 0), (.iload 4, 2, 0, 0, 0), (.iaload, 1, 0, 0, 0), (.ifCond .eq (16), 3, 0, 0, 0), (.getstatic 48, 3, 27, 0, 0), (.iload 4, 2, 0, 0, 0), (.iaload, 1, 0, 0, 0), (.ifCond .eq (7), 3, 0, 0, 0), (.iconst 1, 1, 0, 0, 0), (.goto (4), 3, 0, 0, 0)] := rfl
theorem bk_121_45 : mbk 121 45 = [(.iconst 0, 1, 0, 0, 0)] := rfl
theorem bk_121_46 : mbk 121 46 = [(.istore 5, 2, 0, 0, 0), (.iload_n 3, 1, 0, 0, 0), (.iconst 2, 1, 0, 0, 0), (.if_icmp .ne (25), 3, 0, 0, 0), (.aload_n 0, 1, 0, 0, 0), (.iload_n 1, 1, 0, 0, 0), (.getstatic 51, 3, 28, 0, 0), (.iload 4, 2, 0, 0, 0), (.iaload, 1, 0, 0, 0), (.getstatic 54, 3, 29, 0, 0), (.iload 4, 2, 0, 0, 0), (.iaload, 1, 0, 0, 0), (.iconst 1, 1, 0, 0, 0), (.aload_n 2, 1, 0, 0, 0), (.invokestatic 57, 3, 124, 6, 0), (.goto (71), 3, 0, 0, 0)] := rfl
theorem bk_121_75 : mbk 121 75 = [(.iload_n 3, 1, 0, 0, 0), (.bipush 6, 2, 0, 0, 0), (.if_icmp .ne (25), 3, 0, 0, 0), (.aload_n 0, 1, 0, 0, 0), (.iload_n 1, 1, 0, 0, 0), (.getstatic 45, 3, 26, 0, 0), (.iload 4, 2, 0, 0, 0), (.iaload, 1, 0, 0, 0), (.getstatic 48, 3, 27, 0, 0), (.iload 4, 2, 0, 0, 0), (.iaload, 1, 0, 0, 0), (.iconst 1, 1, 0, 0, 0), (.aload_n 2, 1, 0, 0, 0), (.invokestatic 57, 3, 124, 6, 0), (.goto (43), 3, 0, 0, 0)] := rfl
theorem bk_121_103 : mbk 121 103 = [(.iload_n 3, 1, 0, 0, 0), (.iconst 5, 1, 0, 0, 0), (.if_icmp .eq (18), 3, 0, 0, 0), (.iload 5, 2, 0, 0, 0), (.iload_n 3, 1, 0, 0, 0), (.iconst 3, 1, 0, 0, 0), (.if_icmp .ne (7), 3, 0, 0, 0), (.iconst 1, 1, 0, 0, 0), (.goto (4), 3, 0, 0, 0)] := rfl
theorem bk_121_119 : mbk 121 119 = [(.iconst 0, 1, 0, 0, 0)] := rfl
theorem bk_121_120 : mbk 121 120 = [(.if_icmp .ne (23), 3, 0, 0, 0)] := rfl
theorem bk_121_123 : mbk 121 123 = [(.aload_n 0, 1, 0, 0, 0), (.iload_n 1, 1, 0, 0, 0), (.getstatic 45, 3, 26, 0, 0), (.iload 4, 2, 0, 0, 0), (.iaload, 1, 0, 0, 0), (.getstatic 48, 3, 27, 0, 0), (.iload 4, 2, 0, 0, 0), (.iaload, 1, 0, 0, 0), (.bipush 7, 2, 0, 0, 0), (.aload_n 2, 1, 0, 0, 0), (.invokestatic 57, 3, 124, 6, 0)] := rfl
theorem bk_121_143 : mbk 121 143 = [(.iinc 4 (1), 3, 0, 0, 0), (.goto (-130), 3, 0, 0, 0)] := rfl
theorem bk_121_149 : mbk 121 149 = [(.return_, 1, 0, 0, 0)] := rfl
theorem bk_122_0 : mbk 122 0 = [(.iload_n 1, 1, 0, 0, 0), (.bipush 8, 2, 0, 0, 0), (.irem, 1, 0, 0, 0), (.istore 6, 2, 0, 0, 0), (.iload_n 1, 1, 0, 0, 0), (.bipush 8, 2, 0, 0, 0), (.idiv, 1, 0, 0, 0), (.istore 7, 2, 0, 0, 0), (.iconst 1, 1, 0, 0, 0), (.istore 8, 2, 0, 0, 0)] := rfl
theorem bk_122_15 : mbk 122 15 = [(.iload 8, 2, 0, 0, 0), (.iload 4, 2, 0, 0, 0), (.if_icmp .gt (86), 3, 0, 0, 0), (.iload 6, 2, 0, 0, 0), (.iload_n 2, 1, 0, 0, 0), (.iadd, 1, 0, 0, 0), (.istore 6, 2, 0, 0, 0), (.iload 7, 2, 0, 0, 0), (.iload_n 3, 1, 0, 0, 0), (.iadd, 1, 0, 0, 0), (.istore 7, 2, 0, 0, 0), (.iload 6, 2, 0, 0, 0), (.iload 7, 2, 0, 0, 0), (.invokestatic 61, 3, 10, 2, 0), (.ifCond .ne (4), 3, 0, 0, 0), (.return_, 1, 0, 0, 0)] := rfl
theorem bk_122_45 : mbk 122 45 = [(.aload_n 0, 1, 0, 0, 0), (.getfield 9, 3, 1, 0, 0), (.getfield 15, 3, 2, 0, 0), (.bipush 8, 2, 0, 0, 0), (.iload 7, 2, 0, 0, 0), (.imul, 1, 0, 0, 0), (.iload 6, 2, 0, 0, 0), (.iadd, 1, 0, 0, 0), (.iaload, 1, 0, 0, 0), (.istore 9, 2, 0, 0, 0), (.iload 9, 2, 0, 0, 0), (.aload_n 0, 1, 0, 0, 0), (.getfield 21, 3, 1, 2, 0), (.invokestatic 25, 3, 5, 2, 0), (.ifCond .ne (21), 3, 0, 0, 0), (.aload 5, 2, 0, 0, 0), (.iload_n 1, 1, 0, 0, 0), (.bipush 8, 2, 0, 0, 0), (.iload 7, 2, 0, 0, 0), (.imul, 1, 0, 0, 0), (.iload 6, 2, 0, 0, 0), (.iadd, 1, 0, 0, 0), (.iconst 0, 1, 0, 0, 0), (.invokestatic 64, 3, 9, 3, 0), (.invokevirtual 68, 3, 59, 2, 0)] := rfl
theorem bk_122_93 : mbk 122 93 = [(.iload 9, 2, 0, 0, 0), (.ifCond .eq (4), 3, 0, 0, 0), (.return_, 1, 0, 0, 0)] := rfl
theorem bk_122_99 : mbk 122 99 = [(.iinc 8 (1), 3, 0, 0, 0), (.goto (-87), 3, 0, 0, 0)] := rfl
theorem bk_122_105 : mbk 122 105 = [(.return_, 1, 0, 0, 0)] := rfl
theorem bk_123_0 : mbk 123 0 = [(.aload_n 0, 1, 0, 0, 0), (.getfield 9, 3, 1, 0, 0), (.astore_n 2, 1, 0, 0, 0), (.iconst 1, 1, 0, 0, 0), (.aload_n 0, 1, 0, 0, 0), (.getfield 21, 3, 1, 2, 0), (.isub, 1, 0, 0, 0), (.istore_n 3, 1, 0, 0, 0), (.getstatic 88, 3, 24, 0, 0), (.iconst 2, 1, 0, 0, 0), (.aload_n 0, 1, 0, 0, 0), (.getfield 21, 3, 1, 2, 0), (.imul, 1, 0, 0, 0), (.iaload, 1, 0, 0, 0), (.istore 4, 2, 0, 0, 0), (.aload_n 0, 1, 0, 0, 0), (.getfield 91, 3, 1, 3, 0), (.iconst 2, 1, 0, 0, 0), (.aload_n 0, 1, 0, 0, 0), (.getfield 21, 3, 1, 2, 0), (.imul, 1, 0, 0, 0), (.ishr, 1, 0, 0, 0), (.istore 5, 2, 0, 0, 0), (.iload 5, 2, 0, 0, 0), (.iconst 1, 1, 0, 0, 0), (.iand, 1, 0, 0, 0), (.ifCond .eq (22), 3, 0, 0, 0), (.aload_n 2, 1, 0, 0, 0), (.iload 4, 2, 0, 0, 0), (.iconst 1, 1, 0, 0, 0), (.iadd, 1, 0, 0, 0), (.iload 4, 2, 0, 0, 0), (.iconst 2, 1, 0, 0, 0), (.iadd, 1, 0, 0, 0), (.invokestatic 94, 3, 126, 3, 0), (.ifCond .eq (7), 3, 0, 0, 0), (.iconst 1, 1, 0, 0, 0), (.goto (4), 3, 0, 0, 0)] := rfl
theorem bk_123_63 : mbk 123 63 = [(.iconst 0, 1, 0, 0, 0)] := rfl
theorem bk_123_64 : mbk 123 64 = [(.istore 6, 2, 0, 0, 0), (.iload 5, 2, 0, 0, 0), (.iconst 2, 1, 0, 0, 0), (.iand, 1, 0, 0, 0), (.ifCond .eq (22), 3, 0, 0, 0), (.aload_n 2, 1, 0, 0, 0), (.iload 4, 2, 0, 0, 0), (.iconst 3, 1, 0, 0, 0), (.isub, 1, 0, 0, 0), (.iload 4, 2, 0, 0, 0), (.iconst 1, 1, 0, 0, 0), (.isub, 1, 0, 0, 0), (.invokestatic 94, 3, 126, 3, 0), (.ifCond .eq (7), 3, 0, 0, 0), (.iconst 1, 1, 0, 0, 0), (.goto (4), 3, 0, 0, 0)] := rfl
theorem bk_123_92 : mbk 123 92 = [(.iconst 0, 1, 0, 0, 0)] := rfl
theorem bk_123_93 : mbk 123 93 = [(.istore 7, 2, 0, 0, 0), (.iload 6, 2, 0, 0, 0), (.ifCond .ne (8), 3, 0, 0, 0), (.iload 7, 2, 0, 0, 0), (.ifCond .eq (13), 3, 0, 0, 0)] := rfl
theorem bk_123_105 : mbk 123 105 = [(.aload_n 2, 1, 0, 0, 0), (.iload 4, 2, 0, 0, 0), (.iload_n 3, 1, 0, 0, 0), (.invokevirtual 98, 3, 53, 3, 0), (.ifCond .le (4), 3, 0, 0, 0)] := rfl
theorem bk_123_115 : mbk 123 115 = [(.return_, 1, 0, 0, 0)] := rfl
theorem bk_123_116 : mbk 123 116 = [(.iload 6, 2, 0, 0, 0), (.ifCond .eq (29), 3, 0, 0, 0), (.aload_n 2, 1, 0, 0, 0), (.iload 4, 2, 0, 0, 0), (.iconst 1, 1, 0, 0, 0), (.iadd, 1, 0, 0, 0), (.iload_n 3, 1, 0, 0, 0), (.invokevirtual 98, 3, 53, 3, 0), (.ifCond .ne (17), 3, 0, 0, 0), (.aload_n 1, 1, 0, 0, 0), (.iload 4, 2, 0, 0, 0), (.iload 4, 2, 0, 0, 0), (.iconst 2, 1, 0, 0, 0), (.iadd, 1, 0, 0, 0), (.iconst 0, 1, 0, 0, 0), (.invokestatic 64, 3, 9, 3, 0), (.invokevirtual 68, 3, 59, 2, 0)] := rfl
theorem bk_123_147 : mbk 123 147 = [(.iload 7, 2, 0, 0, 0), (.ifCond .eq (29), 3, 0, 0, 0), (.aload_n 2, 1, 0, 0, 0), (.iload 4, 2, 0, 0, 0), (.iconst 1, 1, 0, 0, 0), (.isub, 1, 0, 0, 0), (.iload_n 3, 1, 0, 0, 0), (.invokevirtual 98, 3, 53, 3, 0), (.ifCond .ne (17), 3, 0, 0, 0), (.aload_n 1, 1, 0, 0, 0), (.iload 4, 2, 0, 0, 0), (.iload 4, 2, 0, 0, 0), (.iconst 2, 1, 0, 0, 0), (.isub, 1, 0, 0, 0), (.iconst 0, 1, 0, 0, 0), (.invokestatic 64, 3, 9, 3, 0), (.invokevirtual 68, 3, 59, 2, 0)] := rfl
theorem bk_123_178 : mbk 123 178 = [(.return_, 1, 0, 0, 0)] := rfl
theorem bk_124_0 : mbk 124 0 = [(.iload_n 1, 1, 0, 0, 0), (.istore_n 3, 1, 0, 0, 0)] := rfl
theorem bk_124_2 : mbk 124 2 = [(.iload_n 3, 1, 0, 0, 0), (.iload_n 2, 1, 0, 0, 0), (.if_icmp .gt (20), 3, 0, 0, 0), (.aload_n 0, 1, 0, 0, 0), (.getfield 15, 3, 2, 0, 0), (.iload_n 3, 1, 0, 0, 0), (.iaload, 1, 0, 0, 0), (.ifCond .eq (5), 3, 0, 0, 0), (.iconst 0, 1, 0, 0, 0), (.ireturn, 1, 0, 0, 0)] := rfl
theorem bk_124_18 : mbk 124 18 = [(.iinc 3 (1), 3, 0, 0, 0), (.goto (-19), 3, 0, 0, 0)] := rfl
theorem bk_124_24 : mbk 124 24 = [(.iconst 1, 1, 0, 0, 0), (.ireturn, 1, 0, 0, 0)] := rfl
theorem bk_125_0 : mbk 125 0 = [(.aload_n 0, 1, 0, 0, 0), (.iconst 0, 1, 0, 0, 0), (.invokestatic 9, 3, 128, 2, 0), (.ifCond .eq (11), 3, 0, 0, 0), (.aload_n 0, 1, 0, 0, 0), (.iconst 1, 1, 0, 0, 0), (.invokestatic 9, 3, 128, 2, 0), (.ifCond .ne (6), 3, 0, 0, 0)] := rfl
theorem bk_125_16 : mbk 125 16 = [(.bipush (-2), 2, 0, 0, 0), (.ireturn, 1, 0, 0, 0)] := rfl
theorem bk_125_19 : mbk 125 19 = [(.aload_n 0, 1, 0, 0, 0), (.invokestatic 15, 3, 129, 1, 0), (.ifCond .eq (6), 3, 0, 0, 0), (.bipush (-3), 2, 0, 0, 0), (.ireturn, 1, 0, 0, 0)] := rfl
theorem bk_125_29 : mbk 125 29 = [(.aload_n 0, 1, 0, 0, 0), (.aload_n 0, 1, 0, 0, 0), (.iconst 1, 1, 0, 0, 0), (.iload_n 1, 1, 0, 0, 0), (.isub, 1, 0, 0, 0), (.invokevirtual 19, 3, 52, 2, 0), (.iload_n 1, 1, 0, 0, 0), (.invokevirtual 25, 3, 53, 3, 0), (.ifCond .le (6), 3, 0, 0, 0), (.bipush (-4), 2, 0, 0, 0), (.ireturn, 1, 0, 0, 0)] := rfl
theorem bk_125_47 : mbk 125 47 = [(.aload_n 0, 1, 0, 0, 0), (.iload_n 2, 1, 0, 0, 0), (.invokestatic 29, 3, 130, 2, 0), (.ifCond .ne (6), 3, 0, 0, 0), (.bipush (-5), 2, 0, 0, 0), (.ireturn, 1, 0, 0, 0)] := rfl
theorem bk_125_58 : mbk 125 58 = [(.iload_n 3, 1, 0, 0, 0), (.iconst (-1), 1, 0, 0, 0), (.if_icmp .eq (15), 3, 0, 0, 0), (.aload_n 0, 1, 0, 0, 0), (.iload_n 1, 1, 0, 0, 0), (.iload_n 3, 1, 0, 0, 0), (.invokestatic 32, 3, 131, 3, 0), (.ifCond .ne (6), 3, 0, 0, 0), (.bipush (-6), 2, 0, 0, 0), (.ireturn, 1, 0, 0, 0)] := rfl
theorem bk_125_75 : mbk 125 75 = [(.iconst 0, 1, 0, 0, 0), (.ireturn, 1, 0, 0, 0)] := rfl
theorem bk_126_0 : mbk 126 0 = [(.iconst 0, 1, 0, 0, 0), (.istore_n 2, 1, 0, 0, 0), (.iconst 0, 1, 0, 0, 0), (.istore_n 3, 1, 0, 0, 0), (.iconst 0, 1, 0, 0, 0), (.istore 4, 2, 0, 0, 0)] := rfl
theorem bk_126_7 : mbk 126 7 = [(.iload 4, 2, 0, 0, 0), (.bipush 64, 2, 0, 0, 0), (.if_icmp .ge (48), 3, 0, 0, 0), (.aload_n 0, 1, 0, 0, 0), (.getfield 36, 3, 2, 0, 0), (.iload 4, 2, 0, 0, 0), (.iaload, 1, 0, 0, 0), (.istore 5, 2, 0, 0, 0), (.iload 5, 2, 0, 0, 0), (.iload_n 1, 1, 0, 0, 0), (.invokestatic 40, 3, 5, 2, 0), (.ifCond .eq (24), 3, 0, 0, 0), (.iinc 3 (1), 3, 0, 0, 0), (.iload_n 2, 1, 0, 0, 0), (.iload 5, 2, 0, 0, 0), (.invokestatic 44, 3, 6, 1, 0), (.bipush 6, 2, 0, 0, 0), (.if_icmp .ne (7), 3, 0, 0, 0), (.iconst 1, 1, 0, 0, 0), (.goto (4), 3, 0, 0, 0)] := rfl
theorem bk_126_50 : mbk 126 50 = [(.iconst 0, 1, 0, 0, 0)] := rfl
theorem bk_126_51 : mbk 126 51 = [(.iadd, 1, 0, 0, 0), (.istore_n 2, 1, 0, 0, 0)] := rfl
theorem bk_126_53 : mbk 126 53 = [(.iinc 4 (1), 3, 0, 0, 0), (.goto (-49), 3, 0, 0, 0)] := rfl
theorem bk_126_59 : mbk 126 59 = [(.iload_n 2, 1, 0, 0, 0), (.iconst 1, 1, 0, 0, 0), (.if_icmp .ne (13), 3, 0, 0, 0), (.iload_n 3, 1, 0, 0, 0), (.bipush 16, 2, 0, 0, 0), (.if_icmp .gt (7), 3, 0, 0, 0), (.iconst 1, 1, 0, 0, 0), (.goto (4), 3, 0, 0, 0)] := rfl
theorem bk_126_74 : mbk 126 74 = [(.iconst 0, 1, 0, 0, 0)] := rfl
theorem bk_126_75 : mbk 126 75 = [(.ireturn, 1, 0, 0, 0)] := rfl
theorem bk_127_0 : mbk 127 0 = [(.iconst 0, 1, 0, 0, 0), (.istore_n 1, 1, 0, 0, 0)] := rfl
theorem bk_127_2 : mbk 127 2 = [(.iload_n 1, 1, 0, 0, 0), (.bipush 8, 2, 0, 0, 0), (.if_icmp .ge (40), 3, 0, 0, 0), (.aload_n 0, 1, 0, 0, 0), (.getfield 36, 3, 2, 0, 0), (.iload_n 1, 1, 0, 0, 0), (.iaload, 1, 0, 0, 0), (.invokestatic 44, 3, 6, 1, 0), (.iconst 1, 1, 0, 0, 0), (.if_icmp .eq (19), 3, 0, 0, 0), (.aload_n 0, 1, 0, 0, 0), (.getfield 36, 3, 2, 0, 0), (.bipush 56, 2, 0, 0, 0), (.iload_n 1, 1, 0, 0, 0), (.iadd, 1, 0, 0, 0), (.iaload, 1, 0, 0, 0), (.invokestatic 44, 3, 6, 1, 0), (.iconst 1, 1, 0, 0, 0), (.if_icmp .ne (5), 3, 0, 0, 0)] := rfl
theorem bk_127_37 : mbk 127 37 = [(.iconst 1, 1, 0, 0, 0), (.ireturn, 1, 0, 0, 0)] := rfl
theorem bk_127_39 : mbk 127 39 = [(.iinc 1 (1), 3, 0, 0, 0), (.goto (-40), 3, 0, 0, 0)] := rfl
theorem bk_127_45 : mbk 127 45 = [(.iconst 0, 1, 0, 0, 0), (.ireturn, 1, 0, 0, 0)] := rfl
theorem bk_128_0 : mbk 128 0 = [(.iconst 0, 1, 0, 0, 0), (.istore_n 2, 1, 0, 0, 0)] := rfl
theorem bk_128_2 : mbk 128 2 = [(.iload_n 2, 1, 0, 0, 0), (.iconst 4, 1, 0, 0, 0), (.if_icmp .ge (82), 3, 0, 0, 0), (.aload_n 0, 1, 0, 0, 0), (.getfield 36, 3, 2, 0, 0), (.getstatic 47, 3, 24, 0, 0), (.iload_n 2, 1, 0, 0, 0), (.iaload, 1, 0, 0, 0), (.iaload, 1, 0, 0, 0), (.bipush 6, 2, 0, 0, 0), (.iload_n 2, 1, 0, 0, 0), (.iconst 2, 1, 0, 0, 0), (.idiv, 1, 0, 0, 0), (.invokestatic 50, 3, 2, 2, 0), (.if_icmp .ne (7), 3, 0, 0, 0), (.iconst 1, 1, 0, 0, 0), (.goto (4), 3, 0, 0, 0)] := rfl
theorem bk_128_32 : mbk 128 32 = [(.iconst 0, 1, 0, 0, 0)] := rfl
theorem bk_128_33 : mbk 128 33 = [(.istore_n 3, 1, 0, 0, 0), (.aload_n 0, 1, 0, 0, 0), (.getfield 36, 3, 2, 0, 0), (.getstatic 53, 3, 25, 0, 0), (.iload_n 2, 1, 0, 0, 0), (.iaload, 1, 0, 0, 0), (.iaload, 1, 0, 0, 0), (.iconst 4, 1, 0, 0, 0), (.iload_n 2, 1, 0, 0, 0), (.iconst 2, 1, 0, 0, 0), (.idiv, 1, 0, 0, 0), (.invokestatic 50, 3, 2, 2, 0), (.if_icmp .ne (7), 3, 0, 0, 0), (.iconst 1, 1, 0, 0, 0), (.goto (4), 3, 0, 0, 0)] := rfl
theorem bk_128_58 : mbk 128 58 = [(.iconst 0, 1, 0, 0, 0)] := rfl
theorem bk_128_59 : mbk 128 59 = [(.istore 4, 2, 0, 0, 0), (.iload_n 1, 1, 0, 0, 0), (.iconst 1, 1, 0, 0, 0), (.iload_n 2, 1, 0, 0, 0), (.ishl, 1, 0, 0, 0), (.iand, 1, 0, 0, 0), (.ifCond .eq (14), 3, 0, 0, 0), (.iload_n 3, 1, 0, 0, 0), (.ifCond .eq (8), 3, 0, 0, 0), (.iload 4, 2, 0, 0, 0), (.ifCond .ne (5), 3, 0, 0, 0)] := rfl
theorem bk_128_78 : mbk 128 78 = [(.iconst 0, 1, 0, 0, 0), (.ireturn, 1, 0, 0, 0)] := rfl
theorem bk_128_80 : mbk 128 80 = [(.iinc 2 (1), 3, 0, 0, 0), (.goto (-81), 3, 0, 0, 0)] := rfl
theorem bk_128_86 : mbk 128 86 = [(.iconst 1, 1, 0, 0, 0), (.ireturn, 1, 0, 0, 0)] := rfl
theorem bk_129_0 : mbk 129 0 = [(.iload_n 2, 1, 0, 0, 0), (.bipush 8, 2, 0, 0, 0), (.idiv, 1, 0, 0, 0), (.iload_n 1, 1, 0, 0, 0), (.ifCond .ne (7), 3, 0, 0, 0), (.iconst 5, 1, 0, 0, 0), (.goto (4), 3, 0, 0, 0)] := rfl
theorem bk_129_12 : mbk 129 12 = [(.iconst 2, 1, 0, 0, 0)] := rfl
theorem bk_129_13 : mbk 129 13 = [(.if_icmp .eq (5), 3, 0, 0, 0), (.iconst 0, 1, 0, 0, 0), (.ireturn, 1, 0, 0, 0)] := rfl
theorem bk_129_18 : mbk 129 18 = [(.iload_n 1, 1, 0, 0, 0), (.invokestatic 56, 3, 7, 1, 0), (.istore_n 3, 1, 0, 0, 0), (.aload_n 0, 1, 0, 0, 0), (.getfield 36, 3, 2, 0, 0), (.iload_n 2, 1, 0, 0, 0), (.iaload, 1, 0, 0, 0), (.ifCond .ne (18), 3, 0, 0, 0), (.aload_n 0, 1, 0, 0, 0), (.getfield 36, 3, 2, 0, 0), (.iload_n 2, 1, 0, 0, 0), (.iload_n 3, 1, 0, 0, 0), (.iadd, 1, 0, 0, 0), (.iaload, 1, 0, 0, 0), (.ifCond .ne (7), 3, 0, 0, 0), (.iconst 1, 1, 0, 0, 0), (.goto (4), 3, 0, 0, 0)] := rfl
theorem bk_129_47 : mbk 129 47 = [(.iconst 0, 1, 0, 0, 0)] := rfl
theorem bk_129_48 : mbk 129 48 = [(.istore 4, 2, 0, 0, 0), (.iload 4, 2, 0, 0, 0), (.ifCond .eq (25), 3, 0, 0, 0), (.aload_n 0, 1, 0, 0, 0), (.getfield 36, 3, 2, 0, 0), (.iload_n 2, 1, 0, 0, 0), (.iload_n 3, 1, 0, 0, 0), (.isub, 1, 0, 0, 0), (.iaload, 1, 0, 0, 0), (.iconst 1, 1, 0, 0, 0), (.iconst 1, 1, 0, 0, 0), (.iload_n 1, 1, 0, 0, 0), (.isub, 1, 0, 0, 0), (.invokestatic 50, 3, 2, 2, 0), (.if_icmp .ne (7), 3, 0, 0, 0), (.iconst 1, 1, 0, 0, 0), (.goto (4), 3, 0, 0, 0)] := rfl
theorem bk_129_77 : mbk 129 77 = [(.iconst 0, 1, 0, 0, 0)] := rfl
theorem bk_129_78 : mbk 129 78 = [(.ireturn, 1, 0, 0, 0)] := rfl
theorem bk_130_0 : mbk 130 0 = [(.iconst 0, 1, 0, 0, 0), (.istore_n 2, 1, 0, 0, 0), (.aload_n 0, 1, 0, 0, 0), (.arraylength, 1, 0, 0, 0), (.istore_n 3, 1, 0, 0, 0)] := rfl
theorem bk_130_5 : mbk 130 5 = [(.iload_n 2, 1, 0, 0, 0), (.iload_n 3, 1, 0, 0, 0), (.if_icmp .ge (13), 3, 0, 0, 0), (.aload_n 0, 1, 0, 0, 0), (.iload_n 2, 1, 0, 0, 0), (.iload_n 1, 1, 0, 0, 0), (.iastore, 1, 0, 0, 0), (.iinc 2 (1), 3, 0, 0, 0), (.goto (-12), 3, 0, 0, 0)] := rfl
theorem bk_130_20 : mbk 130 20 = [(.return_, 1, 0, 0, 0)] := rfl
theorem bk_131_16 : mbk 131 16 = [(.iconst 0, 1, 0, 0, 0), (.istore_n 3, 1, 0, 0, 0)] := rfl
theorem bk_131_18 : mbk 131 18 = [(.iload_n 3, 1, 0, 0, 0), (.aload_n 0, 1, 0, 0, 0), (.arraylength, 1, 0, 0, 0), (.iconst 4, 1, 0, 0, 0), (.isub, 1, 0, 0, 0), (.if_icmp .gt (480), 3, 0, 0, 0), (.aload_n 0, 1, 0, 0, 0), (.iload_n 3, 1, 0, 0, 0), (.iaload, 1, 0, 0, 0), (.bipush 31, 2, 0, 0, 0), (.iand, 1, 0, 0, 0), (.tableswitch 465 0 18 #[92, 103, 114, 147, 190, 233, 246, 269, 282, 295, 308, 321, 344, 377, 390, 403, 416, 429, 442], 92, 0, 0, 0)] := rfl
theorem bk_131_124 : mbk 131 124 = [(.aload_n 1, 1, 0, 0, 0), (.invokevirtual 13, 3, 15, 1, 0), (.aload_n 2, 1, 0, 0, 0), (.invokevirtual 16, 3, 70, 1, 0), (.goto (365), 3, 0, 0, 0)] := rfl
theorem bk_131_135 : mbk 131 135 = [(.aload_n 1, 1, 0, 0, 0), (.invokevirtual 17, 3, 16, 1, 0), (.aload_n 2, 1, 0, 0, 0), (.invokevirtual 20, 3, 88, 1, 0), (.goto (354), 3, 0, 0, 0)] := rfl
theorem bk_131_146 : mbk 131 146 = [(.aload_n 1, 1, 0, 0, 0), (.aload_n 0, 1, 0, 0, 0), (.iload_n 3, 1, 0, 0, 0), (.iconst 1, 1, 0, 0, 0), (.iadd, 1, 0, 0, 0), (.iaload, 1, 0, 0, 0), (.aload_n 0, 1, 0, 0, 0), (.iload_n 3, 1, 0, 0, 0), (.iconst 2, 1, 0, 0, 0), (.iadd, 1, 0, 0, 0), (.iaload, 1, 0, 0, 0), (.invokevirtual 21, 3, 17, 3, 0), (.aload_n 2, 1, 0, 0, 0), (.aload_n 0, 1, 0, 0, 0), (.iload_n 3, 1, 0, 0, 0), (.iconst 1, 1, 0, 0, 0), (.iadd, 1, 0, 0, 0), (.iaload, 1, 0, 0, 0), (.aload_n 0, 1, 0, 0, 0), (.iload_n 3, 1, 0, 0, 0), (.iconst 2, 1, 0, 0, 0), (.iadd, 1, 0, 0, 0), (.iaload, 1, 0, 0, 0), (.invokevirtual 25, 3, 89, 3, 0), (.if_icmp .eq (323), 3, 0, 0, 0), (.iconst 0, 1, 0, 0, 0), (.ireturn, 1, 0, 0, 0)] := rfl
theorem bk_131_179 : mbk 131 179 = [(.aload_n 1, 1, 0, 0, 0), (.aload_n 0, 1, 0, 0, 0), (.iload_n 3, 1, 0, 0, 0), (.iconst 1, 1, 0, 0, 0), (.iadd, 1, 0, 0, 0), (.iaload, 1, 0, 0, 0), (.aload_n 0, 1, 0, 0, 0), (.iload_n 3, 1, 0, 0, 0), (.iconst 2, 1, 0, 0, 0), (.iadd, 1, 0, 0, 0), (.iaload, 1, 0, 0, 0), (.aload_n 0, 1, 0, 0, 0), (.iload_n 3, 1, 0, 0, 0), (.iconst 3, 1, 0, 0, 0), (.iadd, 1, 0, 0, 0), (.iaload, 1, 0, 0, 0), (.invokevirtual 26, 3, 19, 4, 0), (.aload_n 2, 1, 0, 0, 0), (.aload_n 0, 1, 0, 0, 0), (.iload_n 3, 1, 0, 0, 0), (.iconst 1, 1, 0, 0, 0), (.iadd, 1, 0, 0, 0), (.iaload, 1, 0, 0, 0), (.aload_n 0, 1, 0, 0, 0), (.iload_n 3, 1, 0, 0, 0), (.iconst 2, 1, 0, 0, 0), (.iadd, 1, 0, 0, 0), (.iaload, 1, 0, 0, 0), (.aload_n 0, 1, 0, 0, 0), (.iload_n 3, 1, 0, 0, 0), (.iconst 3, 1, 0, 0, 0), (.iadd, 1, 0, 0, 0), (.iaload, 1, 0, 0, 0), (.invokevirtual 30, 3, 90, 4, 0), (.if_icmp .eq (280), 3, 0, 0, 0), (.iconst 0, 1, 0, 0, 0), (.ireturn, 1, 0, 0, 0)] := rfl
theorem bk_131_222 : mbk 131 222 = [(.aload_n 1, 1, 0, 0, 0), (.aload_n 0, 1, 0, 0, 0), (.iload_n 3, 1, 0, 0, 0), (.iconst 1, 1, 0, 0, 0), (.iadd, 1, 0, 0, 0), (.iaload, 1, 0, 0, 0), (.aload_n 0, 1, 0, 0, 0), (.iload_n 3, 1, 0, 0, 0), (.iconst 2, 1, 0, 0, 0), (.iadd, 1, 0, 0, 0), (.iaload, 1, 0, 0, 0), (.aload_n 0, 1, 0, 0, 0), (.iload_n 3, 1, 0, 0, 0), (.iconst 3, 1, 0, 0, 0), (.iadd, 1, 0, 0, 0), (.iaload, 1, 0, 0, 0), (.invokevirtual 31, 3, 21, 4, 0), (.aload_n 2, 1, 0, 0, 0), (.aload_n 0, 1, 0, 0, 0), (.iload_n 3, 1, 0, 0, 0), (.iconst 1, 1, 0, 0, 0), (.iadd, 1, 0, 0, 0), (.iaload, 1, 0, 0, 0), (.aload_n 0, 1, 0, 0, 0), (.iload_n 3, 1, 0, 0, 0), (.iconst 2, 1, 0, 0, 0), (.iadd, 1, 0, 0, 0), (.iaload, 1, 0, 0, 0), (.aload_n 0, 1, 0, 0, 0), (.iload_n 3, 1, 0, 0, 0), (.iconst 3, 1, 0, 0, 0), (.iadd, 1, 0, 0, 0), (.iaload, 1, 0, 0, 0), (.invokevirtual 34, 3, 95, 4, 0), (.if_icmp .eq (237), 3, 0, 0, 0), (.iconst 0, 1, 0, 0, 0), (.ireturn, 1, 0, 0, 0)] := rfl
theorem bk_131_265 : mbk 131 265 = [(.aload_n 1, 1, 0, 0, 0), (.invokevirtual 35, 3, 23, 1, 0), (.aload_n 2, 1, 0, 0, 0), (.invokevirtual 39, 3, 101, 1, 0), (.if_icmp .eq (224), 3, 0, 0, 0), (.iconst 0, 1, 0, 0, 0), (.ireturn, 1, 0, 0, 0)] := rfl
theorem bk_131_278 : mbk 131 278 = [(.aload_n 1, 1, 0, 0, 0), (.aload_n 0, 1, 0, 0, 0), (.iload_n 3, 1, 0, 0, 0), (.iconst 1, 1, 0, 0, 0), (.iadd, 1, 0, 0, 0), (.iaload, 1, 0, 0, 0), (.invokevirtual 40, 3, 24, 2, 0), (.aload_n 2, 1, 0, 0, 0), (.aload_n 0, 1, 0, 0, 0), (.iload_n 3, 1, 0, 0, 0), (.iconst 1, 1, 0, 0, 0), (.iadd, 1, 0, 0, 0), (.iaload, 1, 0, 0, 0), (.invokevirtual 44, 3, 103, 2, 0), (.if_icmp .eq (201), 3, 0, 0, 0), (.iconst 0, 1, 0, 0, 0), (.ireturn, 1, 0, 0, 0)] := rfl
theorem bk_131_301 : mbk 131 301 = [(.aload_n 1, 1, 0, 0, 0), (.invokevirtual 45, 3, 25, 1, 0), (.aload_n 2, 1, 0, 0, 0), (.invokevirtual 49, 3, 104, 1, 0), (.if_icmp .eq (188), 3, 0, 0, 0), (.iconst 0, 1, 0, 0, 0), (.ireturn, 1, 0, 0, 0)] := rfl
theorem bk_131_314 : mbk 131 314 = [(.aload_n 1, 1, 0, 0, 0), (.invokevirtual 50, 3, 26, 1, 0), (.aload_n 2, 1, 0, 0, 0), (.invokevirtual 53, 3, 105, 1, 0), (.if_icmp .eq (175), 3, 0, 0, 0), (.iconst 0, 1, 0, 0, 0), (.ireturn, 1, 0, 0, 0)] := rfl
theorem bk_131_327 : mbk 131 327 = [(.aload_n 1, 1, 0, 0, 0), (.invokevirtual 54, 3, 27, 1, 0), (.aload_n 2, 1, 0, 0, 0), (.invokevirtual 57, 3, 106, 1, 0), (.if_icmp .eq (162), 3, 0, 0, 0), (.iconst 0, 1, 0, 0, 0), (.ireturn, 1, 0, 0, 0)] := rfl
theorem bk_131_340 : mbk 131 340 = [(.aload_n 1, 1, 0, 0, 0), (.invokevirtual 58, 3, 28, 1, 0), (.aload_n 2, 1, 0, 0, 0), (.invokevirtual 61, 3, 107, 1, 0), (.if_icmp .eq (149), 3, 0, 0, 0), (.iconst 0, 1, 0, 0, 0), (.ireturn, 1, 0, 0, 0)] := rfl
theorem bk_131_353 : mbk 131 353 = [(.aload_n 1, 1, 0, 0, 0), (.aload_n 0, 1, 0, 0, 0), (.iload_n 3, 1, 0, 0, 0), (.iconst 1, 1, 0, 0, 0), (.iadd, 1, 0, 0, 0), (.iaload, 1, 0, 0, 0), (.invokevirtual 62, 3, 29, 2, 0), (.aload_n 2, 1, 0, 0, 0), (.aload_n 0, 1, 0, 0, 0), (.iload_n 3, 1, 0, 0, 0), (.iconst 1, 1, 0, 0, 0), (.iadd, 1, 0, 0, 0), (.iaload, 1, 0, 0, 0), (.invokevirtual 65, 3, 108, 2, 0), (.if_icmp .eq (126), 3, 0, 0, 0), (.iconst 0, 1, 0, 0, 0), (.ireturn, 1, 0, 0, 0)] := rfl
theorem bk_131_376 : mbk 131 376 = [(.aload_n 1, 1, 0, 0, 0), (.aload_n 0, 1, 0, 0, 0), (.iload_n 3, 1, 0, 0, 0), (.iconst 1, 1, 0, 0, 0), (.iadd, 1, 0, 0, 0), (.iaload, 1, 0, 0, 0), (.aload_n 0, 1, 0, 0, 0), (.iload_n 3, 1, 0, 0, 0), (.iconst 2, 1, 0, 0, 0), (.iadd, 1, 0, 0, 0), (.iaload, 1, 0, 0, 0), (.invokevirtual 66, 3, 30, 3, 0), (.aload_n 2, 1, 0, 0, 0), (.aload_n 0, 1, 0, 0, 0), (.iload_n 3, 1, 0, 0, 0), (.iconst 1, 1, 0, 0, 0), (.iadd, 1, 0, 0, 0), (.iaload, 1, 0, 0, 0), (.aload_n 0, 1, 0, 0, 0), (.iload_n 3, 1, 0, 0, 0), (.iconst 2, 1, 0, 0, 0), (.iadd, 1, 0, 0, 0), (.iaload, 1, 0, 0, 0), (.invokevirtual 70, 3, 109, 3, 0), (.if_icmp .eq (93), 3, 0, 0, 0), (.iconst 0, 1, 0, 0, 0), (.ireturn, 1, 0, 0, 0)] := rfl
theorem bk_131_409 : mbk 131 409 = [(.aload_n 1, 1, 0, 0, 0), (.invokevirtual 71, 3, 31, 1, 0), (.aload_n 2, 1, 0, 0, 0), (.invokevirtual 74, 3, 110, 1, 0), (.if_icmp .eq (80), 3, 0, 0, 0), (.iconst 0, 1, 0, 0, 0), (.ireturn, 1, 0, 0, 0)] := rfl
theorem bk_131_422 : mbk 131 422 = [(.aload_n 1, 1, 0, 0, 0), (.invokevirtual 75, 3, 22, 1, 0), (.aload_n 2, 1, 0, 0, 0), (.invokevirtual 78, 3, 96, 1, 0), (.if_icmp .eq (67), 3, 0, 0, 0), (.iconst 0, 1, 0, 0, 0), (.ireturn, 1, 0, 0, 0)] := rfl
theorem bk_131_435 : mbk 131 435 = [(.aload_n 1, 1, 0, 0, 0), (.invokevirtual 79, 3, 32, 1, 0), (.aload_n 2, 1, 0, 0, 0), (.invokevirtual 82, 3, 111, 1, 0), (.if_icmp .eq (54), 3, 0, 0, 0), (.iconst 0, 1, 0, 0, 0), (.ireturn, 1, 0, 0, 0)] := rfl
theorem bk_131_448 : mbk 131 448 = [(.aload_n 1, 1, 0, 0, 0), (.invokevirtual 83, 3, 33, 1, 0), (.aload_n 2, 1, 0, 0, 0), (.invokevirtual 86, 3, 112, 1, 0), (.if_icmp .eq (41), 3, 0, 0, 0), (.iconst 0, 1, 0, 0, 0), (.ireturn, 1, 0, 0, 0)] := rfl
theorem bk_131_461 : mbk 131 461 = [(.aload_n 1, 1, 0, 0, 0), (.invokevirtual 87, 3, 34, 1, 0), (.aload_n 2, 1, 0, 0, 0), (.invokevirtual 90, 3, 113, 1, 0), (.if_icmp .eq (28), 3, 0, 0, 0), (.iconst 0, 1, 0, 0, 0), (.ireturn, 1, 0, 0, 0)] := rfl
theorem bk_131_474 : mbk 131 474 = [(.aload_n 1, 1, 0, 0, 0), (.aload_n 0, 1, 0, 0, 0), (.iload_n 3, 1, 0, 0, 0), (.iconst 1, 1, 0, 0, 0), (.iadd, 1, 0, 0, 0), (.iaload, 1, 0, 0, 0), (.invokevirtual 91, 3, 35, 2, 0), (.aload_n 2, 1, 0, 0, 0), (.aload_n 0, 1, 0, 0, 0), (.iload_n 3, 1, 0, 0, 0), (.iconst 1, 1, 0, 0, 0), (.iadd, 1, 0, 0, 0), (.iaload, 1, 0, 0, 0), (.invokevirtual 94, 3, 114, 2, 0), (.if_icmp .eq (5), 3, 0, 0, 0), (.iconst 0, 1, 0, 0, 0), (.ireturn, 1, 0, 0, 0)] := rfl
theorem bk_131_497 : mbk 131 497 = [(.iinc 3 (4), 3, 0, 0, 0), (.goto (-482), 3, 0, 0, 0)] := rfl
theorem bk_131_503 : mbk 131 503 = [(.iconst 1, 1, 0, 0, 0), (.ireturn, 1, 0, 0, 0)] := rfl
