/-! entries and labels of all methods, by equations -/
theorem kl_0_0 : qm_lk kt_0 0 = kk_0_0 := rfl
theorem kl_1_0 : qm_lk kt_1 0 = kk_1_0 := rfl
theorem kl_1_40 : qm_lk kt_1 40 = kk_1_40 := rfl
theorem kl_1_59 : qm_lk kt_1 59 = kk_1_59 := rfl
theorem kl_2_0 : qm_lk kt_2 0 = kk_2_0 := rfl
theorem kl_2_2 : qm_lk kt_2 2 = kk_2_2 := rfl
theorem kl_2_19 : qm_lk kt_2 19 = kk_2_19 := rfl
theorem kl_2_71 : qm_lk kt_2 71 = kk_2_71 := rfl
theorem kl_2_77 : qm_lk kt_2 77 = kk_2_77 := rfl
theorem kl_3_0 : qm_lk kt_3 0 = kk_3_0 := rfl
theorem kl_3_2 : qm_lk kt_3 2 = kk_3_2 := rfl
theorem kl_3_26 : qm_lk kt_3 26 = kk_3_26 := rfl
theorem kl_3_54 : qm_lk kt_3 54 = kk_3_54 := rfl
theorem kl_3_55 : qm_lk kt_3 55 = kk_3_55 := rfl
theorem kl_3_77 : qm_lk kt_3 77 = kk_3_77 := rfl
theorem kl_3_85 : qm_lk kt_3 85 = kk_3_85 := rfl
theorem kl_3_126 : qm_lk kt_3 126 = kk_3_126 := rfl
theorem kl_3_132 : qm_lk kt_3 132 = kk_3_132 := rfl
theorem kl_3_138 : qm_lk kt_3 138 = kk_3_138 := rfl
theorem kl_4_0 : qm_lk kt_4 0 = kk_4_0 := rfl
theorem kl_4_17 : qm_lk kt_4 17 = kk_4_17 := rfl
theorem kl_4_24 : qm_lk kt_4 24 = kk_4_24 := rfl
theorem kl_4_30 : qm_lk kt_4 30 = kk_4_30 := rfl
theorem kl_4_67 : qm_lk kt_4 67 = kk_4_67 := rfl
theorem kl_4_73 : qm_lk kt_4 73 = kk_4_73 := rfl
theorem kl_5_0 : qm_lk kt_5 0 = kk_5_0 := rfl
theorem kl_5_7 : qm_lk kt_5 7 = kk_5_7 := rfl
theorem kl_5_32 : qm_lk kt_5 32 = kk_5_32 := rfl
theorem kl_5_38 : qm_lk kt_5 38 = kk_5_38 := rfl
theorem kl_6_0 : qm_lk kt_6 0 = kk_6_0 := rfl
theorem kl_6_24 : qm_lk kt_6 24 = kk_6_24 := rfl
theorem kl_6_34 : qm_lk kt_6 34 = kk_6_34 := rfl
theorem kl_6_127 : qm_lk kt_6 127 = kk_6_127 := rfl
theorem kl_6_133 : qm_lk kt_6 133 = kk_6_133 := rfl
theorem kl_7_0 : qm_lk kt_7 0 = kk_7_0 := rfl
theorem kl_7_20 : qm_lk kt_7 20 = kk_7_20 := rfl
theorem kl_7_22 : qm_lk kt_7 22 = kk_7_22 := rfl
theorem kl_8_0 : qm_lk kt_8 0 = kk_8_0 := rfl
theorem kl_9_0 : qm_lk kt_9 0 = kk_9_0 := rfl
theorem kl_9_12 : qm_lk kt_9 12 = kk_9_12 := rfl
theorem kl_9_13 : qm_lk kt_9 13 = kk_9_13 := rfl
theorem kl_10_0 : qm_lk kt_10 0 = kk_10_0 := rfl
theorem kl_11_0 : qm_lk kt_11 0 = kk_11_0 := rfl
theorem kl_12_0 : qm_lk kt_12 0 = kk_12_0 := rfl
theorem kl_12_16 : qm_lk kt_12 16 = kk_12_16 := rfl
theorem kl_12_41 : qm_lk kt_12 41 = kk_12_41 := rfl
theorem kl_12_54 : qm_lk kt_12 54 = kk_12_54 := rfl
theorem kl_12_61 : qm_lk kt_12 61 = kk_12_61 := rfl
theorem kl_13_0 : qm_lk kt_13 0 = kk_13_0 := rfl
theorem kl_13_11 : qm_lk kt_13 11 = kk_13_11 := rfl
theorem kl_13_22 : qm_lk kt_13 22 = kk_13_22 := rfl
theorem kl_13_70 : qm_lk kt_13 70 = kk_13_70 := rfl
theorem kl_13_76 : qm_lk kt_13 76 = kk_13_76 := rfl
theorem kl_13_82 : qm_lk kt_13 82 = kk_13_82 := rfl
theorem kl_14_0 : qm_lk kt_14 0 = kk_14_0 := rfl
theorem kl_14_25 : qm_lk kt_14 25 = kk_14_25 := rfl
theorem kl_14_29 : qm_lk kt_14 29 = kk_14_29 := rfl
theorem kl_14_30 : qm_lk kt_14 30 = kk_14_30 := rfl
theorem kl_15_0 : qm_lk kt_15 0 = kk_15_0 := rfl
theorem kl_15_15 : qm_lk kt_15 15 = kk_15_15 := rfl
theorem kl_15_16 : qm_lk kt_15 16 = kk_15_16 := rfl
theorem kl_16_0 : qm_lk kt_16 0 = kk_16_0 := rfl
theorem kl_17_0 : qm_lk kt_17 0 = kk_17_0 := rfl
theorem kl_18_0 : qm_lk kt_18 0 = kk_18_0 := rfl
theorem kl_18_28 : qm_lk kt_18 28 = kk_18_28 := rfl
theorem kl_18_29 : qm_lk kt_18 29 = kk_18_29 := rfl
theorem kl_19_0 : qm_lk kt_19 0 = kk_19_0 := rfl
theorem kl_19_26 : qm_lk kt_19 26 = kk_19_26 := rfl
theorem kl_19_27 : qm_lk kt_19 27 = kk_19_27 := rfl
theorem kl_20_0 : qm_lk kt_20 0 = kk_20_0 := rfl
theorem kl_20_21 : qm_lk kt_20 21 = kk_20_21 := rfl
theorem kl_21_0 : qm_lk kt_21 0 = kk_21_0 := rfl
theorem kl_21_4 : qm_lk kt_21 4 = kk_21_4 := rfl
theorem kl_21_30 : qm_lk kt_21 30 = kk_21_30 := rfl
theorem kl_22_0 : qm_lk kt_22 0 = kk_22_0 := rfl
theorem kl_22_6 : qm_lk kt_22 6 = kk_22_6 := rfl
theorem kl_22_34 : qm_lk kt_22 34 = kk_22_34 := rfl
theorem kl_22_40 : qm_lk kt_22 40 = kk_22_40 := rfl
theorem kl_23_0 : qm_lk kt_23 0 = kk_23_0 := rfl
theorem kl_23_4 : qm_lk kt_23 4 = kk_23_4 := rfl
theorem kl_23_29 : qm_lk kt_23 29 = kk_23_29 := rfl
theorem kl_23_35 : qm_lk kt_23 35 = kk_23_35 := rfl
theorem kl_24_0 : qm_lk kt_24 0 = kk_24_0 := rfl
theorem kl_24_13 : qm_lk kt_24 13 = kk_24_13 := rfl
theorem kl_24_17 : qm_lk kt_24 17 = kk_24_17 := rfl
theorem kl_24_58 : qm_lk kt_24 58 = kk_24_58 := rfl
theorem kl_24_60 : qm_lk kt_24 60 = kk_24_60 := rfl
theorem kl_24_67 : qm_lk kt_24 67 = kk_24_67 := rfl
theorem kl_24_73 : qm_lk kt_24 73 = kk_24_73 := rfl
theorem kl_25_0 : qm_lk kt_25 0 = kk_25_0 := rfl
theorem kl_25_18 : qm_lk kt_25 18 = kk_25_18 := rfl
theorem kl_25_35 : qm_lk kt_25 35 = kk_25_35 := rfl
theorem kl_25_36 : qm_lk kt_25 36 = kk_25_36 := rfl
theorem kl_26_0 : qm_lk kt_26 0 = kk_26_0 := rfl
theorem kl_26_21 : qm_lk kt_26 21 = kk_26_21 := rfl
theorem kl_26_48 : qm_lk kt_26 48 = kk_26_48 := rfl
theorem kl_26_78 : qm_lk kt_26 78 = kk_26_78 := rfl
theorem kl_27_0 : qm_lk kt_27 0 = kk_27_0 := rfl
theorem kl_28_0 : qm_lk kt_28 0 = kk_28_0 := rfl
theorem kl_28_17 : qm_lk kt_28 17 = kk_28_17 := rfl
theorem kl_28_28 : qm_lk kt_28 28 = kk_28_28 := rfl
theorem kl_28_36 : qm_lk kt_28 36 = kk_28_36 := rfl
theorem kl_28_64 : qm_lk kt_28 64 = kk_28_64 := rfl
theorem kl_28_70 : qm_lk kt_28 70 = kk_28_70 := rfl
theorem kl_28_76 : qm_lk kt_28 76 = kk_28_76 := rfl
theorem kl_29_0 : qm_lk kt_29 0 = kk_29_0 := rfl
theorem kl_29_19 : qm_lk kt_29 19 = kk_29_19 := rfl
theorem kl_29_47 : qm_lk kt_29 47 = kk_29_47 := rfl
theorem kl_29_92 : qm_lk kt_29 92 = kk_29_92 := rfl
theorem kl_29_98 : qm_lk kt_29 98 = kk_29_98 := rfl
theorem kl_30_0 : qm_lk kt_30 0 = kk_30_0 := rfl
theorem kl_30_21 : qm_lk kt_30 21 = kk_30_21 := rfl
theorem kl_31_0 : qm_lk kt_31 0 = kk_31_0 := rfl
theorem kl_31_5 : qm_lk kt_31 5 = kk_31_5 := rfl
theorem kl_31_36 : qm_lk kt_31 36 = kk_31_36 := rfl
theorem kl_31_42 : qm_lk kt_31 42 = kk_31_42 := rfl
theorem kl_32_0 : qm_lk kt_32 0 = kk_32_0 := rfl
theorem kl_33_0 : qm_lk kt_33 0 = kk_33_0 := rfl
theorem kl_34_0 : qm_lk kt_34 0 = kk_34_0 := rfl
theorem kl_34_7 : qm_lk kt_34 7 = kk_34_7 := rfl
theorem kl_34_30 : qm_lk kt_34 30 = kk_34_30 := rfl
theorem kl_34_36 : qm_lk kt_34 36 = kk_34_36 := rfl
theorem kl_34_47 : qm_lk kt_34 47 = kk_34_47 := rfl
theorem kl_34_68 : qm_lk kt_34 68 = kk_34_68 := rfl
theorem kl_35_0 : qm_lk kt_35 0 = kk_35_0 := rfl
theorem kl_35_4 : qm_lk kt_35 4 = kk_35_4 := rfl
theorem kl_35_27 : qm_lk kt_35 27 = kk_35_27 := rfl
theorem kl_35_36 : qm_lk kt_35 36 = kk_35_36 := rfl
theorem kl_35_37 : qm_lk kt_35 37 = kk_35_37 := rfl
theorem kl_36_0 : qm_lk kt_36 0 = kk_36_0 := rfl
theorem kl_36_10 : qm_lk kt_36 10 = kk_36_10 := rfl
theorem kl_36_36 : qm_lk kt_36 36 = kk_36_36 := rfl
theorem kl_37_0 : qm_lk kt_37 0 = kk_37_0 := rfl
theorem kl_38_0 : qm_lk kt_38 0 = kk_38_0 := rfl
theorem kl_38_25 : qm_lk kt_38 25 = kk_38_25 := rfl
theorem kl_38_48 : qm_lk kt_38 48 = kk_38_48 := rfl
theorem kl_38_61 : qm_lk kt_38 61 = kk_38_61 := rfl
theorem kl_38_93 : qm_lk kt_38 93 = kk_38_93 := rfl
theorem kl_38_99 : qm_lk kt_38 99 = kk_38_99 := rfl
theorem kl_39_0 : qm_lk kt_39 0 = kk_39_0 := rfl
theorem kl_39_4 : qm_lk kt_39 4 = kk_39_4 := rfl
theorem kl_39_23 : qm_lk kt_39 23 = kk_39_23 := rfl
theorem kl_39_34 : qm_lk kt_39 34 = kk_39_34 := rfl
theorem kl_39_39 : qm_lk kt_39 39 = kk_39_39 := rfl
theorem kl_39_95 : qm_lk kt_39 95 = kk_39_95 := rfl
theorem kl_39_101 : qm_lk kt_39 101 = kk_39_101 := rfl
theorem kl_39_107 : qm_lk kt_39 107 = kk_39_107 := rfl
theorem kl_40_0 : qm_lk kt_40 0 = kk_40_0 := rfl
theorem kl_40_19 : qm_lk kt_40 19 = kk_40_19 := rfl
theorem kl_40_36 : qm_lk kt_40 36 = kk_40_36 := rfl
theorem kl_40_56 : qm_lk kt_40 56 = kk_40_56 := rfl
theorem kl_41_0 : qm_lk kt_41 0 = kk_41_0 := rfl
theorem kl_41_20 : qm_lk kt_41 20 = kk_41_20 := rfl
theorem kl_41_43 : qm_lk kt_41 43 = kk_41_43 := rfl
theorem kl_41_71 : qm_lk kt_41 71 = kk_41_71 := rfl
theorem kl_42_0 : qm_lk kt_42 0 = kk_42_0 := rfl
theorem kl_43_0 : qm_lk kt_43 0 = kk_43_0 := rfl
theorem kl_43_17 : qm_lk kt_43 17 = kk_43_17 := rfl
theorem kl_43_41 : qm_lk kt_43 41 = kk_43_41 := rfl
theorem kl_43_51 : qm_lk kt_43 51 = kk_43_51 := rfl
theorem kl_43_81 : qm_lk kt_43 81 = kk_43_81 := rfl
theorem kl_44_0 : qm_lk kt_44 0 = kk_44_0 := rfl
theorem kl_44_3 : qm_lk kt_44 3 = kk_44_3 := rfl
theorem kl_44_20 : qm_lk kt_44 20 = kk_44_20 := rfl
theorem kl_44_25 : qm_lk kt_44 25 = kk_44_25 := rfl
theorem kl_44_29 : qm_lk kt_44 29 = kk_44_29 := rfl
theorem kl_44_65 : qm_lk kt_44 65 = kk_44_65 := rfl
theorem kl_44_71 : qm_lk kt_44 71 = kk_44_71 := rfl
theorem kl_44_77 : qm_lk kt_44 77 = kk_44_77 := rfl
theorem kl_45_0 : qm_lk kt_45 0 = kk_45_0 := rfl
theorem kl_45_17 : qm_lk kt_45 17 = kk_45_17 := rfl
theorem kl_45_28 : qm_lk kt_45 28 = kk_45_28 := rfl
theorem kl_45_66 : qm_lk kt_45 66 = kk_45_66 := rfl
theorem kl_45_72 : qm_lk kt_45 72 = kk_45_72 := rfl
theorem kl_46_0 : qm_lk kt_46 0 = kk_46_0 := rfl
theorem kl_46_19 : qm_lk kt_46 19 = kk_46_19 := rfl
theorem kl_46_20 : qm_lk kt_46 20 = kk_46_20 := rfl
theorem kl_47_0 : qm_lk kt_47 0 = kk_47_0 := rfl
theorem kl_47_3 : qm_lk kt_47 3 = kk_47_3 := rfl
theorem kl_47_22 : qm_lk kt_47 22 = kk_47_22 := rfl
theorem kl_48_0 : qm_lk kt_48 0 = kk_48_0 := rfl
theorem kl_48_2 : qm_lk kt_48 2 = kk_48_2 := rfl
theorem kl_48_25 : qm_lk kt_48 25 = kk_48_25 := rfl
theorem kl_48_31 : qm_lk kt_48 31 = kk_48_31 := rfl
theorem kl_49_0 : qm_lk kt_49 0 = kk_49_0 := rfl
theorem kl_49_11 : qm_lk kt_49 11 = kk_49_11 := rfl
theorem kl_49_70 : qm_lk kt_49 70 = kk_49_70 := rfl
theorem kl_50_0 : qm_lk kt_50 0 = kk_50_0 := rfl
theorem kl_50_4 : qm_lk kt_50 4 = kk_50_4 := rfl
theorem kl_50_20 : qm_lk kt_50 20 = kk_50_20 := rfl
theorem kl_51_0 : qm_lk kt_51 0 = kk_51_0 := rfl
theorem kl_51_8 : qm_lk kt_51 8 = kk_51_8 := rfl
theorem kl_51_45 : qm_lk kt_51 45 = kk_51_45 := rfl
theorem kl_52_0 : qm_lk kt_52 0 = kk_52_0 := rfl
theorem kl_53_0 : qm_lk kt_53 0 = kk_53_0 := rfl
theorem kl_53_2 : qm_lk kt_53 2 = kk_53_2 := rfl
theorem kl_53_33 : qm_lk kt_53 33 = kk_53_33 := rfl
theorem kl_53_34 : qm_lk kt_53 34 = kk_53_34 := rfl
theorem kl_53_41 : qm_lk kt_53 41 = kk_53_41 := rfl
theorem kl_53_48 : qm_lk kt_53 48 = kk_53_48 := rfl
theorem kl_53_55 : qm_lk kt_53 55 = kk_53_55 := rfl
theorem kl_53_105 : qm_lk kt_53 105 = kk_53_105 := rfl
theorem kl_53_111 : qm_lk kt_53 111 = kk_53_111 := rfl
theorem kl_54_0 : qm_lk kt_54 0 = kk_54_0 := rfl
theorem kl_54_18 : qm_lk kt_54 18 = kk_54_18 := rfl
theorem kl_54_58 : qm_lk kt_54 58 = kk_54_58 := rfl
theorem kl_54_64 : qm_lk kt_54 64 = kk_54_64 := rfl
theorem kl_55_0 : qm_lk kt_55 0 = kk_55_0 := rfl
theorem kl_56_0 : qm_lk kt_56 0 = kk_56_0 := rfl
theorem kl_56_8 : qm_lk kt_56 8 = kk_56_8 := rfl
theorem kl_56_61 : qm_lk kt_56 61 = kk_56_61 := rfl
theorem kl_56_75 : qm_lk kt_56 75 = kk_56_75 := rfl
theorem kl_56_81 : qm_lk kt_56 81 = kk_56_81 := rfl
theorem kl_57_0 : qm_lk kt_57 0 = kk_57_0 := rfl
theorem kl_57_17 : qm_lk kt_57 17 = kk_57_17 := rfl
theorem kl_57_73 : qm_lk kt_57 73 = kk_57_73 := rfl
theorem kl_57_75 : qm_lk kt_57 75 = kk_57_75 := rfl
theorem kl_57_92 : qm_lk kt_57 92 = kk_57_92 := rfl
theorem kl_57_93 : qm_lk kt_57 93 = kk_57_93 := rfl
theorem kl_57_102 : qm_lk kt_57 102 = kk_57_102 := rfl
theorem kl_58_0 : qm_lk kt_58 0 = kk_58_0 := rfl
theorem kl_58_3 : qm_lk kt_58 3 = kk_58_3 := rfl
theorem kl_58_29 : qm_lk kt_58 29 = kk_58_29 := rfl
theorem kl_58_35 : qm_lk kt_58 35 = kk_58_35 := rfl
theorem kl_59_0 : qm_lk kt_59 0 = kk_59_0 := rfl
theorem kl_60_0 : qm_lk kt_60 0 = kk_60_0 := rfl
theorem kl_60_12 : qm_lk kt_60 12 = kk_60_12 := rfl
theorem kl_60_13 : qm_lk kt_60 13 = kk_60_13 := rfl
theorem kl_61_0 : qm_lk kt_61 0 = kk_61_0 := rfl
theorem kl_62_0 : qm_lk kt_62 0 = kk_62_0 := rfl
theorem kl_62_16 : qm_lk kt_62 16 = kk_62_16 := rfl
theorem kl_62_17 : qm_lk kt_62 17 = kk_62_17 := rfl
theorem kl_63_0 : qm_lk kt_63 0 = kk_63_0 := rfl
theorem kl_63_30 : qm_lk kt_63 30 = kk_63_30 := rfl
theorem kl_63_31 : qm_lk kt_63 31 = kk_63_31 := rfl
theorem kl_64_0 : qm_lk kt_64 0 = kk_64_0 := rfl
theorem kl_64_17 : qm_lk kt_64 17 = kk_64_17 := rfl
theorem kl_64_18 : qm_lk kt_64 18 = kk_64_18 := rfl
theorem kl_65_0 : qm_lk kt_65 0 = kk_65_0 := rfl
theorem kl_65_4 : qm_lk kt_65 4 = kk_65_4 := rfl
theorem kl_65_28 : qm_lk kt_65 28 = kk_65_28 := rfl
theorem kl_66_0 : qm_lk kt_66 0 = kk_66_0 := rfl
theorem kl_66_2 : qm_lk kt_66 2 = kk_66_2 := rfl
theorem kl_66_26 : qm_lk kt_66 26 = kk_66_26 := rfl
theorem kl_66_32 : qm_lk kt_66 32 = kk_66_32 := rfl
theorem kl_67_0 : qm_lk kt_67 0 = kk_67_0 := rfl
theorem kl_67_2 : qm_lk kt_67 2 = kk_67_2 := rfl
theorem kl_67_29 : qm_lk kt_67 29 = kk_67_29 := rfl
theorem kl_67_35 : qm_lk kt_67 35 = kk_67_35 := rfl
theorem kl_68_0 : qm_lk kt_68 0 = kk_68_0 := rfl
theorem kl_68_4 : qm_lk kt_68 4 = kk_68_4 := rfl
theorem kl_68_26 : qm_lk kt_68 26 = kk_68_26 := rfl
theorem kl_68_32 : qm_lk kt_68 32 = kk_68_32 := rfl
theorem kl_69_0 : qm_lk kt_69 0 = kk_69_0 := rfl
theorem kl_69_7 : qm_lk kt_69 7 = kk_69_7 := rfl
theorem kl_69_29 : qm_lk kt_69 29 = kk_69_29 := rfl
theorem kl_69_31 : qm_lk kt_69 31 = kk_69_31 := rfl
theorem kl_69_51 : qm_lk kt_69 51 = kk_69_51 := rfl
theorem kl_69_57 : qm_lk kt_69 57 = kk_69_57 := rfl
theorem kl_70_0 : qm_lk kt_70 0 = kk_70_0 := rfl
theorem kl_70_15 : qm_lk kt_70 15 = kk_70_15 := rfl
theorem kl_70_45 : qm_lk kt_70 45 = kk_70_45 := rfl
theorem kl_71_0 : qm_lk kt_71 0 = kk_71_0 := rfl
theorem kl_71_145 : qm_lk kt_71 145 = kk_71_145 := rfl
theorem kl_71_170 : qm_lk kt_71 170 = kk_71_170 := rfl
theorem kl_71_172 : qm_lk kt_71 172 = kk_71_172 := rfl
theorem kl_71_197 : qm_lk kt_71 197 = kk_71_197 := rfl
theorem kl_72_0 : qm_lk kt_72 0 = kk_72_0 := rfl
theorem kl_72_13 : qm_lk kt_72 13 = kk_72_13 := rfl
theorem kl_72_15 : qm_lk kt_72 15 = kk_72_15 := rfl
theorem kl_72_25 : qm_lk kt_72 25 = kk_72_25 := rfl
theorem kl_73_0 : qm_lk kt_73 0 = kk_73_0 := rfl
theorem kl_73_9 : qm_lk kt_73 9 = kk_73_9 := rfl
theorem kl_73_27 : qm_lk kt_73 27 = kk_73_27 := rfl
theorem kl_73_42 : qm_lk kt_73 42 = kk_73_42 := rfl
theorem kl_74_0 : qm_lk kt_74 0 = kk_74_0 := rfl
theorem kl_74_9 : qm_lk kt_74 9 = kk_74_9 := rfl
theorem kl_74_25 : qm_lk kt_74 25 = kk_74_25 := rfl
theorem kl_75_0 : qm_lk kt_75 0 = kk_75_0 := rfl
theorem kl_75_14 : qm_lk kt_75 14 = kk_75_14 := rfl
theorem kl_75_16 : qm_lk kt_75 16 = kk_75_16 := rfl
theorem kl_75_27 : qm_lk kt_75 27 = kk_75_27 := rfl
theorem kl_75_51 : qm_lk kt_75 51 = kk_75_51 := rfl
theorem kl_75_57 : qm_lk kt_75 57 = kk_75_57 := rfl
theorem kl_75_80 : qm_lk kt_75 80 = kk_75_80 := rfl
theorem kl_75_86 : qm_lk kt_75 86 = kk_75_86 := rfl
theorem kl_76_0 : qm_lk kt_76 0 = kk_76_0 := rfl
theorem kl_76_9 : qm_lk kt_76 9 = kk_76_9 := rfl
theorem kl_76_25 : qm_lk kt_76 25 = kk_76_25 := rfl
theorem kl_76_38 : qm_lk kt_76 38 = kk_76_38 := rfl
theorem kl_77_0 : qm_lk kt_77 0 = kk_77_0 := rfl
theorem kl_77_24 : qm_lk kt_77 24 = kk_77_24 := rfl
theorem kl_77_26 : qm_lk kt_77 26 = kk_77_26 := rfl
theorem kl_77_44 : qm_lk kt_77 44 = kk_77_44 := rfl
theorem kl_77_64 : qm_lk kt_77 64 = kk_77_64 := rfl
theorem kl_77_84 : qm_lk kt_77 84 = kk_77_84 := rfl
theorem kl_77_101 : qm_lk kt_77 101 = kk_77_101 := rfl
theorem kl_77_135 : qm_lk kt_77 135 = kk_77_135 := rfl
theorem kl_78_0 : qm_lk kt_78 0 = kk_78_0 := rfl
theorem kl_78_24 : qm_lk kt_78 24 = kk_78_24 := rfl
theorem kl_78_26 : qm_lk kt_78 26 = kk_78_26 := rfl
theorem kl_78_44 : qm_lk kt_78 44 = kk_78_44 := rfl
theorem kl_78_64 : qm_lk kt_78 64 = kk_78_64 := rfl
theorem kl_78_82 : qm_lk kt_78 82 = kk_78_82 := rfl
theorem kl_78_88 : qm_lk kt_78 88 = kk_78_88 := rfl
theorem kl_78_105 : qm_lk kt_78 105 = kk_78_105 := rfl
theorem kl_78_143 : qm_lk kt_78 143 = kk_78_143 := rfl
theorem kl_79_0 : qm_lk kt_79 0 = kk_79_0 := rfl
theorem kl_79_30 : qm_lk kt_79 30 = kk_79_30 := rfl
theorem kl_79_32 : qm_lk kt_79 32 = kk_79_32 := rfl
theorem kl_79_46 : qm_lk kt_79 46 = kk_79_46 := rfl
theorem kl_79_47 : qm_lk kt_79 47 = kk_79_47 := rfl
theorem kl_79_63 : qm_lk kt_79 63 = kk_79_63 := rfl
theorem kl_79_104 : qm_lk kt_79 104 = kk_79_104 := rfl
theorem kl_80_0 : qm_lk kt_80 0 = kk_80_0 := rfl
theorem kl_80_9 : qm_lk kt_80 9 = kk_80_9 := rfl
theorem kl_80_25 : qm_lk kt_80 25 = kk_80_25 := rfl
theorem kl_81_0 : qm_lk kt_81 0 = kk_81_0 := rfl
theorem kl_81_16 : qm_lk kt_81 16 = kk_81_16 := rfl
theorem kl_81_18 : qm_lk kt_81 18 = kk_81_18 := rfl
theorem kl_81_34 : qm_lk kt_81 34 = kk_81_34 := rfl
theorem kl_81_60 : qm_lk kt_81 60 = kk_81_60 := rfl
theorem kl_81_71 : qm_lk kt_81 71 = kk_81_71 := rfl
theorem kl_81_82 : qm_lk kt_81 82 = kk_81_82 := rfl
theorem kl_81_93 : qm_lk kt_81 93 = kk_81_93 := rfl
theorem kl_81_101 : qm_lk kt_81 101 = kk_81_101 := rfl
theorem kl_82_0 : qm_lk kt_82 0 = kk_82_0 := rfl
theorem kl_82_16 : qm_lk kt_82 16 = kk_82_16 := rfl
theorem kl_82_18 : qm_lk kt_82 18 = kk_82_18 := rfl
theorem kl_82_34 : qm_lk kt_82 34 = kk_82_34 := rfl
theorem kl_82_46 : qm_lk kt_82 46 = kk_82_46 := rfl
theorem kl_82_47 : qm_lk kt_82 47 = kk_82_47 := rfl
theorem kl_83_0 : qm_lk kt_83 0 = kk_83_0 := rfl
theorem kl_83_16 : qm_lk kt_83 16 = kk_83_16 := rfl
theorem kl_83_18 : qm_lk kt_83 18 = kk_83_18 := rfl
theorem kl_83_34 : qm_lk kt_83 34 = kk_83_34 := rfl
theorem kl_83_48 : qm_lk kt_83 48 = kk_83_48 := rfl
theorem kl_83_76 : qm_lk kt_83 76 = kk_83_76 := rfl
theorem kl_83_81 : qm_lk kt_83 81 = kk_83_81 := rfl
theorem kl_83_88 : qm_lk kt_83 88 = kk_83_88 := rfl
theorem kl_84_0 : qm_lk kt_84 0 = kk_84_0 := rfl
theorem kl_84_9 : qm_lk kt_84 9 = kk_84_9 := rfl
theorem kl_84_27 : qm_lk kt_84 27 = kk_84_27 := rfl
theorem kl_84_43 : qm_lk kt_84 43 = kk_84_43 := rfl
theorem kl_84_57 : qm_lk kt_84 57 = kk_84_57 := rfl
theorem kl_84_58 : qm_lk kt_84 58 = kk_84_58 := rfl
theorem kl_85_0 : qm_lk kt_85 0 = kk_85_0 := rfl
theorem kl_85_9 : qm_lk kt_85 9 = kk_85_9 := rfl
theorem kl_85_27 : qm_lk kt_85 27 = kk_85_27 := rfl
theorem kl_85_41 : qm_lk kt_85 41 = kk_85_41 := rfl
theorem kl_85_57 : qm_lk kt_85 57 = kk_85_57 := rfl
theorem kl_85_91 : qm_lk kt_85 91 = kk_85_91 := rfl
theorem kl_85_104 : qm_lk kt_85 104 = kk_85_104 := rfl
theorem kl_85_114 : qm_lk kt_85 114 = kk_85_114 := rfl
theorem kl_85_115 : qm_lk kt_85 115 = kk_85_115 := rfl
theorem kl_86_0 : qm_lk kt_86 0 = kk_86_0 := rfl
theorem kl_86_14 : qm_lk kt_86 14 = kk_86_14 := rfl
theorem kl_86_16 : qm_lk kt_86 16 = kk_86_16 := rfl
theorem kl_86_32 : qm_lk kt_86 32 = kk_86_32 := rfl
theorem kl_86_51 : qm_lk kt_86 51 = kk_86_51 := rfl
theorem kl_86_90 : qm_lk kt_86 90 = kk_86_90 := rfl
theorem kl_87_0 : qm_lk kt_87 0 = kk_87_0 := rfl
theorem kl_87_14 : qm_lk kt_87 14 = kk_87_14 := rfl
theorem kl_87_16 : qm_lk kt_87 16 = kk_87_16 := rfl
theorem kl_87_32 : qm_lk kt_87 32 = kk_87_32 := rfl
theorem kl_87_51 : qm_lk kt_87 51 = kk_87_51 := rfl
theorem kl_87_63 : qm_lk kt_87 63 = kk_87_63 := rfl
theorem kl_87_94 : qm_lk kt_87 94 = kk_87_94 := rfl
theorem kl_87_100 : qm_lk kt_87 100 = kk_87_100 := rfl
theorem kl_87_106 : qm_lk kt_87 106 = kk_87_106 := rfl
theorem kl_88_0 : qm_lk kt_88 0 = kk_88_0 := rfl
theorem kl_88_15 : qm_lk kt_88 15 = kk_88_15 := rfl
theorem kl_88_17 : qm_lk kt_88 17 = kk_88_17 := rfl
theorem kl_88_35 : qm_lk kt_88 35 = kk_88_35 := rfl
theorem kl_88_51 : qm_lk kt_88 51 = kk_88_51 := rfl
theorem kl_88_69 : qm_lk kt_88 69 = kk_88_69 := rfl
theorem kl_88_75 : qm_lk kt_88 75 = kk_88_75 := rfl
theorem kl_88_107 : qm_lk kt_88 107 = kk_88_107 := rfl
theorem kl_88_135 : qm_lk kt_88 135 = kk_88_135 := rfl
theorem kl_88_139 : qm_lk kt_88 139 = kk_88_139 := rfl
theorem kl_88_173 : qm_lk kt_88 173 = kk_88_173 := rfl
theorem kl_89_0 : qm_lk kt_89 0 = kk_89_0 := rfl
theorem kl_89_21 : qm_lk kt_89 21 = kk_89_21 := rfl
theorem kl_89_23 : qm_lk kt_89 23 = kk_89_23 := rfl
theorem kl_89_47 : qm_lk kt_89 47 = kk_89_47 := rfl
theorem kl_89_53 : qm_lk kt_89 53 = kk_89_53 := rfl
theorem kl_89_93 : qm_lk kt_89 93 = kk_89_93 := rfl
theorem kl_89_99 : qm_lk kt_89 99 = kk_89_99 := rfl
theorem kl_89_114 : qm_lk kt_89 114 = kk_89_114 := rfl
theorem kl_89_151 : qm_lk kt_89 151 = kk_89_151 := rfl
theorem kl_89_171 : qm_lk kt_89 171 = kk_89_171 := rfl
theorem kl_89_178 : qm_lk kt_89 178 = kk_89_178 := rfl
theorem kl_90_0 : qm_lk kt_90 0 = kk_90_0 := rfl
theorem kl_90_17 : qm_lk kt_90 17 = kk_90_17 := rfl
theorem kl_90_19 : qm_lk kt_90 19 = kk_90_19 := rfl
theorem kl_90_35 : qm_lk kt_90 35 = kk_90_35 := rfl
theorem kl_91_0 : qm_lk kt_91 0 = kk_91_0 := rfl
theorem kl_91_17 : qm_lk kt_91 17 = kk_91_17 := rfl
theorem kl_91_19 : qm_lk kt_91 19 = kk_91_19 := rfl
theorem kl_91_35 : qm_lk kt_91 35 = kk_91_35 := rfl
theorem kl_92_0 : qm_lk kt_92 0 = kk_92_0 := rfl
theorem kl_92_9 : qm_lk kt_92 9 = kk_92_9 := rfl
theorem kl_92_25 : qm_lk kt_92 25 = kk_92_25 := rfl
theorem kl_93_0 : qm_lk kt_93 0 = kk_93_0 := rfl
theorem kl_93_14 : qm_lk kt_93 14 = kk_93_14 := rfl
theorem kl_93_16 : qm_lk kt_93 16 = kk_93_16 := rfl
theorem kl_93_38 : qm_lk kt_93 38 = kk_93_38 := rfl
theorem kl_93_44 : qm_lk kt_93 44 = kk_93_44 := rfl
theorem kl_93_79 : qm_lk kt_93 79 = kk_93_79 := rfl
theorem kl_93_80 : qm_lk kt_93 80 = kk_93_80 := rfl
theorem kl_94_0 : qm_lk kt_94 0 = kk_94_0 := rfl
theorem kl_94_14 : qm_lk kt_94 14 = kk_94_14 := rfl
theorem kl_94_16 : qm_lk kt_94 16 = kk_94_16 := rfl
theorem kl_94_32 : qm_lk kt_94 32 = kk_94_32 := rfl
theorem kl_94_61 : qm_lk kt_94 61 = kk_94_61 := rfl
theorem kl_94_130 : qm_lk kt_94 130 = kk_94_130 := rfl
theorem kl_94_133 : qm_lk kt_94 133 = kk_94_133 := rfl
theorem kl_94_146 : qm_lk kt_94 146 = kk_94_146 := rfl
theorem kl_94_152 : qm_lk kt_94 152 = kk_94_152 := rfl
theorem kl_95_0 : qm_lk kt_95 0 = kk_95_0 := rfl
theorem kl_95_18 : qm_lk kt_95 18 = kk_95_18 := rfl
theorem kl_95_20 : qm_lk kt_95 20 = kk_95_20 := rfl
theorem kl_95_36 : qm_lk kt_95 36 = kk_95_36 := rfl
theorem kl_96_0 : qm_lk kt_96 0 = kk_96_0 := rfl
theorem kl_96_9 : qm_lk kt_96 9 = kk_96_9 := rfl
theorem kl_96_25 : qm_lk kt_96 25 = kk_96_25 := rfl
theorem kl_96_44 : qm_lk kt_96 44 = kk_96_44 := rfl
theorem kl_96_50 : qm_lk kt_96 50 = kk_96_50 := rfl
theorem kl_96_70 : qm_lk kt_96 70 = kk_96_70 := rfl
theorem kl_97_0 : qm_lk kt_97 0 = kk_97_0 := rfl
theorem kl_97_27 : qm_lk kt_97 27 = kk_97_27 := rfl
theorem kl_97_29 : qm_lk kt_97 29 = kk_97_29 := rfl
theorem kl_97_47 : qm_lk kt_97 47 = kk_97_47 := rfl
theorem kl_98_0 : qm_lk kt_98 0 = kk_98_0 := rfl
theorem kl_98_29 : qm_lk kt_98 29 = kk_98_29 := rfl
theorem kl_98_31 : qm_lk kt_98 31 = kk_98_31 := rfl
theorem kl_98_49 : qm_lk kt_98 49 = kk_98_49 := rfl
theorem kl_98_76 : qm_lk kt_98 76 = kk_98_76 := rfl
theorem kl_99_0 : qm_lk kt_99 0 = kk_99_0 := rfl
theorem kl_99_14 : qm_lk kt_99 14 = kk_99_14 := rfl
theorem kl_99_16 : qm_lk kt_99 16 = kk_99_16 := rfl
theorem kl_99_38 : qm_lk kt_99 38 = kk_99_38 := rfl
theorem kl_99_44 : qm_lk kt_99 44 = kk_99_44 := rfl
theorem kl_99_64 : qm_lk kt_99 64 = kk_99_64 := rfl
theorem kl_100_0 : qm_lk kt_100 0 = kk_100_0 := rfl
theorem kl_100_14 : qm_lk kt_100 14 = kk_100_14 := rfl
theorem kl_100_16 : qm_lk kt_100 16 = kk_100_16 := rfl
theorem kl_100_38 : qm_lk kt_100 38 = kk_100_38 := rfl
theorem kl_100_44 : qm_lk kt_100 44 = kk_100_44 := rfl
theorem kl_100_64 : qm_lk kt_100 64 = kk_100_64 := rfl
theorem kl_100_106 : qm_lk kt_100 106 = kk_100_106 := rfl
theorem kl_101_0 : qm_lk kt_101 0 = kk_101_0 := rfl
theorem kl_101_9 : qm_lk kt_101 9 = kk_101_9 := rfl
theorem kl_101_25 : qm_lk kt_101 25 = kk_101_25 := rfl
theorem kl_102_0 : qm_lk kt_102 0 = kk_102_0 := rfl
theorem kl_102_9 : qm_lk kt_102 9 = kk_102_9 := rfl
theorem kl_102_25 : qm_lk kt_102 25 = kk_102_25 := rfl
theorem kl_102_35 : qm_lk kt_102 35 = kk_102_35 := rfl
theorem kl_102_88 : qm_lk kt_102 88 = kk_102_88 := rfl
theorem kl_102_94 : qm_lk kt_102 94 = kk_102_94 := rfl
theorem kl_103_0 : qm_lk kt_103 0 = kk_103_0 := rfl
theorem kl_103_9 : qm_lk kt_103 9 = kk_103_9 := rfl
theorem kl_103_27 : qm_lk kt_103 27 = kk_103_27 := rfl
theorem kl_103_43 : qm_lk kt_103 43 = kk_103_43 := rfl
theorem kl_103_114 : qm_lk kt_103 114 = kk_103_114 := rfl
theorem kl_103_125 : qm_lk kt_103 125 = kk_103_125 := rfl
theorem kl_103_126 : qm_lk kt_103 126 = kk_103_126 := rfl
theorem kl_104_0 : qm_lk kt_104 0 = kk_104_0 := rfl
theorem kl_104_14 : qm_lk kt_104 14 = kk_104_14 := rfl
theorem kl_104_16 : qm_lk kt_104 16 = kk_104_16 := rfl
theorem kl_104_38 : qm_lk kt_104 38 = kk_104_38 := rfl
theorem kl_104_44 : qm_lk kt_104 44 = kk_104_44 := rfl
theorem kl_104_64 : qm_lk kt_104 64 = kk_104_64 := rfl
theorem kl_105_0 : qm_lk kt_105 0 = kk_105_0 := rfl
theorem kl_105_14 : qm_lk kt_105 14 = kk_105_14 := rfl
theorem kl_105_16 : qm_lk kt_105 16 = kk_105_16 := rfl
theorem kl_105_40 : qm_lk kt_105 40 = kk_105_40 := rfl
theorem kl_105_46 : qm_lk kt_105 46 = kk_105_46 := rfl
theorem kl_105_67 : qm_lk kt_105 67 = kk_105_67 := rfl
theorem kl_105_84 : qm_lk kt_105 84 = kk_105_84 := rfl
theorem kl_106_0 : qm_lk kt_106 0 = kk_106_0 := rfl
theorem kl_106_27 : qm_lk kt_106 27 = kk_106_27 := rfl
theorem kl_106_29 : qm_lk kt_106 29 = kk_106_29 := rfl
theorem kl_106_47 : qm_lk kt_106 47 = kk_106_47 := rfl
theorem kl_106_61 : qm_lk kt_106 61 = kk_106_61 := rfl
theorem kl_107_0 : qm_lk kt_107 0 = kk_107_0 := rfl
theorem kl_107_17 : qm_lk kt_107 17 = kk_107_17 := rfl
theorem kl_107_19 : qm_lk kt_107 19 = kk_107_19 := rfl
theorem kl_107_35 : qm_lk kt_107 35 = kk_107_35 := rfl
theorem kl_107_48 : qm_lk kt_107 48 = kk_107_48 := rfl
theorem kl_107_65 : qm_lk kt_107 65 = kk_107_65 := rfl
theorem kl_107_98 : qm_lk kt_107 98 = kk_107_98 := rfl
theorem kl_108_0 : qm_lk kt_108 0 = kk_108_0 := rfl
theorem kl_108_14 : qm_lk kt_108 14 = kk_108_14 := rfl
theorem kl_108_16 : qm_lk kt_108 16 = kk_108_16 := rfl
theorem kl_108_40 : qm_lk kt_108 40 = kk_108_40 := rfl
theorem kl_108_46 : qm_lk kt_108 46 = kk_108_46 := rfl
theorem kl_108_67 : qm_lk kt_108 67 = kk_108_67 := rfl
theorem kl_108_81 : qm_lk kt_108 81 = kk_108_81 := rfl
theorem kl_108_87 : qm_lk kt_108 87 = kk_108_87 := rfl
theorem kl_108_129 : qm_lk kt_108 129 = kk_108_129 := rfl
theorem kl_108_132 : qm_lk kt_108 132 = kk_108_132 := rfl
theorem kl_108_138 : qm_lk kt_108 138 = kk_108_138 := rfl
theorem kl_109_0 : qm_lk kt_109 0 = kk_109_0 := rfl
theorem kl_109_17 : qm_lk kt_109 17 = kk_109_17 := rfl
theorem kl_109_19 : qm_lk kt_109 19 = kk_109_19 := rfl
theorem kl_109_35 : qm_lk kt_109 35 = kk_109_35 := rfl
theorem kl_109_83 : qm_lk kt_109 83 = kk_109_83 := rfl
theorem kl_109_127 : qm_lk kt_109 127 = kk_109_127 := rfl
theorem kl_110_0 : qm_lk kt_110 0 = kk_110_0 := rfl
theorem kl_111_0 : qm_lk kt_111 0 = kk_111_0 := rfl
theorem kl_112_0 : qm_lk kt_112 0 = kk_112_0 := rfl
theorem kl_113_0 : qm_lk kt_113 0 = kk_113_0 := rfl
theorem kl_114_0 : qm_lk kt_114 0 = kk_114_0 := rfl
theorem kl_114_36 : qm_lk kt_114 36 = kk_114_36 := rfl
theorem kl_114_41 : qm_lk kt_114 41 = kk_114_41 := rfl
theorem kl_114_47 : qm_lk kt_114 47 = kk_114_47 := rfl
theorem kl_114_53 : qm_lk kt_114 53 = kk_114_53 := rfl
theorem kl_114_59 : qm_lk kt_114 59 = kk_114_59 := rfl
theorem kl_114_64 : qm_lk kt_114 64 = kk_114_64 := rfl
theorem kl_115_0 : qm_lk kt_115 0 = kk_115_0 := rfl
theorem kl_116_0 : qm_lk kt_116 0 = kk_116_0 := rfl
theorem kl_116_18 : qm_lk kt_116 18 = kk_116_18 := rfl
theorem kl_116_19 : qm_lk kt_116 19 = kk_116_19 := rfl
theorem kl_117_0 : qm_lk kt_117 0 = kk_117_0 := rfl
theorem kl_117_6 : qm_lk kt_117 6 = kk_117_6 := rfl
theorem kl_117_29 : qm_lk kt_117 29 = kk_117_29 := rfl
theorem kl_117_31 : qm_lk kt_117 31 = kk_117_31 := rfl
theorem kl_117_54 : qm_lk kt_117 54 = kk_117_54 := rfl
theorem kl_118_0 : qm_lk kt_118 0 = kk_118_0 := rfl
theorem kl_118_14 : qm_lk kt_118 14 = kk_118_14 := rfl
theorem kl_118_15 : qm_lk kt_118 15 = kk_118_15 := rfl
theorem kl_119_0 : qm_lk kt_119 0 = kk_119_0 := rfl
theorem kl_120_0 : qm_lk kt_120 0 = kk_120_0 := rfl
theorem kl_121_0 : qm_lk kt_121 0 = kk_121_0 := rfl
theorem kl_121_16 : qm_lk kt_121 16 = kk_121_16 := rfl
theorem kl_121_17 : qm_lk kt_121 17 = kk_121_17 := rfl
theorem kl_121_33 : qm_lk kt_121 33 = kk_121_33 := rfl
theorem kl_121_34 : qm_lk kt_121 34 = kk_121_34 := rfl
theorem kl_122_0 : qm_lk kt_122 0 = kk_122_0 := rfl
theorem kl_122_16 : qm_lk kt_122 16 = kk_122_16 := rfl
theorem kl_122_17 : qm_lk kt_122 17 = kk_122_17 := rfl
theorem kl_122_33 : qm_lk kt_122 33 = kk_122_33 := rfl
theorem kl_122_34 : qm_lk kt_122 34 = kk_122_34 := rfl
theorem kl_123_0 : qm_lk kt_123 0 = kk_123_0 := rfl
theorem kl_124_0 : qm_lk kt_124 0 = kk_124_0 := rfl
theorem kl_125_0 : qm_lk kt_125 0 = kk_125_0 := rfl
theorem kl_125_5 : qm_lk kt_125 5 = kk_125_5 := rfl
theorem kl_125_28 : qm_lk kt_125 28 = kk_125_28 := rfl
theorem kl_125_34 : qm_lk kt_125 34 = kk_125_34 := rfl
theorem kl_126_0 : qm_lk kt_126 0 = kk_126_0 := rfl
theorem kl_126_77 : qm_lk kt_126 77 = kk_126_77 := rfl
theorem kl_127_0 : qm_lk kt_127 0 = kk_127_0 := rfl
theorem kl_127_4 : qm_lk kt_127 4 = kk_127_4 := rfl
theorem kl_127_25 : qm_lk kt_127 25 = kk_127_25 := rfl
theorem kl_127_31 : qm_lk kt_127 31 = kk_127_31 := rfl
theorem kl_128_0 : qm_lk kt_128 0 = kk_128_0 := rfl
theorem kl_128_4 : qm_lk kt_128 4 = kk_128_4 := rfl
theorem kl_128_38 : qm_lk kt_128 38 = kk_128_38 := rfl
theorem kl_128_44 : qm_lk kt_128 44 = kk_128_44 := rfl
theorem kl_129_0 : qm_lk kt_129 0 = kk_129_0 := rfl
theorem kl_129_4 : qm_lk kt_129 4 = kk_129_4 := rfl
theorem kl_129_34 : qm_lk kt_129 34 = kk_129_34 := rfl
theorem kl_129_40 : qm_lk kt_129 40 = kk_129_40 := rfl
theorem kl_130_0 : qm_lk kt_130 0 = kk_130_0 := rfl
theorem kl_130_157 : qm_lk kt_130 157 = kk_130_157 := rfl
theorem kl_130_176 : qm_lk kt_130 176 = kk_130_176 := rfl
theorem kl_130_178 : qm_lk kt_130 178 = kk_130_178 := rfl
theorem kl_130_197 : qm_lk kt_130 197 = kk_130_197 := rfl
theorem kl_131_0 : qm_lk kt_131 0 = kk_131_0 := rfl
theorem kl_131_14 : qm_lk kt_131 14 = kk_131_14 := rfl
theorem kl_131_15 : qm_lk kt_131 15 = kk_131_15 := rfl
theorem kl_132_0 : qm_lk kt_132 0 = kk_132_0 := rfl
theorem kl_132_13 : qm_lk kt_132 13 = kk_132_13 := rfl
theorem kl_132_14 : qm_lk kt_132 14 = kk_132_14 := rfl
theorem kl_133_0 : qm_lk kt_133 0 = kk_133_0 := rfl
theorem kl_133_4 : qm_lk kt_133 4 = kk_133_4 := rfl
theorem kl_133_24 : qm_lk kt_133 24 = kk_133_24 := rfl
theorem kl_134_0 : qm_lk kt_134 0 = kk_134_0 := rfl
theorem kl_135_0 : qm_lk kt_135 0 = kk_135_0 := rfl
theorem kl_136_0 : qm_lk kt_136 0 = kk_136_0 := rfl
theorem kl_136_18 : qm_lk kt_136 18 = kk_136_18 := rfl
theorem kl_136_19 : qm_lk kt_136 19 = kk_136_19 := rfl
theorem kl_137_0 : qm_lk kt_137 0 = kk_137_0 := rfl
theorem kl_138_0 : qm_lk kt_138 0 = kk_138_0 := rfl
theorem kl_139_0 : qm_lk kt_139 0 = kk_139_0 := rfl
theorem kl_140_0 : qm_lk kt_140 0 = kk_140_0 := rfl
theorem kl_141_0 : qm_lk kt_141 0 = kk_141_0 := rfl
theorem kl_142_0 : qm_lk kt_142 0 = kk_142_0 := rfl
theorem kl_143_0 : qm_lk kt_143 0 = kk_143_0 := rfl
theorem kl_144_0 : qm_lk kt_144 0 = kk_144_0 := rfl
theorem kl_145_0 : qm_lk kt_145 0 = kk_145_0 := rfl
theorem kl_145_9 : qm_lk kt_145 9 = kk_145_9 := rfl
theorem kl_145_33 : qm_lk kt_145 33 = kk_145_33 := rfl
theorem kl_146_0 : qm_lk kt_146 0 = kk_146_0 := rfl
theorem kl_146_13 : qm_lk kt_146 13 = kk_146_13 := rfl
theorem kl_146_15 : qm_lk kt_146 15 = kk_146_15 := rfl
theorem kl_146_25 : qm_lk kt_146 25 = kk_146_25 := rfl
theorem kl_147_0 : qm_lk kt_147 0 = kk_147_0 := rfl
theorem kl_147_9 : qm_lk kt_147 9 = kk_147_9 := rfl
theorem kl_147_24 : qm_lk kt_147 24 = kk_147_24 := rfl
theorem kl_147_46 : qm_lk kt_147 46 = kk_147_46 := rfl
theorem kl_148_0 : qm_lk kt_148 0 = kk_148_0 := rfl
theorem kl_148_9 : qm_lk kt_148 9 = kk_148_9 := rfl
theorem kl_148_24 : qm_lk kt_148 24 = kk_148_24 := rfl
theorem kl_149_0 : qm_lk kt_149 0 = kk_149_0 := rfl
theorem kl_149_14 : qm_lk kt_149 14 = kk_149_14 := rfl
theorem kl_149_16 : qm_lk kt_149 16 = kk_149_16 := rfl
theorem kl_149_27 : qm_lk kt_149 27 = kk_149_27 := rfl
theorem kl_149_45 : qm_lk kt_149 45 = kk_149_45 := rfl
theorem kl_149_51 : qm_lk kt_149 51 = kk_149_51 := rfl
theorem kl_149_95 : qm_lk kt_149 95 = kk_149_95 := rfl
theorem kl_149_101 : qm_lk kt_149 101 = kk_149_101 := rfl
theorem kl_149_104 : qm_lk kt_149 104 = kk_149_104 := rfl
theorem kl_149_133 : qm_lk kt_149 133 = kk_149_133 := rfl
theorem kl_149_136 : qm_lk kt_149 136 = kk_149_136 := rfl
theorem kl_149_171 : qm_lk kt_149 171 = kk_149_171 := rfl
theorem kl_150_0 : qm_lk kt_150 0 = kk_150_0 := rfl
theorem kl_150_9 : qm_lk kt_150 9 = kk_150_9 := rfl
theorem kl_150_24 : qm_lk kt_150 24 = kk_150_24 := rfl
theorem kl_150_39 : qm_lk kt_150 39 = kk_150_39 := rfl
theorem kl_150_44 : qm_lk kt_150 44 = kk_150_44 := rfl
theorem kl_150_72 : qm_lk kt_150 72 = kk_150_72 := rfl
theorem kl_151_0 : qm_lk kt_151 0 = kk_151_0 := rfl
theorem kl_152_0 : qm_lk kt_152 0 = kk_152_0 := rfl
theorem kl_153_0 : qm_lk kt_153 0 = kk_153_0 := rfl
theorem kl_153_4 : qm_lk kt_153 4 = kk_153_4 := rfl
theorem kl_153_32 : qm_lk kt_153 32 = kk_153_32 := rfl
theorem kl_154_0 : qm_lk kt_154 0 = kk_154_0 := rfl
theorem kl_154_25 : qm_lk kt_154 25 = kk_154_25 := rfl
theorem kl_154_59 : qm_lk kt_154 59 = kk_154_59 := rfl
theorem kl_154_60 : qm_lk kt_154 60 = kk_154_60 := rfl
theorem kl_154_67 : qm_lk kt_154 67 = kk_154_67 := rfl
theorem kl_155_0 : qm_lk kt_155 0 = kk_155_0 := rfl
theorem kl_155_24 : qm_lk kt_155 24 = kk_155_24 := rfl
theorem kl_155_26 : qm_lk kt_155 26 = kk_155_26 := rfl
theorem kl_155_43 : qm_lk kt_155 43 = kk_155_43 := rfl
theorem kl_155_62 : qm_lk kt_155 62 = kk_155_62 := rfl
theorem kl_155_67 : qm_lk kt_155 67 = kk_155_67 := rfl
theorem kl_156_0 : qm_lk kt_156 0 = kk_156_0 := rfl
theorem kl_156_17 : qm_lk kt_156 17 = kk_156_17 := rfl
theorem kl_156_23 : qm_lk kt_156 23 = kk_156_23 := rfl
theorem kl_156_76 : qm_lk kt_156 76 = kk_156_76 := rfl
theorem kl_156_77 : qm_lk kt_156 77 = kk_156_77 := rfl
theorem kl_156_85 : qm_lk kt_156 85 = kk_156_85 := rfl
theorem kl_156_106 : qm_lk kt_156 106 = kk_156_106 := rfl
theorem kl_156_111 : qm_lk kt_156 111 = kk_156_111 := rfl
theorem kl_157_0 : qm_lk kt_157 0 = kk_157_0 := rfl
theorem kl_157_17 : qm_lk kt_157 17 = kk_157_17 := rfl
theorem kl_157_23 : qm_lk kt_157 23 = kk_157_23 := rfl
theorem kl_157_59 : qm_lk kt_157 59 = kk_157_59 := rfl
theorem kl_157_68 : qm_lk kt_157 68 = kk_157_68 := rfl
theorem kl_157_79 : qm_lk kt_157 79 = kk_157_79 := rfl
theorem kl_157_80 : qm_lk kt_157 80 = kk_157_80 := rfl
theorem kl_157_102 : qm_lk kt_157 102 = kk_157_102 := rfl
theorem kl_157_103 : qm_lk kt_157 103 = kk_157_103 := rfl
theorem kl_157_110 : qm_lk kt_157 110 = kk_157_110 := rfl
theorem kl_157_131 : qm_lk kt_157 131 = kk_157_131 := rfl
theorem kl_157_136 : qm_lk kt_157 136 = kk_157_136 := rfl
theorem kl_158_0 : qm_lk kt_158 0 = kk_158_0 := rfl
theorem kl_158_30 : qm_lk kt_158 30 = kk_158_30 := rfl
theorem kl_158_32 : qm_lk kt_158 32 = kk_158_32 := rfl
theorem kl_158_35 : qm_lk kt_158 35 = kk_158_35 := rfl
theorem kl_158_52 : qm_lk kt_158 52 = kk_158_52 := rfl
theorem kl_158_89 : qm_lk kt_158 89 = kk_158_89 := rfl
theorem kl_158_90 : qm_lk kt_158 90 = kk_158_90 := rfl
theorem kl_158_98 : qm_lk kt_158 98 = kk_158_98 := rfl
theorem kl_158_104 : qm_lk kt_158 104 = kk_158_104 := rfl
theorem kl_158_118 : qm_lk kt_158 118 = kk_158_118 := rfl
theorem kl_158_119 : qm_lk kt_158 119 = kk_158_119 := rfl
theorem kl_159_0 : qm_lk kt_159 0 = kk_159_0 := rfl
theorem kl_159_11 : qm_lk kt_159 11 = kk_159_11 := rfl
theorem kl_159_15 : qm_lk kt_159 15 = kk_159_15 := rfl
theorem kl_159_28 : qm_lk kt_159 28 = kk_159_28 := rfl
theorem kl_159_33 : qm_lk kt_159 33 = kk_159_33 := rfl
theorem kl_160_0 : qm_lk kt_160 0 = kk_160_0 := rfl
theorem kl_160_13 : qm_lk kt_160 13 = kk_160_13 := rfl
theorem kl_161_0 : qm_lk kt_161 0 = kk_161_0 := rfl
theorem kl_161_20 : qm_lk kt_161 20 = kk_161_20 := rfl
theorem kl_161_34 : qm_lk kt_161 34 = kk_161_34 := rfl
theorem kl_161_48 : qm_lk kt_161 48 = kk_161_48 := rfl
theorem kl_161_62 : qm_lk kt_161 62 = kk_161_62 := rfl
theorem kl_161_67 : qm_lk kt_161 67 = kk_161_67 := rfl
theorem kl_161_71 : qm_lk kt_161 71 = kk_161_71 := rfl
theorem kl_162_0 : qm_lk kt_162 0 = kk_162_0 := rfl
theorem kl_162_29 : qm_lk kt_162 29 = kk_162_29 := rfl
theorem kl_162_33 : qm_lk kt_162 33 = kk_162_33 := rfl
theorem kl_162_34 : qm_lk kt_162 34 = kk_162_34 := rfl
theorem kl_163_0 : qm_lk kt_163 0 = kk_163_0 := rfl
theorem kl_163_20 : qm_lk kt_163 20 = kk_163_20 := rfl
theorem kl_163_33 : qm_lk kt_163 33 = kk_163_33 := rfl
theorem kl_163_34 : qm_lk kt_163 34 = kk_163_34 := rfl
theorem kl_164_0 : qm_lk kt_164 0 = kk_164_0 := rfl
theorem kl_164_18 : qm_lk kt_164 18 = kk_164_18 := rfl
theorem kl_164_33 : qm_lk kt_164 33 = kk_164_33 := rfl
theorem kl_164_52 : qm_lk kt_164 52 = kk_164_52 := rfl
theorem kl_164_58 : qm_lk kt_164 58 = kk_164_58 := rfl
theorem kl_164_59 : qm_lk kt_164 59 = kk_164_59 := rfl
theorem kl_164_65 : qm_lk kt_164 65 = kk_164_65 := rfl
theorem kl_164_94 : qm_lk kt_164 94 = kk_164_94 := rfl
theorem kl_164_103 : qm_lk kt_164 103 = kk_164_103 := rfl
theorem kl_164_110 : qm_lk kt_164 110 = kk_164_110 := rfl
theorem kl_164_111 : qm_lk kt_164 111 = kk_164_111 := rfl
theorem kl_164_120 : qm_lk kt_164 120 = kk_164_120 := rfl
theorem kl_165_0 : qm_lk kt_165 0 = kk_165_0 := rfl
theorem kl_165_36 : qm_lk kt_165 36 = kk_165_36 := rfl
theorem kl_165_37 : qm_lk kt_165 37 = kk_165_37 := rfl
theorem kl_166_0 : qm_lk kt_166 0 = kk_166_0 := rfl
theorem kl_166_27 : qm_lk kt_166 27 = kk_166_27 := rfl
theorem kl_166_28 : qm_lk kt_166 28 = kk_166_28 := rfl
theorem kl_167_0 : qm_lk kt_167 0 = kk_167_0 := rfl
theorem kl_167_16 : qm_lk kt_167 16 = kk_167_16 := rfl
theorem kl_167_34 : qm_lk kt_167 34 = kk_167_34 := rfl
theorem kl_167_48 : qm_lk kt_167 48 = kk_167_48 := rfl
theorem kl_167_49 : qm_lk kt_167 49 = kk_167_49 := rfl
theorem kl_168_0 : qm_lk kt_168 0 = kk_168_0 := rfl
theorem kl_168_16 : qm_lk kt_168 16 = kk_168_16 := rfl
theorem kl_168_31 : qm_lk kt_168 31 = kk_168_31 := rfl
theorem kl_168_47 : qm_lk kt_168 47 = kk_168_47 := rfl
theorem kl_168_61 : qm_lk kt_168 61 = kk_168_61 := rfl
theorem kl_168_62 : qm_lk kt_168 62 = kk_168_62 := rfl
theorem kl_168_92 : qm_lk kt_168 92 = kk_168_92 := rfl
theorem kl_168_104 : qm_lk kt_168 104 = kk_168_104 := rfl
theorem kl_169_0 : qm_lk kt_169 0 = kk_169_0 := rfl
theorem kl_169_16 : qm_lk kt_169 16 = kk_169_16 := rfl
theorem kl_169_19 : qm_lk kt_169 19 = kk_169_19 := rfl
theorem kl_169_63 : qm_lk kt_169 63 = kk_169_63 := rfl
theorem kl_170_0 : qm_lk kt_170 0 = kk_170_0 := rfl
theorem kl_170_16 : qm_lk kt_170 16 = kk_170_16 := rfl
theorem kl_170_19 : qm_lk kt_170 19 = kk_170_19 := rfl
theorem kl_170_41 : qm_lk kt_170 41 = kk_170_41 := rfl
theorem kl_170_79 : qm_lk kt_170 79 = kk_170_79 := rfl
theorem kl_170_80 : qm_lk kt_170 80 = kk_170_80 := rfl
theorem kl_170_88 : qm_lk kt_170 88 = kk_170_88 := rfl
theorem kl_170_94 : qm_lk kt_170 94 = kk_170_94 := rfl
theorem kl_171_0 : qm_lk kt_171 0 = kk_171_0 := rfl
theorem kl_171_20 : qm_lk kt_171 20 = kk_171_20 := rfl
theorem kl_171_36 : qm_lk kt_171 36 = kk_171_36 := rfl
theorem kl_171_56 : qm_lk kt_171 56 = kk_171_56 := rfl
theorem kl_171_62 : qm_lk kt_171 62 = kk_171_62 := rfl
theorem kl_171_65 : qm_lk kt_171 65 = kk_171_65 := rfl
theorem kl_171_91 : qm_lk kt_171 91 = kk_171_91 := rfl
theorem kl_171_95 : qm_lk kt_171 95 = kk_171_95 := rfl
theorem kl_171_130 : qm_lk kt_171 130 = kk_171_130 := rfl
theorem kl_172_0 : qm_lk kt_172 0 = kk_172_0 := rfl
theorem kl_172_18 : qm_lk kt_172 18 = kk_172_18 := rfl
theorem kl_172_22 : qm_lk kt_172 22 = kk_172_22 := rfl
theorem kl_172_44 : qm_lk kt_172 44 = kk_172_44 := rfl
theorem kl_172_49 : qm_lk kt_172 49 = kk_172_49 := rfl
theorem kl_173_0 : qm_lk kt_173 0 = kk_173_0 := rfl
theorem kl_173_20 : qm_lk kt_173 20 = kk_173_20 := rfl
theorem kl_173_64 : qm_lk kt_173 64 = kk_173_64 := rfl
theorem kl_173_70 : qm_lk kt_173 70 = kk_173_70 := rfl
theorem kl_173_81 : qm_lk kt_173 81 = kk_173_81 := rfl
theorem kl_173_115 : qm_lk kt_173 115 = kk_173_115 := rfl
theorem kl_173_132 : qm_lk kt_173 132 = kk_173_132 := rfl
theorem kl_173_139 : qm_lk kt_173 139 = kk_173_139 := rfl
theorem kl_174_0 : qm_lk kt_174 0 = kk_174_0 := rfl
theorem kl_174_3 : qm_lk kt_174 3 = kk_174_3 := rfl
theorem kl_174_25 : qm_lk kt_174 25 = kk_174_25 := rfl
theorem kl_174_26 : qm_lk kt_174 26 = kk_174_26 := rfl
theorem kl_174_33 : qm_lk kt_174 33 = kk_174_33 := rfl
theorem kl_174_36 : qm_lk kt_174 36 = kk_174_36 := rfl
theorem kl_174_46 : qm_lk kt_174 46 = kk_174_46 := rfl
theorem kl_174_54 : qm_lk kt_174 54 = kk_174_54 := rfl
theorem kl_174_110 : qm_lk kt_174 110 = kk_174_110 := rfl
theorem kl_174_111 : qm_lk kt_174 111 = kk_174_111 := rfl
theorem kl_174_119 : qm_lk kt_174 119 = kk_174_119 := rfl
theorem kl_174_125 : qm_lk kt_174 125 = kk_174_125 := rfl
theorem kl_174_131 : qm_lk kt_174 131 = kk_174_131 := rfl
theorem kl_174_134 : qm_lk kt_174 134 = kk_174_134 := rfl
theorem kl_174_155 : qm_lk kt_174 155 = kk_174_155 := rfl
theorem kl_174_158 : qm_lk kt_174 158 = kk_174_158 := rfl
theorem kl_174_191 : qm_lk kt_174 191 = kk_174_191 := rfl
theorem kl_175_0 : qm_lk kt_175 0 = kk_175_0 := rfl
theorem kl_176_0 : qm_lk kt_176 0 = kk_176_0 := rfl
theorem kl_176_19 : qm_lk kt_176 19 = kk_176_19 := rfl
theorem kl_176_35 : qm_lk kt_176 35 = kk_176_35 := rfl
theorem kl_176_41 : qm_lk kt_176 41 = kk_176_41 := rfl
theorem kl_177_0 : qm_lk kt_177 0 = kk_177_0 := rfl
theorem kl_177_24 : qm_lk kt_177 24 = kk_177_24 := rfl
theorem kl_177_30 : qm_lk kt_177 30 = kk_177_30 := rfl
theorem kl_178_0 : qm_lk kt_178 0 = kk_178_0 := rfl
theorem kl_178_14 : qm_lk kt_178 14 = kk_178_14 := rfl
theorem kl_178_15 : qm_lk kt_178 15 = kk_178_15 := rfl
theorem kl_178_16 : qm_lk kt_178 16 = kk_178_16 := rfl
theorem kl_178_22 : qm_lk kt_178 22 = kk_178_22 := rfl
theorem kl_178_53 : qm_lk kt_178 53 = kk_178_53 := rfl
theorem kl_178_54 : qm_lk kt_178 54 = kk_178_54 := rfl
theorem kl_178_69 : qm_lk kt_178 69 = kk_178_69 := rfl
theorem kl_178_90 : qm_lk kt_178 90 = kk_178_90 := rfl
theorem kl_178_93 : qm_lk kt_178 93 = kk_178_93 := rfl
theorem kl_178_99 : qm_lk kt_178 99 = kk_178_99 := rfl
theorem kl_179_0 : qm_lk kt_179 0 = kk_179_0 := rfl
theorem kl_179_21 : qm_lk kt_179 21 = kk_179_21 := rfl
theorem kl_179_38 : qm_lk kt_179 38 = kk_179_38 := rfl
theorem kl_180_0 : qm_lk kt_180 0 = kk_180_0 := rfl
theorem kl_180_13 : qm_lk kt_180 13 = kk_180_13 := rfl
theorem kl_180_33 : qm_lk kt_180 33 = kk_180_33 := rfl
theorem kl_180_56 : qm_lk kt_180 56 = kk_180_56 := rfl
theorem kl_181_0 : qm_lk kt_181 0 = kk_181_0 := rfl
theorem kl_181_2 : qm_lk kt_181 2 = kk_181_2 := rfl
theorem kl_181_26 : qm_lk kt_181 26 = kk_181_26 := rfl
theorem kl_182_0 : qm_lk kt_182 0 = kk_182_0 := rfl
theorem kl_182_4 : qm_lk kt_182 4 = kk_182_4 := rfl
theorem kl_182_34 : qm_lk kt_182 34 = kk_182_34 := rfl
theorem kl_182_35 : qm_lk kt_182 35 = kk_182_35 := rfl
theorem kl_182_42 : qm_lk kt_182 42 = kk_182_42 := rfl
theorem kl_183_0 : qm_lk kt_183 0 = kk_183_0 := rfl
theorem kl_183_14 : qm_lk kt_183 14 = kk_183_14 := rfl
theorem kl_183_39 : qm_lk kt_183 39 = kk_183_39 := rfl
theorem kl_183_40 : qm_lk kt_183 40 = kk_183_40 := rfl
theorem kl_184_0 : qm_lk kt_184 0 = kk_184_0 := rfl
theorem kl_184_7 : qm_lk kt_184 7 = kk_184_7 := rfl
theorem kl_184_34 : qm_lk kt_184 34 = kk_184_34 := rfl
theorem kl_184_53 : qm_lk kt_184 53 = kk_184_53 := rfl
theorem kl_184_83 : qm_lk kt_184 83 = kk_184_83 := rfl
theorem kl_184_93 : qm_lk kt_184 93 = kk_184_93 := rfl
theorem kl_184_94 : qm_lk kt_184 94 = kk_184_94 := rfl
theorem kl_184_102 : qm_lk kt_184 102 = kk_184_102 := rfl
theorem kl_184_110 : qm_lk kt_184 110 = kk_184_110 := rfl
theorem kl_184_111 : qm_lk kt_184 111 = kk_184_111 := rfl
theorem kl_184_137 : qm_lk kt_184 137 = kk_184_137 := rfl
theorem kl_185_0 : qm_lk kt_185 0 = kk_185_0 := rfl
theorem kl_185_16 : qm_lk kt_185 16 = kk_185_16 := rfl
theorem kl_185_61 : qm_lk kt_185 61 = kk_185_61 := rfl
theorem kl_185_93 : qm_lk kt_185 93 = kk_185_93 := rfl
theorem kl_186_0 : qm_lk kt_186 0 = kk_186_0 := rfl
theorem kl_186_20 : qm_lk kt_186 20 = kk_186_20 := rfl
theorem kl_186_41 : qm_lk kt_186 41 = kk_186_41 := rfl
theorem kl_186_82 : qm_lk kt_186 82 = kk_186_82 := rfl
theorem kl_187_0 : qm_lk kt_187 0 = kk_187_0 := rfl
theorem kl_187_13 : qm_lk kt_187 13 = kk_187_13 := rfl
theorem kl_187_38 : qm_lk kt_187 38 = kk_187_38 := rfl
theorem kl_187_44 : qm_lk kt_187 44 = kk_187_44 := rfl
theorem kl_187_79 : qm_lk kt_187 79 = kk_187_79 := rfl
theorem kl_187_84 : qm_lk kt_187 84 = kk_187_84 := rfl
theorem kl_188_0 : qm_lk kt_188 0 = kk_188_0 := rfl
theorem kl_188_20 : qm_lk kt_188 20 = kk_188_20 := rfl
theorem kl_188_21 : qm_lk kt_188 21 = kk_188_21 := rfl
theorem kl_188_24 : qm_lk kt_188 24 = kk_188_24 := rfl
theorem kl_188_86 : qm_lk kt_188 86 = kk_188_86 := rfl
theorem kl_188_92 : qm_lk kt_188 92 = kk_188_92 := rfl
theorem kl_189_0 : qm_lk kt_189 0 = kk_189_0 := rfl
theorem kl_189_7 : qm_lk kt_189 7 = kk_189_7 := rfl
theorem kl_189_39 : qm_lk kt_189 39 = kk_189_39 := rfl
theorem kl_189_46 : qm_lk kt_189 46 = kk_189_46 := rfl
theorem kl_189_65 : qm_lk kt_189 65 = kk_189_65 := rfl
theorem kl_189_74 : qm_lk kt_189 74 = kk_189_74 := rfl
theorem kl_189_79 : qm_lk kt_189 79 = kk_189_79 := rfl
theorem kl_189_112 : qm_lk kt_189 112 = kk_189_112 := rfl
theorem kl_189_113 : qm_lk kt_189 113 = kk_189_113 := rfl
theorem kl_189_121 : qm_lk kt_189 121 = kk_189_121 := rfl
theorem kl_189_127 : qm_lk kt_189 127 = kk_189_127 := rfl
theorem kl_190_0 : qm_lk kt_190 0 = kk_190_0 := rfl
theorem kl_190_15 : qm_lk kt_190 15 = kk_190_15 := rfl
theorem kl_190_56 : qm_lk kt_190 56 = kk_190_56 := rfl
theorem kl_190_66 : qm_lk kt_190 66 = kk_190_66 := rfl
theorem kl_190_67 : qm_lk kt_190 67 = kk_190_67 := rfl
theorem kl_191_0 : qm_lk kt_191 0 = kk_191_0 := rfl
theorem kl_191_8 : qm_lk kt_191 8 = kk_191_8 := rfl
theorem kl_191_28 : qm_lk kt_191 28 = kk_191_28 := rfl
theorem kl_191_35 : qm_lk kt_191 35 = kk_191_35 := rfl
theorem kl_191_56 : qm_lk kt_191 56 = kk_191_56 := rfl
theorem kl_191_57 : qm_lk kt_191 57 = kk_191_57 := rfl
theorem kl_191_72 : qm_lk kt_191 72 = kk_191_72 := rfl
theorem kl_192_0 : qm_lk kt_192 0 = kk_192_0 := rfl
theorem kl_192_4 : qm_lk kt_192 4 = kk_192_4 := rfl
theorem kl_192_30 : qm_lk kt_192 30 = kk_192_30 := rfl
theorem kl_192_53 : qm_lk kt_192 53 = kk_192_53 := rfl
theorem kl_192_61 : qm_lk kt_192 61 = kk_192_61 := rfl
theorem kl_193_0 : qm_lk kt_193 0 = kk_193_0 := rfl
theorem kl_193_20 : qm_lk kt_193 20 = kk_193_20 := rfl
theorem kl_193_21 : qm_lk kt_193 21 = kk_193_21 := rfl
theorem kl_193_50 : qm_lk kt_193 50 = kk_193_50 := rfl
theorem kl_193_51 : qm_lk kt_193 51 = kk_193_51 := rfl
theorem kl_193_58 : qm_lk kt_193 58 = kk_193_58 := rfl
theorem kl_193_94 : qm_lk kt_193 94 = kk_193_94 := rfl
theorem kl_193_95 : qm_lk kt_193 95 = kk_193_95 := rfl
theorem kl_193_102 : qm_lk kt_193 102 = kk_193_102 := rfl
theorem kl_193_136 : qm_lk kt_193 136 = kk_193_136 := rfl
theorem kl_193_137 : qm_lk kt_193 137 = kk_193_137 := rfl
theorem kl_193_144 : qm_lk kt_193 144 = kk_193_144 := rfl
theorem kl_193_175 : qm_lk kt_193 175 = kk_193_175 := rfl
theorem kl_193_176 : qm_lk kt_193 176 = kk_193_176 := rfl
theorem kl_193_183 : qm_lk kt_193 183 = kk_193_183 := rfl
theorem kl_193_207 : qm_lk kt_193 207 = kk_193_207 := rfl
theorem kl_193_211 : qm_lk kt_193 211 = kk_193_211 := rfl
theorem kl_193_228 : qm_lk kt_193 228 = kk_193_228 := rfl
theorem kl_193_232 : qm_lk kt_193 232 = kk_193_232 := rfl
theorem kl_193_257 : qm_lk kt_193 257 = kk_193_257 := rfl
theorem kl_193_261 : qm_lk kt_193 261 = kk_193_261 := rfl
theorem kl_193_286 : qm_lk kt_193 286 = kk_193_286 := rfl
theorem kl_193_290 : qm_lk kt_193 290 = kk_193_290 := rfl
theorem kl_193_294 : qm_lk kt_193 294 = kk_193_294 := rfl
theorem kl_193_310 : qm_lk kt_193 310 = kk_193_310 := rfl
theorem kl_193_311 : qm_lk kt_193 311 = kk_193_311 := rfl
theorem kl_193_315 : qm_lk kt_193 315 = kk_193_315 := rfl
theorem kl_194_0 : qm_lk kt_194 0 = kk_194_0 := rfl
theorem kl_195_0 : qm_lk kt_195 0 = kk_195_0 := rfl
theorem kl_195_25 : qm_lk kt_195 25 = kk_195_25 := rfl
theorem kl_195_26 : qm_lk kt_195 26 = kk_195_26 := rfl
theorem kl_195_40 : qm_lk kt_195 40 = kk_195_40 := rfl
theorem kl_196_0 : qm_lk kt_196 0 = kk_196_0 := rfl
theorem kl_196_19 : qm_lk kt_196 19 = kk_196_19 := rfl
theorem kl_196_20 : qm_lk kt_196 20 = kk_196_20 := rfl
theorem kl_196_21 : qm_lk kt_196 21 = kk_196_21 := rfl
theorem kl_196_37 : qm_lk kt_196 37 = kk_196_37 := rfl
theorem kl_196_96 : qm_lk kt_196 96 = kk_196_96 := rfl
theorem kl_196_97 : qm_lk kt_196 97 = kk_196_97 := rfl
theorem kl_196_106 : qm_lk kt_196 106 = kk_196_106 := rfl
theorem kl_197_0 : qm_lk kt_197 0 = kk_197_0 := rfl
theorem kl_197_23 : qm_lk kt_197 23 = kk_197_23 := rfl
theorem kl_197_25 : qm_lk kt_197 25 = kk_197_25 := rfl
theorem kl_197_37 : qm_lk kt_197 37 = kk_197_37 := rfl
theorem kl_197_60 : qm_lk kt_197 60 = kk_197_60 := rfl
theorem kl_197_152 : qm_lk kt_197 152 = kk_197_152 := rfl
theorem kl_197_159 : qm_lk kt_197 159 = kk_197_159 := rfl
theorem kl_197_165 : qm_lk kt_197 165 = kk_197_165 := rfl
theorem kl_197_183 : qm_lk kt_197 183 = kk_197_183 := rfl
theorem kl_197_192 : qm_lk kt_197 192 = kk_197_192 := rfl
theorem kl_197_213 : qm_lk kt_197 213 = kk_197_213 := rfl
theorem kl_197_214 : qm_lk kt_197 214 = kk_197_214 := rfl
theorem kl_197_223 : qm_lk kt_197 223 = kk_197_223 := rfl
theorem kl_198_0 : qm_lk kt_198 0 = kk_198_0 := rfl
theorem kl_198_13 : qm_lk kt_198 13 = kk_198_13 := rfl
theorem kl_198_46 : qm_lk kt_198 46 = kk_198_46 := rfl
theorem kl_199_0 : qm_lk kt_199 0 = kk_199_0 := rfl
theorem kl_199_27 : qm_lk kt_199 27 = kk_199_27 := rfl
theorem kl_199_28 : qm_lk kt_199 28 = kk_199_28 := rfl
theorem kl_199_42 : qm_lk kt_199 42 = kk_199_42 := rfl
theorem kl_199_59 : qm_lk kt_199 59 = kk_199_59 := rfl
theorem kl_200_0 : qm_lk kt_200 0 = kk_200_0 := rfl
theorem kl_200_14 : qm_lk kt_200 14 = kk_200_14 := rfl
theorem kl_200_16 : qm_lk kt_200 16 = kk_200_16 := rfl
theorem kl_200_34 : qm_lk kt_200 34 = kk_200_34 := rfl
theorem kl_200_40 : qm_lk kt_200 40 = kk_200_40 := rfl
theorem kl_200_61 : qm_lk kt_200 61 = kk_200_61 := rfl
theorem kl_200_83 : qm_lk kt_200 83 = kk_200_83 := rfl
theorem kl_200_87 : qm_lk kt_200 87 = kk_200_87 := rfl
theorem kl_200_88 : qm_lk kt_200 88 = kk_200_88 := rfl
theorem kl_200_98 : qm_lk kt_200 98 = kk_200_98 := rfl
theorem kl_200_151 : qm_lk kt_200 151 = kk_200_151 := rfl
theorem kl_200_152 : qm_lk kt_200 152 = kk_200_152 := rfl
theorem kl_200_168 : qm_lk kt_200 168 = kk_200_168 := rfl
theorem kl_200_169 : qm_lk kt_200 169 = kk_200_169 := rfl
theorem kl_200_186 : qm_lk kt_200 186 = kk_200_186 := rfl
theorem kl_200_187 : qm_lk kt_200 187 = kk_200_187 := rfl
theorem kl_200_199 : qm_lk kt_200 199 = kk_200_199 := rfl
theorem kl_200_214 : qm_lk kt_200 214 = kk_200_214 := rfl
theorem kl_200_223 : qm_lk kt_200 223 = kk_200_223 := rfl
theorem kl_200_228 : qm_lk kt_200 228 = kk_200_228 := rfl
theorem kl_201_0 : qm_lk kt_201 0 = kk_201_0 := rfl
theorem kl_201_14 : qm_lk kt_201 14 = kk_201_14 := rfl
theorem kl_201_46 : qm_lk kt_201 46 = kk_201_46 := rfl
theorem kl_201_53 : qm_lk kt_201 53 = kk_201_53 := rfl
theorem kl_201_58 : qm_lk kt_201 58 = kk_201_58 := rfl
theorem kl_201_116 : qm_lk kt_201 116 = kk_201_116 := rfl
theorem kl_201_117 : qm_lk kt_201 117 = kk_201_117 := rfl
theorem kl_201_125 : qm_lk kt_201 125 = kk_201_125 := rfl
theorem kl_201_143 : qm_lk kt_201 143 = kk_201_143 := rfl
theorem kl_201_152 : qm_lk kt_201 152 = kk_201_152 := rfl
theorem kl_201_173 : qm_lk kt_201 173 = kk_201_173 := rfl
theorem kl_201_174 : qm_lk kt_201 174 = kk_201_174 := rfl
theorem kl_201_183 : qm_lk kt_201 183 = kk_201_183 := rfl
theorem kl_202_0 : qm_lk kt_202 0 = kk_202_0 := rfl
theorem kl_202_16 : qm_lk kt_202 16 = kk_202_16 := rfl
theorem kl_202_22 : qm_lk kt_202 22 = kk_202_22 := rfl
theorem kl_203_0 : qm_lk kt_203 0 = kk_203_0 := rfl
theorem kl_203_14 : qm_lk kt_203 14 = kk_203_14 := rfl
theorem kl_203_36 : qm_lk kt_203 36 = kk_203_36 := rfl
theorem kl_204_0 : qm_lk kt_204 0 = kk_204_0 := rfl
theorem kl_204_8 : qm_lk kt_204 8 = kk_204_8 := rfl
theorem kl_204_25 : qm_lk kt_204 25 = kk_204_25 := rfl
theorem kl_205_0 : qm_lk kt_205 0 = kk_205_0 := rfl
theorem kl_205_15 : qm_lk kt_205 15 = kk_205_15 := rfl
theorem kl_205_20 : qm_lk kt_205 20 = kk_205_20 := rfl
theorem kl_206_0 : qm_lk kt_206 0 = kk_206_0 := rfl
theorem kl_206_13 : qm_lk kt_206 13 = kk_206_13 := rfl
theorem kl_206_22 : qm_lk kt_206 22 = kk_206_22 := rfl
theorem kl_206_41 : qm_lk kt_206 41 = kk_206_41 := rfl
theorem kl_206_68 : qm_lk kt_206 68 = kk_206_68 := rfl
theorem kl_206_75 : qm_lk kt_206 75 = kk_206_75 := rfl
theorem kl_206_84 : qm_lk kt_206 84 = kk_206_84 := rfl
theorem kl_206_114 : qm_lk kt_206 114 = kk_206_114 := rfl
theorem kl_206_116 : qm_lk kt_206 116 = kk_206_116 := rfl
theorem kl_206_129 : qm_lk kt_206 129 = kk_206_129 := rfl
theorem kl_206_130 : qm_lk kt_206 130 = kk_206_130 := rfl
theorem kl_206_137 : qm_lk kt_206 137 = kk_206_137 := rfl
theorem kl_207_0 : qm_lk kt_207 0 = kk_207_0 := rfl
theorem kl_207_16 : qm_lk kt_207 16 = kk_207_16 := rfl
theorem kl_207_32 : qm_lk kt_207 32 = kk_207_32 := rfl
theorem kl_207_70 : qm_lk kt_207 70 = kk_207_70 := rfl
theorem kl_207_83 : qm_lk kt_207 83 = kk_207_83 := rfl
theorem kl_207_84 : qm_lk kt_207 84 = kk_207_84 := rfl
theorem kl_208_0 : qm_lk kt_208 0 = kk_208_0 := rfl
theorem kl_208_14 : qm_lk kt_208 14 = kk_208_14 := rfl
theorem kl_208_16 : qm_lk kt_208 16 = kk_208_16 := rfl
theorem kl_208_34 : qm_lk kt_208 34 = kk_208_34 := rfl
theorem kl_208_40 : qm_lk kt_208 40 = kk_208_40 := rfl
theorem kl_208_68 : qm_lk kt_208 68 = kk_208_68 := rfl
theorem kl_208_73 : qm_lk kt_208 73 = kk_208_73 := rfl
theorem kl_208_111 : qm_lk kt_208 111 = kk_208_111 := rfl
theorem kl_208_112 : qm_lk kt_208 112 = kk_208_112 := rfl
theorem kl_208_119 : qm_lk kt_208 119 = kk_208_119 := rfl
theorem kl_208_132 : qm_lk kt_208 132 = kk_208_132 := rfl
theorem kl_208_137 : qm_lk kt_208 137 = kk_208_137 := rfl
theorem kl_209_0 : qm_lk kt_209 0 = kk_209_0 := rfl
theorem kl_209_13 : qm_lk kt_209 13 = kk_209_13 := rfl
theorem kl_210_0 : qm_lk kt_210 0 = kk_210_0 := rfl
theorem kl_210_16 : qm_lk kt_210 16 = kk_210_16 := rfl
theorem kl_210_33 : qm_lk kt_210 33 = kk_210_33 := rfl
theorem kl_210_70 : qm_lk kt_210 70 = kk_210_70 := rfl
theorem kl_210_79 : qm_lk kt_210 79 = kk_210_79 := rfl
theorem kl_211_0 : qm_lk kt_211 0 = kk_211_0 := rfl
theorem kl_211_15 : qm_lk kt_211 15 = kk_211_15 := rfl
theorem kl_211_34 : qm_lk kt_211 34 = kk_211_34 := rfl
theorem kl_211_39 : qm_lk kt_211 39 = kk_211_39 := rfl
theorem kl_212_0 : qm_lk kt_212 0 = kk_212_0 := rfl
theorem kl_212_25 : qm_lk kt_212 25 = kk_212_25 := rfl
theorem kl_212_26 : qm_lk kt_212 26 = kk_212_26 := rfl
theorem kl_212_40 : qm_lk kt_212 40 = kk_212_40 := rfl
theorem kl_213_0 : qm_lk kt_213 0 = kk_213_0 := rfl
theorem kl_213_19 : qm_lk kt_213 19 = kk_213_19 := rfl
theorem kl_214_0 : qm_lk kt_214 0 = kk_214_0 := rfl
theorem kl_214_17 : qm_lk kt_214 17 = kk_214_17 := rfl
theorem kl_214_26 : qm_lk kt_214 26 = kk_214_26 := rfl
theorem kl_214_51 : qm_lk kt_214 51 = kk_214_51 := rfl
theorem kl_214_63 : qm_lk kt_214 63 = kk_214_63 := rfl
theorem kl_214_88 : qm_lk kt_214 88 = kk_214_88 := rfl
theorem kl_214_99 : qm_lk kt_214 99 = kk_214_99 := rfl
theorem kl_214_100 : qm_lk kt_214 100 = kk_214_100 := rfl
theorem kl_214_116 : qm_lk kt_214 116 = kk_214_116 := rfl
theorem kl_215_0 : qm_lk kt_215 0 = kk_215_0 := rfl
theorem kl_215_19 : qm_lk kt_215 19 = kk_215_19 := rfl
theorem kl_215_22 : qm_lk kt_215 22 = kk_215_22 := rfl
theorem kl_215_45 : qm_lk kt_215 45 = kk_215_45 := rfl
theorem kl_215_46 : qm_lk kt_215 46 = kk_215_46 := rfl
theorem kl_215_53 : qm_lk kt_215 53 = kk_215_53 := rfl
theorem kl_215_56 : qm_lk kt_215 56 = kk_215_56 := rfl
theorem kl_215_68 : qm_lk kt_215 68 = kk_215_68 := rfl
theorem kl_215_76 : qm_lk kt_215 76 = kk_215_76 := rfl
theorem kl_215_143 : qm_lk kt_215 143 = kk_215_143 := rfl
theorem kl_215_149 : qm_lk kt_215 149 = kk_215_149 := rfl
theorem kl_215_155 : qm_lk kt_215 155 = kk_215_155 := rfl
theorem kl_215_161 : qm_lk kt_215 161 = kk_215_161 := rfl
theorem kl_215_167 : qm_lk kt_215 167 = kk_215_167 := rfl
theorem kl_215_196 : qm_lk kt_215 196 = kk_215_196 := rfl
theorem kl_215_197 : qm_lk kt_215 197 = kk_215_197 := rfl
theorem kl_215_206 : qm_lk kt_215 206 = kk_215_206 := rfl
theorem kl_216_0 : qm_lk kt_216 0 = kk_216_0 := rfl
theorem kl_216_11 : qm_lk kt_216 11 = kk_216_11 := rfl
theorem kl_216_15 : qm_lk kt_216 15 = kk_216_15 := rfl
theorem kl_216_39 : qm_lk kt_216 39 = kk_216_39 := rfl
theorem kl_216_40 : qm_lk kt_216 40 = kk_216_40 := rfl
theorem kl_216_48 : qm_lk kt_216 48 = kk_216_48 := rfl
theorem kl_216_50 : qm_lk kt_216 50 = kk_216_50 := rfl
theorem kl_216_83 : qm_lk kt_216 83 = kk_216_83 := rfl
theorem kl_216_103 : qm_lk kt_216 103 = kk_216_103 := rfl
theorem kl_216_118 : qm_lk kt_216 118 = kk_216_118 := rfl
theorem kl_216_122 : qm_lk kt_216 122 = kk_216_122 := rfl
theorem kl_216_123 : qm_lk kt_216 123 = kk_216_123 := rfl
theorem kl_216_125 : qm_lk kt_216 125 = kk_216_125 := rfl
theorem kl_216_131 : qm_lk kt_216 131 = kk_216_131 := rfl
theorem kl_217_0 : qm_lk kt_217 0 = kk_217_0 := rfl
theorem kl_217_6 : qm_lk kt_217 6 = kk_217_6 := rfl
theorem kl_217_32 : qm_lk kt_217 32 = kk_217_32 := rfl
theorem kl_217_73 : qm_lk kt_217 73 = kk_217_73 := rfl
theorem kl_217_105 : qm_lk kt_217 105 = kk_217_105 := rfl
theorem kl_217_111 : qm_lk kt_217 111 = kk_217_111 := rfl
theorem kl_217_113 : qm_lk kt_217 113 = kk_217_113 := rfl
theorem kl_217_136 : qm_lk kt_217 136 = kk_217_136 := rfl
theorem kl_217_168 : qm_lk kt_217 168 = kk_217_168 := rfl
theorem kl_217_174 : qm_lk kt_217 174 = kk_217_174 := rfl
theorem kl_218_0 : qm_lk kt_218 0 = kk_218_0 := rfl
theorem kl_219_0 : qm_lk kt_219 0 = kk_219_0 := rfl
theorem kl_219_17 : qm_lk kt_219 17 = kk_219_17 := rfl
theorem kl_219_34 : qm_lk kt_219 34 = kk_219_34 := rfl
theorem kl_219_49 : qm_lk kt_219 49 = kk_219_49 := rfl
theorem kl_219_62 : qm_lk kt_219 62 = kk_219_62 := rfl
theorem kl_219_74 : qm_lk kt_219 74 = kk_219_74 := rfl
theorem kl_220_0 : qm_lk kt_220 0 = kk_220_0 := rfl
theorem kl_221_0 : qm_lk kt_221 0 = kk_221_0 := rfl
theorem kl_221_9 : qm_lk kt_221 9 = kk_221_9 := rfl
theorem kl_221_10 : qm_lk kt_221 10 = kk_221_10 := rfl
theorem kl_222_0 : qm_lk kt_222 0 = kk_222_0 := rfl
theorem kl_222_5 : qm_lk kt_222 5 = kk_222_5 := rfl
theorem kl_222_20 : qm_lk kt_222 20 = kk_222_20 := rfl
theorem kl_223_0 : qm_lk kt_223 0 = kk_223_0 := rfl
theorem kl_223_18 : qm_lk kt_223 18 = kk_223_18 := rfl
theorem kl_223_232 : qm_lk kt_223 232 = kk_223_232 := rfl
theorem kl_223_265 : qm_lk kt_223 265 = kk_223_265 := rfl
theorem kl_223_308 : qm_lk kt_223 308 = kk_223_308 := rfl
theorem kl_223_331 : qm_lk kt_223 331 = kk_223_331 := rfl
theorem kl_223_394 : qm_lk kt_223 394 = kk_223_394 := rfl
theorem kl_223_417 : qm_lk kt_223 417 = kk_223_417 := rfl
theorem kl_223_460 : qm_lk kt_223 460 = kk_223_460 := rfl
theorem kl_223_503 : qm_lk kt_223 503 = kk_223_503 := rfl
theorem kl_223_546 : qm_lk kt_223 546 = kk_223_546 := rfl
theorem kl_223_569 : qm_lk kt_223 569 = kk_223_569 := rfl
theorem kl_223_602 : qm_lk kt_223 602 = kk_223_602 := rfl
theorem kl_223_635 : qm_lk kt_223 635 = kk_223_635 := rfl
theorem kl_223_668 : qm_lk kt_223 668 = kk_223_668 := rfl
theorem kl_223_711 : qm_lk kt_223 711 = kk_223_711 := rfl
theorem kl_223_739 : qm_lk kt_223 739 = kk_223_739 := rfl
theorem kl_223_740 : qm_lk kt_223 740 = kk_223_740 := rfl
theorem kl_223_771 : qm_lk kt_223 771 = kk_223_771 := rfl
theorem kl_223_772 : qm_lk kt_223 772 = kk_223_772 := rfl
theorem kl_223_780 : qm_lk kt_223 780 = kk_223_780 := rfl
theorem kl_223_813 : qm_lk kt_223 813 = kk_223_813 := rfl
theorem kl_223_846 : qm_lk kt_223 846 = kk_223_846 := rfl
theorem kl_223_899 : qm_lk kt_223 899 = kk_223_899 := rfl
theorem kl_223_942 : qm_lk kt_223 942 = kk_223_942 := rfl
theorem kl_223_975 : qm_lk kt_223 975 = kk_223_975 := rfl
theorem kl_223_1008 : qm_lk kt_223 1008 = kk_223_1008 := rfl
theorem kl_223_1031 : qm_lk kt_223 1031 = kk_223_1031 := rfl
theorem kl_223_1064 : qm_lk kt_223 1064 = kk_223_1064 := rfl
theorem kl_223_1097 : qm_lk kt_223 1097 = kk_223_1097 := rfl
theorem kl_223_1130 : qm_lk kt_223 1130 = kk_223_1130 := rfl
theorem kl_223_1163 : qm_lk kt_223 1163 = kk_223_1163 := rfl
theorem kl_223_1206 : qm_lk kt_223 1206 = kk_223_1206 := rfl
theorem kl_223_1259 : qm_lk kt_223 1259 = kk_223_1259 := rfl
theorem kl_223_1292 : qm_lk kt_223 1292 = kk_223_1292 := rfl
theorem kl_223_1325 : qm_lk kt_223 1325 = kk_223_1325 := rfl
theorem kl_223_1348 : qm_lk kt_223 1348 = kk_223_1348 := rfl
theorem kl_223_1371 : qm_lk kt_223 1371 = kk_223_1371 := rfl
theorem kl_223_1414 : qm_lk kt_223 1414 = kk_223_1414 := rfl
theorem kl_223_1447 : qm_lk kt_223 1447 = kk_223_1447 := rfl
theorem kl_223_1500 : qm_lk kt_223 1500 = kk_223_1500 := rfl
theorem kl_223_1543 : qm_lk kt_223 1543 = kk_223_1543 := rfl
theorem kl_223_1576 : qm_lk kt_223 1576 = kk_223_1576 := rfl
theorem kl_223_1619 : qm_lk kt_223 1619 = kk_223_1619 := rfl
theorem kl_223_1652 : qm_lk kt_223 1652 = kk_223_1652 := rfl
theorem kl_223_1666 : qm_lk kt_223 1666 = kk_223_1666 := rfl
theorem kl_223_1679 : qm_lk kt_223 1679 = kk_223_1679 := rfl
theorem kl_223_1693 : qm_lk kt_223 1693 = kk_223_1693 := rfl
theorem kl_223_1707 : qm_lk kt_223 1707 = kk_223_1707 := rfl
theorem kl_223_1730 : qm_lk kt_223 1730 = kk_223_1730 := rfl
theorem kl_223_1743 : qm_lk kt_223 1743 = kk_223_1743 := rfl
theorem kl_223_1766 : qm_lk kt_223 1766 = kk_223_1766 := rfl
theorem kl_223_1780 : qm_lk kt_223 1780 = kk_223_1780 := rfl
theorem kl_223_1786 : qm_lk kt_223 1786 = kk_223_1786 := rfl
section KEE
variable (X : qm_X) (d : Nat) (h : qm_H)
theorem kM_0 : qm_M 0 = (1, kt_0) := rfl
theorem ke_0 (x0 : Nat) : qm_ex qm_M X (d + 1) 0 [.ref x0] h = qm_go (qm_ex qm_M X d) X kt_0 kk_0_0 [.val (.ref x0)] [] h := by rw [qm_ex_eq, kM_0]; exact if_pos rfl
theorem kM_1 : qm_M 1 = (4, kt_1) := rfl
theorem ke_1 (x0 : Nat) (x1 : Nat) (x2 : Int32) : qm_ex qm_M X (d + 1) 1 [.ref x0, .ref x1, .int x2] h = qm_go (qm_ex qm_M X d) X kt_1 kk_1_0 [.val (.ref x0), .val (.ref x1), .val (.int x2), .unset] [] h := by rw [qm_ex_eq, kM_1]; exact if_pos rfl
theorem kM_2 : qm_M 2 = (4, kt_2) := rfl
theorem ke_2 (x0 : Nat) (x1 : Nat) : qm_ex qm_M X (d + 1) 2 [.ref x0, .ref x1] h = qm_go (qm_ex qm_M X d) X kt_2 kk_2_0 [.val (.ref x0), .val (.ref x1), .unset, .unset] [] h := by rw [qm_ex_eq, kM_2]; exact if_pos rfl
theorem kM_3 : qm_M 3 = (7, kt_3) := rfl
theorem ke_3 (x0 : Nat) (x1 : Nat) (x2 : Int32) : qm_ex qm_M X (d + 1) 3 [.ref x0, .ref x1, .int x2] h = qm_go (qm_ex qm_M X d) X kt_3 kk_3_0 [.val (.ref x0), .val (.ref x1), .val (.int x2), .unset, .unset, .unset, .unset] [] h := by rw [qm_ex_eq, kM_3]; exact if_pos rfl
theorem kM_4 : qm_M 4 = (7, kt_4) := rfl
theorem ke_4 (x0 : Nat) (x1 : Nat) (x2 : Int32) (x3 : Int32) : qm_ex qm_M X (d + 1) 4 [.ref x0, .ref x1, .int x2, .int x3] h = qm_go (qm_ex qm_M X d) X kt_4 kk_4_0 [.val (.ref x0), .val (.ref x1), .val (.int x2), .val (.int x3), .unset, .unset, .unset] [] h := by rw [qm_ex_eq, kM_4]; exact if_pos rfl
theorem kM_5 : qm_M 5 = (4, kt_5) := rfl
theorem ke_5 (x0 : Nat) (x1 : Int32) : qm_ex qm_M X (d + 1) 5 [.ref x0, .int x1] h = qm_go (qm_ex qm_M X d) X kt_5 kk_5_0 [.val (.ref x0), .val (.int x1), .unset, .unset] [] h := by rw [qm_ex_eq, kM_5]; exact if_pos rfl
theorem kM_6 : qm_M 6 = (8, kt_6) := rfl
theorem ke_6 (x0 : Nat) (x1 : Int32) (x2 : Int32) : qm_ex qm_M X (d + 1) 6 [.ref x0, .int x1, .int x2] h = qm_go (qm_ex qm_M X d) X kt_6 kk_6_0 [.val (.ref x0), .val (.int x1), .val (.int x2), .unset, .unset, .unset, .unset, .unset] [] h := by rw [qm_ex_eq, kM_6]; exact if_pos rfl
theorem kM_7 : qm_M 7 = (3, kt_7) := rfl
theorem ke_7 (x0 : Nat) (x1 : Int32) (x2 : Int32) : qm_ex qm_M X (d + 1) 7 [.ref x0, .int x1, .int x2] h = qm_go (qm_ex qm_M X d) X kt_7 kk_7_0 [.val (.ref x0), .val (.int x1), .val (.int x2)] [] h := by rw [qm_ex_eq, kM_7]; exact if_pos rfl
theorem kM_8 : qm_M 8 = (1, kt_8) := rfl
theorem ke_8 (x0 : Nat) : qm_ex qm_M X (d + 1) 8 [.ref x0] h = qm_go (qm_ex qm_M X d) X kt_8 kk_8_0 [.val (.ref x0)] [] h := by rw [qm_ex_eq, kM_8]; exact if_pos rfl
theorem kM_9 : qm_M 9 = (1, kt_9) := rfl
theorem ke_9 (x0 : Nat) : qm_ex qm_M X (d + 1) 9 [.ref x0] h = qm_go (qm_ex qm_M X d) X kt_9 kk_9_0 [.val (.ref x0)] [] h := by rw [qm_ex_eq, kM_9]; exact if_pos rfl
theorem kM_10 : qm_M 10 = (4, kt_10) := rfl
theorem ke_10 (x0 : Nat) (x1 : Int32) (x2 : Int32) (x3 : Int32) : qm_ex qm_M X (d + 1) 10 [.ref x0, .int x1, .int x2, .int x3] h = qm_go (qm_ex qm_M X d) X kt_10 kk_10_0 [.val (.ref x0), .val (.int x1), .val (.int x2), .val (.int x3)] [] h := by rw [qm_ex_eq, kM_10]; exact if_pos rfl
theorem kM_11 : qm_M 11 = (2, kt_11) := rfl
theorem ke_11 (x0 : Nat) (x1 : Nat) : qm_ex qm_M X (d + 1) 11 [.ref x0, .ref x1] h = qm_go (qm_ex qm_M X d) X kt_11 kk_11_0 [.val (.ref x0), .val (.ref x1)] [] h := by rw [qm_ex_eq, kM_11]; exact if_pos rfl
theorem kM_12 : qm_M 12 = (5, kt_12) := rfl
theorem ke_12 (x0 : Nat) (x1 : Nat) (x2 : Int32) (x3 : Int32) : qm_ex qm_M X (d + 1) 12 [.ref x0, .ref x1, .int x2, .int x3] h = qm_go (qm_ex qm_M X d) X kt_12 kk_12_0 [.val (.ref x0), .val (.ref x1), .val (.int x2), .val (.int x3), .unset] [] h := by rw [qm_ex_eq, kM_12]; exact if_pos rfl
theorem kM_13 : qm_M 13 = (5, kt_13) := rfl
theorem ke_13 (x0 : Nat) (x1 : Nat) (x2 : Int32) : qm_ex qm_M X (d + 1) 13 [.ref x0, .ref x1, .int x2] h = qm_go (qm_ex qm_M X d) X kt_13 kk_13_0 [.val (.ref x0), .val (.ref x1), .val (.int x2), .unset, .unset] [] h := by rw [qm_ex_eq, kM_13]; exact if_pos rfl
theorem kM_14 : qm_M 14 = (2, kt_14) := rfl
theorem ke_14 (x0 : Nat) (x1 : Int32) : qm_ex qm_M X (d + 1) 14 [.ref x0, .int x1] h = qm_go (qm_ex qm_M X d) X kt_14 kk_14_0 [.val (.ref x0), .val (.int x1)] [] h := by rw [qm_ex_eq, kM_14]; exact if_pos rfl
theorem kM_15 : qm_M 15 = (1, kt_15) := rfl
theorem ke_15 (x0 : Nat) : qm_ex qm_M X (d + 1) 15 [.ref x0] h = qm_go (qm_ex qm_M X d) X kt_15 kk_15_0 [.val (.ref x0)] [] h := by rw [qm_ex_eq, kM_15]; exact if_pos rfl
theorem kM_16 : qm_M 16 = (1, kt_16) := rfl
theorem ke_16 (x0 : Nat) : qm_ex qm_M X (d + 1) 16 [.ref x0] h = qm_go (qm_ex qm_M X d) X kt_16 kk_16_0 [.val (.ref x0)] [] h := by rw [qm_ex_eq, kM_16]; exact if_pos rfl
theorem kM_17 : qm_M 17 = (1, kt_17) := rfl
theorem ke_17 (x0 : Nat) : qm_ex qm_M X (d + 1) 17 [.ref x0] h = qm_go (qm_ex qm_M X d) X kt_17 kk_17_0 [.val (.ref x0)] [] h := by rw [qm_ex_eq, kM_17]; exact if_pos rfl
theorem kM_18 : qm_M 18 = (3, kt_18) := rfl
theorem ke_18 (x0 : Nat) (x1 : Int32) (x2 : Int32) : qm_ex qm_M X (d + 1) 18 [.ref x0, .int x1, .int x2] h = qm_go (qm_ex qm_M X d) X kt_18 kk_18_0 [.val (.ref x0), .val (.int x1), .val (.int x2)] [] h := by rw [qm_ex_eq, kM_18]; exact if_pos rfl
theorem kM_19 : qm_M 19 = (3, kt_19) := rfl
theorem ke_19 (x0 : Nat) (x1 : Int32) (x2 : Int32) : qm_ex qm_M X (d + 1) 19 [.ref x0, .int x1, .int x2] h = qm_go (qm_ex qm_M X d) X kt_19 kk_19_0 [.val (.ref x0), .val (.int x1), .val (.int x2)] [] h := by rw [qm_ex_eq, kM_19]; exact if_pos rfl
theorem kM_20 : qm_M 20 = (3, kt_20) := rfl
theorem ke_20 (x0 : Nat) (x1 : Int32) (x2 : Int32) : qm_ex qm_M X (d + 1) 20 [.ref x0, .int x1, .int x2] h = qm_go (qm_ex qm_M X d) X kt_20 kk_20_0 [.val (.ref x0), .val (.int x1), .val (.int x2)] [] h := by rw [qm_ex_eq, kM_20]; exact if_pos rfl
theorem kM_21 : qm_M 21 = (3, kt_21) := rfl
theorem ke_21 (x0 : Nat) : qm_ex qm_M X (d + 1) 21 [.ref x0] h = qm_go (qm_ex qm_M X d) X kt_21 kk_21_0 [.val (.ref x0), .unset, .unset] [] h := by rw [qm_ex_eq, kM_21]; exact if_pos rfl
theorem kM_22 : qm_M 22 = (4, kt_22) := rfl
theorem ke_22 (x0 : Nat) : qm_ex qm_M X (d + 1) 22 [.ref x0] h = qm_go (qm_ex qm_M X d) X kt_22 kk_22_0 [.val (.ref x0), .unset, .unset, .unset] [] h := by rw [qm_ex_eq, kM_22]; exact if_pos rfl
theorem kM_23 : qm_M 23 = (4, kt_23) := rfl
theorem ke_23 (x0 : Nat) (x1 : Int32) : qm_ex qm_M X (d + 1) 23 [.ref x0, .int x1] h = qm_go (qm_ex qm_M X d) X kt_23 kk_23_0 [.val (.ref x0), .val (.int x1), .unset, .unset] [] h := by rw [qm_ex_eq, kM_23]; exact if_pos rfl
theorem kM_24 : qm_M 24 = (5, kt_24) := rfl
theorem ke_24 (x0 : Nat) (x1 : Nat) : qm_ex qm_M X (d + 1) 24 [.ref x0, .ref x1] h = qm_go (qm_ex qm_M X d) X kt_24 kk_24_0 [.val (.ref x0), .val (.ref x1), .unset, .unset, .unset] [] h := by rw [qm_ex_eq, kM_24]; exact if_pos rfl
theorem kM_25 : qm_M 25 = (2, kt_25) := rfl
theorem ke_25 (x0 : Nat) (x1 : Nat) : qm_ex qm_M X (d + 1) 25 [.ref x0, .ref x1] h = qm_go (qm_ex qm_M X d) X kt_25 kk_25_0 [.val (.ref x0), .val (.ref x1)] [] h := by rw [qm_ex_eq, kM_25]; exact if_pos rfl
theorem kM_26 : qm_M 26 = (6, kt_26) := rfl
theorem ke_26 (x0 : Nat) (x1 : Int64) : qm_ex qm_M X (d + 1) 26 [.ref x0, .long x1] h = qm_go (qm_ex qm_M X d) X kt_26 kk_26_0 [.val (.ref x0), .val (.long x1), .second, .unset, .unset, .unset] [] h := by rw [qm_ex_eq, kM_26]; exact if_pos rfl
theorem kM_27 : qm_M 27 = (1, kt_27) := rfl
theorem ke_27 (x0 : Nat) : qm_ex qm_M X (d + 1) 27 [.ref x0] h = qm_go (qm_ex qm_M X d) X kt_27 kk_27_0 [.val (.ref x0)] [] h := by rw [qm_ex_eq, kM_27]; exact if_pos rfl
theorem kM_28 : qm_M 28 = (5, kt_28) := rfl
theorem ke_28 (x0 : Nat) (x1 : Nat) : qm_ex qm_M X (d + 1) 28 [.ref x0, .ref x1] h = qm_go (qm_ex qm_M X d) X kt_28 kk_28_0 [.val (.ref x0), .val (.ref x1), .unset, .unset, .unset] [] h := by rw [qm_ex_eq, kM_28]; exact if_pos rfl
theorem kM_29 : qm_M 29 = (7, kt_29) := rfl
theorem ke_29 (x0 : Nat) (x1 : Int32) (x2 : Int32) (x3 : Int32) : qm_ex qm_M X (d + 1) 29 [.ref x0, .int x1, .int x2, .int x3] h = qm_go (qm_ex qm_M X d) X kt_29 kk_29_0 [.val (.ref x0), .val (.int x1), .val (.int x2), .val (.int x3), .unset, .unset, .unset] [] h := by rw [qm_ex_eq, kM_29]; exact if_pos rfl
theorem kM_30 : qm_M 30 = (4, kt_30) := rfl
theorem ke_30 (x0 : Nat) (x1 : Int32) (x2 : Int32) (x3 : Int32) : qm_ex qm_M X (d + 1) 30 [.ref x0, .int x1, .int x2, .int x3] h = qm_go (qm_ex qm_M X d) X kt_30 kk_30_0 [.val (.ref x0), .val (.int x1), .val (.int x2), .val (.int x3)] [] h := by rw [qm_ex_eq, kM_30]; exact if_pos rfl
theorem kM_31 : qm_M 31 = (5, kt_31) := rfl
theorem ke_31 (x0 : Nat) (x1 : Int32) (x2 : Int32) : qm_ex qm_M X (d + 1) 31 [.ref x0, .int x1, .int x2] h = qm_go (qm_ex qm_M X d) X kt_31 kk_31_0 [.val (.ref x0), .val (.int x1), .val (.int x2), .unset, .unset] [] h := by rw [qm_ex_eq, kM_31]; exact if_pos rfl
theorem kM_32 : qm_M 32 = (1, kt_32) := rfl
theorem ke_32 (x0 : Nat) : qm_ex qm_M X (d + 1) 32 [.ref x0] h = qm_go (qm_ex qm_M X d) X kt_32 kk_32_0 [.val (.ref x0)] [] h := by rw [qm_ex_eq, kM_32]; exact if_pos rfl
theorem kM_33 : qm_M 33 = (2, kt_33) := rfl
theorem ke_33 (x0 : Nat) (x1 : Int32) : qm_ex qm_M X (d + 1) 33 [.ref x0, .int x1] h = qm_go (qm_ex qm_M X d) X kt_33 kk_33_0 [.val (.ref x0), .val (.int x1)] [] h := by rw [qm_ex_eq, kM_33]; exact if_pos rfl
theorem kM_34 : qm_M 34 = (4, kt_34) := rfl
theorem ke_34 (x0 : Nat) : qm_ex qm_M X (d + 1) 34 [.ref x0] h = qm_go (qm_ex qm_M X d) X kt_34 kk_34_0 [.val (.ref x0), .unset, .unset, .unset] [] h := by rw [qm_ex_eq, kM_34]; exact if_pos rfl
theorem kM_35 : qm_M 35 = (4, kt_35) := rfl
theorem ke_35 (x0 : Nat) (x1 : Int32) : qm_ex qm_M X (d + 1) 35 [.ref x0, .int x1] h = qm_go (qm_ex qm_M X d) X kt_35 kk_35_0 [.val (.ref x0), .val (.int x1), .unset, .unset] [] h := by rw [qm_ex_eq, kM_35]; exact if_pos rfl
theorem kM_36 : qm_M 36 = (3, kt_36) := rfl
theorem ke_36 (x0 : Nat) (x1 : Nat) : qm_ex qm_M X (d + 1) 36 [.ref x0, .ref x1] h = qm_go (qm_ex qm_M X d) X kt_36 kk_36_0 [.val (.ref x0), .val (.ref x1), .unset] [] h := by rw [qm_ex_eq, kM_36]; exact if_pos rfl
theorem kM_37 : qm_M 37 = (1, kt_37) := rfl
theorem ke_37 (x0 : Nat) : qm_ex qm_M X (d + 1) 37 [.ref x0] h = qm_go (qm_ex qm_M X d) X kt_37 kk_37_0 [.val (.ref x0)] [] h := by rw [qm_ex_eq, kM_37]; exact if_pos rfl
theorem kM_38 : qm_M 38 = (5, kt_38) := rfl
theorem ke_38 (x0 : Nat) (x1 : Nat) (x2 : Nat) (x3 : Int32) : qm_ex qm_M X (d + 1) 38 [.ref x0, .ref x1, .ref x2, .int x3] h = qm_go (qm_ex qm_M X d) X kt_38 kk_38_0 [.val (.ref x0), .val (.ref x1), .val (.ref x2), .val (.int x3), .unset] [] h := by rw [qm_ex_eq, kM_38]; exact if_pos rfl
theorem kM_39 : qm_M 39 = (7, kt_39) := rfl
theorem ke_39 (x0 : Nat) (x1 : Nat) (x2 : Nat) (x3 : Int32) : qm_ex qm_M X (d + 1) 39 [.ref x0, .ref x1, .ref x2, .int x3] h = qm_go (qm_ex qm_M X d) X kt_39 kk_39_0 [.val (.ref x0), .val (.ref x1), .val (.ref x2), .val (.int x3), .unset, .unset, .unset] [] h := by rw [qm_ex_eq, kM_39]; exact if_pos rfl
theorem kM_40 : qm_M 40 = (4, kt_40) := rfl
theorem ke_40 (x0 : Nat) (x1 : Int32) (x2 : Int32) (x3 : Int32) : qm_ex qm_M X (d + 1) 40 [.ref x0, .int x1, .int x2, .int x3] h = qm_go (qm_ex qm_M X d) X kt_40 kk_40_0 [.val (.ref x0), .val (.int x1), .val (.int x2), .val (.int x3)] [] h := by rw [qm_ex_eq, kM_40]; exact if_pos rfl
theorem kM_41 : qm_M 41 = (2, kt_41) := rfl
theorem ke_41 (x0 : Nat) (x1 : Int32) : qm_ex qm_M X (d + 1) 41 [.ref x0, .int x1] h = qm_go (qm_ex qm_M X d) X kt_41 kk_41_0 [.val (.ref x0), .val (.int x1)] [] h := by rw [qm_ex_eq, kM_41]; exact if_pos rfl
theorem kM_42 : qm_M 42 = (1, kt_42) := rfl
theorem ke_42 (x0 : Nat) : qm_ex qm_M X (d + 1) 42 [.ref x0] h = qm_go (qm_ex qm_M X d) X kt_42 kk_42_0 [.val (.ref x0)] [] h := by rw [qm_ex_eq, kM_42]; exact if_pos rfl
theorem kM_43 : qm_M 43 = (3, kt_43) := rfl
theorem ke_43 (x0 : Nat) (x1 : Nat) : qm_ex qm_M X (d + 1) 43 [.ref x0, .ref x1] h = qm_go (qm_ex qm_M X d) X kt_43 kk_43_0 [.val (.ref x0), .val (.ref x1), .unset] [] h := by rw [qm_ex_eq, kM_43]; exact if_pos rfl
theorem kM_44 : qm_M 44 = (5, kt_44) := rfl
theorem ke_44 (x0 : Nat) (x1 : Int32) : qm_ex qm_M X (d + 1) 44 [.ref x0, .int x1] h = qm_go (qm_ex qm_M X d) X kt_44 kk_44_0 [.val (.ref x0), .val (.int x1), .unset, .unset, .unset] [] h := by rw [qm_ex_eq, kM_44]; exact if_pos rfl
theorem kM_45 : qm_M 45 = (4, kt_45) := rfl
theorem ke_45 (x0 : Nat) (x1 : Nat) : qm_ex qm_M X (d + 1) 45 [.ref x0, .ref x1] h = qm_go (qm_ex qm_M X d) X kt_45 kk_45_0 [.val (.ref x0), .val (.ref x1), .unset, .unset] [] h := by rw [qm_ex_eq, kM_45]; exact if_pos rfl
theorem kM_46 : qm_M 46 = (2, kt_46) := rfl
theorem ke_46 (x0 : Nat) (x1 : Int32) : qm_ex qm_M X (d + 1) 46 [.ref x0, .int x1] h = qm_go (qm_ex qm_M X d) X kt_46 kk_46_0 [.val (.ref x0), .val (.int x1)] [] h := by rw [qm_ex_eq, kM_46]; exact if_pos rfl
theorem kM_47 : qm_M 47 = (2, kt_47) := rfl
theorem ke_47 (x0 : Nat) : qm_ex qm_M X (d + 1) 47 [.ref x0] h = qm_go (qm_ex qm_M X d) X kt_47 kk_47_0 [.val (.ref x0), .unset] [] h := by rw [qm_ex_eq, kM_47]; exact if_pos rfl
theorem kM_48 : qm_M 48 = (3, kt_48) := rfl
theorem ke_48 (x0 : Nat) (x1 : Nat) : qm_ex qm_M X (d + 1) 48 [.ref x0, .ref x1] h = qm_go (qm_ex qm_M X d) X kt_48 kk_48_0 [.val (.ref x0), .val (.ref x1), .unset] [] h := by rw [qm_ex_eq, kM_48]; exact if_pos rfl
theorem kM_49 : qm_M 49 = (10, kt_49) := rfl
theorem ke_49 (x0 : Nat) (x1 : Int32) (x2 : Int32) : qm_ex qm_M X (d + 1) 49 [.ref x0, .int x1, .int x2] h = qm_go (qm_ex qm_M X d) X kt_49 kk_49_0 [.val (.ref x0), .val (.int x1), .val (.int x2), .unset, .unset, .unset, .unset, .unset, .unset, .unset] [] h := by rw [qm_ex_eq, kM_49]; exact if_pos rfl
theorem kM_50 : qm_M 50 = (4, kt_50) := rfl
theorem ke_50 (x1 : Int32) : qm_ex qm_M X (d + 1) 50 [.int x1] h = qm_go (qm_ex qm_M X d) X kt_50 kk_50_0 [.val (.int x1), .unset, .unset, .unset] [] h := by rw [qm_ex_eq, kM_50]; exact if_pos rfl
theorem kM_51 : qm_M 51 = (8, kt_51) := rfl
theorem ke_51 (x0 : Nat) (x1 : Int32) (x2 : Int32) : qm_ex qm_M X (d + 1) 51 [.ref x0, .int x1, .int x2] h = qm_go (qm_ex qm_M X d) X kt_51 kk_51_0 [.val (.ref x0), .val (.int x1), .val (.int x2), .unset, .unset, .unset, .unset, .unset] [] h := by rw [qm_ex_eq, kM_51]; exact if_pos rfl
theorem kM_52 : qm_M 52 = (1, kt_52) := rfl
theorem ke_52 (x0 : Nat) : qm_ex qm_M X (d + 1) 52 [.ref x0] h = qm_go (qm_ex qm_M X d) X kt_52 kk_52_0 [.val (.ref x0)] [] h := by rw [qm_ex_eq, kM_52]; exact if_pos rfl
theorem kM_53 : qm_M 53 = (5, kt_53) := rfl
theorem ke_53 (x0 : Nat) (x1 : Nat) (x2 : Int32) : qm_ex qm_M X (d + 1) 53 [.ref x0, .ref x1, .int x2] h = qm_go (qm_ex qm_M X d) X kt_53 kk_53_0 [.val (.ref x0), .val (.ref x1), .val (.int x2), .unset, .unset] [] h := by rw [qm_ex_eq, kM_53]; exact if_pos rfl
theorem kM_54 : qm_M 54 = (8, kt_54) := rfl
theorem ke_54 (x0 : Nat) (x1 : Nat) (x2 : Int32) (x3 : Int32) (x4 : Int32) : qm_ex qm_M X (d + 1) 54 [.ref x0, .ref x1, .int x2, .int x3, .int x4] h = qm_go (qm_ex qm_M X d) X kt_54 kk_54_0 [.val (.ref x0), .val (.ref x1), .val (.int x2), .val (.int x3), .val (.int x4), .unset, .unset, .unset] [] h := by rw [qm_ex_eq, kM_54]; exact if_pos rfl
theorem kM_55 : qm_M 55 = (1, kt_55) := rfl
theorem ke_55 (x0 : Nat) : qm_ex qm_M X (d + 1) 55 [.ref x0] h = qm_go (qm_ex qm_M X d) X kt_55 kk_55_0 [.val (.ref x0)] [] h := by rw [qm_ex_eq, kM_55]; exact if_pos rfl
theorem kM_56 : qm_M 56 = (7, kt_56) := rfl
theorem ke_56 (x0 : Nat) (x1 : Nat) (x2 : Nat) : qm_ex qm_M X (d + 1) 56 [.ref x0, .ref x1, .ref x2] h = qm_go (qm_ex qm_M X d) X kt_56 kk_56_0 [.val (.ref x0), .val (.ref x1), .val (.ref x2), .unset, .unset, .unset, .unset] [] h := by rw [qm_ex_eq, kM_56]; exact if_pos rfl
theorem kM_57 : qm_M 57 = (8, kt_57) := rfl
theorem ke_57 (x0 : Nat) (x1 : Nat) (x2 : Nat) (x3 : Int32) : qm_ex qm_M X (d + 1) 57 [.ref x0, .ref x1, .ref x2, .int x3] h = qm_go (qm_ex qm_M X d) X kt_57 kk_57_0 [.val (.ref x0), .val (.ref x1), .val (.ref x2), .val (.int x3), .unset, .unset, .unset, .unset] [] h := by rw [qm_ex_eq, kM_57]; exact if_pos rfl
theorem kM_58 : qm_M 58 = (6, kt_58) := rfl
theorem ke_58 (x0 : Nat) (x1 : Nat) (x2 : Int32) (x3 : Int32) (x4 : Int32) : qm_ex qm_M X (d + 1) 58 [.ref x0, .ref x1, .int x2, .int x3, .int x4] h = qm_go (qm_ex qm_M X d) X kt_58 kk_58_0 [.val (.ref x0), .val (.ref x1), .val (.int x2), .val (.int x3), .val (.int x4), .unset] [] h := by rw [qm_ex_eq, kM_58]; exact if_pos rfl
theorem kM_59 : qm_M 59 = (1, kt_59) := rfl
theorem ke_59 (x0 : Nat) : qm_ex qm_M X (d + 1) 59 [.ref x0] h = qm_go (qm_ex qm_M X d) X kt_59 kk_59_0 [.val (.ref x0)] [] h := by rw [qm_ex_eq, kM_59]; exact if_pos rfl
theorem kM_60 : qm_M 60 = (1, kt_60) := rfl
theorem ke_60 (x0 : Nat) : qm_ex qm_M X (d + 1) 60 [.ref x0] h = qm_go (qm_ex qm_M X d) X kt_60 kk_60_0 [.val (.ref x0)] [] h := by rw [qm_ex_eq, kM_60]; exact if_pos rfl
theorem kM_61 : qm_M 61 = (2, kt_61) := rfl
theorem ke_61 (x0 : Nat) (x1 : Int32) : qm_ex qm_M X (d + 1) 61 [.ref x0, .int x1] h = qm_go (qm_ex qm_M X d) X kt_61 kk_61_0 [.val (.ref x0), .val (.int x1)] [] h := by rw [qm_ex_eq, kM_61]; exact if_pos rfl
theorem kM_62 : qm_M 62 = (2, kt_62) := rfl
theorem ke_62 (x0 : Nat) (x1 : Int32) : qm_ex qm_M X (d + 1) 62 [.ref x0, .int x1] h = qm_go (qm_ex qm_M X d) X kt_62 kk_62_0 [.val (.ref x0), .val (.int x1)] [] h := by rw [qm_ex_eq, kM_62]; exact if_pos rfl
theorem kM_63 : qm_M 63 = (3, kt_63) := rfl
theorem ke_63 (x0 : Nat) (x1 : Int32) (x2 : Int32) : qm_ex qm_M X (d + 1) 63 [.ref x0, .int x1, .int x2] h = qm_go (qm_ex qm_M X d) X kt_63 kk_63_0 [.val (.ref x0), .val (.int x1), .val (.int x2)] [] h := by rw [qm_ex_eq, kM_63]; exact if_pos rfl
theorem kM_64 : qm_M 64 = (2, kt_64) := rfl
theorem ke_64 (x0 : Nat) (x1 : Int32) : qm_ex qm_M X (d + 1) 64 [.ref x0, .int x1] h = qm_go (qm_ex qm_M X d) X kt_64 kk_64_0 [.val (.ref x0), .val (.int x1)] [] h := by rw [qm_ex_eq, kM_64]; exact if_pos rfl
theorem kM_65 : qm_M 65 = (4, kt_65) := rfl
theorem ke_65 (x0 : Nat) : qm_ex qm_M X (d + 1) 65 [.ref x0] h = qm_go (qm_ex qm_M X d) X kt_65 kk_65_0 [.val (.ref x0), .unset, .unset, .unset] [] h := by rw [qm_ex_eq, kM_65]; exact if_pos rfl
theorem kM_66 : qm_M 66 = (4, kt_66) := rfl
theorem ke_66 (x0 : Nat) (x1 : Int32) (x2 : Int32) : qm_ex qm_M X (d + 1) 66 [.ref x0, .int x1, .int x2] h = qm_go (qm_ex qm_M X d) X kt_66 kk_66_0 [.val (.ref x0), .val (.int x1), .val (.int x2), .unset] [] h := by rw [qm_ex_eq, kM_66]; exact if_pos rfl
theorem kM_67 : qm_M 67 = (2, kt_67) := rfl
theorem ke_67 (x0 : Nat) : qm_ex qm_M X (d + 1) 67 [.ref x0] h = qm_go (qm_ex qm_M X d) X kt_67 kk_67_0 [.val (.ref x0), .unset] [] h := by rw [qm_ex_eq, kM_67]; exact if_pos rfl
theorem kM_68 : qm_M 68 = (3, kt_68) := rfl
theorem ke_68 (x0 : Nat) : qm_ex qm_M X (d + 1) 68 [.ref x0] h = qm_go (qm_ex qm_M X d) X kt_68 kk_68_0 [.val (.ref x0), .unset, .unset] [] h := by rw [qm_ex_eq, kM_68]; exact if_pos rfl
theorem kM_69 : qm_M 69 = (5, kt_69) := rfl
theorem ke_69 (x0 : Nat) (x1 : Int32) : qm_ex qm_M X (d + 1) 69 [.ref x0, .int x1] h = qm_go (qm_ex qm_M X d) X kt_69 kk_69_0 [.val (.ref x0), .val (.int x1), .unset, .unset, .unset] [] h := by rw [qm_ex_eq, kM_69]; exact if_pos rfl
theorem kM_70 : qm_M 70 = (6, kt_70) := rfl
theorem ke_70 (x0 : Nat) (x1 : Int64) : qm_ex qm_M X (d + 1) 70 [.ref x0, .long x1] h = qm_go (qm_ex qm_M X d) X kt_70 kk_70_0 [.val (.ref x0), .val (.long x1), .second, .unset, .unset, .unset] [] h := by rw [qm_ex_eq, kM_70]; exact if_pos rfl
theorem kM_71 : qm_M 71 = (2, kt_71) := rfl
theorem ke_71 (x0 : Nat) : qm_ex qm_M X (d + 1) 71 [.ref x0] h = qm_go (qm_ex qm_M X d) X kt_71 kk_71_0 [.val (.ref x0), .unset] [] h := by rw [qm_ex_eq, kM_71]; exact if_pos rfl
theorem kM_72 : qm_M 72 = (3, kt_72) := rfl
theorem ke_72 (x0 : Nat) (x1 : Int32) (x2 : Int32) : qm_ex qm_M X (d + 1) 72 [.ref x0, .int x1, .int x2] h = qm_go (qm_ex qm_M X d) X kt_72 kk_72_0 [.val (.ref x0), .val (.int x1), .val (.int x2)] [] h := by rw [qm_ex_eq, kM_72]; exact if_pos rfl
theorem kM_73 : qm_M 73 = (5, kt_73) := rfl
theorem ke_73 (x0 : Nat) (x1 : Int32) (x2 : Int32) (x3 : Int32) : qm_ex qm_M X (d + 1) 73 [.ref x0, .int x1, .int x2, .int x3] h = qm_go (qm_ex qm_M X d) X kt_73 kk_73_0 [.val (.ref x0), .val (.int x1), .val (.int x2), .val (.int x3), .unset] [] h := by rw [qm_ex_eq, kM_73]; exact if_pos rfl
theorem kM_74 : qm_M 74 = (3, kt_74) := rfl
theorem ke_74 (x0 : Nat) (x1 : Int32) : qm_ex qm_M X (d + 1) 74 [.ref x0, .int x1] h = qm_go (qm_ex qm_M X d) X kt_74 kk_74_0 [.val (.ref x0), .val (.int x1), .unset] [] h := by rw [qm_ex_eq, kM_74]; exact if_pos rfl
theorem kM_75 : qm_M 75 = (8, kt_75) := rfl
theorem ke_75 (x0 : Nat) (x1 : Int32) (x2 : Int32) (x3 : Int32) (x4 : Int32) (x5 : Int32) : qm_ex qm_M X (d + 1) 75 [.ref x0, .int x1, .int x2, .int x3, .int x4, .int x5] h = qm_go (qm_ex qm_M X d) X kt_75 kk_75_0 [.val (.ref x0), .val (.int x1), .val (.int x2), .val (.int x3), .val (.int x4), .val (.int x5), .unset, .unset] [] h := by rw [qm_ex_eq, kM_75]; exact if_pos rfl
theorem kM_76 : qm_M 76 = (3, kt_76) := rfl
theorem ke_76 (x0 : Nat) (x1 : Int32) : qm_ex qm_M X (d + 1) 76 [.ref x0, .int x1] h = qm_go (qm_ex qm_M X d) X kt_76 kk_76_0 [.val (.ref x0), .val (.int x1), .unset] [] h := by rw [qm_ex_eq, kM_76]; exact if_pos rfl
theorem kM_77 : qm_M 77 = (6, kt_77) := rfl
theorem ke_77 (x0 : Nat) (x1 : Int32) (x2 : Int32) (x3 : Int32) : qm_ex qm_M X (d + 1) 77 [.ref x0, .int x1, .int x2, .int x3] h = qm_go (qm_ex qm_M X d) X kt_77 kk_77_0 [.val (.ref x0), .val (.int x1), .val (.int x2), .val (.int x3), .unset, .unset] [] h := by rw [qm_ex_eq, kM_77]; exact if_pos rfl
theorem kM_78 : qm_M 78 = (6, kt_78) := rfl
theorem ke_78 (x0 : Nat) (x1 : Int32) (x2 : Int32) (x3 : Int32) : qm_ex qm_M X (d + 1) 78 [.ref x0, .int x1, .int x2, .int x3] h = qm_go (qm_ex qm_M X d) X kt_78 kk_78_0 [.val (.ref x0), .val (.int x1), .val (.int x2), .val (.int x3), .unset, .unset] [] h := by rw [qm_ex_eq, kM_78]; exact if_pos rfl
theorem kM_79 : qm_M 79 = (6, kt_79) := rfl
theorem ke_79 (x0 : Nat) (x1 : Int32) (x2 : Int32) (x3 : Int32) : qm_ex qm_M X (d + 1) 79 [.ref x0, .int x1, .int x2, .int x3] h = qm_go (qm_ex qm_M X d) X kt_79 kk_79_0 [.val (.ref x0), .val (.int x1), .val (.int x2), .val (.int x3), .unset, .unset] [] h := by rw [qm_ex_eq, kM_79]; exact if_pos rfl
theorem kM_80 : qm_M 80 = (3, kt_80) := rfl
theorem ke_80 (x0 : Nat) (x1 : Int32) : qm_ex qm_M X (d + 1) 80 [.ref x0, .int x1] h = qm_go (qm_ex qm_M X d) X kt_80 kk_80_0 [.val (.ref x0), .val (.int x1), .unset] [] h := by rw [qm_ex_eq, kM_80]; exact if_pos rfl
theorem kM_81 : qm_M 81 = (4, kt_81) := rfl
theorem ke_81 (x0 : Nat) (x1 : Int32) (x2 : Int32) : qm_ex qm_M X (d + 1) 81 [.ref x0, .int x1, .int x2] h = qm_go (qm_ex qm_M X d) X kt_81 kk_81_0 [.val (.ref x0), .val (.int x1), .val (.int x2), .unset] [] h := by rw [qm_ex_eq, kM_81]; exact if_pos rfl
theorem kM_82 : qm_M 82 = (4, kt_82) := rfl
theorem ke_82 (x0 : Nat) (x1 : Int32) (x2 : Int32) : qm_ex qm_M X (d + 1) 82 [.ref x0, .int x1, .int x2] h = qm_go (qm_ex qm_M X d) X kt_82 kk_82_0 [.val (.ref x0), .val (.int x1), .val (.int x2), .unset] [] h := by rw [qm_ex_eq, kM_82]; exact if_pos rfl
theorem kM_83 : qm_M 83 = (4, kt_83) := rfl
theorem ke_83 (x0 : Nat) (x1 : Int32) (x2 : Int32) : qm_ex qm_M X (d + 1) 83 [.ref x0, .int x1, .int x2] h = qm_go (qm_ex qm_M X d) X kt_83 kk_83_0 [.val (.ref x0), .val (.int x1), .val (.int x2), .unset] [] h := by rw [qm_ex_eq, kM_83]; exact if_pos rfl
theorem kM_84 : qm_M 84 = (5, kt_84) := rfl
theorem ke_84 (x0 : Nat) (x1 : Int32) (x2 : Int32) (x3 : Int32) : qm_ex qm_M X (d + 1) 84 [.ref x0, .int x1, .int x2, .int x3] h = qm_go (qm_ex qm_M X d) X kt_84 kk_84_0 [.val (.ref x0), .val (.int x1), .val (.int x2), .val (.int x3), .unset] [] h := by rw [qm_ex_eq, kM_84]; exact if_pos rfl
theorem kM_85 : qm_M 85 = (7, kt_85) := rfl
theorem ke_85 (x0 : Nat) (x1 : Int32) (x2 : Int32) (x3 : Int32) (x4 : Int32) : qm_ex qm_M X (d + 1) 85 [.ref x0, .int x1, .int x2, .int x3, .int x4] h = qm_go (qm_ex qm_M X d) X kt_85 kk_85_0 [.val (.ref x0), .val (.int x1), .val (.int x2), .val (.int x3), .val (.int x4), .unset, .unset] [] h := by rw [qm_ex_eq, kM_85]; exact if_pos rfl
theorem kM_86 : qm_M 86 = (5, kt_86) := rfl
theorem ke_86 (x0 : Nat) (x1 : Int32) (x2 : Int32) : qm_ex qm_M X (d + 1) 86 [.ref x0, .int x1, .int x2] h = qm_go (qm_ex qm_M X d) X kt_86 kk_86_0 [.val (.ref x0), .val (.int x1), .val (.int x2), .unset, .unset] [] h := by rw [qm_ex_eq, kM_86]; exact if_pos rfl
theorem kM_87 : qm_M 87 = (6, kt_87) := rfl
theorem ke_87 (x0 : Nat) (x1 : Int32) (x2 : Int32) : qm_ex qm_M X (d + 1) 87 [.ref x0, .int x1, .int x2] h = qm_go (qm_ex qm_M X d) X kt_87 kk_87_0 [.val (.ref x0), .val (.int x1), .val (.int x2), .unset, .unset, .unset] [] h := by rw [qm_ex_eq, kM_87]; exact if_pos rfl
theorem kM_88 : qm_M 88 = (9, kt_88) := rfl
theorem ke_88 (x0 : Nat) (x1 : Int32) (x2 : Int32) (x3 : Int32) (x4 : Int32) : qm_ex qm_M X (d + 1) 88 [.ref x0, .int x1, .int x2, .int x3, .int x4] h = qm_go (qm_ex qm_M X d) X kt_88 kk_88_0 [.val (.ref x0), .val (.int x1), .val (.int x2), .val (.int x3), .val (.int x4), .unset, .unset, .unset, .unset] [] h := by rw [qm_ex_eq, kM_88]; exact if_pos rfl
theorem kM_89 : qm_M 89 = (9, kt_89) := rfl
theorem ke_89 (x0 : Nat) (x1 : Int32) (x2 : Int32) (x3 : Int32) : qm_ex qm_M X (d + 1) 89 [.ref x0, .int x1, .int x2, .int x3] h = qm_go (qm_ex qm_M X d) X kt_89 kk_89_0 [.val (.ref x0), .val (.int x1), .val (.int x2), .val (.int x3), .unset, .unset, .unset, .unset, .unset] [] h := by rw [qm_ex_eq, kM_89]; exact if_pos rfl
theorem kM_90 : qm_M 90 = (4, kt_90) := rfl
theorem ke_90 (x0 : Nat) (x1 : Int32) (x2 : Int32) : qm_ex qm_M X (d + 1) 90 [.ref x0, .int x1, .int x2] h = qm_go (qm_ex qm_M X d) X kt_90 kk_90_0 [.val (.ref x0), .val (.int x1), .val (.int x2), .unset] [] h := by rw [qm_ex_eq, kM_90]; exact if_pos rfl
theorem kM_91 : qm_M 91 = (4, kt_91) := rfl
theorem ke_91 (x0 : Nat) (x1 : Int32) (x2 : Int32) : qm_ex qm_M X (d + 1) 91 [.ref x0, .int x1, .int x2] h = qm_go (qm_ex qm_M X d) X kt_91 kk_91_0 [.val (.ref x0), .val (.int x1), .val (.int x2), .unset] [] h := by rw [qm_ex_eq, kM_91]; exact if_pos rfl
theorem kM_92 : qm_M 92 = (3, kt_92) := rfl
theorem ke_92 (x0 : Nat) (x1 : Int32) : qm_ex qm_M X (d + 1) 92 [.ref x0, .int x1] h = qm_go (qm_ex qm_M X d) X kt_92 kk_92_0 [.val (.ref x0), .val (.int x1), .unset] [] h := by rw [qm_ex_eq, kM_92]; exact if_pos rfl
theorem kM_93 : qm_M 93 = (5, kt_93) := rfl
theorem ke_93 (x0 : Nat) (x1 : Int32) (x2 : Int32) : qm_ex qm_M X (d + 1) 93 [.ref x0, .int x1, .int x2] h = qm_go (qm_ex qm_M X d) X kt_93 kk_93_0 [.val (.ref x0), .val (.int x1), .val (.int x2), .unset, .unset] [] h := by rw [qm_ex_eq, kM_93]; exact if_pos rfl
theorem kM_94 : qm_M 94 = (7, kt_94) := rfl
theorem ke_94 (x0 : Nat) (x1 : Int32) (x2 : Int32) : qm_ex qm_M X (d + 1) 94 [.ref x0, .int x1, .int x2] h = qm_go (qm_ex qm_M X d) X kt_94 kk_94_0 [.val (.ref x0), .val (.int x1), .val (.int x2), .unset, .unset, .unset, .unset] [] h := by rw [qm_ex_eq, kM_94]; exact if_pos rfl
theorem kM_95 : qm_M 95 = (4, kt_95) := rfl
theorem ke_95 (x0 : Nat) (x1 : Int32) (x2 : Int32) : qm_ex qm_M X (d + 1) 95 [.ref x0, .int x1, .int x2] h = qm_go (qm_ex qm_M X d) X kt_95 kk_95_0 [.val (.ref x0), .val (.int x1), .val (.int x2), .unset] [] h := by rw [qm_ex_eq, kM_95]; exact if_pos rfl
theorem kM_96 : qm_M 96 = (4, kt_96) := rfl
theorem ke_96 (x0 : Nat) (x1 : Int32) (x2 : Int32) : qm_ex qm_M X (d + 1) 96 [.ref x0, .int x1, .int x2] h = qm_go (qm_ex qm_M X d) X kt_96 kk_96_0 [.val (.ref x0), .val (.int x1), .val (.int x2), .unset] [] h := by rw [qm_ex_eq, kM_96]; exact if_pos rfl
theorem kM_97 : qm_M 97 = (5, kt_97) := rfl
theorem ke_97 (x0 : Nat) (x1 : Int32) (x2 : Int32) (x3 : Int32) : qm_ex qm_M X (d + 1) 97 [.ref x0, .int x1, .int x2, .int x3] h = qm_go (qm_ex qm_M X d) X kt_97 kk_97_0 [.val (.ref x0), .val (.int x1), .val (.int x2), .val (.int x3), .unset] [] h := by rw [qm_ex_eq, kM_97]; exact if_pos rfl
theorem kM_98 : qm_M 98 = (6, kt_98) := rfl
theorem ke_98 (x0 : Nat) (x1 : Int32) (x2 : Int32) (x3 : Int32) (x4 : Int32) : qm_ex qm_M X (d + 1) 98 [.ref x0, .int x1, .int x2, .int x3, .int x4] h = qm_go (qm_ex qm_M X d) X kt_98 kk_98_0 [.val (.ref x0), .val (.int x1), .val (.int x2), .val (.int x3), .val (.int x4), .unset] [] h := by rw [qm_ex_eq, kM_98]; exact if_pos rfl
theorem kM_99 : qm_M 99 = (6, kt_99) := rfl
theorem ke_99 (x0 : Nat) (x1 : Int32) (x2 : Int32) : qm_ex qm_M X (d + 1) 99 [.ref x0, .int x1, .int x2] h = qm_go (qm_ex qm_M X d) X kt_99 kk_99_0 [.val (.ref x0), .val (.int x1), .val (.int x2), .unset, .unset, .unset] [] h := by rw [qm_ex_eq, kM_99]; exact if_pos rfl
theorem kM_100 : qm_M 100 = (7, kt_100) := rfl
theorem ke_100 (x0 : Nat) (x1 : Int32) (x2 : Int32) : qm_ex qm_M X (d + 1) 100 [.ref x0, .int x1, .int x2] h = qm_go (qm_ex qm_M X d) X kt_100 kk_100_0 [.val (.ref x0), .val (.int x1), .val (.int x2), .unset, .unset, .unset, .unset] [] h := by rw [qm_ex_eq, kM_100]; exact if_pos rfl
theorem kM_101 : qm_M 101 = (3, kt_101) := rfl
theorem ke_101 (x0 : Nat) (x1 : Int32) : qm_ex qm_M X (d + 1) 101 [.ref x0, .int x1] h = qm_go (qm_ex qm_M X d) X kt_101 kk_101_0 [.val (.ref x0), .val (.int x1), .unset] [] h := by rw [qm_ex_eq, kM_101]; exact if_pos rfl
theorem kM_102 : qm_M 102 = (7, kt_102) := rfl
theorem ke_102 (x0 : Nat) (x1 : Int32) : qm_ex qm_M X (d + 1) 102 [.ref x0, .int x1] h = qm_go (qm_ex qm_M X d) X kt_102 kk_102_0 [.val (.ref x0), .val (.int x1), .unset, .unset, .unset, .unset, .unset] [] h := by rw [qm_ex_eq, kM_102]; exact if_pos rfl
theorem kM_103 : qm_M 103 = (8, kt_103) := rfl
theorem ke_103 (x0 : Nat) (x1 : Int32) (x2 : Int32) (x3 : Int32) : qm_ex qm_M X (d + 1) 103 [.ref x0, .int x1, .int x2, .int x3] h = qm_go (qm_ex qm_M X d) X kt_103 kk_103_0 [.val (.ref x0), .val (.int x1), .val (.int x2), .val (.int x3), .unset, .unset, .unset, .unset] [] h := by rw [qm_ex_eq, kM_103]; exact if_pos rfl
theorem kM_104 : qm_M 104 = (6, kt_104) := rfl
theorem ke_104 (x0 : Nat) (x1 : Int32) (x2 : Int32) : qm_ex qm_M X (d + 1) 104 [.ref x0, .int x1, .int x2] h = qm_go (qm_ex qm_M X d) X kt_104 kk_104_0 [.val (.ref x0), .val (.int x1), .val (.int x2), .unset, .unset, .unset] [] h := by rw [qm_ex_eq, kM_104]; exact if_pos rfl
theorem kM_105 : qm_M 105 = (8, kt_105) := rfl
theorem ke_105 (x0 : Nat) (x1 : Int32) (x2 : Int32) (x3 : Int32) (x4 : Int32) : qm_ex qm_M X (d + 1) 105 [.ref x0, .int x1, .int x2, .int x3, .int x4] h = qm_go (qm_ex qm_M X d) X kt_105 kk_105_0 [.val (.ref x0), .val (.int x1), .val (.int x2), .val (.int x3), .val (.int x4), .unset, .unset, .unset] [] h := by rw [qm_ex_eq, kM_105]; exact if_pos rfl
theorem kM_106 : qm_M 106 = (5, kt_106) := rfl
theorem ke_106 (x0 : Nat) (x1 : Int32) (x2 : Int32) (x3 : Int32) : qm_ex qm_M X (d + 1) 106 [.ref x0, .int x1, .int x2, .int x3] h = qm_go (qm_ex qm_M X d) X kt_106 kk_106_0 [.val (.ref x0), .val (.int x1), .val (.int x2), .val (.int x3), .unset] [] h := by rw [qm_ex_eq, kM_106]; exact if_pos rfl
theorem kM_107 : qm_M 107 = (5, kt_107) := rfl
theorem ke_107 (x0 : Nat) (x1 : Int32) (x2 : Int32) : qm_ex qm_M X (d + 1) 107 [.ref x0, .int x1, .int x2] h = qm_go (qm_ex qm_M X d) X kt_107 kk_107_0 [.val (.ref x0), .val (.int x1), .val (.int x2), .unset, .unset] [] h := by rw [qm_ex_eq, kM_107]; exact if_pos rfl
theorem kM_108 : qm_M 108 = (10, kt_108) := rfl
theorem ke_108 (x0 : Nat) (x1 : Int32) (x2 : Int32) (x3 : Int32) : qm_ex qm_M X (d + 1) 108 [.ref x0, .int x1, .int x2, .int x3] h = qm_go (qm_ex qm_M X d) X kt_108 kk_108_0 [.val (.ref x0), .val (.int x1), .val (.int x2), .val (.int x3), .unset, .unset, .unset, .unset, .unset, .unset] [] h := by rw [qm_ex_eq, kM_108]; exact if_pos rfl
theorem kM_109 : qm_M 109 = (5, kt_109) := rfl
theorem ke_109 (x0 : Nat) (x1 : Int32) (x2 : Int32) : qm_ex qm_M X (d + 1) 109 [.ref x0, .int x1, .int x2] h = qm_go (qm_ex qm_M X d) X kt_109 kk_109_0 [.val (.ref x0), .val (.int x1), .val (.int x2), .unset, .unset] [] h := by rw [qm_ex_eq, kM_109]; exact if_pos rfl
theorem kM_110 : qm_M 110 = (1, kt_110) := rfl
theorem ke_110 (x0 : Nat) : qm_ex qm_M X (d + 1) 110 [.ref x0] h = qm_go (qm_ex qm_M X d) X kt_110 kk_110_0 [.val (.ref x0)] [] h := by rw [qm_ex_eq, kM_110]; exact if_pos rfl
theorem kM_111 : qm_M 111 = (1, kt_111) := rfl
theorem ke_111 (x0 : Nat) : qm_ex qm_M X (d + 1) 111 [.ref x0] h = qm_go (qm_ex qm_M X d) X kt_111 kk_111_0 [.val (.ref x0)] [] h := by rw [qm_ex_eq, kM_111]; exact if_pos rfl
theorem kM_112 : qm_M 112 = (1, kt_112) := rfl
theorem ke_112 (x0 : Nat) : qm_ex qm_M X (d + 1) 112 [.ref x0] h = qm_go (qm_ex qm_M X d) X kt_112 kk_112_0 [.val (.ref x0)] [] h := by rw [qm_ex_eq, kM_112]; exact if_pos rfl
theorem kM_113 : qm_M 113 = (1, kt_113) := rfl
theorem ke_113 (x0 : Nat) : qm_ex qm_M X (d + 1) 113 [.ref x0] h = qm_go (qm_ex qm_M X d) X kt_113 kk_113_0 [.val (.ref x0)] [] h := by rw [qm_ex_eq, kM_113]; exact if_pos rfl
theorem kM_114 : qm_M 114 = (2, kt_114) := rfl
theorem ke_114 (x0 : Nat) (x1 : Int32) : qm_ex qm_M X (d + 1) 114 [.ref x0, .int x1] h = qm_go (qm_ex qm_M X d) X kt_114 kk_114_0 [.val (.ref x0), .val (.int x1)] [] h := by rw [qm_ex_eq, kM_114]; exact if_pos rfl
theorem kM_115 : qm_M 115 = (1, kt_115) := rfl
theorem ke_115 (x0 : Nat) : qm_ex qm_M X (d + 1) 115 [.ref x0] h = qm_go (qm_ex qm_M X d) X kt_115 kk_115_0 [.val (.ref x0)] [] h := by rw [qm_ex_eq, kM_115]; exact if_pos rfl
theorem kM_116 : qm_M 116 = (2, kt_116) := rfl
theorem ke_116 (x0 : Nat) (x1 : Int32) : qm_ex qm_M X (d + 1) 116 [.ref x0, .int x1] h = qm_go (qm_ex qm_M X d) X kt_116 kk_116_0 [.val (.ref x0), .val (.int x1)] [] h := by rw [qm_ex_eq, kM_116]; exact if_pos rfl
theorem kM_117 : qm_M 117 = (4, kt_117) := rfl
theorem ke_117 (x0 : Nat) : qm_ex qm_M X (d + 1) 117 [.ref x0] h = qm_go (qm_ex qm_M X d) X kt_117 kk_117_0 [.val (.ref x0), .unset, .unset, .unset] [] h := by rw [qm_ex_eq, kM_117]; exact if_pos rfl
theorem kM_118 : qm_M 118 = (3, kt_118) := rfl
theorem ke_118 (x1 : Int32) (x2 : Int32) (x3 : Int32) : qm_ex qm_M X (d + 1) 118 [.int x1, .int x2, .int x3] h = qm_go (qm_ex qm_M X d) X kt_118 kk_118_0 [.val (.int x1), .val (.int x2), .val (.int x3)] [] h := by rw [qm_ex_eq, kM_118]; exact if_pos rfl
theorem kM_119 : qm_M 119 = (1, kt_119) := rfl
theorem ke_119 (x1 : Int32) : qm_ex qm_M X (d + 1) 119 [.int x1] h = qm_go (qm_ex qm_M X d) X kt_119 kk_119_0 [.val (.int x1)] [] h := by rw [qm_ex_eq, kM_119]; exact if_pos rfl
theorem kM_120 : qm_M 120 = (1, kt_120) := rfl
theorem ke_120 (x1 : Int32) : qm_ex qm_M X (d + 1) 120 [.int x1] h = qm_go (qm_ex qm_M X d) X kt_120 kk_120_0 [.val (.int x1)] [] h := by rw [qm_ex_eq, kM_120]; exact if_pos rfl
theorem kM_121 : qm_M 121 = (3, kt_121) := rfl
theorem ke_121 (x0 : Nat) (x1 : Int32) : qm_ex qm_M X (d + 1) 121 [.ref x0, .int x1] h = qm_go (qm_ex qm_M X d) X kt_121 kk_121_0 [.val (.ref x0), .val (.int x1), .unset] [] h := by rw [qm_ex_eq, kM_121]; exact if_pos rfl
theorem kM_122 : qm_M 122 = (3, kt_122) := rfl
theorem ke_122 (x0 : Nat) (x1 : Int32) : qm_ex qm_M X (d + 1) 122 [.ref x0, .int x1] h = qm_go (qm_ex qm_M X d) X kt_122 kk_122_0 [.val (.ref x0), .val (.int x1), .unset] [] h := by rw [qm_ex_eq, kM_122]; exact if_pos rfl
theorem kM_123 : qm_M 123 = (2, kt_123) := rfl
theorem ke_123 (x0 : Nat) (x1 : Int32) : qm_ex qm_M X (d + 1) 123 [.ref x0, .int x1] h = qm_go (qm_ex qm_M X d) X kt_123 kk_123_0 [.val (.ref x0), .val (.int x1)] [] h := by rw [qm_ex_eq, kM_123]; exact if_pos rfl
theorem kM_124 : qm_M 124 = (2, kt_124) := rfl
theorem ke_124 (x0 : Nat) (x1 : Int32) : qm_ex qm_M X (d + 1) 124 [.ref x0, .int x1] h = qm_go (qm_ex qm_M X d) X kt_124 kk_124_0 [.val (.ref x0), .val (.int x1)] [] h := by rw [qm_ex_eq, kM_124]; exact if_pos rfl
theorem kM_125 : qm_M 125 = (5, kt_125) := rfl
theorem ke_125 (x0 : Nat) (x1 : Int32) (x2 : Int32) : qm_ex qm_M X (d + 1) 125 [.ref x0, .int x1, .int x2] h = qm_go (qm_ex qm_M X d) X kt_125 kk_125_0 [.val (.ref x0), .val (.int x1), .val (.int x2), .unset, .unset] [] h := by rw [qm_ex_eq, kM_125]; exact if_pos rfl
theorem kM_126 : qm_M 126 = (7, kt_126) := rfl
theorem ke_126 (x0 : Nat) (x1 : Nat) (x2 : Nat) (x3 : Int32) (x4 : Int32) : qm_ex qm_M X (d + 1) 126 [.ref x0, .ref x1, .ref x2, .int x3, .int x4] h = qm_go (qm_ex qm_M X d) X kt_126 kk_126_0 [.val (.ref x0), .val (.ref x1), .val (.ref x2), .val (.int x3), .val (.int x4), .unset, .unset] [] h := by rw [qm_ex_eq, kM_126]; exact if_pos rfl
theorem kM_127 : qm_M 127 = (3, kt_127) := rfl
theorem ke_127 (x0 : Nat) : qm_ex qm_M X (d + 1) 127 [.ref x0] h = qm_go (qm_ex qm_M X d) X kt_127 kk_127_0 [.val (.ref x0), .unset, .unset] [] h := by rw [qm_ex_eq, kM_127]; exact if_pos rfl
theorem kM_128 : qm_M 128 = (4, kt_128) := rfl
theorem ke_128 (x0 : Nat) (x1 : Int32) : qm_ex qm_M X (d + 1) 128 [.ref x0, .int x1] h = qm_go (qm_ex qm_M X d) X kt_128 kk_128_0 [.val (.ref x0), .val (.int x1), .unset, .unset] [] h := by rw [qm_ex_eq, kM_128]; exact if_pos rfl
theorem kM_129 : qm_M 129 = (3, kt_129) := rfl
theorem ke_129 (x0 : Nat) : qm_ex qm_M X (d + 1) 129 [.ref x0] h = qm_go (qm_ex qm_M X d) X kt_129 kk_129_0 [.val (.ref x0), .unset, .unset] [] h := by rw [qm_ex_eq, kM_129]; exact if_pos rfl
theorem kM_130 : qm_M 130 = (2, kt_130) := rfl
theorem ke_130 (x0 : Nat) : qm_ex qm_M X (d + 1) 130 [.ref x0] h = qm_go (qm_ex qm_M X d) X kt_130 kk_130_0 [.val (.ref x0), .unset] [] h := by rw [qm_ex_eq, kM_130]; exact if_pos rfl
theorem kM_131 : qm_M 131 = (3, kt_131) := rfl
theorem ke_131 (x1 : Int32) (x2 : Int32) (x3 : Int32) : qm_ex qm_M X (d + 1) 131 [.int x1, .int x2, .int x3] h = qm_go (qm_ex qm_M X d) X kt_131 kk_131_0 [.val (.int x1), .val (.int x2), .val (.int x3)] [] h := by rw [qm_ex_eq, kM_131]; exact if_pos rfl
theorem kM_132 : qm_M 132 = (2, kt_132) := rfl
theorem ke_132 (x1 : Int32) (x2 : Int32) : qm_ex qm_M X (d + 1) 132 [.int x1, .int x2] h = qm_go (qm_ex qm_M X d) X kt_132 kk_132_0 [.val (.int x1), .val (.int x2)] [] h := by rw [qm_ex_eq, kM_132]; exact if_pos rfl
theorem kM_133 : qm_M 133 = (3, kt_133) := rfl
theorem ke_133 (x1 : Int32) : qm_ex qm_M X (d + 1) 133 [.int x1] h = qm_go (qm_ex qm_M X d) X kt_133 kk_133_0 [.val (.int x1), .unset, .unset] [] h := by rw [qm_ex_eq, kM_133]; exact if_pos rfl
theorem kM_134 : qm_M 134 = (2, kt_134) := rfl
theorem ke_134 (x0 : Nat) (x1 : Int32) : qm_ex qm_M X (d + 1) 134 [.ref x0, .int x1] h = qm_go (qm_ex qm_M X d) X kt_134 kk_134_0 [.val (.ref x0), .val (.int x1)] [] h := by rw [qm_ex_eq, kM_134]; exact if_pos rfl
theorem kM_135 : qm_M 135 = (1, kt_135) := rfl
theorem ke_135 (x0 : Nat) : qm_ex qm_M X (d + 1) 135 [.ref x0] h = qm_go (qm_ex qm_M X d) X kt_135 kk_135_0 [.val (.ref x0)] [] h := by rw [qm_ex_eq, kM_135]; exact if_pos rfl
theorem kM_136 : qm_M 136 = (2, kt_136) := rfl
theorem ke_136 (x0 : Nat) (x1 : Int32) : qm_ex qm_M X (d + 1) 136 [.ref x0, .int x1] h = qm_go (qm_ex qm_M X d) X kt_136 kk_136_0 [.val (.ref x0), .val (.int x1)] [] h := by rw [qm_ex_eq, kM_136]; exact if_pos rfl
theorem kM_137 : qm_M 137 = (3, kt_137) := rfl
theorem ke_137 (x0 : Nat) (x1 : Int32) (x2 : Int32) : qm_ex qm_M X (d + 1) 137 [.ref x0, .int x1, .int x2] h = qm_go (qm_ex qm_M X d) X kt_137 kk_137_0 [.val (.ref x0), .val (.int x1), .val (.int x2)] [] h := by rw [qm_ex_eq, kM_137]; exact if_pos rfl
theorem kM_138 : qm_M 138 = (3, kt_138) := rfl
theorem ke_138 (x0 : Nat) (x1 : Int64) : qm_ex qm_M X (d + 1) 138 [.ref x0, .long x1] h = qm_go (qm_ex qm_M X d) X kt_138 kk_138_0 [.val (.ref x0), .val (.long x1), .second] [] h := by rw [qm_ex_eq, kM_138]; exact if_pos rfl
theorem kM_139 : qm_M 139 = (1, kt_139) := rfl
theorem ke_139 (x0 : Nat) : qm_ex qm_M X (d + 1) 139 [.ref x0] h = qm_go (qm_ex qm_M X d) X kt_139 kk_139_0 [.val (.ref x0)] [] h := by rw [qm_ex_eq, kM_139]; exact if_pos rfl
theorem kM_140 : qm_M 140 = (1, kt_140) := rfl
theorem ke_140 (x0 : Nat) : qm_ex qm_M X (d + 1) 140 [.ref x0] h = qm_go (qm_ex qm_M X d) X kt_140 kk_140_0 [.val (.ref x0)] [] h := by rw [qm_ex_eq, kM_140]; exact if_pos rfl
theorem kM_141 : qm_M 141 = (1, kt_141) := rfl
theorem ke_141 (x0 : Nat) : qm_ex qm_M X (d + 1) 141 [.ref x0] h = qm_go (qm_ex qm_M X d) X kt_141 kk_141_0 [.val (.ref x0)] [] h := by rw [qm_ex_eq, kM_141]; exact if_pos rfl
theorem kM_142 : qm_M 142 = (1, kt_142) := rfl
theorem ke_142 (x0 : Nat) : qm_ex qm_M X (d + 1) 142 [.ref x0] h = qm_go (qm_ex qm_M X d) X kt_142 kk_142_0 [.val (.ref x0)] [] h := by rw [qm_ex_eq, kM_142]; exact if_pos rfl
theorem kM_143 : qm_M 143 = (1, kt_143) := rfl
theorem ke_143 (x1 : Int32) : qm_ex qm_M X (d + 1) 143 [.int x1] h = qm_go (qm_ex qm_M X d) X kt_143 kk_143_0 [.val (.int x1)] [] h := by rw [qm_ex_eq, kM_143]; exact if_pos rfl
theorem kM_144 : qm_M 144 = (3, kt_144) := rfl
theorem ke_144 (x0 : Nat) (x1 : Int32) (x2 : Int32) : qm_ex qm_M X (d + 1) 144 [.ref x0, .int x1, .int x2] h = qm_go (qm_ex qm_M X d) X kt_144 kk_144_0 [.val (.ref x0), .val (.int x1), .val (.int x2)] [] h := by rw [qm_ex_eq, kM_144]; exact if_pos rfl
theorem kM_145 : qm_M 145 = (4, kt_145) := rfl
theorem ke_145 (x0 : Nat) (x1 : Int32) (x2 : Int32) : qm_ex qm_M X (d + 1) 145 [.ref x0, .int x1, .int x2] h = qm_go (qm_ex qm_M X d) X kt_145 kk_145_0 [.val (.ref x0), .val (.int x1), .val (.int x2), .unset] [] h := by rw [qm_ex_eq, kM_145]; exact if_pos rfl
theorem kM_146 : qm_M 146 = (3, kt_146) := rfl
theorem ke_146 (x0 : Nat) (x1 : Int32) (x2 : Int32) : qm_ex qm_M X (d + 1) 146 [.ref x0, .int x1, .int x2] h = qm_go (qm_ex qm_M X d) X kt_146 kk_146_0 [.val (.ref x0), .val (.int x1), .val (.int x2)] [] h := by rw [qm_ex_eq, kM_146]; exact if_pos rfl
theorem kM_147 : qm_M 147 = (5, kt_147) := rfl
theorem ke_147 (x0 : Nat) (x1 : Int32) (x2 : Int32) (x3 : Int32) : qm_ex qm_M X (d + 1) 147 [.ref x0, .int x1, .int x2, .int x3] h = qm_go (qm_ex qm_M X d) X kt_147 kk_147_0 [.val (.ref x0), .val (.int x1), .val (.int x2), .val (.int x3), .unset] [] h := by rw [qm_ex_eq, kM_147]; exact if_pos rfl
theorem kM_148 : qm_M 148 = (2, kt_148) := rfl
theorem ke_148 (x0 : Nat) (x1 : Int32) : qm_ex qm_M X (d + 1) 148 [.ref x0, .int x1] h = qm_go (qm_ex qm_M X d) X kt_148 kk_148_0 [.val (.ref x0), .val (.int x1)] [] h := by rw [qm_ex_eq, kM_148]; exact if_pos rfl
theorem kM_149 : qm_M 149 = (7, kt_149) := rfl
theorem ke_149 (x0 : Nat) (x1 : Int32) (x2 : Int32) (x3 : Int32) (x4 : Int32) (x5 : Int32) : qm_ex qm_M X (d + 1) 149 [.ref x0, .int x1, .int x2, .int x3, .int x4, .int x5] h = qm_go (qm_ex qm_M X d) X kt_149 kk_149_0 [.val (.ref x0), .val (.int x1), .val (.int x2), .val (.int x3), .val (.int x4), .val (.int x5), .unset] [] h := by rw [qm_ex_eq, kM_149]; exact if_pos rfl
theorem kM_150 : qm_M 150 = (5, kt_150) := rfl
theorem ke_150 (x0 : Nat) (x1 : Int32) : qm_ex qm_M X (d + 1) 150 [.ref x0, .int x1] h = qm_go (qm_ex qm_M X d) X kt_150 kk_150_0 [.val (.ref x0), .val (.int x1), .unset, .unset, .unset] [] h := by rw [qm_ex_eq, kM_150]; exact if_pos rfl
theorem kM_151 : qm_M 151 = (1, kt_151) := rfl
theorem ke_151 (x1 : Int32) : qm_ex qm_M X (d + 1) 151 [.int x1] h = qm_go (qm_ex qm_M X d) X kt_151 kk_151_0 [.val (.int x1)] [] h := by rw [qm_ex_eq, kM_151]; exact if_pos rfl
theorem kM_152 : qm_M 152 = (3, kt_152) := rfl
theorem ke_152 (x0 : Nat) (x1 : Int32) (x2 : Int32) : qm_ex qm_M X (d + 1) 152 [.ref x0, .int x1, .int x2] h = qm_go (qm_ex qm_M X d) X kt_152 kk_152_0 [.val (.ref x0), .val (.int x1), .val (.int x2)] [] h := by rw [qm_ex_eq, kM_152]; exact if_pos rfl
theorem kM_153 : qm_M 153 = (4, kt_153) := rfl
theorem ke_153 (x0 : Nat) (x1 : Int32) : qm_ex qm_M X (d + 1) 153 [.ref x0, .int x1] h = qm_go (qm_ex qm_M X d) X kt_153 kk_153_0 [.val (.ref x0), .val (.int x1), .unset, .unset] [] h := by rw [qm_ex_eq, kM_153]; exact if_pos rfl
theorem kM_154 : qm_M 154 = (6, kt_154) := rfl
theorem ke_154 (x0 : Nat) (x1 : Int32) (x2 : Int32) (x3 : Int32) (x4 : Int32) : qm_ex qm_M X (d + 1) 154 [.ref x0, .int x1, .int x2, .int x3, .int x4] h = qm_go (qm_ex qm_M X d) X kt_154 kk_154_0 [.val (.ref x0), .val (.int x1), .val (.int x2), .val (.int x3), .val (.int x4), .unset] [] h := by rw [qm_ex_eq, kM_154]; exact if_pos rfl
theorem kM_155 : qm_M 155 = (4, kt_155) := rfl
theorem ke_155 (x0 : Nat) (x1 : Int32) (x2 : Int32) (x3 : Int32) : qm_ex qm_M X (d + 1) 155 [.ref x0, .int x1, .int x2, .int x3] h = qm_go (qm_ex qm_M X d) X kt_155 kk_155_0 [.val (.ref x0), .val (.int x1), .val (.int x2), .val (.int x3)] [] h := by rw [qm_ex_eq, kM_155]; exact if_pos rfl
theorem kM_156 : qm_M 156 = (7, kt_156) := rfl
theorem ke_156 (x0 : Nat) (x1 : Int32) (x2 : Int32) (x3 : Int32) : qm_ex qm_M X (d + 1) 156 [.ref x0, .int x1, .int x2, .int x3] h = qm_go (qm_ex qm_M X d) X kt_156 kk_156_0 [.val (.ref x0), .val (.int x1), .val (.int x2), .val (.int x3), .unset, .unset, .unset] [] h := by rw [qm_ex_eq, kM_156]; exact if_pos rfl
theorem kM_157 : qm_M 157 = (8, kt_157) := rfl
theorem ke_157 (x0 : Nat) (x1 : Int32) (x2 : Int32) (x3 : Int32) : qm_ex qm_M X (d + 1) 157 [.ref x0, .int x1, .int x2, .int x3] h = qm_go (qm_ex qm_M X d) X kt_157 kk_157_0 [.val (.ref x0), .val (.int x1), .val (.int x2), .val (.int x3), .unset, .unset, .unset, .unset] [] h := by rw [qm_ex_eq, kM_157]; exact if_pos rfl
theorem kM_158 : qm_M 158 = (6, kt_158) := rfl
theorem ke_158 (x0 : Nat) (x1 : Int32) (x2 : Int32) (x3 : Int32) : qm_ex qm_M X (d + 1) 158 [.ref x0, .int x1, .int x2, .int x3] h = qm_go (qm_ex qm_M X d) X kt_158 kk_158_0 [.val (.ref x0), .val (.int x1), .val (.int x2), .val (.int x3), .unset, .unset] [] h := by rw [qm_ex_eq, kM_158]; exact if_pos rfl
theorem kM_159 : qm_M 159 = (3, kt_159) := rfl
theorem ke_159 (x0 : Nat) (x1 : Int32) (x2 : Int32) : qm_ex qm_M X (d + 1) 159 [.ref x0, .int x1, .int x2] h = qm_go (qm_ex qm_M X d) X kt_159 kk_159_0 [.val (.ref x0), .val (.int x1), .val (.int x2)] [] h := by rw [qm_ex_eq, kM_159]; exact if_pos rfl
theorem kM_160 : qm_M 160 = (3, kt_160) := rfl
theorem ke_160 (x0 : Nat) (x1 : Int32) : qm_ex qm_M X (d + 1) 160 [.ref x0, .int x1] h = qm_go (qm_ex qm_M X d) X kt_160 kk_160_0 [.val (.ref x0), .val (.int x1), .unset] [] h := by rw [qm_ex_eq, kM_160]; exact if_pos rfl
theorem kM_161 : qm_M 161 = (4, kt_161) := rfl
theorem ke_161 (x0 : Nat) (x1 : Int32) (x2 : Int32) : qm_ex qm_M X (d + 1) 161 [.ref x0, .int x1, .int x2] h = qm_go (qm_ex qm_M X d) X kt_161 kk_161_0 [.val (.ref x0), .val (.int x1), .val (.int x2), .unset] [] h := by rw [qm_ex_eq, kM_161]; exact if_pos rfl
theorem kM_162 : qm_M 162 = (3, kt_162) := rfl
theorem ke_162 (x0 : Nat) (x1 : Int32) (x2 : Int32) : qm_ex qm_M X (d + 1) 162 [.ref x0, .int x1, .int x2] h = qm_go (qm_ex qm_M X d) X kt_162 kk_162_0 [.val (.ref x0), .val (.int x1), .val (.int x2)] [] h := by rw [qm_ex_eq, kM_162]; exact if_pos rfl
theorem kM_163 : qm_M 163 = (4, kt_163) := rfl
theorem ke_163 (x0 : Nat) (x1 : Int32) (x2 : Int32) : qm_ex qm_M X (d + 1) 163 [.ref x0, .int x1, .int x2] h = qm_go (qm_ex qm_M X d) X kt_163 kk_163_0 [.val (.ref x0), .val (.int x1), .val (.int x2), .unset] [] h := by rw [qm_ex_eq, kM_163]; exact if_pos rfl
theorem kM_164 : qm_M 164 = (6, kt_164) := rfl
theorem ke_164 (x0 : Nat) (x1 : Int32) (x2 : Int32) : qm_ex qm_M X (d + 1) 164 [.ref x0, .int x1, .int x2] h = qm_go (qm_ex qm_M X d) X kt_164 kk_164_0 [.val (.ref x0), .val (.int x1), .val (.int x2), .unset, .unset, .unset] [] h := by rw [qm_ex_eq, kM_164]; exact if_pos rfl
theorem kM_165 : qm_M 165 = (4, kt_165) := rfl
theorem ke_165 (x0 : Nat) (x1 : Int32) (x2 : Int32) (x3 : Int32) : qm_ex qm_M X (d + 1) 165 [.ref x0, .int x1, .int x2, .int x3] h = qm_go (qm_ex qm_M X d) X kt_165 kk_165_0 [.val (.ref x0), .val (.int x1), .val (.int x2), .val (.int x3)] [] h := by rw [qm_ex_eq, kM_165]; exact if_pos rfl
theorem kM_166 : qm_M 166 = (4, kt_166) := rfl
theorem ke_166 (x0 : Nat) (x1 : Int32) (x2 : Int32) (x3 : Int32) : qm_ex qm_M X (d + 1) 166 [.ref x0, .int x1, .int x2, .int x3] h = qm_go (qm_ex qm_M X d) X kt_166 kk_166_0 [.val (.ref x0), .val (.int x1), .val (.int x2), .val (.int x3)] [] h := by rw [qm_ex_eq, kM_166]; exact if_pos rfl
theorem kM_167 : qm_M 167 = (5, kt_167) := rfl
theorem ke_167 (x0 : Nat) (x1 : Int32) (x2 : Int32) (x3 : Int32) : qm_ex qm_M X (d + 1) 167 [.ref x0, .int x1, .int x2, .int x3] h = qm_go (qm_ex qm_M X d) X kt_167 kk_167_0 [.val (.ref x0), .val (.int x1), .val (.int x2), .val (.int x3), .unset] [] h := by rw [qm_ex_eq, kM_167]; exact if_pos rfl
theorem kM_168 : qm_M 168 = (7, kt_168) := rfl
theorem ke_168 (x0 : Nat) (x1 : Int32) (x2 : Int32) (x3 : Int32) (x4 : Int32) : qm_ex qm_M X (d + 1) 168 [.ref x0, .int x1, .int x2, .int x3, .int x4] h = qm_go (qm_ex qm_M X d) X kt_168 kk_168_0 [.val (.ref x0), .val (.int x1), .val (.int x2), .val (.int x3), .val (.int x4), .unset, .unset] [] h := by rw [qm_ex_eq, kM_168]; exact if_pos rfl
theorem kM_169 : qm_M 169 = (5, kt_169) := rfl
theorem ke_169 (x0 : Nat) (x1 : Int32) (x2 : Int32) : qm_ex qm_M X (d + 1) 169 [.ref x0, .int x1, .int x2] h = qm_go (qm_ex qm_M X d) X kt_169 kk_169_0 [.val (.ref x0), .val (.int x1), .val (.int x2), .unset, .unset] [] h := by rw [qm_ex_eq, kM_169]; exact if_pos rfl
theorem kM_170 : qm_M 170 = (6, kt_170) := rfl
theorem ke_170 (x0 : Nat) (x1 : Int32) (x2 : Int32) : qm_ex qm_M X (d + 1) 170 [.ref x0, .int x1, .int x2] h = qm_go (qm_ex qm_M X d) X kt_170 kk_170_0 [.val (.ref x0), .val (.int x1), .val (.int x2), .unset, .unset, .unset] [] h := by rw [qm_ex_eq, kM_170]; exact if_pos rfl
theorem kM_171 : qm_M 171 = (8, kt_171) := rfl
theorem ke_171 (x0 : Nat) (x1 : Int32) (x2 : Int32) (x3 : Int32) (x4 : Int32) : qm_ex qm_M X (d + 1) 171 [.ref x0, .int x1, .int x2, .int x3, .int x4] h = qm_go (qm_ex qm_M X d) X kt_171 kk_171_0 [.val (.ref x0), .val (.int x1), .val (.int x2), .val (.int x3), .val (.int x4), .unset, .unset, .unset] [] h := by rw [qm_ex_eq, kM_171]; exact if_pos rfl
theorem kM_172 : qm_M 172 = (4, kt_172) := rfl
theorem ke_172 (x0 : Nat) (x1 : Int32) (x2 : Int32) (x3 : Int32) : qm_ex qm_M X (d + 1) 172 [.ref x0, .int x1, .int x2, .int x3] h = qm_go (qm_ex qm_M X d) X kt_172 kk_172_0 [.val (.ref x0), .val (.int x1), .val (.int x2), .val (.int x3)] [] h := by rw [qm_ex_eq, kM_172]; exact if_pos rfl
theorem kM_173 : qm_M 173 = (9, kt_173) := rfl
theorem ke_173 (x0 : Nat) (x1 : Int32) (x2 : Int32) (x3 : Int32) : qm_ex qm_M X (d + 1) 173 [.ref x0, .int x1, .int x2, .int x3] h = qm_go (qm_ex qm_M X d) X kt_173 kk_173_0 [.val (.ref x0), .val (.int x1), .val (.int x2), .val (.int x3), .unset, .unset, .unset, .unset, .unset] [] h := by rw [qm_ex_eq, kM_173]; exact if_pos rfl
theorem kM_174 : qm_M 174 = (7, kt_174) := rfl
theorem ke_174 (x0 : Nat) (x1 : Nat) (x2 : Int32) (x3 : Int32) : qm_ex qm_M X (d + 1) 174 [.ref x0, .ref x1, .int x2, .int x3] h = qm_go (qm_ex qm_M X d) X kt_174 kk_174_0 [.val (.ref x0), .val (.ref x1), .val (.int x2), .val (.int x3), .unset, .unset, .unset] [] h := by rw [qm_ex_eq, kM_174]; exact if_pos rfl
theorem kM_175 : qm_M 175 = (2, kt_175) := rfl
theorem ke_175 (x0 : Nat) (x1 : Int32) : qm_ex qm_M X (d + 1) 175 [.ref x0, .int x1] h = qm_go (qm_ex qm_M X d) X kt_175 kk_175_0 [.val (.ref x0), .val (.int x1)] [] h := by rw [qm_ex_eq, kM_175]; exact if_pos rfl
theorem kM_176 : qm_M 176 = (4, kt_176) := rfl
theorem ke_176 (x0 : Nat) (x1 : Int32) (x2 : Int32) : qm_ex qm_M X (d + 1) 176 [.ref x0, .int x1, .int x2] h = qm_go (qm_ex qm_M X d) X kt_176 kk_176_0 [.val (.ref x0), .val (.int x1), .val (.int x2), .unset] [] h := by rw [qm_ex_eq, kM_176]; exact if_pos rfl
theorem kM_177 : qm_M 177 = (2, kt_177) := rfl
theorem ke_177 (x0 : Nat) (x1 : Int32) : qm_ex qm_M X (d + 1) 177 [.ref x0, .int x1] h = qm_go (qm_ex qm_M X d) X kt_177 kk_177_0 [.val (.ref x0), .val (.int x1)] [] h := by rw [qm_ex_eq, kM_177]; exact if_pos rfl
theorem kM_178 : qm_M 178 = (10, kt_178) := rfl
theorem ke_178 (x0 : Nat) (x1 : Int32) (x2 : Int32) (x3 : Int32) (x4 : Int32) (x5 : Int32) : qm_ex qm_M X (d + 1) 178 [.ref x0, .int x1, .int x2, .int x3, .int x4, .int x5] h = qm_go (qm_ex qm_M X d) X kt_178 kk_178_0 [.val (.ref x0), .val (.int x1), .val (.int x2), .val (.int x3), .val (.int x4), .val (.int x5), .unset, .unset, .unset, .unset] [] h := by rw [qm_ex_eq, kM_178]; exact if_pos rfl
theorem kM_179 : qm_M 179 = (4, kt_179) := rfl
theorem ke_179 (x0 : Nat) (x1 : Int32) (x2 : Int32) : qm_ex qm_M X (d + 1) 179 [.ref x0, .int x1, .int x2] h = qm_go (qm_ex qm_M X d) X kt_179 kk_179_0 [.val (.ref x0), .val (.int x1), .val (.int x2), .unset] [] h := by rw [qm_ex_eq, kM_179]; exact if_pos rfl
theorem kM_180 : qm_M 180 = (8, kt_180) := rfl
theorem ke_180 (x0 : Nat) (x1 : Int32) : qm_ex qm_M X (d + 1) 180 [.ref x0, .int x1] h = qm_go (qm_ex qm_M X d) X kt_180 kk_180_0 [.val (.ref x0), .val (.int x1), .unset, .unset, .unset, .unset, .unset, .unset] [] h := by rw [qm_ex_eq, kM_180]; exact if_pos rfl
theorem kM_181 : qm_M 181 = (2, kt_181) := rfl
theorem ke_181 (x0 : Nat) : qm_ex qm_M X (d + 1) 181 [.ref x0] h = qm_go (qm_ex qm_M X d) X kt_181 kk_181_0 [.val (.ref x0), .unset] [] h := by rw [qm_ex_eq, kM_181]; exact if_pos rfl
theorem kM_182 : qm_M 182 = (3, kt_182) := rfl
theorem ke_182 (x0 : Nat) : qm_ex qm_M X (d + 1) 182 [.ref x0] h = qm_go (qm_ex qm_M X d) X kt_182 kk_182_0 [.val (.ref x0), .unset, .unset] [] h := by rw [qm_ex_eq, kM_182]; exact if_pos rfl
theorem kM_183 : qm_M 183 = (4, kt_183) := rfl
theorem ke_183 (x0 : Nat) (x1 : Int32) (x2 : Int32) : qm_ex qm_M X (d + 1) 183 [.ref x0, .int x1, .int x2] h = qm_go (qm_ex qm_M X d) X kt_183 kk_183_0 [.val (.ref x0), .val (.int x1), .val (.int x2), .unset] [] h := by rw [qm_ex_eq, kM_183]; exact if_pos rfl
theorem kM_184 : qm_M 184 = (4, kt_184) := rfl
theorem ke_184 (x0 : Nat) (x1 : Int32) (x2 : Int32) : qm_ex qm_M X (d + 1) 184 [.ref x0, .int x1, .int x2] h = qm_go (qm_ex qm_M X d) X kt_184 kk_184_0 [.val (.ref x0), .val (.int x1), .val (.int x2), .unset] [] h := by rw [qm_ex_eq, kM_184]; exact if_pos rfl
theorem kM_185 : qm_M 185 = (6, kt_185) := rfl
theorem ke_185 (x0 : Nat) (x1 : Int32) (x2 : Int32) : qm_ex qm_M X (d + 1) 185 [.ref x0, .int x1, .int x2] h = qm_go (qm_ex qm_M X d) X kt_185 kk_185_0 [.val (.ref x0), .val (.int x1), .val (.int x2), .unset, .unset, .unset] [] h := by rw [qm_ex_eq, kM_185]; exact if_pos rfl
theorem kM_186 : qm_M 186 = (10, kt_186) := rfl
theorem ke_186 (x0 : Nat) (x1 : Int32) (x2 : Int32) : qm_ex qm_M X (d + 1) 186 [.ref x0, .int x1, .int x2] h = qm_go (qm_ex qm_M X d) X kt_186 kk_186_0 [.val (.ref x0), .val (.int x1), .val (.int x2), .unset, .unset, .unset, .unset, .unset, .unset, .unset] [] h := by rw [qm_ex_eq, kM_186]; exact if_pos rfl
theorem kM_187 : qm_M 187 = (4, kt_187) := rfl
theorem ke_187 (x0 : Nat) (x1 : Int32) (x2 : Int32) : qm_ex qm_M X (d + 1) 187 [.ref x0, .int x1, .int x2] h = qm_go (qm_ex qm_M X d) X kt_187 kk_187_0 [.val (.ref x0), .val (.int x1), .val (.int x2), .unset] [] h := by rw [qm_ex_eq, kM_187]; exact if_pos rfl
theorem kM_188 : qm_M 188 = (6, kt_188) := rfl
theorem ke_188 (x0 : Nat) (x1 : Int32) (x2 : Int32) (x3 : Int32) (x4 : Int32) : qm_ex qm_M X (d + 1) 188 [.ref x0, .int x1, .int x2, .int x3, .int x4] h = qm_go (qm_ex qm_M X d) X kt_188 kk_188_0 [.val (.ref x0), .val (.int x1), .val (.int x2), .val (.int x3), .val (.int x4), .unset] [] h := by rw [qm_ex_eq, kM_188]; exact if_pos rfl
theorem kM_189 : qm_M 189 = (7, kt_189) := rfl
theorem ke_189 (x0 : Nat) (x1 : Int32) : qm_ex qm_M X (d + 1) 189 [.ref x0, .int x1] h = qm_go (qm_ex qm_M X d) X kt_189 kk_189_0 [.val (.ref x0), .val (.int x1), .unset, .unset, .unset, .unset, .unset] [] h := by rw [qm_ex_eq, kM_189]; exact if_pos rfl
theorem kM_190 : qm_M 190 = (6, kt_190) := rfl
theorem ke_190 (x0 : Nat) (x1 : Int32) (x2 : Int32) : qm_ex qm_M X (d + 1) 190 [.ref x0, .int x1, .int x2] h = qm_go (qm_ex qm_M X d) X kt_190 kk_190_0 [.val (.ref x0), .val (.int x1), .val (.int x2), .unset, .unset, .unset] [] h := by rw [qm_ex_eq, kM_190]; exact if_pos rfl
theorem kM_191 : qm_M 191 = (7, kt_191) := rfl
theorem ke_191 (x0 : Nat) (x1 : Int32) (x2 : Int32) : qm_ex qm_M X (d + 1) 191 [.ref x0, .int x1, .int x2] h = qm_go (qm_ex qm_M X d) X kt_191 kk_191_0 [.val (.ref x0), .val (.int x1), .val (.int x2), .unset, .unset, .unset, .unset] [] h := by rw [qm_ex_eq, kM_191]; exact if_pos rfl
theorem kM_192 : qm_M 192 = (4, kt_192) := rfl
theorem ke_192 (x0 : Nat) (x1 : Int32) : qm_ex qm_M X (d + 1) 192 [.ref x0, .int x1] h = qm_go (qm_ex qm_M X d) X kt_192 kk_192_0 [.val (.ref x0), .val (.int x1), .unset, .unset] [] h := by rw [qm_ex_eq, kM_192]; exact if_pos rfl
theorem kM_193 : qm_M 193 = (4, kt_193) := rfl
theorem ke_193 (x0 : Nat) (x1 : Int32) : qm_ex qm_M X (d + 1) 193 [.ref x0, .int x1] h = qm_go (qm_ex qm_M X d) X kt_193 kk_193_0 [.val (.ref x0), .val (.int x1), .unset, .unset] [] h := by rw [qm_ex_eq, kM_193]; exact if_pos rfl
theorem kM_194 : qm_M 194 = (5, kt_194) := rfl
theorem ke_194 (x0 : Nat) (x1 : Int32) (x2 : Int32) (x3 : Int32) (x4 : Int32) : qm_ex qm_M X (d + 1) 194 [.ref x0, .int x1, .int x2, .int x3, .int x4] h = qm_go (qm_ex qm_M X d) X kt_194 kk_194_0 [.val (.ref x0), .val (.int x1), .val (.int x2), .val (.int x3), .val (.int x4)] [] h := by rw [qm_ex_eq, kM_194]; exact if_pos rfl
theorem kM_195 : qm_M 195 = (5, kt_195) := rfl
theorem ke_195 (x0 : Nat) (x1 : Int32) (x2 : Int32) (x3 : Int32) : qm_ex qm_M X (d + 1) 195 [.ref x0, .int x1, .int x2, .int x3] h = qm_go (qm_ex qm_M X d) X kt_195 kk_195_0 [.val (.ref x0), .val (.int x1), .val (.int x2), .val (.int x3), .unset] [] h := by rw [qm_ex_eq, kM_195]; exact if_pos rfl
theorem kM_196 : qm_M 196 = (8, kt_196) := rfl
theorem ke_196 (x0 : Nat) (x1 : Int32) (x2 : Int32) (x3 : Int32) (x4 : Int32) : qm_ex qm_M X (d + 1) 196 [.ref x0, .int x1, .int x2, .int x3, .int x4] h = qm_go (qm_ex qm_M X d) X kt_196 kk_196_0 [.val (.ref x0), .val (.int x1), .val (.int x2), .val (.int x3), .val (.int x4), .unset, .unset, .unset] [] h := by rw [qm_ex_eq, kM_196]; exact if_pos rfl
theorem kM_197 : qm_M 197 = (13, kt_197) := rfl
theorem ke_197 (x0 : Nat) (x1 : Int32) (x2 : Int32) (x3 : Int64) : qm_ex qm_M X (d + 1) 197 [.ref x0, .int x1, .int x2, .long x3] h = qm_go (qm_ex qm_M X d) X kt_197 kk_197_0 [.val (.ref x0), .val (.int x1), .val (.int x2), .val (.long x3), .second, .unset, .unset, .unset, .unset, .unset, .unset, .unset, .unset] [] h := by rw [qm_ex_eq, kM_197]; exact if_pos rfl
theorem kM_198 : qm_M 198 = (4, kt_198) := rfl
theorem ke_198 (x0 : Nat) (x1 : Int32) (x2 : Int32) : qm_ex qm_M X (d + 1) 198 [.ref x0, .int x1, .int x2] h = qm_go (qm_ex qm_M X d) X kt_198 kk_198_0 [.val (.ref x0), .val (.int x1), .val (.int x2), .unset] [] h := by rw [qm_ex_eq, kM_198]; exact if_pos rfl
theorem kM_199 : qm_M 199 = (6, kt_199) := rfl
theorem ke_199 (x0 : Nat) (x1 : Int32) (x2 : Int32) (x3 : Int32) (x4 : Int32) : qm_ex qm_M X (d + 1) 199 [.ref x0, .int x1, .int x2, .int x3, .int x4] h = qm_go (qm_ex qm_M X d) X kt_199 kk_199_0 [.val (.ref x0), .val (.int x1), .val (.int x2), .val (.int x3), .val (.int x4), .unset] [] h := by rw [qm_ex_eq, kM_199]; exact if_pos rfl
theorem kM_200 : qm_M 200 = (9, kt_200) := rfl
theorem ke_200 (x0 : Nat) (x1 : Int32) (x2 : Int32) (x3 : Int32) : qm_ex qm_M X (d + 1) 200 [.ref x0, .int x1, .int x2, .int x3] h = qm_go (qm_ex qm_M X d) X kt_200 kk_200_0 [.val (.ref x0), .val (.int x1), .val (.int x2), .val (.int x3), .unset, .unset, .unset, .unset, .unset] [] h := by rw [qm_ex_eq, kM_200]; exact if_pos rfl
theorem kM_201 : qm_M 201 = (9, kt_201) := rfl
theorem ke_201 (x0 : Nat) (x1 : Int32) : qm_ex qm_M X (d + 1) 201 [.ref x0, .int x1] h = qm_go (qm_ex qm_M X d) X kt_201 kk_201_0 [.val (.ref x0), .val (.int x1), .unset, .unset, .unset, .unset, .unset, .unset, .unset] [] h := by rw [qm_ex_eq, kM_201]; exact if_pos rfl
theorem kM_202 : qm_M 202 = (4, kt_202) := rfl
theorem ke_202 (x0 : Nat) (x1 : Int32) (x2 : Int32) : qm_ex qm_M X (d + 1) 202 [.ref x0, .int x1, .int x2] h = qm_go (qm_ex qm_M X d) X kt_202 kk_202_0 [.val (.ref x0), .val (.int x1), .val (.int x2), .unset] [] h := by rw [qm_ex_eq, kM_202]; exact if_pos rfl
theorem kM_203 : qm_M 203 = (4, kt_203) := rfl
theorem ke_203 (x0 : Nat) (x1 : Int32) (x2 : Int32) : qm_ex qm_M X (d + 1) 203 [.ref x0, .int x1, .int x2] h = qm_go (qm_ex qm_M X d) X kt_203 kk_203_0 [.val (.ref x0), .val (.int x1), .val (.int x2), .unset] [] h := by rw [qm_ex_eq, kM_203]; exact if_pos rfl
theorem kM_204 : qm_M 204 = (3, kt_204) := rfl
theorem ke_204 (x0 : Nat) (x1 : Int32) : qm_ex qm_M X (d + 1) 204 [.ref x0, .int x1] h = qm_go (qm_ex qm_M X d) X kt_204 kk_204_0 [.val (.ref x0), .val (.int x1), .unset] [] h := by rw [qm_ex_eq, kM_204]; exact if_pos rfl
theorem kM_205 : qm_M 205 = (3, kt_205) := rfl
theorem ke_205 (x0 : Nat) (x1 : Int32) : qm_ex qm_M X (d + 1) 205 [.ref x0, .int x1] h = qm_go (qm_ex qm_M X d) X kt_205 kk_205_0 [.val (.ref x0), .val (.int x1), .unset] [] h := by rw [qm_ex_eq, kM_205]; exact if_pos rfl
theorem kM_206 : qm_M 206 = (8, kt_206) := rfl
theorem ke_206 (x0 : Nat) (x1 : Int32) : qm_ex qm_M X (d + 1) 206 [.ref x0, .int x1] h = qm_go (qm_ex qm_M X d) X kt_206 kk_206_0 [.val (.ref x0), .val (.int x1), .unset, .unset, .unset, .unset, .unset, .unset] [] h := by rw [qm_ex_eq, kM_206]; exact if_pos rfl
theorem kM_207 : qm_M 207 = (5, kt_207) := rfl
theorem ke_207 (x0 : Nat) (x1 : Int32) (x2 : Int32) (x3 : Int32) : qm_ex qm_M X (d + 1) 207 [.ref x0, .int x1, .int x2, .int x3] h = qm_go (qm_ex qm_M X d) X kt_207 kk_207_0 [.val (.ref x0), .val (.int x1), .val (.int x2), .val (.int x3), .unset] [] h := by rw [qm_ex_eq, kM_207]; exact if_pos rfl
theorem kM_208 : qm_M 208 = (5, kt_208) := rfl
theorem ke_208 (x0 : Nat) (x1 : Int32) (x2 : Int32) : qm_ex qm_M X (d + 1) 208 [.ref x0, .int x1, .int x2] h = qm_go (qm_ex qm_M X d) X kt_208 kk_208_0 [.val (.ref x0), .val (.int x1), .val (.int x2), .unset, .unset] [] h := by rw [qm_ex_eq, kM_208]; exact if_pos rfl
theorem kM_209 : qm_M 209 = (4, kt_209) := rfl
theorem ke_209 (x0 : Nat) (x1 : Int32) (x2 : Int32) : qm_ex qm_M X (d + 1) 209 [.ref x0, .int x1, .int x2] h = qm_go (qm_ex qm_M X d) X kt_209 kk_209_0 [.val (.ref x0), .val (.int x1), .val (.int x2), .unset] [] h := by rw [qm_ex_eq, kM_209]; exact if_pos rfl
theorem kM_210 : qm_M 210 = (6, kt_210) := rfl
theorem ke_210 (x0 : Nat) (x1 : Int32) (x2 : Int32) (x3 : Int32) (x4 : Int32) : qm_ex qm_M X (d + 1) 210 [.ref x0, .int x1, .int x2, .int x3, .int x4] h = qm_go (qm_ex qm_M X d) X kt_210 kk_210_0 [.val (.ref x0), .val (.int x1), .val (.int x2), .val (.int x3), .val (.int x4), .unset] [] h := by rw [qm_ex_eq, kM_210]; exact if_pos rfl
theorem kM_211 : qm_M 211 = (4, kt_211) := rfl
theorem ke_211 (x0 : Nat) (x1 : Int32) (x2 : Int32) : qm_ex qm_M X (d + 1) 211 [.ref x0, .int x1, .int x2] h = qm_go (qm_ex qm_M X d) X kt_211 kk_211_0 [.val (.ref x0), .val (.int x1), .val (.int x2), .unset] [] h := by rw [qm_ex_eq, kM_211]; exact if_pos rfl
theorem kM_212 : qm_M 212 = (5, kt_212) := rfl
theorem ke_212 (x0 : Nat) (x1 : Int32) (x2 : Int32) (x3 : Int32) : qm_ex qm_M X (d + 1) 212 [.ref x0, .int x1, .int x2, .int x3] h = qm_go (qm_ex qm_M X d) X kt_212 kk_212_0 [.val (.ref x0), .val (.int x1), .val (.int x2), .val (.int x3), .unset] [] h := by rw [qm_ex_eq, kM_212]; exact if_pos rfl
theorem kM_213 : qm_M 213 = (4, kt_213) := rfl
theorem ke_213 (x0 : Nat) (x1 : Int32) (x2 : Int32) : qm_ex qm_M X (d + 1) 213 [.ref x0, .int x1, .int x2] h = qm_go (qm_ex qm_M X d) X kt_213 kk_213_0 [.val (.ref x0), .val (.int x1), .val (.int x2), .unset] [] h := by rw [qm_ex_eq, kM_213]; exact if_pos rfl
theorem kM_214 : qm_M 214 = (9, kt_214) := rfl
theorem ke_214 (x0 : Nat) (x1 : Int32) (x2 : Int32) (x3 : Int32) : qm_ex qm_M X (d + 1) 214 [.ref x0, .int x1, .int x2, .int x3] h = qm_go (qm_ex qm_M X d) X kt_214 kk_214_0 [.val (.ref x0), .val (.int x1), .val (.int x2), .val (.int x3), .unset, .unset, .unset, .unset, .unset] [] h := by rw [qm_ex_eq, kM_214]; exact if_pos rfl
theorem kM_215 : qm_M 215 = (8, kt_215) := rfl
theorem ke_215 (x0 : Nat) (x1 : Int32) (x2 : Int32) : qm_ex qm_M X (d + 1) 215 [.ref x0, .int x1, .int x2] h = qm_go (qm_ex qm_M X d) X kt_215 kk_215_0 [.val (.ref x0), .val (.int x1), .val (.int x2), .unset, .unset, .unset, .unset, .unset] [] h := by rw [qm_ex_eq, kM_215]; exact if_pos rfl
theorem kM_216 : qm_M 216 = (4, kt_216) := rfl
theorem ke_216 (x0 : Nat) (x1 : Int32) : qm_ex qm_M X (d + 1) 216 [.ref x0, .int x1] h = qm_go (qm_ex qm_M X d) X kt_216 kk_216_0 [.val (.ref x0), .val (.int x1), .unset, .unset] [] h := by rw [qm_ex_eq, kM_216]; exact if_pos rfl
theorem kM_217 : qm_M 217 = (5, kt_217) := rfl
theorem ke_217 (x0 : Nat) : qm_ex qm_M X (d + 1) 217 [.ref x0] h = qm_go (qm_ex qm_M X d) X kt_217 kk_217_0 [.val (.ref x0), .unset, .unset, .unset, .unset] [] h := by rw [qm_ex_eq, kM_217]; exact if_pos rfl
theorem kM_218 : qm_M 218 = (1, kt_218) := rfl
theorem ke_218 (x1 : Int32) : qm_ex qm_M X (d + 1) 218 [.int x1] h = qm_go (qm_ex qm_M X d) X kt_218 kk_218_0 [.val (.int x1)] [] h := by rw [qm_ex_eq, kM_218]; exact if_pos rfl
theorem kM_219 : qm_M 219 = (2, kt_219) := rfl
theorem ke_219 (x1 : Int32) : qm_ex qm_M X (d + 1) 219 [.int x1] h = qm_go (qm_ex qm_M X d) X kt_219 kk_219_0 [.val (.int x1), .unset] [] h := by rw [qm_ex_eq, kM_219]; exact if_pos rfl
theorem kM_220 : qm_M 220 = (1, kt_220) := rfl
theorem ke_220 (x1 : Int32) : qm_ex qm_M X (d + 1) 220 [.int x1] h = qm_go (qm_ex qm_M X d) X kt_220 kk_220_0 [.val (.int x1)] [] h := by rw [qm_ex_eq, kM_220]; exact if_pos rfl
theorem kM_221 : qm_M 221 = (2, kt_221) := rfl
theorem ke_221 (x1 : Int32) (x2 : Int32) : qm_ex qm_M X (d + 1) 221 [.int x1, .int x2] h = qm_go (qm_ex qm_M X d) X kt_221 kk_221_0 [.val (.int x1), .val (.int x2)] [] h := by rw [qm_ex_eq, kM_221]; exact if_pos rfl
theorem kM_222 : qm_M 222 = (4, kt_222) := rfl
theorem ke_222 (x1 : Nat) (x2 : Int32) : qm_ex qm_M X (d + 1) 222 [.ref x1, .int x2] h = qm_go (qm_ex qm_M X d) X kt_222 kk_222_0 [.val (.ref x1), .val (.int x2), .unset, .unset] [] h := by rw [qm_ex_eq, kM_222]; exact if_pos rfl
end KEE
