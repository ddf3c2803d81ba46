theorem dL_law_986 : decode cL_law 986 = .ok (.aload_n 0, 1) := by decide +kernel
theorem dL_law_987 : decode cL_law 987 = .ok (.iload_n 3, 1) := by decide +kernel
theorem dL_law_988 : decode cL_law 988 = .ok (.iconst 5, 1) := by decide +kernel
theorem dL_law_989 : decode cL_law 989 = .ok (.iadd, 1) := by decide +kernel
theorem dL_law_990 : decode cL_law 990 = .ok (.iaload, 1) := by decide +kernel
theorem dL_law_991 : decode cL_law 991 = .ok (.i2l, 1) := by decide +kernel
theorem dL_law_992 : decode cL_law 992 = .ok (.ldc2_w 129, 3) := by decide +kernel
theorem dL_law_995 : decode cL_law 995 = .ok (.land, 1) := by decide +kernel
theorem dL_law_996 : decode cL_law 996 = .ok (.lor, 1) := by decide +kernel
theorem dL_law_997 : decode cL_law 997 = .ok (.invokevirtual 135, 3) := by decide +kernel
theorem dL_law_1000 : decode cL_law 1000 = .ok (.if_icmp .eq 68, 3) := by decide +kernel
theorem dL_law_1003 : decode cL_law 1003 = .ok (.iconst 0, 1) := by decide +kernel
theorem dL_law_1004 : decode cL_law 1004 = .ok (.ireturn, 1) := by decide +kernel
theorem dL_law_1005 : decode cL_law 1005 = .ok (.aload_n 1, 1) := by decide +kernel
theorem dL_law_1006 : decode cL_law 1006 = .ok (.aload_n 0, 1) := by decide +kernel
theorem dL_law_1007 : decode cL_law 1007 = .ok (.iload_n 3, 1) := by decide +kernel
theorem dL_law_1008 : decode cL_law 1008 = .ok (.iconst 1, 1) := by decide +kernel
theorem dL_law_1009 : decode cL_law 1009 = .ok (.iadd, 1) := by decide +kernel
theorem dL_law_1010 : decode cL_law 1010 = .ok (.iaload, 1) := by decide +kernel
theorem dL_law_1011 : decode cL_law 1011 = .ok (.aload_n 0, 1) := by decide +kernel
theorem dL_law_1012 : decode cL_law 1012 = .ok (.iload_n 3, 1) := by decide +kernel
theorem dL_law_1013 : decode cL_law 1013 = .ok (.iconst 2, 1) := by decide +kernel
theorem dL_law_1014 : decode cL_law 1014 = .ok (.iadd, 1) := by decide +kernel
theorem dL_law_1015 : decode cL_law 1015 = .ok (.iaload, 1) := by decide +kernel
theorem dL_law_1016 : decode cL_law 1016 = .ok (.aload_n 0, 1) := by decide +kernel
theorem dL_law_1017 : decode cL_law 1017 = .ok (.iload_n 3, 1) := by decide +kernel
theorem dL_law_1018 : decode cL_law 1018 = .ok (.iconst 3, 1) := by decide +kernel
theorem dL_law_1019 : decode cL_law 1019 = .ok (.iadd, 1) := by decide +kernel
theorem dL_law_1020 : decode cL_law 1020 = .ok (.iaload, 1) := by decide +kernel
theorem dL_law_1021 : decode cL_law 1021 = .ok (.aload_n 0, 1) := by decide +kernel
theorem dL_law_1022 : decode cL_law 1022 = .ok (.iload_n 3, 1) := by decide +kernel
theorem dL_law_1023 : decode cL_law 1023 = .ok (.iconst 4, 1) := by decide +kernel
theorem dL_law_1024 : decode cL_law 1024 = .ok (.iadd, 1) := by decide +kernel
theorem dL_law_1025 : decode cL_law 1025 = .ok (.iaload, 1) := by decide +kernel
theorem dL_law_1026 : decode cL_law 1026 = .ok (.aload_n 0, 1) := by decide +kernel
theorem dL_law_1027 : decode cL_law 1027 = .ok (.iload_n 3, 1) := by decide +kernel
theorem dL_law_1028 : decode cL_law 1028 = .ok (.iconst 5, 1) := by decide +kernel
theorem dL_law_1029 : decode cL_law 1029 = .ok (.iadd, 1) := by decide +kernel
theorem dL_law_1030 : decode cL_law 1030 = .ok (.iaload, 1) := by decide +kernel
theorem dL_law_1031 : decode cL_law 1031 = .ok (.invokevirtual 136, 3) := by decide +kernel
theorem dL_law_1034 : decode cL_law 1034 = .ok (.aload_n 2, 1) := by decide +kernel
theorem dL_law_1035 : decode cL_law 1035 = .ok (.aload_n 0, 1) := by decide +kernel
theorem dL_law_1036 : decode cL_law 1036 = .ok (.iload_n 3, 1) := by decide +kernel
theorem dL_law_1037 : decode cL_law 1037 = .ok (.iconst 1, 1) := by decide +kernel
theorem dL_law_1038 : decode cL_law 1038 = .ok (.iadd, 1) := by decide +kernel
theorem dL_law_1039 : decode cL_law 1039 = .ok (.iaload, 1) := by decide +kernel
theorem dL_law_1040 : decode cL_law 1040 = .ok (.aload_n 0, 1) := by decide +kernel
theorem dL_law_1041 : decode cL_law 1041 = .ok (.iload_n 3, 1) := by decide +kernel
theorem dL_law_1042 : decode cL_law 1042 = .ok (.iconst 2, 1) := by decide +kernel
theorem dL_law_1043 : decode cL_law 1043 = .ok (.iadd, 1) := by decide +kernel
theorem dL_law_1044 : decode cL_law 1044 = .ok (.iaload, 1) := by decide +kernel
theorem dL_law_1045 : decode cL_law 1045 = .ok (.aload_n 0, 1) := by decide +kernel
theorem dL_law_1046 : decode cL_law 1046 = .ok (.iload_n 3, 1) := by decide +kernel
theorem dL_law_1047 : decode cL_law 1047 = .ok (.iconst 3, 1) := by decide +kernel
theorem dL_law_1048 : decode cL_law 1048 = .ok (.iadd, 1) := by decide +kernel
theorem dL_law_1049 : decode cL_law 1049 = .ok (.iaload, 1) := by decide +kernel
theorem dL_law_1050 : decode cL_law 1050 = .ok (.aload_n 0, 1) := by decide +kernel
theorem dL_law_1051 : decode cL_law 1051 = .ok (.iload_n 3, 1) := by decide +kernel
theorem dL_law_1052 : decode cL_law 1052 = .ok (.iconst 4, 1) := by decide +kernel
theorem dL_law_1053 : decode cL_law 1053 = .ok (.iadd, 1) := by decide +kernel
theorem dL_law_1054 : decode cL_law 1054 = .ok (.iaload, 1) := by decide +kernel
theorem dL_law_1055 : decode cL_law 1055 = .ok (.aload_n 0, 1) := by decide +kernel
theorem dL_law_1056 : decode cL_law 1056 = .ok (.iload_n 3, 1) := by decide +kernel
theorem dL_law_1057 : decode cL_law 1057 = .ok (.iconst 5, 1) := by decide +kernel
theorem dL_law_1058 : decode cL_law 1058 = .ok (.iadd, 1) := by decide +kernel
theorem dL_law_1059 : decode cL_law 1059 = .ok (.iaload, 1) := by decide +kernel
theorem dL_law_1060 : decode cL_law 1060 = .ok (.invokevirtual 140, 3) := by decide +kernel
theorem dL_law_1063 : decode cL_law 1063 = .ok (.if_icmp .eq 5, 3) := by decide +kernel
theorem dL_law_1066 : decode cL_law 1066 = .ok (.iconst 0, 1) := by decide +kernel
theorem dL_law_1067 : decode cL_law 1067 = .ok (.ireturn, 1) := by decide +kernel
theorem dL_law_1068 : decode cL_law 1068 = .ok (.iinc 3 6, 3) := by decide +kernel
theorem dL_law_1071 : decode cL_law 1071 = .ok (.goto (-1053), 3) := by decide +kernel
theorem dL_law_1074 : decode cL_law 1074 = .ok (.iconst 1, 1) := by decide +kernel
theorem dL_law_1075 : decode cL_law 1075 = .ok (.ireturn, 1) := by decide +kernel
