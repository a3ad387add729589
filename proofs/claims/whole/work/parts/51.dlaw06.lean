theorem dL_955 : decode code 955 = .ok (.iadd, 1) := by decide +kernel
theorem dL_956 : decode code 956 = .ok (.iaload, 1) := by decide +kernel
theorem dL_957 : decode code 957 = .ok (.aload_n 0, 1) := by decide +kernel
theorem dL_958 : decode code 958 = .ok (.iload 4, 2) := by decide +kernel
theorem dL_960 : decode code 960 = .ok (.iconst 3, 1) := by decide +kernel
theorem dL_961 : decode code 961 = .ok (.iadd, 1) := by decide +kernel
theorem dL_962 : decode code 962 = .ok (.iaload, 1) := by decide +kernel
theorem dL_963 : decode code 963 = .ok (.invokevirtual 145, 3) := by decide +kernel
theorem dL_966 : decode code 966 = .ok (.aload_n 2, 1) := by decide +kernel
theorem dL_967 : decode code 967 = .ok (.aload_n 0, 1) := by decide +kernel
theorem dL_968 : decode code 968 = .ok (.iload 4, 2) := by decide +kernel
theorem dL_970 : decode code 970 = .ok (.iconst 1, 1) := by decide +kernel
theorem dL_971 : decode code 971 = .ok (.iadd, 1) := by decide +kernel
theorem dL_972 : decode code 972 = .ok (.iaload, 1) := by decide +kernel
theorem dL_973 : decode code 973 = .ok (.aload_n 0, 1) := by decide +kernel
theorem dL_974 : decode code 974 = .ok (.iload 4, 2) := by decide +kernel
theorem dL_976 : decode code 976 = .ok (.iconst 2, 1) := by decide +kernel
theorem dL_977 : decode code 977 = .ok (.iadd, 1) := by decide +kernel
theorem dL_978 : decode code 978 = .ok (.iaload, 1) := by decide +kernel
theorem dL_979 : decode code 979 = .ok (.aload_n 0, 1) := by decide +kernel
theorem dL_980 : decode code 980 = .ok (.iload 4, 2) := by decide +kernel
theorem dL_982 : decode code 982 = .ok (.iconst 3, 1) := by decide +kernel
theorem dL_983 : decode code 983 = .ok (.iadd, 1) := by decide +kernel
theorem dL_984 : decode code 984 = .ok (.iaload, 1) := by decide +kernel
theorem dL_985 : decode code 985 = .ok (.invokevirtual 149, 3) := by decide +kernel
theorem dL_988 : decode code 988 = .ok (.if_icmp .eq 83, 3) := by decide +kernel
theorem dL_991 : decode code 991 = .ok (.iconst 0, 1) := by decide +kernel
theorem dL_992 : decode code 992 = .ok (.ireturn, 1) := by decide +kernel
theorem dL_993 : decode code 993 = .ok (.aload_n 1, 1) := by decide +kernel
theorem dL_994 : decode code 994 = .ok (.aload_n 0, 1) := by decide +kernel
theorem dL_995 : decode code 995 = .ok (.iload 4, 2) := by decide +kernel
theorem dL_997 : decode code 997 = .ok (.iconst 1, 1) := by decide +kernel
theorem dL_998 : decode code 998 = .ok (.iadd, 1) := by decide +kernel
theorem dL_999 : decode code 999 = .ok (.iaload, 1) := by decide +kernel
theorem dL_1000 : decode code 1000 = .ok (.aload_n 0, 1) := by decide +kernel
theorem dL_1001 : decode code 1001 = .ok (.iload 4, 2) := by decide +kernel
theorem dL_1003 : decode code 1003 = .ok (.iconst 2, 1) := by decide +kernel
theorem dL_1004 : decode code 1004 = .ok (.iadd, 1) := by decide +kernel
theorem dL_1005 : decode code 1005 = .ok (.iaload, 1) := by decide +kernel
theorem dL_1006 : decode code 1006 = .ok (.ifCond .eq 7, 3) := by decide +kernel
theorem dL_1009 : decode code 1009 = .ok (.iconst 1, 1) := by decide +kernel
theorem dL_1010 : decode code 1010 = .ok (.goto 4, 3) := by decide +kernel
theorem dL_1013 : decode code 1013 = .ok (.iconst 0, 1) := by decide +kernel
theorem dL_1014 : decode code 1014 = .ok (.invokevirtual 150, 3) := by decide +kernel
theorem dL_1017 : decode code 1017 = .ok (.aload_n 2, 1) := by decide +kernel
theorem dL_1018 : decode code 1018 = .ok (.aload_n 0, 1) := by decide +kernel
theorem dL_1019 : decode code 1019 = .ok (.iload 4, 2) := by decide +kernel
theorem dL_1021 : decode code 1021 = .ok (.iconst 1, 1) := by decide +kernel
theorem dL_1022 : decode code 1022 = .ok (.iadd, 1) := by decide +kernel
theorem dL_1023 : decode code 1023 = .ok (.iaload, 1) := by decide +kernel
theorem dL_1024 : decode code 1024 = .ok (.aload_n 0, 1) := by decide +kernel
theorem dL_1025 : decode code 1025 = .ok (.iload 4, 2) := by decide +kernel
theorem dL_1027 : decode code 1027 = .ok (.iconst 2, 1) := by decide +kernel
theorem dL_1028 : decode code 1028 = .ok (.iadd, 1) := by decide +kernel
theorem dL_1029 : decode code 1029 = .ok (.iaload, 1) := by decide +kernel
theorem dL_1030 : decode code 1030 = .ok (.ifCond .eq 7, 3) := by decide +kernel
theorem dL_1033 : decode code 1033 = .ok (.iconst 1, 1) := by decide +kernel
theorem dL_1034 : decode code 1034 = .ok (.goto 4, 3) := by decide +kernel
theorem dL_1037 : decode code 1037 = .ok (.iconst 0, 1) := by decide +kernel
theorem dL_1038 : decode code 1038 = .ok (.invokevirtual 154, 3) := by decide +kernel
theorem dL_1041 : decode code 1041 = .ok (.if_icmp .eq 30, 3) := by decide +kernel
theorem dL_1044 : decode code 1044 = .ok (.iconst 0, 1) := by decide +kernel
theorem dL_1045 : decode code 1045 = .ok (.ireturn, 1) := by decide +kernel
theorem dL_1046 : decode code 1046 = .ok (.aload_n 1, 1) := by decide +kernel
theorem dL_1047 : decode code 1047 = .ok (.aload_n 0, 1) := by decide +kernel
theorem dL_1048 : decode code 1048 = .ok (.iload 4, 2) := by decide +kernel
theorem dL_1050 : decode code 1050 = .ok (.iconst 1, 1) := by decide +kernel
theorem dL_1051 : decode code 1051 = .ok (.iadd, 1) := by decide +kernel
theorem dL_1052 : decode code 1052 = .ok (.iaload, 1) := by decide +kernel
theorem dL_1053 : decode code 1053 = .ok (.invokevirtual 155, 3) := by decide +kernel
theorem dL_1056 : decode code 1056 = .ok (.aload_n 2, 1) := by decide +kernel
theorem dL_1057 : decode code 1057 = .ok (.aload_n 0, 1) := by decide +kernel
theorem dL_1058 : decode code 1058 = .ok (.iload 4, 2) := by decide +kernel
theorem dL_1060 : decode code 1060 = .ok (.iconst 1, 1) := by decide +kernel
theorem dL_1061 : decode code 1061 = .ok (.iadd, 1) := by decide +kernel
theorem dL_1062 : decode code 1062 = .ok (.iaload, 1) := by decide +kernel
theorem dL_1063 : decode code 1063 = .ok (.invokevirtual 158, 3) := by decide +kernel
theorem dL_1066 : decode code 1066 = .ok (.if_icmp .eq 5, 3) := by decide +kernel
theorem dL_1069 : decode code 1069 = .ok (.iconst 0, 1) := by decide +kernel
theorem dL_1070 : decode code 1070 = .ok (.ireturn, 1) := by decide +kernel
theorem dL_1071 : decode code 1071 = .ok (.iinc 4 7, 3) := by decide +kernel
theorem dL_1074 : decode code 1074 = .ok (.goto (-1051), 3) := by decide +kernel
theorem dL_1077 : decode code 1077 = .ok (.iconst 1, 1) := by decide +kernel
theorem dL_1078 : decode code 1078 = .ok (.ireturn, 1) := by decide +kernel
