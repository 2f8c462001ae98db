theorem d_L_law_913 : decode mt_L_law.2.1 913 = .ok (.invokevirtual 122, 3) := by decide +kernel
theorem d_L_law_916 : decode mt_L_law.2.1 916 = .ok (.if_icmp .eq 200, 3) := by decide +kernel
theorem d_L_law_919 : decode mt_L_law.2.1 919 = .ok (.iconst 0, 1) := by decide +kernel
theorem d_L_law_920 : decode mt_L_law.2.1 920 = .ok (.ireturn, 1) := by decide +kernel
theorem d_L_law_921 : decode mt_L_law.2.1 921 = .ok (.aload_n 1, 1) := by decide +kernel
theorem d_L_law_922 : decode mt_L_law.2.1 922 = .ok (.aload_n 0, 1) := by decide +kernel
theorem d_L_law_923 : decode mt_L_law.2.1 923 = .ok (.iload_n 3, 1) := by decide +kernel
theorem d_L_law_924 : decode mt_L_law.2.1 924 = .ok (.iconst 1, 1) := by decide +kernel
theorem d_L_law_925 : decode mt_L_law.2.1 925 = .ok (.iadd, 1) := by decide +kernel
theorem d_L_law_926 : decode mt_L_law.2.1 926 = .ok (.iaload, 1) := by decide +kernel
theorem d_L_law_927 : decode mt_L_law.2.1 927 = .ok (.aload_n 0, 1) := by decide +kernel
theorem d_L_law_928 : decode mt_L_law.2.1 928 = .ok (.iload_n 3, 1) := by decide +kernel
theorem d_L_law_929 : decode mt_L_law.2.1 929 = .ok (.iconst 2, 1) := by decide +kernel
theorem d_L_law_930 : decode mt_L_law.2.1 930 = .ok (.iadd, 1) := by decide +kernel
theorem d_L_law_931 : decode mt_L_law.2.1 931 = .ok (.iaload, 1) := by decide +kernel
theorem d_L_law_932 : decode mt_L_law.2.1 932 = .ok (.ifCond .eq 7, 3) := by decide +kernel
theorem d_L_law_935 : decode mt_L_law.2.1 935 = .ok (.iconst 1, 1) := by decide +kernel
theorem d_L_law_936 : decode mt_L_law.2.1 936 = .ok (.goto 4, 3) := by decide +kernel
theorem d_L_law_939 : decode mt_L_law.2.1 939 = .ok (.iconst 0, 1) := by decide +kernel
theorem d_L_law_940 : decode mt_L_law.2.1 940 = .ok (.invokevirtual 123, 3) := by decide +kernel
theorem d_L_law_943 : decode mt_L_law.2.1 943 = .ok (.aload_n 2, 1) := by decide +kernel
theorem d_L_law_944 : decode mt_L_law.2.1 944 = .ok (.aload_n 0, 1) := by decide +kernel
theorem d_L_law_945 : decode mt_L_law.2.1 945 = .ok (.iload_n 3, 1) := by decide +kernel
theorem d_L_law_946 : decode mt_L_law.2.1 946 = .ok (.iconst 1, 1) := by decide +kernel
theorem d_L_law_947 : decode mt_L_law.2.1 947 = .ok (.iadd, 1) := by decide +kernel
theorem d_L_law_948 : decode mt_L_law.2.1 948 = .ok (.iaload, 1) := by decide +kernel
theorem d_L_law_949 : decode mt_L_law.2.1 949 = .ok (.aload_n 0, 1) := by decide +kernel
theorem d_L_law_950 : decode mt_L_law.2.1 950 = .ok (.iload_n 3, 1) := by decide +kernel
theorem d_L_law_951 : decode mt_L_law.2.1 951 = .ok (.iconst 2, 1) := by decide +kernel
theorem d_L_law_952 : decode mt_L_law.2.1 952 = .ok (.iadd, 1) := by decide +kernel
theorem d_L_law_953 : decode mt_L_law.2.1 953 = .ok (.iaload, 1) := by decide +kernel
theorem d_L_law_954 : decode mt_L_law.2.1 954 = .ok (.ifCond .eq 7, 3) := by decide +kernel
theorem d_L_law_957 : decode mt_L_law.2.1 957 = .ok (.iconst 1, 1) := by decide +kernel
theorem d_L_law_958 : decode mt_L_law.2.1 958 = .ok (.goto 4, 3) := by decide +kernel
theorem d_L_law_961 : decode mt_L_law.2.1 961 = .ok (.iconst 0, 1) := by decide +kernel
theorem d_L_law_962 : decode mt_L_law.2.1 962 = .ok (.invokevirtual 126, 3) := by decide +kernel
theorem d_L_law_965 : decode mt_L_law.2.1 965 = .ok (.if_icmp .eq 151, 3) := by decide +kernel
theorem d_L_law_968 : decode mt_L_law.2.1 968 = .ok (.iconst 0, 1) := by decide +kernel
theorem d_L_law_969 : decode mt_L_law.2.1 969 = .ok (.ireturn, 1) := by decide +kernel
theorem d_L_law_970 : decode mt_L_law.2.1 970 = .ok (.aload_n 1, 1) := by decide +kernel
theorem d_L_law_971 : decode mt_L_law.2.1 971 = .ok (.aload_n 0, 1) := by decide +kernel
theorem d_L_law_972 : decode mt_L_law.2.1 972 = .ok (.iload_n 3, 1) := by decide +kernel
theorem d_L_law_973 : decode mt_L_law.2.1 973 = .ok (.iconst 1, 1) := by decide +kernel
theorem d_L_law_974 : decode mt_L_law.2.1 974 = .ok (.iadd, 1) := by decide +kernel
theorem d_L_law_975 : decode mt_L_law.2.1 975 = .ok (.iaload, 1) := by decide +kernel
theorem d_L_law_976 : decode mt_L_law.2.1 976 = .ok (.i2l, 1) := by decide +kernel
theorem d_L_law_977 : decode mt_L_law.2.1 977 = .ok (.bipush 32, 2) := by decide +kernel
theorem d_L_law_979 : decode mt_L_law.2.1 979 = .ok (.lshl, 1) := by decide +kernel
theorem d_L_law_980 : decode mt_L_law.2.1 980 = .ok (.aload_n 0, 1) := by decide +kernel
theorem d_L_law_981 : decode mt_L_law.2.1 981 = .ok (.iload_n 3, 1) := by decide +kernel
theorem d_L_law_982 : decode mt_L_law.2.1 982 = .ok (.iconst 2, 1) := by decide +kernel
theorem d_L_law_983 : decode mt_L_law.2.1 983 = .ok (.iadd, 1) := by decide +kernel
theorem d_L_law_984 : decode mt_L_law.2.1 984 = .ok (.iaload, 1) := by decide +kernel
theorem d_L_law_985 : decode mt_L_law.2.1 985 = .ok (.i2l, 1) := by decide +kernel
theorem d_L_law_986 : decode mt_L_law.2.1 986 = .ok (.ldc2_w 99, 3) := by decide +kernel
theorem d_L_law_989 : decode mt_L_law.2.1 989 = .ok (.land, 1) := by decide +kernel
theorem d_L_law_990 : decode mt_L_law.2.1 990 = .ok (.lor, 1) := by decide +kernel
theorem d_L_law_991 : decode mt_L_law.2.1 991 = .ok (.invokevirtual 127, 3) := by decide +kernel
theorem d_L_law_994 : decode mt_L_law.2.1 994 = .ok (.aload_n 2, 1) := by decide +kernel
theorem d_L_law_995 : decode mt_L_law.2.1 995 = .ok (.aload_n 0, 1) := by decide +kernel
theorem d_L_law_996 : decode mt_L_law.2.1 996 = .ok (.iload_n 3, 1) := by decide +kernel
theorem d_L_law_997 : decode mt_L_law.2.1 997 = .ok (.iconst 1, 1) := by decide +kernel
theorem d_L_law_998 : decode mt_L_law.2.1 998 = .ok (.iadd, 1) := by decide +kernel
theorem d_L_law_999 : decode mt_L_law.2.1 999 = .ok (.iaload, 1) := by decide +kernel
theorem d_L_law_1000 : decode mt_L_law.2.1 1000 = .ok (.i2l, 1) := by decide +kernel
theorem d_L_law_1001 : decode mt_L_law.2.1 1001 = .ok (.bipush 32, 2) := by decide +kernel
theorem d_L_law_1003 : decode mt_L_law.2.1 1003 = .ok (.lshl, 1) := by decide +kernel
theorem d_L_law_1004 : decode mt_L_law.2.1 1004 = .ok (.aload_n 0, 1) := by decide +kernel
theorem d_L_law_1005 : decode mt_L_law.2.1 1005 = .ok (.iload_n 3, 1) := by decide +kernel
theorem d_L_law_1006 : decode mt_L_law.2.1 1006 = .ok (.iconst 2, 1) := by decide +kernel
theorem d_L_law_1007 : decode mt_L_law.2.1 1007 = .ok (.iadd, 1) := by decide +kernel
theorem d_L_law_1008 : decode mt_L_law.2.1 1008 = .ok (.iaload, 1) := by decide +kernel
theorem d_L_law_1009 : decode mt_L_law.2.1 1009 = .ok (.i2l, 1) := by decide +kernel
theorem d_L_law_1010 : decode mt_L_law.2.1 1010 = .ok (.ldc2_w 99, 3) := by decide +kernel
theorem d_L_law_1013 : decode mt_L_law.2.1 1013 = .ok (.land, 1) := by decide +kernel
theorem d_L_law_1014 : decode mt_L_law.2.1 1014 = .ok (.lor, 1) := by decide +kernel
theorem d_L_law_1015 : decode mt_L_law.2.1 1015 = .ok (.invokevirtual 131, 3) := by decide +kernel
theorem d_L_law_1018 : decode mt_L_law.2.1 1018 = .ok (.lcmp, 1) := by decide +kernel
theorem d_L_law_1019 : decode mt_L_law.2.1 1019 = .ok (.ifCond .eq 97, 3) := by decide +kernel
theorem d_L_law_1022 : decode mt_L_law.2.1 1022 = .ok (.iconst 0, 1) := by decide +kernel
theorem d_L_law_1023 : decode mt_L_law.2.1 1023 = .ok (.ireturn, 1) := by decide +kernel
theorem d_L_law_1024 : decode mt_L_law.2.1 1024 = .ok (.aload_n 1, 1) := by decide +kernel
theorem d_L_law_1025 : decode mt_L_law.2.1 1025 = .ok (.aload_n 0, 1) := by decide +kernel
theorem d_L_law_1026 : decode mt_L_law.2.1 1026 = .ok (.iload_n 3, 1) := by decide +kernel
theorem d_L_law_1027 : decode mt_L_law.2.1 1027 = .ok (.iconst 1, 1) := by decide +kernel
theorem d_L_law_1028 : decode mt_L_law.2.1 1028 = .ok (.iadd, 1) := by decide +kernel
theorem d_L_law_1029 : decode mt_L_law.2.1 1029 = .ok (.iaload, 1) := by decide +kernel
theorem d_L_law_1030 : decode mt_L_law.2.1 1030 = .ok (.invokevirtual 132, 3) := by decide +kernel
theorem d_L_law_1033 : decode mt_L_law.2.1 1033 = .ok (.aload_n 2, 1) := by decide +kernel
theorem d_L_law_1034 : decode mt_L_law.2.1 1034 = .ok (.aload_n 0, 1) := by decide +kernel
theorem d_L_law_1035 : decode mt_L_law.2.1 1035 = .ok (.iload_n 3, 1) := by decide +kernel
theorem d_L_law_1036 : decode mt_L_law.2.1 1036 = .ok (.iconst 1, 1) := by decide +kernel
theorem d_L_law_1037 : decode mt_L_law.2.1 1037 = .ok (.iadd, 1) := by decide +kernel
theorem d_L_law_1038 : decode mt_L_law.2.1 1038 = .ok (.iaload, 1) := by decide +kernel
theorem d_L_law_1039 : decode mt_L_law.2.1 1039 = .ok (.invokevirtual 135, 3) := by decide +kernel
theorem d_L_law_1042 : decode mt_L_law.2.1 1042 = .ok (.if_icmp .eq 74, 3) := by decide +kernel
theorem d_L_law_1045 : decode mt_L_law.2.1 1045 = .ok (.iconst 0, 1) := by decide +kernel
theorem d_L_law_1046 : decode mt_L_law.2.1 1046 = .ok (.ireturn, 1) := by decide +kernel
theorem d_L_law_1047 : decode mt_L_law.2.1 1047 = .ok (.aload_n 1, 1) := by decide +kernel
theorem d_L_law_1048 : decode mt_L_law.2.1 1048 = .ok (.aload_n 0, 1) := by decide +kernel
theorem d_L_law_1049 : decode mt_L_law.2.1 1049 = .ok (.iload_n 3, 1) := by decide +kernel
theorem d_L_law_1050 : decode mt_L_law.2.1 1050 = .ok (.iconst 1, 1) := by decide +kernel
theorem d_L_law_1051 : decode mt_L_law.2.1 1051 = .ok (.iadd, 1) := by decide +kernel
theorem d_L_law_1052 : decode mt_L_law.2.1 1052 = .ok (.iaload, 1) := by decide +kernel
theorem d_L_law_1053 : decode mt_L_law.2.1 1053 = .ok (.invokevirtual 136, 3) := by decide +kernel
theorem d_L_law_1056 : decode mt_L_law.2.1 1056 = .ok (.aload_n 2, 1) := by decide +kernel
theorem d_L_law_1057 : decode mt_L_law.2.1 1057 = .ok (.aload_n 0, 1) := by decide +kernel
theorem d_L_law_1058 : decode mt_L_law.2.1 1058 = .ok (.iload_n 3, 1) := by decide +kernel
theorem d_L_law_1059 : decode mt_L_law.2.1 1059 = .ok (.iconst 1, 1) := by decide +kernel
theorem d_L_law_1060 : decode mt_L_law.2.1 1060 = .ok (.iadd, 1) := by decide +kernel
theorem d_L_law_1061 : decode mt_L_law.2.1 1061 = .ok (.iaload, 1) := by decide +kernel
theorem d_L_law_1062 : decode mt_L_law.2.1 1062 = .ok (.invokevirtual 139, 3) := by decide +kernel
theorem d_L_law_1065 : decode mt_L_law.2.1 1065 = .ok (.if_icmp .eq 51, 3) := by decide +kernel
theorem d_L_law_1068 : decode mt_L_law.2.1 1068 = .ok (.iconst 0, 1) := by decide +kernel
theorem d_L_law_1069 : decode mt_L_law.2.1 1069 = .ok (.ireturn, 1) := by decide +kernel
theorem d_L_law_1070 : decode mt_L_law.2.1 1070 = .ok (.aload_n 1, 1) := by decide +kernel
theorem d_L_law_1071 : decode mt_L_law.2.1 1071 = .ok (.aload_n 0, 1) := by decide +kernel
theorem d_L_law_1072 : decode mt_L_law.2.1 1072 = .ok (.iload_n 3, 1) := by decide +kernel
theorem d_L_law_1073 : decode mt_L_law.2.1 1073 = .ok (.iconst 1, 1) := by decide +kernel
theorem d_L_law_1074 : decode mt_L_law.2.1 1074 = .ok (.iadd, 1) := by decide +kernel
theorem d_L_law_1075 : decode mt_L_law.2.1 1075 = .ok (.iaload, 1) := by decide +kernel
theorem d_L_law_1076 : decode mt_L_law.2.1 1076 = .ok (.invokevirtual 140, 3) := by decide +kernel
theorem d_L_law_1079 : decode mt_L_law.2.1 1079 = .ok (.aload_n 2, 1) := by decide +kernel
theorem d_L_law_1080 : decode mt_L_law.2.1 1080 = .ok (.aload_n 0, 1) := by decide +kernel
theorem d_L_law_1081 : decode mt_L_law.2.1 1081 = .ok (.iload_n 3, 1) := by decide +kernel
theorem d_L_law_1082 : decode mt_L_law.2.1 1082 = .ok (.iconst 1, 1) := by decide +kernel
theorem d_L_law_1083 : decode mt_L_law.2.1 1083 = .ok (.iadd, 1) := by decide +kernel
theorem d_L_law_1084 : decode mt_L_law.2.1 1084 = .ok (.iaload, 1) := by decide +kernel
theorem d_L_law_1085 : decode mt_L_law.2.1 1085 = .ok (.invokevirtual 143, 3) := by decide +kernel
theorem d_L_law_1088 : decode mt_L_law.2.1 1088 = .ok (.if_icmp .eq 28, 3) := by decide +kernel
theorem d_L_law_1091 : decode mt_L_law.2.1 1091 = .ok (.iconst 0, 1) := by decide +kernel
theorem d_L_law_1092 : decode mt_L_law.2.1 1092 = .ok (.ireturn, 1) := by decide +kernel
theorem d_L_law_1093 : decode mt_L_law.2.1 1093 = .ok (.aload_n 1, 1) := by decide +kernel
theorem d_L_law_1094 : decode mt_L_law.2.1 1094 = .ok (.aload_n 0, 1) := by decide +kernel
theorem d_L_law_1095 : decode mt_L_law.2.1 1095 = .ok (.iload_n 3, 1) := by decide +kernel
theorem d_L_law_1096 : decode mt_L_law.2.1 1096 = .ok (.iconst 1, 1) := by decide +kernel
theorem d_L_law_1097 : decode mt_L_law.2.1 1097 = .ok (.iadd, 1) := by decide +kernel
theorem d_L_law_1098 : decode mt_L_law.2.1 1098 = .ok (.iaload, 1) := by decide +kernel
theorem d_L_law_1099 : decode mt_L_law.2.1 1099 = .ok (.invokevirtual 144, 3) := by decide +kernel
theorem d_L_law_1102 : decode mt_L_law.2.1 1102 = .ok (.aload_n 2, 1) := by decide +kernel
theorem d_L_law_1103 : decode mt_L_law.2.1 1103 = .ok (.aload_n 0, 1) := by decide +kernel
theorem d_L_law_1104 : decode mt_L_law.2.1 1104 = .ok (.iload_n 3, 1) := by decide +kernel
theorem d_L_law_1105 : decode mt_L_law.2.1 1105 = .ok (.iconst 1, 1) := by decide +kernel
theorem d_L_law_1106 : decode mt_L_law.2.1 1106 = .ok (.iadd, 1) := by decide +kernel
theorem d_L_law_1107 : decode mt_L_law.2.1 1107 = .ok (.iaload, 1) := by decide +kernel
theorem d_L_law_1108 : decode mt_L_law.2.1 1108 = .ok (.invokevirtual 147, 3) := by decide +kernel
theorem d_L_law_1111 : decode mt_L_law.2.1 1111 = .ok (.if_icmp .eq 5, 3) := by decide +kernel
theorem d_L_law_1114 : decode mt_L_law.2.1 1114 = .ok (.iconst 0, 1) := by decide +kernel
theorem d_L_law_1115 : decode mt_L_law.2.1 1115 = .ok (.ireturn, 1) := by decide +kernel
theorem d_L_law_1116 : decode mt_L_law.2.1 1116 = .ok (.iinc 3 7, 3) := by decide +kernel
theorem d_L_law_1119 : decode mt_L_law.2.1 1119 = .ok (.goto (-1101), 3) := by decide +kernel
theorem d_L_law_1122 : decode mt_L_law.2.1 1122 = .ok (.iconst 1, 1) := by decide +kernel
theorem d_L_law_1123 : decode mt_L_law.2.1 1123 = .ok (.ireturn, 1) := by decide +kernel
