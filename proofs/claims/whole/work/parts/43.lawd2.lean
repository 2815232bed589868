theorem dL_law_932 : decode code 932 = .ok (.aload_n 0, 1) := by decide +kernel
theorem dL_law_933 : decode code 933 = .ok (.iload_n 3, 1) := by decide +kernel
theorem dL_law_934 : decode code 934 = .ok (.iconst 1, 1) := by decide +kernel
theorem dL_law_935 : decode code 935 = .ok (.iadd, 1) := by decide +kernel
theorem dL_law_936 : decode code 936 = .ok (.iaload, 1) := by decide +kernel
theorem dL_law_937 : decode code 937 = .ok (.aload_n 0, 1) := by decide +kernel
theorem dL_law_938 : decode code 938 = .ok (.iload_n 3, 1) := by decide +kernel
theorem dL_law_939 : decode code 939 = .ok (.iconst 2, 1) := by decide +kernel
theorem dL_law_940 : decode code 940 = .ok (.iadd, 1) := by decide +kernel
theorem dL_law_941 : decode code 941 = .ok (.iaload, 1) := by decide +kernel
theorem dL_law_942 : decode code 942 = .ok (.invokevirtual 101, 3) := by decide +kernel
theorem dL_law_945 : decode code 945 = .ok (.aload_n 2, 1) := by decide +kernel
theorem dL_law_946 : decode code 946 = .ok (.aload_n 0, 1) := by decide +kernel
theorem dL_law_947 : decode code 947 = .ok (.iload_n 3, 1) := by decide +kernel
theorem dL_law_948 : decode code 948 = .ok (.iconst 1, 1) := by decide +kernel
theorem dL_law_949 : decode code 949 = .ok (.iadd, 1) := by decide +kernel
theorem dL_law_950 : decode code 950 = .ok (.iaload, 1) := by decide +kernel
theorem dL_law_951 : decode code 951 = .ok (.aload_n 0, 1) := by decide +kernel
theorem dL_law_952 : decode code 952 = .ok (.iload_n 3, 1) := by decide +kernel
theorem dL_law_953 : decode code 953 = .ok (.iconst 2, 1) := by decide +kernel
theorem dL_law_954 : decode code 954 = .ok (.iadd, 1) := by decide +kernel
theorem dL_law_955 : decode code 955 = .ok (.iaload, 1) := by decide +kernel
theorem dL_law_956 : decode code 956 = .ok (.invokevirtual 104, 3) := by decide +kernel
theorem dL_law_959 : decode code 959 = .ok (.if_icmp .eq 735, 3) := by decide +kernel
theorem dL_law_962 : decode code 962 = .ok (.iconst 0, 1) := by decide +kernel
theorem dL_law_963 : decode code 963 = .ok (.ireturn, 1) := by decide +kernel
theorem dL_law_964 : decode code 964 = .ok (.aload_n 1, 1) := by decide +kernel
theorem dL_law_965 : decode code 965 = .ok (.aload_n 0, 1) := by decide +kernel
theorem dL_law_966 : decode code 966 = .ok (.iload_n 3, 1) := by decide +kernel
theorem dL_law_967 : decode code 967 = .ok (.iconst 1, 1) := by decide +kernel
theorem dL_law_968 : decode code 968 = .ok (.iadd, 1) := by decide +kernel
theorem dL_law_969 : decode code 969 = .ok (.iaload, 1) := by decide +kernel
theorem dL_law_970 : decode code 970 = .ok (.aload_n 0, 1) := by decide +kernel
theorem dL_law_971 : decode code 971 = .ok (.iload_n 3, 1) := by decide +kernel
theorem dL_law_972 : decode code 972 = .ok (.iconst 2, 1) := by decide +kernel
theorem dL_law_973 : decode code 973 = .ok (.iadd, 1) := by decide +kernel
theorem dL_law_974 : decode code 974 = .ok (.iaload, 1) := by decide +kernel
theorem dL_law_975 : decode code 975 = .ok (.aload_n 0, 1) := by decide +kernel
theorem dL_law_976 : decode code 976 = .ok (.iload_n 3, 1) := by decide +kernel
theorem dL_law_977 : decode code 977 = .ok (.iconst 3, 1) := by decide +kernel
theorem dL_law_978 : decode code 978 = .ok (.iadd, 1) := by decide +kernel
theorem dL_law_979 : decode code 979 = .ok (.iaload, 1) := by decide +kernel
theorem dL_law_980 : decode code 980 = .ok (.aload_n 0, 1) := by decide +kernel
theorem dL_law_981 : decode code 981 = .ok (.iload_n 3, 1) := by decide +kernel
theorem dL_law_982 : decode code 982 = .ok (.iconst 4, 1) := by decide +kernel
theorem dL_law_983 : decode code 983 = .ok (.iadd, 1) := by decide +kernel
theorem dL_law_984 : decode code 984 = .ok (.iaload, 1) := by decide +kernel
theorem dL_law_985 : decode code 985 = .ok (.invokevirtual 105, 3) := by decide +kernel
theorem dL_law_988 : decode code 988 = .ok (.aload_n 2, 1) := by decide +kernel
theorem dL_law_989 : decode code 989 = .ok (.aload_n 0, 1) := by decide +kernel
theorem dL_law_990 : decode code 990 = .ok (.iload_n 3, 1) := by decide +kernel
theorem dL_law_991 : decode code 991 = .ok (.iconst 1, 1) := by decide +kernel
theorem dL_law_992 : decode code 992 = .ok (.iadd, 1) := by decide +kernel
theorem dL_law_993 : decode code 993 = .ok (.iaload, 1) := by decide +kernel
theorem dL_law_994 : decode code 994 = .ok (.aload_n 0, 1) := by decide +kernel
theorem dL_law_995 : decode code 995 = .ok (.iload_n 3, 1) := by decide +kernel
theorem dL_law_996 : decode code 996 = .ok (.iconst 2, 1) := by decide +kernel
theorem dL_law_997 : decode code 997 = .ok (.iadd, 1) := by decide +kernel
theorem dL_law_998 : decode code 998 = .ok (.iaload, 1) := by decide +kernel
theorem dL_law_999 : decode code 999 = .ok (.aload_n 0, 1) := by decide +kernel
theorem dL_law_1000 : decode code 1000 = .ok (.iload_n 3, 1) := by decide +kernel
theorem dL_law_1001 : decode code 1001 = .ok (.iconst 3, 1) := by decide +kernel
theorem dL_law_1002 : decode code 1002 = .ok (.iadd, 1) := by decide +kernel
theorem dL_law_1003 : decode code 1003 = .ok (.iaload, 1) := by decide +kernel
theorem dL_law_1004 : decode code 1004 = .ok (.aload_n 0, 1) := by decide +kernel
theorem dL_law_1005 : decode code 1005 = .ok (.iload_n 3, 1) := by decide +kernel
theorem dL_law_1006 : decode code 1006 = .ok (.iconst 4, 1) := by decide +kernel
theorem dL_law_1007 : decode code 1007 = .ok (.iadd, 1) := by decide +kernel
theorem dL_law_1008 : decode code 1008 = .ok (.iaload, 1) := by decide +kernel
theorem dL_law_1009 : decode code 1009 = .ok (.invokevirtual 109, 3) := by decide +kernel
theorem dL_law_1012 : decode code 1012 = .ok (.if_icmp .eq 682, 3) := by decide +kernel
theorem dL_law_1015 : decode code 1015 = .ok (.iconst 0, 1) := by decide +kernel
theorem dL_law_1016 : decode code 1016 = .ok (.ireturn, 1) := by decide +kernel
theorem dL_law_1017 : decode code 1017 = .ok (.aload_n 1, 1) := by decide +kernel
theorem dL_law_1018 : decode code 1018 = .ok (.aload_n 0, 1) := by decide +kernel
theorem dL_law_1019 : decode code 1019 = .ok (.iload_n 3, 1) := by decide +kernel
theorem dL_law_1020 : decode code 1020 = .ok (.iconst 1, 1) := by decide +kernel
theorem dL_law_1021 : decode code 1021 = .ok (.iadd, 1) := by decide +kernel
theorem dL_law_1022 : decode code 1022 = .ok (.iaload, 1) := by decide +kernel
theorem dL_law_1023 : decode code 1023 = .ok (.invokevirtual 110, 3) := by decide +kernel
theorem dL_law_1026 : decode code 1026 = .ok (.aload_n 2, 1) := by decide +kernel
theorem dL_law_1027 : decode code 1027 = .ok (.aload_n 0, 1) := by decide +kernel
theorem dL_law_1028 : decode code 1028 = .ok (.iload_n 3, 1) := by decide +kernel
theorem dL_law_1029 : decode code 1029 = .ok (.iconst 1, 1) := by decide +kernel
theorem dL_law_1030 : decode code 1030 = .ok (.iadd, 1) := by decide +kernel
theorem dL_law_1031 : decode code 1031 = .ok (.iaload, 1) := by decide +kernel
theorem dL_law_1032 : decode code 1032 = .ok (.invokevirtual 113, 3) := by decide +kernel
theorem dL_law_1035 : decode code 1035 = .ok (.if_icmp .eq 659, 3) := by decide +kernel
theorem dL_law_1038 : decode code 1038 = .ok (.iconst 0, 1) := by decide +kernel
theorem dL_law_1039 : decode code 1039 = .ok (.ireturn, 1) := by decide +kernel
theorem dL_law_1040 : decode code 1040 = .ok (.aload_n 1, 1) := by decide +kernel
theorem dL_law_1041 : decode code 1041 = .ok (.aload_n 0, 1) := by decide +kernel
theorem dL_law_1042 : decode code 1042 = .ok (.iload_n 3, 1) := by decide +kernel
theorem dL_law_1043 : decode code 1043 = .ok (.iconst 1, 1) := by decide +kernel
theorem dL_law_1044 : decode code 1044 = .ok (.iadd, 1) := by decide +kernel
theorem dL_law_1045 : decode code 1045 = .ok (.iaload, 1) := by decide +kernel
theorem dL_law_1046 : decode code 1046 = .ok (.aload_n 0, 1) := by decide +kernel
theorem dL_law_1047 : decode code 1047 = .ok (.iload_n 3, 1) := by decide +kernel
theorem dL_law_1048 : decode code 1048 = .ok (.iconst 2, 1) := by decide +kernel
theorem dL_law_1049 : decode code 1049 = .ok (.iadd, 1) := by decide +kernel
theorem dL_law_1050 : decode code 1050 = .ok (.iaload, 1) := by decide +kernel
theorem dL_law_1051 : decode code 1051 = .ok (.aload_n 0, 1) := by decide +kernel
theorem dL_law_1052 : decode code 1052 = .ok (.iload_n 3, 1) := by decide +kernel
theorem dL_law_1053 : decode code 1053 = .ok (.iconst 3, 1) := by decide +kernel
theorem dL_law_1054 : decode code 1054 = .ok (.iadd, 1) := by decide +kernel
theorem dL_law_1055 : decode code 1055 = .ok (.iaload, 1) := by decide +kernel
theorem dL_law_1056 : decode code 1056 = .ok (.invokevirtual 114, 3) := by decide +kernel
theorem dL_law_1059 : decode code 1059 = .ok (.aload_n 2, 1) := by decide +kernel
theorem dL_law_1060 : decode code 1060 = .ok (.aload_n 0, 1) := by decide +kernel
theorem dL_law_1061 : decode code 1061 = .ok (.iload_n 3, 1) := by decide +kernel
theorem dL_law_1062 : decode code 1062 = .ok (.iconst 1, 1) := by decide +kernel
theorem dL_law_1063 : decode code 1063 = .ok (.iadd, 1) := by decide +kernel
theorem dL_law_1064 : decode code 1064 = .ok (.iaload, 1) := by decide +kernel
theorem dL_law_1065 : decode code 1065 = .ok (.aload_n 0, 1) := by decide +kernel
theorem dL_law_1066 : decode code 1066 = .ok (.iload_n 3, 1) := by decide +kernel
theorem dL_law_1067 : decode code 1067 = .ok (.iconst 2, 1) := by decide +kernel
theorem dL_law_1068 : decode code 1068 = .ok (.iadd, 1) := by decide +kernel
theorem dL_law_1069 : decode code 1069 = .ok (.iaload, 1) := by decide +kernel
theorem dL_law_1070 : decode code 1070 = .ok (.aload_n 0, 1) := by decide +kernel
theorem dL_law_1071 : decode code 1071 = .ok (.iload_n 3, 1) := by decide +kernel
theorem dL_law_1072 : decode code 1072 = .ok (.iconst 3, 1) := by decide +kernel
theorem dL_law_1073 : decode code 1073 = .ok (.iadd, 1) := by decide +kernel
theorem dL_law_1074 : decode code 1074 = .ok (.iaload, 1) := by decide +kernel
theorem dL_law_1075 : decode code 1075 = .ok (.invokevirtual 117, 3) := by decide +kernel
theorem dL_law_1078 : decode code 1078 = .ok (.if_icmp .eq 616, 3) := by decide +kernel
theorem dL_law_1081 : decode code 1081 = .ok (.iconst 0, 1) := by decide +kernel
theorem dL_law_1082 : decode code 1082 = .ok (.ireturn, 1) := by decide +kernel
theorem dL_law_1083 : decode code 1083 = .ok (.aload_n 1, 1) := by decide +kernel
theorem dL_law_1084 : decode code 1084 = .ok (.aload_n 0, 1) := by decide +kernel
theorem dL_law_1085 : decode code 1085 = .ok (.iload_n 3, 1) := by decide +kernel
theorem dL_law_1086 : decode code 1086 = .ok (.iconst 1, 1) := by decide +kernel
theorem dL_law_1087 : decode code 1087 = .ok (.iadd, 1) := by decide +kernel
theorem dL_law_1088 : decode code 1088 = .ok (.iaload, 1) := by decide +kernel
theorem dL_law_1089 : decode code 1089 = .ok (.invokevirtual 118, 3) := by decide +kernel
theorem dL_law_1092 : decode code 1092 = .ok (.aload_n 2, 1) := by decide +kernel
theorem dL_law_1093 : decode code 1093 = .ok (.aload_n 0, 1) := by decide +kernel
theorem dL_law_1094 : decode code 1094 = .ok (.iload_n 3, 1) := by decide +kernel
theorem dL_law_1095 : decode code 1095 = .ok (.iconst 1, 1) := by decide +kernel
theorem dL_law_1096 : decode code 1096 = .ok (.iadd, 1) := by decide +kernel
theorem dL_law_1097 : decode code 1097 = .ok (.iaload, 1) := by decide +kernel
theorem dL_law_1098 : decode code 1098 = .ok (.invokevirtual 121, 3) := by decide +kernel
theorem dL_law_1101 : decode code 1101 = .ok (.if_icmp .eq 593, 3) := by decide +kernel
theorem dL_law_1104 : decode code 1104 = .ok (.iconst 0, 1) := by decide +kernel
theorem dL_law_1105 : decode code 1105 = .ok (.ireturn, 1) := by decide +kernel
theorem dL_law_1106 : decode code 1106 = .ok (.aload_n 1, 1) := by decide +kernel
theorem dL_law_1107 : decode code 1107 = .ok (.aload_n 0, 1) := by decide +kernel
theorem dL_law_1108 : decode code 1108 = .ok (.iload_n 3, 1) := by decide +kernel
theorem dL_law_1109 : decode code 1109 = .ok (.iconst 1, 1) := by decide +kernel
theorem dL_law_1110 : decode code 1110 = .ok (.iadd, 1) := by decide +kernel
theorem dL_law_1111 : decode code 1111 = .ok (.iaload, 1) := by decide +kernel
theorem dL_law_1112 : decode code 1112 = .ok (.aload_n 0, 1) := by decide +kernel
theorem dL_law_1113 : decode code 1113 = .ok (.iload_n 3, 1) := by decide +kernel
theorem dL_law_1114 : decode code 1114 = .ok (.iconst 2, 1) := by decide +kernel
theorem dL_law_1115 : decode code 1115 = .ok (.iadd, 1) := by decide +kernel
theorem dL_law_1116 : decode code 1116 = .ok (.iaload, 1) := by decide +kernel
theorem dL_law_1117 : decode code 1117 = .ok (.aload_n 0, 1) := by decide +kernel
theorem dL_law_1118 : decode code 1118 = .ok (.iload_n 3, 1) := by decide +kernel
theorem dL_law_1119 : decode code 1119 = .ok (.iconst 3, 1) := by decide +kernel
theorem dL_law_1120 : decode code 1120 = .ok (.iadd, 1) := by decide +kernel
theorem dL_law_1121 : decode code 1121 = .ok (.iaload, 1) := by decide +kernel
theorem dL_law_1122 : decode code 1122 = .ok (.aload_n 0, 1) := by decide +kernel
theorem dL_law_1123 : decode code 1123 = .ok (.iload_n 3, 1) := by decide +kernel
theorem dL_law_1124 : decode code 1124 = .ok (.iconst 4, 1) := by decide +kernel
theorem dL_law_1125 : decode code 1125 = .ok (.iadd, 1) := by decide +kernel
theorem dL_law_1126 : decode code 1126 = .ok (.iaload, 1) := by decide +kernel
theorem dL_law_1127 : decode code 1127 = .ok (.invokevirtual 122, 3) := by decide +kernel
theorem dL_law_1130 : decode code 1130 = .ok (.aload_n 2, 1) := by decide +kernel
theorem dL_law_1131 : decode code 1131 = .ok (.aload_n 0, 1) := by decide +kernel
theorem dL_law_1132 : decode code 1132 = .ok (.iload_n 3, 1) := by decide +kernel
theorem dL_law_1133 : decode code 1133 = .ok (.iconst 1, 1) := by decide +kernel
theorem dL_law_1134 : decode code 1134 = .ok (.iadd, 1) := by decide +kernel
theorem dL_law_1135 : decode code 1135 = .ok (.iaload, 1) := by decide +kernel
theorem dL_law_1136 : decode code 1136 = .ok (.aload_n 0, 1) := by decide +kernel
theorem dL_law_1137 : decode code 1137 = .ok (.iload_n 3, 1) := by decide +kernel
theorem dL_law_1138 : decode code 1138 = .ok (.iconst 2, 1) := by decide +kernel
theorem dL_law_1139 : decode code 1139 = .ok (.iadd, 1) := by decide +kernel
theorem dL_law_1140 : decode code 1140 = .ok (.iaload, 1) := by decide +kernel
theorem dL_law_1141 : decode code 1141 = .ok (.aload_n 0, 1) := by decide +kernel
theorem dL_law_1142 : decode code 1142 = .ok (.iload_n 3, 1) := by decide +kernel
theorem dL_law_1143 : decode code 1143 = .ok (.iconst 3, 1) := by decide +kernel
theorem dL_law_1144 : decode code 1144 = .ok (.iadd, 1) := by decide +kernel
theorem dL_law_1145 : decode code 1145 = .ok (.iaload, 1) := by decide +kernel
theorem dL_law_1146 : decode code 1146 = .ok (.aload_n 0, 1) := by decide +kernel
theorem dL_law_1147 : decode code 1147 = .ok (.iload_n 3, 1) := by decide +kernel
theorem dL_law_1148 : decode code 1148 = .ok (.iconst 4, 1) := by decide +kernel
theorem dL_law_1149 : decode code 1149 = .ok (.iadd, 1) := by decide +kernel
theorem dL_law_1150 : decode code 1150 = .ok (.iaload, 1) := by decide +kernel
theorem dL_law_1151 : decode code 1151 = .ok (.invokevirtual 125, 3) := by decide +kernel
theorem dL_law_1154 : decode code 1154 = .ok (.if_icmp .eq 540, 3) := by decide +kernel
theorem dL_law_1157 : decode code 1157 = .ok (.iconst 0, 1) := by decide +kernel
theorem dL_law_1158 : decode code 1158 = .ok (.ireturn, 1) := by decide +kernel
theorem dL_law_1159 : decode code 1159 = .ok (.aload_n 1, 1) := by decide +kernel
theorem dL_law_1160 : decode code 1160 = .ok (.invokevirtual 126, 3) := by decide +kernel
theorem dL_law_1163 : decode code 1163 = .ok (.aload_n 2, 1) := by decide +kernel
theorem dL_law_1164 : decode code 1164 = .ok (.invokevirtual 129, 3) := by decide +kernel
theorem dL_law_1167 : decode code 1167 = .ok (.if_icmp .eq 527, 3) := by decide +kernel
theorem dL_law_1170 : decode code 1170 = .ok (.iconst 0, 1) := by decide +kernel
theorem dL_law_1171 : decode code 1171 = .ok (.ireturn, 1) := by decide +kernel
theorem dL_law_1172 : decode code 1172 = .ok (.aload_n 1, 1) := by decide +kernel
theorem dL_law_1173 : decode code 1173 = .ok (.aload_n 0, 1) := by decide +kernel
theorem dL_law_1174 : decode code 1174 = .ok (.iload_n 3, 1) := by decide +kernel
theorem dL_law_1175 : decode code 1175 = .ok (.iconst 1, 1) := by decide +kernel
theorem dL_law_1176 : decode code 1176 = .ok (.iadd, 1) := by decide +kernel
theorem dL_law_1177 : decode code 1177 = .ok (.iaload, 1) := by decide +kernel
theorem dL_law_1178 : decode code 1178 = .ok (.aload_n 0, 1) := by decide +kernel
theorem dL_law_1179 : decode code 1179 = .ok (.iload_n 3, 1) := by decide +kernel
theorem dL_law_1180 : decode code 1180 = .ok (.iconst 2, 1) := by decide +kernel
theorem dL_law_1181 : decode code 1181 = .ok (.iadd, 1) := by decide +kernel
theorem dL_law_1182 : decode code 1182 = .ok (.iaload, 1) := by decide +kernel
theorem dL_law_1183 : decode code 1183 = .ok (.invokevirtual 130, 3) := by decide +kernel
theorem dL_law_1186 : decode code 1186 = .ok (.aload_n 2, 1) := by decide +kernel
theorem dL_law_1187 : decode code 1187 = .ok (.aload_n 0, 1) := by decide +kernel
theorem dL_law_1188 : decode code 1188 = .ok (.iload_n 3, 1) := by decide +kernel
theorem dL_law_1189 : decode code 1189 = .ok (.iconst 1, 1) := by decide +kernel
theorem dL_law_1190 : decode code 1190 = .ok (.iadd, 1) := by decide +kernel
theorem dL_law_1191 : decode code 1191 = .ok (.iaload, 1) := by decide +kernel
theorem dL_law_1192 : decode code 1192 = .ok (.aload_n 0, 1) := by decide +kernel
theorem dL_law_1193 : decode code 1193 = .ok (.iload_n 3, 1) := by decide +kernel
theorem dL_law_1194 : decode code 1194 = .ok (.iconst 2, 1) := by decide +kernel
theorem dL_law_1195 : decode code 1195 = .ok (.iadd, 1) := by decide +kernel
theorem dL_law_1196 : decode code 1196 = .ok (.iaload, 1) := by decide +kernel
theorem dL_law_1197 : decode code 1197 = .ok (.invokevirtual 133, 3) := by decide +kernel
theorem dL_law_1200 : decode code 1200 = .ok (.if_icmp .eq 494, 3) := by decide +kernel
theorem dL_law_1203 : decode code 1203 = .ok (.iconst 0, 1) := by decide +kernel
theorem dL_law_1204 : decode code 1204 = .ok (.ireturn, 1) := by decide +kernel
theorem dL_law_1205 : decode code 1205 = .ok (.aload_n 1, 1) := by decide +kernel
theorem dL_law_1206 : decode code 1206 = .ok (.aload_n 0, 1) := by decide +kernel
theorem dL_law_1207 : decode code 1207 = .ok (.iload_n 3, 1) := by decide +kernel
theorem dL_law_1208 : decode code 1208 = .ok (.iconst 1, 1) := by decide +kernel
theorem dL_law_1209 : decode code 1209 = .ok (.iadd, 1) := by decide +kernel
theorem dL_law_1210 : decode code 1210 = .ok (.iaload, 1) := by decide +kernel
theorem dL_law_1211 : decode code 1211 = .ok (.invokevirtual 134, 3) := by decide +kernel
theorem dL_law_1214 : decode code 1214 = .ok (.aload_n 2, 1) := by decide +kernel
theorem dL_law_1215 : decode code 1215 = .ok (.aload_n 0, 1) := by decide +kernel
theorem dL_law_1216 : decode code 1216 = .ok (.iload_n 3, 1) := by decide +kernel
theorem dL_law_1217 : decode code 1217 = .ok (.iconst 1, 1) := by decide +kernel
theorem dL_law_1218 : decode code 1218 = .ok (.iadd, 1) := by decide +kernel
theorem dL_law_1219 : decode code 1219 = .ok (.iaload, 1) := by decide +kernel
theorem dL_law_1220 : decode code 1220 = .ok (.invokevirtual 137, 3) := by decide +kernel
theorem dL_law_1223 : decode code 1223 = .ok (.if_icmp .eq 471, 3) := by decide +kernel
theorem dL_law_1226 : decode code 1226 = .ok (.iconst 0, 1) := by decide +kernel
theorem dL_law_1227 : decode code 1227 = .ok (.ireturn, 1) := by decide +kernel
theorem dL_law_1228 : decode code 1228 = .ok (.aload_n 1, 1) := by decide +kernel
theorem dL_law_1229 : decode code 1229 = .ok (.aload_n 0, 1) := by decide +kernel
theorem dL_law_1230 : decode code 1230 = .ok (.iload_n 3, 1) := by decide +kernel
theorem dL_law_1231 : decode code 1231 = .ok (.iconst 1, 1) := by decide +kernel
theorem dL_law_1232 : decode code 1232 = .ok (.iadd, 1) := by decide +kernel
theorem dL_law_1233 : decode code 1233 = .ok (.iaload, 1) := by decide +kernel
theorem dL_law_1234 : decode code 1234 = .ok (.invokevirtual 138, 3) := by decide +kernel
theorem dL_law_1237 : decode code 1237 = .ok (.aload_n 2, 1) := by decide +kernel
theorem dL_law_1238 : decode code 1238 = .ok (.aload_n 0, 1) := by decide +kernel
theorem dL_law_1239 : decode code 1239 = .ok (.iload_n 3, 1) := by decide +kernel
theorem dL_law_1240 : decode code 1240 = .ok (.iconst 1, 1) := by decide +kernel
theorem dL_law_1241 : decode code 1241 = .ok (.iadd, 1) := by decide +kernel
theorem dL_law_1242 : decode code 1242 = .ok (.iaload, 1) := by decide +kernel
theorem dL_law_1243 : decode code 1243 = .ok (.invokevirtual 141, 3) := by decide +kernel
theorem dL_law_1246 : decode code 1246 = .ok (.if_icmp .eq 448, 3) := by decide +kernel
theorem dL_law_1249 : decode code 1249 = .ok (.iconst 0, 1) := by decide +kernel
theorem dL_law_1250 : decode code 1250 = .ok (.ireturn, 1) := by decide +kernel
theorem dL_law_1251 : decode code 1251 = .ok (.aload_n 1, 1) := by decide +kernel
theorem dL_law_1252 : decode code 1252 = .ok (.invokevirtual 142, 3) := by decide +kernel
theorem dL_law_1255 : decode code 1255 = .ok (.aload_n 2, 1) := by decide +kernel
theorem dL_law_1256 : decode code 1256 = .ok (.invokevirtual 145, 3) := by decide +kernel
theorem dL_law_1259 : decode code 1259 = .ok (.if_icmp .eq 435, 3) := by decide +kernel
theorem dL_law_1262 : decode code 1262 = .ok (.iconst 0, 1) := by decide +kernel
theorem dL_law_1263 : decode code 1263 = .ok (.ireturn, 1) := by decide +kernel
theorem dL_law_1264 : decode code 1264 = .ok (.aload_n 1, 1) := by decide +kernel
theorem dL_law_1265 : decode code 1265 = .ok (.invokevirtual 146, 3) := by decide +kernel
theorem dL_law_1268 : decode code 1268 = .ok (.aload_n 2, 1) := by decide +kernel
theorem dL_law_1269 : decode code 1269 = .ok (.invokevirtual 149, 3) := by decide +kernel
theorem dL_law_1272 : decode code 1272 = .ok (.if_icmp .eq 422, 3) := by decide +kernel
theorem dL_law_1275 : decode code 1275 = .ok (.iconst 0, 1) := by decide +kernel
theorem dL_law_1276 : decode code 1276 = .ok (.ireturn, 1) := by decide +kernel
theorem dL_law_1277 : decode code 1277 = .ok (.aload_n 1, 1) := by decide +kernel
theorem dL_law_1278 : decode code 1278 = .ok (.invokevirtual 150, 3) := by decide +kernel
theorem dL_law_1281 : decode code 1281 = .ok (.aload_n 2, 1) := by decide +kernel
theorem dL_law_1282 : decode code 1282 = .ok (.invokevirtual 153, 3) := by decide +kernel
theorem dL_law_1285 : decode code 1285 = .ok (.if_icmp .eq 409, 3) := by decide +kernel
theorem dL_law_1288 : decode code 1288 = .ok (.iconst 0, 1) := by decide +kernel
theorem dL_law_1289 : decode code 1289 = .ok (.ireturn, 1) := by decide +kernel
theorem dL_law_1290 : decode code 1290 = .ok (.aload_n 1, 1) := by decide +kernel
theorem dL_law_1291 : decode code 1291 = .ok (.invokevirtual 154, 3) := by decide +kernel
theorem dL_law_1294 : decode code 1294 = .ok (.aload_n 2, 1) := by decide +kernel
theorem dL_law_1295 : decode code 1295 = .ok (.invokevirtual 157, 3) := by decide +kernel
theorem dL_law_1298 : decode code 1298 = .ok (.if_icmp .eq 396, 3) := by decide +kernel
theorem dL_law_1301 : decode code 1301 = .ok (.iconst 0, 1) := by decide +kernel
theorem dL_law_1302 : decode code 1302 = .ok (.ireturn, 1) := by decide +kernel
theorem dL_law_1303 : decode code 1303 = .ok (.aload_n 1, 1) := by decide +kernel
theorem dL_law_1304 : decode code 1304 = .ok (.aload_n 0, 1) := by decide +kernel
theorem dL_law_1305 : decode code 1305 = .ok (.iload_n 3, 1) := by decide +kernel
theorem dL_law_1306 : decode code 1306 = .ok (.iconst 1, 1) := by decide +kernel
theorem dL_law_1307 : decode code 1307 = .ok (.iadd, 1) := by decide +kernel
theorem dL_law_1308 : decode code 1308 = .ok (.iaload, 1) := by decide +kernel
theorem dL_law_1309 : decode code 1309 = .ok (.invokevirtual 158, 3) := by decide +kernel
theorem dL_law_1312 : decode code 1312 = .ok (.aload_n 2, 1) := by decide +kernel
theorem dL_law_1313 : decode code 1313 = .ok (.aload_n 0, 1) := by decide +kernel
theorem dL_law_1314 : decode code 1314 = .ok (.iload_n 3, 1) := by decide +kernel
theorem dL_law_1315 : decode code 1315 = .ok (.iconst 1, 1) := by decide +kernel
theorem dL_law_1316 : decode code 1316 = .ok (.iadd, 1) := by decide +kernel
theorem dL_law_1317 : decode code 1317 = .ok (.iaload, 1) := by decide +kernel
