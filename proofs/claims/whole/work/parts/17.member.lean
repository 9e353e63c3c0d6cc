set_option maxRecDepth 100000 in
def lwIn (w : Cond) : Prop := w ∈ lw_tbl
set_option maxRecDepth 100000 in
theorem lm_0 : lwIn (.selects RX12 yX12_restart yX12_restart) := List.mem_of_getElem? (i := 1735) (by decide +kernel)
set_option maxRecDepth 100000 in
theorem lm_1 : lwIn (.instanceMethod yX12_restart) := List.mem_of_getElem? (i := 1734) (by decide +kernel)
set_option maxRecDepth 100000 in
theorem lm_2 : lwIn (.methodLink RL 215 yX12_restart) := List.mem_of_getElem? (i := 1733) (by decide +kernel)
set_option maxRecDepth 100000 in
theorem lm_3 : lwIn (.selects RX11 yX11_restart yX11_restart) := List.mem_of_getElem? (i := 502) (by decide +kernel)
set_option maxRecDepth 100000 in
theorem lm_4 : lwIn (.instanceMethod yX11_restart) := List.mem_of_getElem? (i := 501) (by decide +kernel)
set_option maxRecDepth 100000 in
theorem lm_5 : lwIn (.methodLink RL 212 yX11_restart) := List.mem_of_getElem? (i := 500) (by decide +kernel)
set_option maxRecDepth 100000 in
theorem lm_6 : lwIn (.selects RX12 yX12_search yX12_search) := List.mem_of_getElem? (i := 1727) (by decide +kernel)
set_option maxRecDepth 100000 in
theorem lm_7 : lwIn (.instanceMethod yX12_search) := List.mem_of_getElem? (i := 1726) (by decide +kernel)
set_option maxRecDepth 100000 in
theorem lm_8 : lwIn (.methodLink RL 211 yX12_search) := List.mem_of_getElem? (i := 1725) (by decide +kernel)
set_option maxRecDepth 100000 in
theorem lm_9 : lwIn (.methodLink RL 99 yX11_search) := List.mem_of_getElem? (i := 1233) (by decide +kernel)
set_option maxRecDepth 100000 in
theorem lm_10 : lwIn (.static yL_search) := List.mem_of_getElem? (i := 1231) (by decide +kernel)
set_option maxRecDepth 100000 in
theorem lm_11 : lwIn (.methodLink RL 209 yL_search) := List.mem_of_getElem? (i := 1230) (by decide +kernel)
set_option maxRecDepth 100000 in
theorem lm_12 : lwIn (.selects RX12 yX12_learnt yX12_learnt) := List.mem_of_getElem? (i := 1723) (by decide +kernel)
set_option maxRecDepth 100000 in
theorem lm_13 : lwIn (.instanceMethod yX12_learnt) := List.mem_of_getElem? (i := 1722) (by decide +kernel)
set_option maxRecDepth 100000 in
theorem lm_14 : lwIn (.methodLink RL 208 yX12_learnt) := List.mem_of_getElem? (i := 1721) (by decide +kernel)
set_option maxRecDepth 100000 in
theorem lm_15 : lwIn (.methodLink RL 96 yX11_learnt) := List.mem_of_getElem? (i := 1225) (by decide +kernel)
set_option maxRecDepth 100000 in
theorem lm_16 : lwIn (.static yL_learnt) := List.mem_of_getElem? (i := 1223) (by decide +kernel)
set_option maxRecDepth 100000 in
theorem lm_17 : lwIn (.methodLink RL 206 yL_learnt) := List.mem_of_getElem? (i := 1222) (by decide +kernel)
set_option maxRecDepth 100000 in
theorem lm_18 : lwIn (.selects RX12 yX12_learn yX12_learn) := List.mem_of_getElem? (i := 1711) (by decide +kernel)
set_option maxRecDepth 100000 in
theorem lm_19 : lwIn (.instanceMethod yX12_learn) := List.mem_of_getElem? (i := 1710) (by decide +kernel)
set_option maxRecDepth 100000 in
theorem lm_20 : lwIn (.methodLink RL 205 yX12_learn) := List.mem_of_getElem? (i := 1709) (by decide +kernel)
set_option maxRecDepth 100000 in
theorem lm_21 : lwIn (.initialized "java/lang/System") := List.mem_of_getElem? (i := 120) (by decide +kernel)
set_option maxRecDepth 100000 in
theorem lm_22 : lwIn (.methodLink RL 93 yX11_learn) := List.mem_of_getElem? (i := 1199) (by decide +kernel)
set_option maxRecDepth 100000 in
theorem lm_23 : lwIn (.static yL_learn) := List.mem_of_getElem? (i := 1197) (by decide +kernel)
set_option maxRecDepth 100000 in
theorem lm_24 : lwIn (.methodLink RL 203 yL_learn) := List.mem_of_getElem? (i := 1196) (by decide +kernel)
set_option maxRecDepth 100000 in
theorem lm_25 : lwIn (.selects RX12 yX12_probe yX12_probe) := List.mem_of_getElem? (i := 1707) (by decide +kernel)
set_option maxRecDepth 100000 in
theorem lm_26 : lwIn (.instanceMethod yX12_probe) := List.mem_of_getElem? (i := 1706) (by decide +kernel)
set_option maxRecDepth 100000 in
theorem lm_27 : lwIn (.methodLink RL 202 yX12_probe) := List.mem_of_getElem? (i := 1705) (by decide +kernel)
set_option maxRecDepth 100000 in
theorem lm_28 : lwIn (.methodLink RL 90 yX11_probe) := List.mem_of_getElem? (i := 1192) (by decide +kernel)
set_option maxRecDepth 100000 in
theorem lm_29 : lwIn (.static yL_probe) := List.mem_of_getElem? (i := 1190) (by decide +kernel)
set_option maxRecDepth 100000 in
theorem lm_30 : lwIn (.methodLink RL 200 yL_probe) := List.mem_of_getElem? (i := 1189) (by decide +kernel)
set_option maxRecDepth 100000 in
theorem lm_31 : lwIn (.selects RX12 yX12_decision yX12_decision) := List.mem_of_getElem? (i := 1703) (by decide +kernel)
set_option maxRecDepth 100000 in
theorem lm_32 : lwIn (.instanceMethod yX12_decision) := List.mem_of_getElem? (i := 1702) (by decide +kernel)
set_option maxRecDepth 100000 in
theorem lm_33 : lwIn (.methodLink RL 199 yX12_decision) := List.mem_of_getElem? (i := 1701) (by decide +kernel)
set_option maxRecDepth 100000 in
theorem lm_34 : lwIn (.methodLink RL 87 yX11_decision) := List.mem_of_getElem? (i := 1177) (by decide +kernel)
set_option maxRecDepth 100000 in
theorem lm_35 : lwIn (.static yL_decision) := List.mem_of_getElem? (i := 1175) (by decide +kernel)
set_option maxRecDepth 100000 in
theorem lm_36 : lwIn (.methodLink RL 197 yL_decision) := List.mem_of_getElem? (i := 1174) (by decide +kernel)
set_option maxRecDepth 100000 in
theorem lm_37 : lwIn (.selects RX12 yX12_back yX12_back) := List.mem_of_getElem? (i := 1695) (by decide +kernel)
set_option maxRecDepth 100000 in
theorem lm_38 : lwIn (.instanceMethod yX12_back) := List.mem_of_getElem? (i := 1694) (by decide +kernel)
set_option maxRecDepth 100000 in
theorem lm_39 : lwIn (.methodLink RL 196 yX12_back) := List.mem_of_getElem? (i := 1693) (by decide +kernel)
set_option maxRecDepth 100000 in
theorem lm_40 : lwIn (.methodLink RL 84 yX11_back) := List.mem_of_getElem? (i := 1169) (by decide +kernel)
set_option maxRecDepth 100000 in
theorem lm_41 : lwIn (.static yL_back) := List.mem_of_getElem? (i := 1167) (by decide +kernel)
set_option maxRecDepth 100000 in
theorem lm_42 : lwIn (.methodLink RL 194 yL_back) := List.mem_of_getElem? (i := 1166) (by decide +kernel)
set_option maxRecDepth 100000 in
theorem lm_43 : lwIn (.selects RX12 yX12_decide yX12_decide) := List.mem_of_getElem? (i := 1683) (by decide +kernel)
set_option maxRecDepth 100000 in
theorem lm_44 : lwIn (.instanceMethod yX12_decide) := List.mem_of_getElem? (i := 1682) (by decide +kernel)
set_option maxRecDepth 100000 in
theorem lm_45 : lwIn (.methodLink RL 193 yX12_decide) := List.mem_of_getElem? (i := 1681) (by decide +kernel)
set_option maxRecDepth 100000 in
theorem lm_46 : lwIn (.methodLink RL 81 yX11_decide) := List.mem_of_getElem? (i := 1150) (by decide +kernel)
set_option maxRecDepth 100000 in
theorem lm_47 : lwIn (.static yL_decide) := List.mem_of_getElem? (i := 1148) (by decide +kernel)
set_option maxRecDepth 100000 in
theorem lm_48 : lwIn (.methodLink RL 191 yL_decide) := List.mem_of_getElem? (i := 1147) (by decide +kernel)
set_option maxRecDepth 100000 in
theorem lm_49 : lwIn (.selects RX12 yX12_forbid yX12_forbid) := List.mem_of_getElem? (i := 1671) (by decide +kernel)
set_option maxRecDepth 100000 in
theorem lm_50 : lwIn (.instanceMethod yX12_forbid) := List.mem_of_getElem? (i := 1670) (by decide +kernel)
set_option maxRecDepth 100000 in
theorem lm_51 : lwIn (.methodLink RL 190 yX12_forbid) := List.mem_of_getElem? (i := 1669) (by decide +kernel)
set_option maxRecDepth 100000 in
theorem lm_52 : lwIn (.methodLink RL 78 yX11_forbid) := List.mem_of_getElem? (i := 1141) (by decide +kernel)
set_option maxRecDepth 100000 in
theorem lm_53 : lwIn (.static yL_forbid) := List.mem_of_getElem? (i := 1139) (by decide +kernel)
set_option maxRecDepth 100000 in
theorem lm_54 : lwIn (.methodLink RL 188 yL_forbid) := List.mem_of_getElem? (i := 1138) (by decide +kernel)
set_option maxRecDepth 100000 in
theorem lm_55 : lwIn (.selects RX12 yX12_overlooked yX12_overlooked) := List.mem_of_getElem? (i := 1667) (by decide +kernel)
set_option maxRecDepth 100000 in
theorem lm_56 : lwIn (.instanceMethod yX12_overlooked) := List.mem_of_getElem? (i := 1666) (by decide +kernel)
set_option maxRecDepth 100000 in
theorem lm_57 : lwIn (.methodLink RL 187 yX12_overlooked) := List.mem_of_getElem? (i := 1665) (by decide +kernel)
set_option maxRecDepth 100000 in
theorem lm_58 : lwIn (.selects RX11 yX11_overlooked yX11_overlooked) := List.mem_of_getElem? (i := 496) (by decide +kernel)
set_option maxRecDepth 100000 in
theorem lm_59 : lwIn (.instanceMethod yX11_overlooked) := List.mem_of_getElem? (i := 495) (by decide +kernel)
set_option maxRecDepth 100000 in
theorem lm_60 : lwIn (.methodLink RL 184 yX11_overlooked) := List.mem_of_getElem? (i := 494) (by decide +kernel)
set_option maxRecDepth 100000 in
theorem lm_61 : lwIn (.selects RX12 yX12_possible yX12_possible) := List.mem_of_getElem? (i := 1663) (by decide +kernel)
set_option maxRecDepth 100000 in
theorem lm_62 : lwIn (.instanceMethod yX12_possible) := List.mem_of_getElem? (i := 1662) (by decide +kernel)
set_option maxRecDepth 100000 in
theorem lm_63 : lwIn (.methodLink RL 183 yX12_possible) := List.mem_of_getElem? (i := 1661) (by decide +kernel)
set_option maxRecDepth 100000 in
theorem lm_64 : lwIn (.methodLink RL 75 yX11_possible) := List.mem_of_getElem? (i := 1134) (by decide +kernel)
set_option maxRecDepth 100000 in
theorem lm_65 : lwIn (.static yL_possible) := List.mem_of_getElem? (i := 1132) (by decide +kernel)
set_option maxRecDepth 100000 in
theorem lm_66 : lwIn (.methodLink RL 181 yL_possible) := List.mem_of_getElem? (i := 1131) (by decide +kernel)
set_option maxRecDepth 100000 in
theorem lm_67 : lwIn (.selects RX12 yX12_first yX12_first) := List.mem_of_getElem? (i := 1659) (by decide +kernel)
set_option maxRecDepth 100000 in
theorem lm_68 : lwIn (.instanceMethod yX12_first) := List.mem_of_getElem? (i := 1658) (by decide +kernel)
set_option maxRecDepth 100000 in
theorem lm_69 : lwIn (.methodLink RL 180 yX12_first) := List.mem_of_getElem? (i := 1657) (by decide +kernel)
set_option maxRecDepth 100000 in
theorem lm_70 : lwIn (.methodLink RL 72 yX11_first) := List.mem_of_getElem? (i := 1126) (by decide +kernel)
set_option maxRecDepth 100000 in
theorem lm_71 : lwIn (.static yL_first) := List.mem_of_getElem? (i := 1124) (by decide +kernel)
set_option maxRecDepth 100000 in
theorem lm_72 : lwIn (.methodLink RL 178 yL_first) := List.mem_of_getElem? (i := 1123) (by decide +kernel)
set_option maxRecDepth 100000 in
theorem lm_73 : lwIn (.selects RX12 yX12_solutions yX12_solutions) := List.mem_of_getElem? (i := 1643) (by decide +kernel)
set_option maxRecDepth 100000 in
theorem lm_74 : lwIn (.instanceMethod yX12_solutions) := List.mem_of_getElem? (i := 1642) (by decide +kernel)
set_option maxRecDepth 100000 in
theorem lm_75 : lwIn (.methodLink RL 177 yX12_solutions) := List.mem_of_getElem? (i := 1641) (by decide +kernel)
set_option maxRecDepth 100000 in
theorem lm_76 : lwIn (.selects RX11 yX11_solutions yX11_solutions) := List.mem_of_getElem? (i := 376) (by decide +kernel)
set_option maxRecDepth 100000 in
theorem lm_77 : lwIn (.instanceMethod yX11_solutions) := List.mem_of_getElem? (i := 375) (by decide +kernel)
set_option maxRecDepth 100000 in
theorem lm_78 : lwIn (.methodLink RL 174 yX11_solutions) := List.mem_of_getElem? (i := 374) (by decide +kernel)
set_option maxRecDepth 100000 in
theorem lm_79 : lwIn (.selects RX12 yX12_tightness yX12_tightness) := List.mem_of_getElem? (i := 1639) (by decide +kernel)
set_option maxRecDepth 100000 in
theorem lm_80 : lwIn (.instanceMethod yX12_tightness) := List.mem_of_getElem? (i := 1638) (by decide +kernel)
set_option maxRecDepth 100000 in
theorem lm_81 : lwIn (.methodLink RL 173 yX12_tightness) := List.mem_of_getElem? (i := 1637) (by decide +kernel)
set_option maxRecDepth 100000 in
theorem lm_82 : lwIn (.methodLink RL 68 yX11_tightness) := List.mem_of_getElem? (i := 1117) (by decide +kernel)
set_option maxRecDepth 100000 in
theorem lm_83 : lwIn (.static yL_tightness) := List.mem_of_getElem? (i := 1115) (by decide +kernel)
set_option maxRecDepth 100000 in
theorem lm_84 : lwIn (.methodLink RL 170 yL_tightness) := List.mem_of_getElem? (i := 1114) (by decide +kernel)
set_option maxRecDepth 100000 in
theorem lm_85 : lwIn (.selects RX12 yX12_tuples yX12_tuples) := List.mem_of_getElem? (i := 1611) (by decide +kernel)
set_option maxRecDepth 100000 in
theorem lm_86 : lwIn (.instanceMethod yX12_tuples) := List.mem_of_getElem? (i := 1610) (by decide +kernel)
set_option maxRecDepth 100000 in
theorem lm_87 : lwIn (.methodLink RL 169 yX12_tuples) := List.mem_of_getElem? (i := 1609) (by decide +kernel)
set_option maxRecDepth 100000 in
theorem lm_88 : lwIn (.methodLink RL 65 yX11_tuples) := List.mem_of_getElem? (i := 1104) (by decide +kernel)
set_option maxRecDepth 100000 in
theorem lm_89 : lwIn (.static yL_tuples) := List.mem_of_getElem? (i := 1102) (by decide +kernel)
set_option maxRecDepth 100000 in
theorem lm_90 : lwIn (.methodLink RL 167 yL_tuples) := List.mem_of_getElem? (i := 1101) (by decide +kernel)
set_option maxRecDepth 100000 in
theorem lm_91 : lwIn (.selects RX12 yX12_watchers yX12_watchers) := List.mem_of_getElem? (i := 1607) (by decide +kernel)
set_option maxRecDepth 100000 in
theorem lm_92 : lwIn (.instanceMethod yX12_watchers) := List.mem_of_getElem? (i := 1606) (by decide +kernel)
set_option maxRecDepth 100000 in
theorem lm_93 : lwIn (.methodLink RL 166 yX12_watchers) := List.mem_of_getElem? (i := 1605) (by decide +kernel)
set_option maxRecDepth 100000 in
theorem lm_94 : lwIn (.methodLink RL 62 yX11_watchers) := List.mem_of_getElem? (i := 1093) (by decide +kernel)
set_option maxRecDepth 100000 in
theorem lm_95 : lwIn (.static yL_watchers) := List.mem_of_getElem? (i := 1091) (by decide +kernel)
set_option maxRecDepth 100000 in
theorem lm_96 : lwIn (.methodLink RL 164 yL_watchers) := List.mem_of_getElem? (i := 1090) (by decide +kernel)
set_option maxRecDepth 100000 in
theorem lm_97 : lwIn (.selects RX12 yX12_support yX12_support) := List.mem_of_getElem? (i := 1596) (by decide +kernel)
set_option maxRecDepth 100000 in
theorem lm_98 : lwIn (.instanceMethod yX12_support) := List.mem_of_getElem? (i := 1595) (by decide +kernel)
set_option maxRecDepth 100000 in
theorem lm_99 : lwIn (.methodLink RL 163 yX12_support) := List.mem_of_getElem? (i := 1594) (by decide +kernel)
set_option maxRecDepth 100000 in
theorem lm_100 : lwIn (.methodLink RL 58 yX11_support) := List.mem_of_getElem? (i := 1081) (by decide +kernel)
set_option maxRecDepth 100000 in
theorem lm_101 : lwIn (.static yL_support) := List.mem_of_getElem? (i := 1079) (by decide +kernel)
set_option maxRecDepth 100000 in
theorem lm_102 : lwIn (.methodLink RL 160 yL_support) := List.mem_of_getElem? (i := 1078) (by decide +kernel)
set_option maxRecDepth 100000 in
theorem lm_103 : lwIn (.selects RX12 yX12_isSupported yX12_isSupported) := List.mem_of_getElem? (i := 1584) (by decide +kernel)
set_option maxRecDepth 100000 in
theorem lm_104 : lwIn (.instanceMethod yX12_isSupported) := List.mem_of_getElem? (i := 1583) (by decide +kernel)
set_option maxRecDepth 100000 in
theorem lm_105 : lwIn (.methodLink RL 159 yX12_isSupported) := List.mem_of_getElem? (i := 1582) (by decide +kernel)
set_option maxRecDepth 100000 in
theorem lm_106 : lwIn (.methodLink RL 54 yX11_isSupported) := List.mem_of_getElem? (i := 1069) (by decide +kernel)
set_option maxRecDepth 100000 in
theorem lm_107 : lwIn (.static yL_isSupported) := List.mem_of_getElem? (i := 1067) (by decide +kernel)
set_option maxRecDepth 100000 in
theorem lm_108 : lwIn (.methodLink RL 156 yL_isSupported) := List.mem_of_getElem? (i := 1066) (by decide +kernel)
set_option maxRecDepth 100000 in
theorem lm_109 : lwIn (.selects RX12 yX12_depth yX12_depth) := List.mem_of_getElem? (i := 1580) (by decide +kernel)
set_option maxRecDepth 100000 in
theorem lm_110 : lwIn (.instanceMethod yX12_depth) := List.mem_of_getElem? (i := 1579) (by decide +kernel)
set_option maxRecDepth 100000 in
theorem lm_111 : lwIn (.methodLink RL 155 yX12_depth) := List.mem_of_getElem? (i := 1578) (by decide +kernel)
set_option maxRecDepth 100000 in
theorem lm_112 : lwIn (.methodLink RL 51 yX11_depth) := List.mem_of_getElem? (i := 1056) (by decide +kernel)
set_option maxRecDepth 100000 in
theorem lm_113 : lwIn (.static yL_depth) := List.mem_of_getElem? (i := 1054) (by decide +kernel)
set_option maxRecDepth 100000 in
theorem lm_114 : lwIn (.methodLink RL 153 yL_depth) := List.mem_of_getElem? (i := 1053) (by decide +kernel)
set_option maxRecDepth 100000 in
theorem lm_115 : lwIn (.selects RX12 yX12_explained yX12_explained) := List.mem_of_getElem? (i := 1576) (by decide +kernel)
set_option maxRecDepth 100000 in
theorem lm_116 : lwIn (.instanceMethod yX12_explained) := List.mem_of_getElem? (i := 1575) (by decide +kernel)
set_option maxRecDepth 100000 in
theorem lm_117 : lwIn (.methodLink RL 152 yX12_explained) := List.mem_of_getElem? (i := 1574) (by decide +kernel)
set_option maxRecDepth 100000 in
theorem lm_118 : lwIn (.methodLink RL 48 yX11_explained) := List.mem_of_getElem? (i := 1048) (by decide +kernel)
set_option maxRecDepth 100000 in
theorem lm_119 : lwIn (.static yL_explained) := List.mem_of_getElem? (i := 1046) (by decide +kernel)
set_option maxRecDepth 100000 in
theorem lm_120 : lwIn (.methodLink RL 150 yL_explained) := List.mem_of_getElem? (i := 1045) (by decide +kernel)
set_option maxRecDepth 100000 in
theorem lm_121 : lwIn (.selects RX12 yX12_explanationSize yX12_explanationSize) := List.mem_of_getElem? (i := 1560) (by decide +kernel)
set_option maxRecDepth 100000 in
theorem lm_122 : lwIn (.instanceMethod yX12_explanationSize) := List.mem_of_getElem? (i := 1559) (by decide +kernel)
set_option maxRecDepth 100000 in
theorem lm_123 : lwIn (.methodLink RL 149 yX12_explanationSize) := List.mem_of_getElem? (i := 1558) (by decide +kernel)
set_option maxRecDepth 100000 in
theorem lm_124 : lwIn (.methodLink RL 45 yX11_explanationSize) := List.mem_of_getElem? (i := 1029) (by decide +kernel)
set_option maxRecDepth 100000 in
theorem lm_125 : lwIn (.static yL_explanationSize) := List.mem_of_getElem? (i := 1027) (by decide +kernel)
set_option maxRecDepth 100000 in
theorem lm_126 : lwIn (.methodLink RL 147 yL_explanationSize) := List.mem_of_getElem? (i := 1026) (by decide +kernel)
set_option maxRecDepth 100000 in
theorem lm_127 : lwIn (.selects RX12 yX12_factOf yX12_factOf) := List.mem_of_getElem? (i := 1556) (by decide +kernel)
set_option maxRecDepth 100000 in
theorem lm_128 : lwIn (.instanceMethod yX12_factOf) := List.mem_of_getElem? (i := 1555) (by decide +kernel)
set_option maxRecDepth 100000 in
theorem lm_129 : lwIn (.methodLink RL 146 yX12_factOf) := List.mem_of_getElem? (i := 1554) (by decide +kernel)
set_option maxRecDepth 100000 in
theorem lm_130 : lwIn (.initialized "java/util/NoSuchElementException") := List.mem_of_getElem? (i := 119) (by decide +kernel)
set_option maxRecDepth 100000 in
theorem lm_131 : lwIn (.methodLink RL 40 yX11_factOf) := List.mem_of_getElem? (i := 999) (by decide +kernel)
set_option maxRecDepth 100000 in
theorem lm_132 : lwIn (.classLink RL 43 "java/util/NoSuchElementException") := List.mem_of_getElem? (i := 998) (by decide +kernel)
set_option maxRecDepth 100000 in
theorem lm_133 : lwIn (.static yL_factOf) := List.mem_of_getElem? (i := 996) (by decide +kernel)
set_option maxRecDepth 100000 in
theorem lm_134 : lwIn (.methodLink RL 144 yL_factOf) := List.mem_of_getElem? (i := 995) (by decide +kernel)
set_option maxRecDepth 100000 in
theorem lm_135 : lwIn (.selects RX12 yX12_fact yX12_fact) := List.mem_of_getElem? (i := 1548) (by decide +kernel)
set_option maxRecDepth 100000 in
theorem lm_136 : lwIn (.instanceMethod yX12_fact) := List.mem_of_getElem? (i := 1547) (by decide +kernel)
set_option maxRecDepth 100000 in
theorem lm_137 : lwIn (.methodLink RL 143 yX12_fact) := List.mem_of_getElem? (i := 1546) (by decide +kernel)
set_option maxRecDepth 100000 in
theorem lm_138 : lwIn (.methodLink RL 37 yX11_fact) := List.mem_of_getElem? (i := 990) (by decide +kernel)
set_option maxRecDepth 100000 in
theorem lm_139 : lwIn (.static yL_fact) := List.mem_of_getElem? (i := 988) (by decide +kernel)
set_option maxRecDepth 100000 in
theorem lm_140 : lwIn (.methodLink RL 141 yL_fact) := List.mem_of_getElem? (i := 987) (by decide +kernel)
set_option maxRecDepth 100000 in
theorem lm_141 : lwIn (.selects RX12 yX12_constraint_ yX12_constraint_) := List.mem_of_getElem? (i := 1532) (by decide +kernel)
set_option maxRecDepth 100000 in
theorem lm_142 : lwIn (.instanceMethod yX12_constraint_) := List.mem_of_getElem? (i := 1531) (by decide +kernel)
set_option maxRecDepth 100000 in
theorem lm_143 : lwIn (.methodLink RL 140 yX12_constraint_) := List.mem_of_getElem? (i := 1530) (by decide +kernel)
set_option maxRecDepth 100000 in
theorem lm_144 : lwIn (.methodLink RL 33 yX11_constraint) := List.mem_of_getElem? (i := 973) (by decide +kernel)
set_option maxRecDepth 100000 in
theorem lm_145 : lwIn (.static yL_constraint) := List.mem_of_getElem? (i := 971) (by decide +kernel)
set_option maxRecDepth 100000 in
theorem lm_146 : lwIn (.methodLink RL 137 yL_constraint) := List.mem_of_getElem? (i := 970) (by decide +kernel)
set_option maxRecDepth 100000 in
theorem lm_147 : lwIn (.selects RX12 yX12_domain yX12_domain) := List.mem_of_getElem? (i := 1524) (by decide +kernel)
set_option maxRecDepth 100000 in
theorem lm_148 : lwIn (.instanceMethod yX12_domain) := List.mem_of_getElem? (i := 1523) (by decide +kernel)
set_option maxRecDepth 100000 in
theorem lm_149 : lwIn (.methodLink RL 136 yX12_domain) := List.mem_of_getElem? (i := 1522) (by decide +kernel)
set_option maxRecDepth 100000 in
theorem lm_150 : lwIn (.methodLink RL 30 yX11_domain) := List.mem_of_getElem? (i := 961) (by decide +kernel)
set_option maxRecDepth 100000 in
theorem lm_151 : lwIn (.static yL_domain) := List.mem_of_getElem? (i := 959) (by decide +kernel)
set_option maxRecDepth 100000 in
theorem lm_152 : lwIn (.methodLink RL 134 yL_domain) := List.mem_of_getElem? (i := 958) (by decide +kernel)
set_option maxRecDepth 100000 in
theorem lm_153 : lwIn (.selects RX12 yX12_report yX12_report) := List.mem_of_getElem? (i := 1516) (by decide +kernel)
set_option maxRecDepth 100000 in
theorem lm_154 : lwIn (.instanceMethod yX12_report) := List.mem_of_getElem? (i := 1515) (by decide +kernel)
set_option maxRecDepth 100000 in
theorem lm_155 : lwIn (.methodLink RL 133 yX12_report) := List.mem_of_getElem? (i := 1514) (by decide +kernel)
set_option maxRecDepth 100000 in
theorem lm_156 : lwIn (.methodLink RL 27 yX11_report) := List.mem_of_getElem? (i := 943) (by decide +kernel)
set_option maxRecDepth 100000 in
theorem lm_157 : lwIn (.static yL_report) := List.mem_of_getElem? (i := 941) (by decide +kernel)
set_option maxRecDepth 100000 in
theorem lm_158 : lwIn (.methodLink RL 131 yL_report) := List.mem_of_getElem? (i := 940) (by decide +kernel)
set_option maxRecDepth 100000 in
theorem lm_159 : lwIn (.selects RX12 yX12_errorPosition yX12_errorPosition) := List.mem_of_getElem? (i := 1512) (by decide +kernel)
set_option maxRecDepth 100000 in
theorem lm_160 : lwIn (.instanceMethod yX12_errorPosition) := List.mem_of_getElem? (i := 1511) (by decide +kernel)
set_option maxRecDepth 100000 in
theorem lm_161 : lwIn (.methodLink RL 130 yX12_errorPosition) := List.mem_of_getElem? (i := 1510) (by decide +kernel)
set_option maxRecDepth 100000 in
theorem lm_162 : lwIn (.selects RX11 yX11_errorPosition yX11_errorPosition) := List.mem_of_getElem? (i := 372) (by decide +kernel)
set_option maxRecDepth 100000 in
theorem lm_163 : lwIn (.instanceMethod yX11_errorPosition) := List.mem_of_getElem? (i := 371) (by decide +kernel)
set_option maxRecDepth 100000 in
theorem lm_164 : lwIn (.methodLink RL 127 yX11_errorPosition) := List.mem_of_getElem? (i := 370) (by decide +kernel)
set_option maxRecDepth 100000 in
theorem lm_165 : lwIn (.selects RX12 yX12_errorCode yX12_errorCode) := List.mem_of_getElem? (i := 1508) (by decide +kernel)
set_option maxRecDepth 100000 in
theorem lm_166 : lwIn (.instanceMethod yX12_errorCode) := List.mem_of_getElem? (i := 1507) (by decide +kernel)
set_option maxRecDepth 100000 in
theorem lm_167 : lwIn (.methodLink RL 126 yX12_errorCode) := List.mem_of_getElem? (i := 1506) (by decide +kernel)
set_option maxRecDepth 100000 in
theorem lm_168 : lwIn (.selects RX11 yX11_errorCode yX11_errorCode) := List.mem_of_getElem? (i := 368) (by decide +kernel)
set_option maxRecDepth 100000 in
theorem lm_169 : lwIn (.instanceMethod yX11_errorCode) := List.mem_of_getElem? (i := 367) (by decide +kernel)
set_option maxRecDepth 100000 in
theorem lm_170 : lwIn (.methodLink RL 123 yX11_errorCode) := List.mem_of_getElem? (i := 366) (by decide +kernel)
set_option maxRecDepth 100000 in
theorem lm_171 : lwIn (.selects RX12 yX12_load yX12_load) := List.mem_of_getElem? (i := 1432) (by decide +kernel)
set_option maxRecDepth 100000 in
theorem lm_172 : lwIn (.instanceMethod yX12_load) := List.mem_of_getElem? (i := 1431) (by decide +kernel)
set_option maxRecDepth 100000 in
theorem lm_173 : lwIn (.methodLink RL 122 yX12_load) := List.mem_of_getElem? (i := 1430) (by decide +kernel)
set_option maxRecDepth 100000 in
theorem lm_174 : lwIn (.initialized "java/lang/Math") := List.mem_of_getElem? (i := 118) (by decide +kernel)
set_option maxRecDepth 100000 in
theorem lm_175 : lwIn (.initialized RJ6) := List.mem_of_getElem? (i := 117) (by decide +kernel)
set_option maxRecDepth 100000 in
theorem lm_176 : lwIn (.initialized RJ13) := List.mem_of_getElem? (i := 116) (by decide +kernel)
set_option maxRecDepth 100000 in
theorem lm_177 : lwIn (.initialized RX0) := List.mem_of_getElem? (i := 114) (by decide +kernel)
set_option maxRecDepth 100000 in
theorem lm_178 : lwIn (.instantiable RX0 4) := List.mem_of_getElem? (i := 840) (by decide +kernel)
set_option maxRecDepth 100000 in
theorem lm_179 : lwIn (.initialized RX10) := List.mem_of_getElem? (i := 113) (by decide +kernel)
set_option maxRecDepth 100000 in
theorem lm_180 : lwIn (.instantiable RX10 8) := List.mem_of_getElem? (i := 813) (by decide +kernel)
set_option maxRecDepth 100000 in
theorem lm_181 : lwIn (.initialized RX2) := List.mem_of_getElem? (i := 112) (by decide +kernel)
set_option maxRecDepth 100000 in
theorem lm_182 : lwIn (.instantiable RX2 7) := List.mem_of_getElem? (i := 755) (by decide +kernel)
set_option maxRecDepth 100000 in
theorem lm_183 : lwIn (.initialized RX5) := List.mem_of_getElem? (i := 111) (by decide +kernel)
set_option maxRecDepth 100000 in
theorem lm_184 : lwIn (.initialized RJ2) := List.mem_of_getElem? (i := 110) (by decide +kernel)
set_option maxRecDepth 100000 in
theorem lm_185 : lwIn (.initialized RJ3) := List.mem_of_getElem? (i := 109) (by decide +kernel)
set_option maxRecDepth 100000 in
theorem lm_186 : lwIn (.initialized RJ1) := List.mem_of_getElem? (i := 108) (by decide +kernel)
set_option maxRecDepth 100000 in
theorem lm_187 : lwIn (.initialized RJ0) := List.mem_of_getElem? (i := 107) (by decide +kernel)
set_option maxRecDepth 100000 in
theorem lm_188 : lwIn (.initialized "java/lang/IllegalArgumentException") := List.mem_of_getElem? (i := 115) (by decide +kernel)
set_option maxRecDepth 100000 in
theorem lm_189 : lwIn (.methodLink RL 21 yX11_load) := List.mem_of_getElem? (i := 625) (by decide +kernel)
set_option maxRecDepth 100000 in
theorem lm_190 : lwIn (.classLink RL 25 "java/lang/IllegalArgumentException") := List.mem_of_getElem? (i := 624) (by decide +kernel)
set_option maxRecDepth 100000 in
theorem lm_191 : lwIn (.static yL_load) := List.mem_of_getElem? (i := 622) (by decide +kernel)
set_option maxRecDepth 100000 in
theorem lm_192 : lwIn (.methodLink RL 119 yL_load) := List.mem_of_getElem? (i := 621) (by decide +kernel)
set_option maxRecDepth 100000 in
theorem lm_193 : lwIn (.selects RX12 yX12_truncate yX12_truncate) := List.mem_of_getElem? (i := 1428) (by decide +kernel)
set_option maxRecDepth 100000 in
theorem lm_194 : lwIn (.instanceMethod yX12_truncate) := List.mem_of_getElem? (i := 1427) (by decide +kernel)
set_option maxRecDepth 100000 in
theorem lm_195 : lwIn (.methodLink RL 118 yX12_truncate) := List.mem_of_getElem? (i := 1426) (by decide +kernel)
set_option maxRecDepth 100000 in
theorem lm_196 : lwIn (.initialized "java/lang/IndexOutOfBoundsException") := List.mem_of_getElem? (i := 106) (by decide +kernel)
set_option maxRecDepth 100000 in
theorem lm_197 : lwIn (.methodLink RL 15 yX11_truncate) := List.mem_of_getElem? (i := 601) (by decide +kernel)
set_option maxRecDepth 100000 in
theorem lm_198 : lwIn (.classLink RL 19 "java/lang/IndexOutOfBoundsException") := List.mem_of_getElem? (i := 600) (by decide +kernel)
set_option maxRecDepth 100000 in
theorem lm_199 : lwIn (.static yL_truncate) := List.mem_of_getElem? (i := 598) (by decide +kernel)
set_option maxRecDepth 100000 in
theorem lm_200 : lwIn (.methodLink RL 115 yL_truncate) := List.mem_of_getElem? (i := 597) (by decide +kernel)
set_option maxRecDepth 100000 in
theorem lm_201 : lwIn (.selects RX12 yX12_thrown yX12_thrown) := List.mem_of_getElem? (i := 1416) (by decide +kernel)
set_option maxRecDepth 100000 in
theorem lm_202 : lwIn (.instanceMethod yX12_thrown) := List.mem_of_getElem? (i := 1415) (by decide +kernel)
set_option maxRecDepth 100000 in
theorem lm_203 : lwIn (.methodLink RL 112 yX12_thrown) := List.mem_of_getElem? (i := 1414) (by decide +kernel)
set_option maxRecDepth 100000 in
theorem lm_204 : lwIn (.selects RX12 yX12_append yX12_append) := List.mem_of_getElem? (i := 1420) (by decide +kernel)
set_option maxRecDepth 100000 in
theorem lm_205 : lwIn (.instanceMethod yX12_append) := List.mem_of_getElem? (i := 1419) (by decide +kernel)
set_option maxRecDepth 100000 in
theorem lm_206 : lwIn (.methodLink RL 111 yX12_append) := List.mem_of_getElem? (i := 1418) (by decide +kernel)
set_option maxRecDepth 100000 in
theorem lm_207 : lwIn (.initialized "java/lang/IllegalStateException") := List.mem_of_getElem? (i := 105) (by decide +kernel)
set_option maxRecDepth 100000 in
theorem lm_208 : lwIn (.methodLink RL 7 yX11_append) := List.mem_of_getElem? (i := 521) (by decide +kernel)
set_option maxRecDepth 100000 in
theorem lm_209 : lwIn (.classLink RL 13 "java/lang/IllegalStateException") := List.mem_of_getElem? (i := 520) (by decide +kernel)
set_option maxRecDepth 100000 in
theorem lm_210 : lwIn (.initialized RL) := List.mem_of_getElem? (i := 92) (by decide +kernel)
set_option maxRecDepth 100000 in
theorem lm_211 : lwIn (.static yL_append) := List.mem_of_getElem? (i := 518) (by decide +kernel)
set_option maxRecDepth 100000 in
theorem lm_212 : lwIn (.methodLink RL 106 yL_append) := List.mem_of_getElem? (i := 517) (by decide +kernel)
set_option maxRecDepth 100000 in
theorem lm_213 : lwIn (.arrayClass .boolean) := List.mem_of_getElem? (i := 1413) (by decide +kernel)
set_option maxRecDepth 100000 in
theorem lm_214 : lwIn (.instanceMethod yX12_init) := List.mem_of_getElem? (i := 1245) (by decide +kernel)
set_option maxRecDepth 100000 in
theorem lm_215 : lwIn (.methodLink RL 105 yX12_init) := List.mem_of_getElem? (i := 1244) (by decide +kernel)
set_option maxRecDepth 100000 in
theorem lm_216 : lwIn (.initialized RX1) := List.mem_of_getElem? (i := 98) (by decide +kernel)
set_option maxRecDepth 100000 in
theorem lm_217 : lwIn (.initialized RX3) := List.mem_of_getElem? (i := 97) (by decide +kernel)
set_option maxRecDepth 100000 in
theorem lm_218 : lwIn (.instantiable RX3 7) := List.mem_of_getElem? (i := 207) (by decide +kernel)
set_option maxRecDepth 100000 in
theorem lm_219 : lwIn (.arrayClass .int) := List.mem_of_getElem? (i := 163) (by decide +kernel)
set_option maxRecDepth 100000 in
theorem lm_220 : lwIn (.arrayClass .byte) := List.mem_of_getElem? (i := 162) (by decide +kernel)
set_option maxRecDepth 100000 in
theorem lm_221 : lwIn (.initialized RX6) := List.mem_of_getElem? (i := 95) (by decide +kernel)
set_option maxRecDepth 100000 in
theorem lm_222 : lwIn (.instantiable RX6 4) := List.mem_of_getElem? (i := 136) (by decide +kernel)
set_option maxRecDepth 100000 in
theorem lm_223 : lwIn (.initialized RX7) := List.mem_of_getElem? (i := 100) (by decide +kernel)
set_option maxRecDepth 100000 in
theorem lm_224 : lwIn (.instantiable RX7 5) := List.mem_of_getElem? (i := 311) (by decide +kernel)
set_option maxRecDepth 100000 in
theorem lm_225 : lwIn (.initialized RX4) := List.mem_of_getElem? (i := 99) (by decide +kernel)
set_option maxRecDepth 100000 in
theorem lm_226 : lwIn (.instantiable RX4 5) := List.mem_of_getElem? (i := 272) (by decide +kernel)
set_option maxRecDepth 100000 in
theorem lm_227 : lwIn (.initialized RX9) := List.mem_of_getElem? (i := 96) (by decide +kernel)
set_option maxRecDepth 100000 in
theorem lm_228 : lwIn (.instantiable RX9 6) := List.mem_of_getElem? (i := 200) (by decide +kernel)
set_option maxRecDepth 100000 in
theorem lm_229 : lwIn (.initialized RX8) := List.mem_of_getElem? (i := 94) (by decide +kernel)
set_option maxRecDepth 100000 in
theorem lm_230 : lwIn (.instantiable RX8 10) := List.mem_of_getElem? (i := 130) (by decide +kernel)
set_option maxRecDepth 100000 in
theorem lm_231 : lwIn (.instanceMethod yX11_init) := List.mem_of_getElem? (i := 124) (by decide +kernel)
set_option maxRecDepth 100000 in
theorem lm_232 : lwIn (.methodLink RL 102 yX11_init) := List.mem_of_getElem? (i := 123) (by decide +kernel)
set_option maxRecDepth 100000 in
theorem lm_233 : lwIn (.arrayClass .double) := List.mem_of_getElem? (i := 1737) (by decide +kernel)
set_option maxRecDepth 100000 in
theorem lm_234 : lwIn (.arrayClass .long) := List.mem_of_getElem? (i := 248) (by decide +kernel)
set_option maxRecDepth 100000 in
theorem lm_235 : lwIn (.initialized RX12) := List.mem_of_getElem? (i := 101) (by decide +kernel)
set_option maxRecDepth 100000 in
theorem lm_236 : lwIn (.instantiable RX12 32) := List.mem_of_getElem? (i := 1243) (by decide +kernel)
set_option maxRecDepth 100000 in
theorem lm_237 : lwIn (.classLink RL 103 RX12) := List.mem_of_getElem? (i := 1242) (by decide +kernel)
set_option maxRecDepth 100000 in
theorem lm_238 : lwIn (.initialized RX11) := List.mem_of_getElem? (i := 93) (by decide +kernel)
set_option maxRecDepth 100000 in
theorem lm_239 : lwIn (.instantiable RX11 9) := List.mem_of_getElem? (i := 122) (by decide +kernel)
set_option maxRecDepth 100000 in
theorem lm_240 : lwIn (.classLink RL 8 RX11) := List.mem_of_getElem? (i := 121) (by decide +kernel)
set_option maxRecDepth 100000 in
theorem lm_241 : lwIn (.code yX11_init cX11_init 1 none) := List.mem_of_getElem? (i := 125) (by decide +kernel)
set_option maxRecDepth 100000 in
theorem lm_242 : lwIn (.classLink RX11 44 RX6) := List.mem_of_getElem? (i := 336) (by decide +kernel)
set_option maxRecDepth 100000 in
theorem lm_243 : lwIn (.fieldLink RX11 40 "SupportSolver" "sets" "[J") := List.mem_of_getElem? (i := 343) (by decide +kernel)
set_option maxRecDepth 100000 in
theorem lm_244 : lwIn (.fieldLink RX11 36 "SupportSolver" "found" "LSupportSolver$Solutions;") := List.mem_of_getElem? (i := 342) (by decide +kernel)
set_option maxRecDepth 100000 in
theorem lm_245 : lwIn (.classLink RX11 33 RX7) := List.mem_of_getElem? (i := 310) (by decide +kernel)
set_option maxRecDepth 100000 in
theorem lm_246 : lwIn (.fieldLink RX11 29 "SupportSolver" "view" "LSupportSolver$LearntSet;") := List.mem_of_getElem? (i := 341) (by decide +kernel)
set_option maxRecDepth 100000 in
theorem lm_247 : lwIn (.classLink RX11 26 RX4) := List.mem_of_getElem? (i := 271) (by decide +kernel)
set_option maxRecDepth 100000 in
theorem lm_248 : lwIn (.fieldLink RX11 23 "SupportSolver" "scratch" "LSupportSolver$Trail;") := List.mem_of_getElem? (i := 340) (by decide +kernel)
set_option maxRecDepth 100000 in
theorem lm_249 : lwIn (.fieldLink RX11 19 "SupportSolver" "trail" "LSupportSolver$Trail;") := List.mem_of_getElem? (i := 339) (by decide +kernel)
set_option maxRecDepth 100000 in
theorem lm_250 : lwIn (.classLink RX11 16 RX9) := List.mem_of_getElem? (i := 199) (by decide +kernel)
set_option maxRecDepth 100000 in
theorem lm_251 : lwIn (.fieldLink RX11 12 "SupportSolver" "reader" "LSupportSolver$TextReader;") := List.mem_of_getElem? (i := 338) (by decide +kernel)
set_option maxRecDepth 100000 in
theorem lm_252 : lwIn (.classLink RX11 9 RX8) := List.mem_of_getElem? (i := 129) (by decide +kernel)
set_option maxRecDepth 100000 in
theorem lm_253 : lwIn (.code objectInit ⟨#[0xb1]⟩ 1 none) := List.mem_of_getElem? (i := 128) (by decide +kernel)
set_option maxRecDepth 100000 in
theorem lm_254 : lwIn (.instanceMethod objectInit) := List.mem_of_getElem? (i := 127) (by decide +kernel)
set_option maxRecDepth 100000 in
theorem lm_255 : lwIn (.methodLink RX11 3 objectInit) := List.mem_of_getElem? (i := 126) (by decide +kernel)
set_option maxRecDepth 100000 in
theorem lm_256 : lwIn (.classLink RX6 9 RX1) := List.mem_of_getElem? (i := 141) (by decide +kernel)
set_option maxRecDepth 100000 in
theorem lm_257 : lwIn (.methodLink RX6 3 objectInit) := List.mem_of_getElem? (i := 140) (by decide +kernel)
set_option maxRecDepth 100000 in
theorem lm_258 : lwIn (.code yX6_init cX6_init 1 none) := List.mem_of_getElem? (i := 139) (by decide +kernel)
set_option maxRecDepth 100000 in
theorem lm_259 : lwIn (.instanceMethod yX6_init) := List.mem_of_getElem? (i := 138) (by decide +kernel)
set_option maxRecDepth 100000 in
theorem lm_260 : lwIn (.fieldLink RX8 45 "SupportSolver$TextReader" "content" "I") := List.mem_of_getElem? (i := 177) (by decide +kernel)
set_option maxRecDepth 100000 in
theorem lm_261 : lwIn (.fieldLink RX8 42 "SupportSolver$TextReader" "end" "I") := List.mem_of_getElem? (i := 176) (by decide +kernel)
set_option maxRecDepth 100000 in
theorem lm_262 : lwIn (.fieldLink RX8 39 "SupportSolver$TextReader" "start" "I") := List.mem_of_getElem? (i := 175) (by decide +kernel)
set_option maxRecDepth 100000 in
theorem lm_263 : lwIn (.fieldLink RX8 36 "SupportSolver$TextReader" "kind" "I") := List.mem_of_getElem? (i := 174) (by decide +kernel)
set_option maxRecDepth 100000 in
theorem lm_264 : lwIn (.fieldLink RX8 32 "SupportSolver$TextReader" "problem" "LSupportSolver$Problem;") := List.mem_of_getElem? (i := 172) (by decide +kernel)
set_option maxRecDepth 100000 in
theorem lm_265 : lwIn (.classLink RX8 29 RX6) := List.mem_of_getElem? (i := 135) (by decide +kernel)
set_option maxRecDepth 100000 in
theorem lm_266 : lwIn (.fieldLink RX8 26 "SupportSolver$TextReader" "errorPosition" "I") := List.mem_of_getElem? (i := 170) (by decide +kernel)
set_option maxRecDepth 100000 in
theorem lm_267 : lwIn (.fieldLink RX8 23 "SupportSolver$TextReader" "errorCode" "I") := List.mem_of_getElem? (i := 168) (by decide +kernel)
set_option maxRecDepth 100000 in
theorem lm_268 : lwIn (.fieldLink RX8 19 "SupportSolver$TextReader" "length" "I") := List.mem_of_getElem? (i := 166) (by decide +kernel)
set_option maxRecDepth 100000 in
theorem lm_269 : lwIn (.fieldLink RX8 15 "SupportSolver$TextReader" "names" "[I") := List.mem_of_getElem? (i := 165) (by decide +kernel)
set_option maxRecDepth 100000 in
theorem lm_270 : lwIn (.fieldLink RX8 11 "SupportSolver$TextReader" "bytes" "[B") := List.mem_of_getElem? (i := 164) (by decide +kernel)
set_option maxRecDepth 100000 in
theorem lm_271 : lwIn (.methodLink RX8 3 objectInit) := List.mem_of_getElem? (i := 134) (by decide +kernel)
set_option maxRecDepth 100000 in
theorem lm_272 : lwIn (.code yX8_init cX8_init 1 none) := List.mem_of_getElem? (i := 133) (by decide +kernel)
set_option maxRecDepth 100000 in
theorem lm_273 : lwIn (.instanceMethod yX8_init) := List.mem_of_getElem? (i := 132) (by decide +kernel)
set_option maxRecDepth 100000 in
theorem lm_274 : lwIn (.fieldLink RX11 55 "SupportSolver" "decisionsMade" "I") := List.mem_of_getElem? (i := 346) (by decide +kernel)
set_option maxRecDepth 100000 in
theorem lm_275 : lwIn (.fieldLink RX11 51 "SupportSolver" "setCount" "I") := List.mem_of_getElem? (i := 345) (by decide +kernel)
set_option maxRecDepth 100000 in
theorem lm_276 : lwIn (.fieldLink RX11 47 "SupportSolver" "problem" "LSupportSolver$Problem;") := List.mem_of_getElem? (i := 344) (by decide +kernel)
set_option maxRecDepth 100000 in
theorem lm_277 : lwIn (.fieldLink RX3 19 "SupportSolver$Fact" "level" "I") := List.mem_of_getElem? (i := 222) (by decide +kernel)
set_option maxRecDepth 100000 in
theorem lm_278 : lwIn (.fieldLink RX3 16 "SupportSolver$Fact" "reason" "I") := List.mem_of_getElem? (i := 219) (by decide +kernel)
set_option maxRecDepth 100000 in
theorem lm_279 : lwIn (.fieldLink RX3 13 "SupportSolver$Fact" "value" "I") := List.mem_of_getElem? (i := 216) (by decide +kernel)
set_option maxRecDepth 100000 in
theorem lm_280 : lwIn (.fieldLink RX3 7 "SupportSolver$Fact" "variable" "I") := List.mem_of_getElem? (i := 213) (by decide +kernel)
set_option maxRecDepth 100000 in
theorem lm_281 : lwIn (.methodLink RX3 1 objectInit) := List.mem_of_getElem? (i := 211) (by decide +kernel)
set_option maxRecDepth 100000 in
theorem lm_282 : lwIn (.code yX3_init cX3_init 1 none) := List.mem_of_getElem? (i := 210) (by decide +kernel)
set_option maxRecDepth 100000 in
theorem lm_283 : lwIn (.instanceMethod yX3_init) := List.mem_of_getElem? (i := 209) (by decide +kernel)
set_option maxRecDepth 100000 in
theorem lm_284 : lwIn (.fieldLink RX9 31 "SupportSolver$Trail" "domains" "J") := List.mem_of_getElem? (i := 256) (by decide +kernel)
set_option maxRecDepth 100000 in
theorem lm_285 : lwIn (.fieldLink RX9 28 "SupportSolver$Trail" "level" "I") := List.mem_of_getElem? (i := 254) (by decide +kernel)
set_option maxRecDepth 100000 in
theorem lm_286 : lwIn (.fieldLink RX9 25 "SupportSolver$Trail" "size" "I") := List.mem_of_getElem? (i := 252) (by decide +kernel)
set_option maxRecDepth 100000 in
theorem lm_287 : lwIn (.fieldLink RX9 21 "SupportSolver$Trail" "variables" "I") := List.mem_of_getElem? (i := 251) (by decide +kernel)
set_option maxRecDepth 100000 in
theorem lm_288 : lwIn (.fieldLink RX9 17 "SupportSolver$Trail" "decisions" "[J") := List.mem_of_getElem? (i := 250) (by decide +kernel)
set_option maxRecDepth 100000 in
theorem lm_289 : lwIn (.fieldLink RX9 11 "SupportSolver$Trail" "facts" "[LSupportSolver$Fact;") := List.mem_of_getElem? (i := 249) (by decide +kernel)
set_option maxRecDepth 100000 in
theorem lm_290 : lwIn (.classLink RX9 9 RX3) := List.mem_of_getElem? (i := 205) (by decide +kernel)
set_option maxRecDepth 100000 in
theorem lm_291 : lwIn (.methodLink RX9 3 objectInit) := List.mem_of_getElem? (i := 204) (by decide +kernel)
set_option maxRecDepth 100000 in
theorem lm_292 : lwIn (.code yX9_init cX9_init 2 none) := List.mem_of_getElem? (i := 203) (by decide +kernel)
set_option maxRecDepth 100000 in
theorem lm_293 : lwIn (.instanceMethod yX9_init) := List.mem_of_getElem? (i := 202) (by decide +kernel)
set_option maxRecDepth 100000 in
theorem lm_294 : lwIn (.methodLink RX11 18 yX9_init) := List.mem_of_getElem? (i := 201) (by decide +kernel)
set_option maxRecDepth 100000 in
theorem lm_295 : lwIn (.fieldLink RX6 24 "SupportSolver$Problem" "initial" "J") := List.mem_of_getElem? (i := 150) (by decide +kernel)
set_option maxRecDepth 100000 in
theorem lm_296 : lwIn (.fieldLink RX6 21 "SupportSolver$Problem" "constraints" "I") := List.mem_of_getElem? (i := 148) (by decide +kernel)
set_option maxRecDepth 100000 in
theorem lm_297 : lwIn (.fieldLink RX6 17 "SupportSolver$Problem" "variables" "I") := List.mem_of_getElem? (i := 144) (by decide +kernel)
set_option maxRecDepth 100000 in
theorem lm_298 : lwIn (.fieldLink RX6 11 "SupportSolver$Problem" "rows" "[LSupportSolver$Constraint;") := List.mem_of_getElem? (i := 143) (by decide +kernel)
set_option maxRecDepth 100000 in
theorem lm_299 : lwIn (.fieldLink RX7 23 "SupportSolver$Solutions" "united" "J") := List.mem_of_getElem? (i := 322) (by decide +kernel)
set_option maxRecDepth 100000 in
theorem lm_300 : lwIn (.fieldLink RX7 19 "SupportSolver$Solutions" "least" "J") := List.mem_of_getElem? (i := 320) (by decide +kernel)
set_option maxRecDepth 100000 in
theorem lm_301 : lwIn (.fieldLink RX7 15 "SupportSolver$Solutions" "count" "I") := List.mem_of_getElem? (i := 318) (by decide +kernel)
set_option maxRecDepth 100000 in
theorem lm_302 : lwIn (.fieldLink RX7 9 "SupportSolver$Solutions" "isKnown" "Z") := List.mem_of_getElem? (i := 316) (by decide +kernel)
set_option maxRecDepth 100000 in
theorem lm_303 : lwIn (.methodLink RX7 3 objectInit) := List.mem_of_getElem? (i := 315) (by decide +kernel)
set_option maxRecDepth 100000 in
theorem lm_304 : lwIn (.code yX7_init cX7_init 1 none) := List.mem_of_getElem? (i := 314) (by decide +kernel)
set_option maxRecDepth 100000 in
theorem lm_305 : lwIn (.instanceMethod yX7_init) := List.mem_of_getElem? (i := 313) (by decide +kernel)
set_option maxRecDepth 100000 in
theorem lm_306 : lwIn (.fieldLink RX1 22 "SupportSolver$Constraint" "kind" "I") := List.mem_of_getElem? (i := 281) (by decide +kernel)
set_option maxRecDepth 100000 in
theorem lm_307 : lwIn (.fieldLink RX1 19 "SupportSolver$Constraint" "order" "I") := List.mem_of_getElem? (i := 298) (by decide +kernel)
set_option maxRecDepth 100000 in
theorem lm_308 : lwIn (.fieldLink RX1 15 "SupportSolver$Constraint" "scope" "J") := List.mem_of_getElem? (i := 291) (by decide +kernel)
set_option maxRecDepth 100000 in
theorem lm_309 : lwIn (.fieldLink RX1 9 "SupportSolver$Constraint" "size" "I") := List.mem_of_getElem? (i := 285) (by decide +kernel)
set_option maxRecDepth 100000 in
theorem lm_310 : lwIn (.methodLink RX1 3 objectInit) := List.mem_of_getElem? (i := 279) (by decide +kernel)
set_option maxRecDepth 100000 in
theorem lm_311 : lwIn (.code yX1_init cX1_init 2 none) := List.mem_of_getElem? (i := 278) (by decide +kernel)
set_option maxRecDepth 100000 in
theorem lm_312 : lwIn (.instanceMethod yX1_init) := List.mem_of_getElem? (i := 277) (by decide +kernel)
set_option maxRecDepth 100000 in
theorem lm_313 : lwIn (.methodLink RX4 5 yX1_init) := List.mem_of_getElem? (i := 276) (by decide +kernel)
set_option maxRecDepth 100000 in
theorem lm_314 : lwIn (.fieldLink RX4 9 "SupportSolver$LearntSet" "set" "J") := List.mem_of_getElem? (i := 280) (by decide +kernel)
set_option maxRecDepth 100000 in
theorem lm_315 : lwIn (.code yX4_init cX4_init 1 none) := List.mem_of_getElem? (i := 275) (by decide +kernel)
set_option maxRecDepth 100000 in
theorem lm_316 : lwIn (.instanceMethod yX4_init) := List.mem_of_getElem? (i := 274) (by decide +kernel)
set_option maxRecDepth 100000 in
theorem lm_317 : lwIn (.methodLink RX11 28 yX4_init) := List.mem_of_getElem? (i := 273) (by decide +kernel)
set_option maxRecDepth 100000 in
theorem lm_318 : lwIn (.fieldLink RX3 31 "SupportSolver$Fact" "depth" "I") := List.mem_of_getElem? (i := 231) (by decide +kernel)
set_option maxRecDepth 100000 in
theorem lm_319 : lwIn (.fieldLink RX3 28 "SupportSolver$Fact" "explanation" "J") := List.mem_of_getElem? (i := 228) (by decide +kernel)
set_option maxRecDepth 100000 in
theorem lm_320 : lwIn (.constantLong RX3 26 (-1)) := List.mem_of_getElem? (i := 212) (by decide +kernel)
set_option maxRecDepth 100000 in
theorem lm_321 : lwIn (.fieldLink RX3 22 "SupportSolver$Fact" "set" "J") := List.mem_of_getElem? (i := 225) (by decide +kernel)
set_option maxRecDepth 100000 in
theorem lm_322 : lwIn (.fieldLink RX7 26 "SupportSolver$Solutions" "domains" "J") := List.mem_of_getElem? (i := 324) (by decide +kernel)
set_option maxRecDepth 100000 in
theorem lm_323 : lwIn (.code yX12_init cX12_init 1 none) := List.mem_of_getElem? (i := 1246) (by decide +kernel)
set_option maxRecDepth 100000 in
theorem lm_324 : lwIn (.fieldLink RX12 64 "SupportSolverModel" "start" "[I") := List.mem_of_getElem? (i := 1347) (by decide +kernel)
set_option maxRecDepth 100000 in
theorem lm_325 : lwIn (.fieldLink RX12 61 "SupportSolverModel" "possible" "[I") := List.mem_of_getElem? (i := 1346) (by decide +kernel)
set_option maxRecDepth 100000 in
theorem lm_326 : lwIn (.fieldLink RX12 58 "SupportSolverModel" "firstOne" "[I") := List.mem_of_getElem? (i := 1345) (by decide +kernel)
set_option maxRecDepth 100000 in
theorem lm_327 : lwIn (.fieldLink RX12 55 "SupportSolverModel" "given" "[I") := List.mem_of_getElem? (i := 1344) (by decide +kernel)
set_option maxRecDepth 100000 in
theorem lm_328 : lwIn (.fieldLink RX12 52 "SupportSolverModel" "least" "[I") := List.mem_of_getElem? (i := 1343) (by decide +kernel)
set_option maxRecDepth 100000 in
theorem lm_329 : lwIn (.fieldLink RX12 49 "SupportSolverModel" "depths" "[I") := List.mem_of_getElem? (i := 1342) (by decide +kernel)
set_option maxRecDepth 100000 in
theorem lm_330 : lwIn (.fieldLink RX12 46 "SupportSolverModel" "without" "[I") := List.mem_of_getElem? (i := 1341) (by decide +kernel)
set_option maxRecDepth 100000 in
theorem lm_331 : lwIn (.fieldLink RX12 42 "SupportSolverModel" "isLeft" "[Z") := List.mem_of_getElem? (i := 1340) (by decide +kernel)
set_option maxRecDepth 100000 in
theorem lm_332 : lwIn (.fieldLink RX12 39 "SupportSolverModel" "trial" "[I") := List.mem_of_getElem? (i := 1339) (by decide +kernel)
set_option maxRecDepth 100000 in
theorem lm_333 : lwIn (.fieldLink RX12 35 "SupportSolverModel" "names" "[J") := List.mem_of_getElem? (i := 1338) (by decide +kernel)
set_option maxRecDepth 100000 in
theorem lm_334 : lwIn (.fieldLink RX12 31 "SupportSolverModel" "errorAt" "I") := List.mem_of_getElem? (i := 1336) (by decide +kernel)
set_option maxRecDepth 100000 in
theorem lm_335 : lwIn (.fieldLink RX12 28 "SupportSolverModel" "text" "[I") := List.mem_of_getElem? (i := 1328) (by decide +kernel)
set_option maxRecDepth 100000 in
theorem lm_336 : lwIn (.fieldLink RX12 25 "SupportSolverModel" "sets" "[I") := List.mem_of_getElem? (i := 1322) (by decide +kernel)
set_option maxRecDepth 100000 in
theorem lm_337 : lwIn (.fieldLink RX12 22 "SupportSolverModel" "decisions" "[I") := List.mem_of_getElem? (i := 1321) (by decide +kernel)
set_option maxRecDepth 100000 in
theorem lm_338 : lwIn (.fieldLink RX12 19 "SupportSolverModel" "facts" "[I") := List.mem_of_getElem? (i := 1320) (by decide +kernel)
set_option maxRecDepth 100000 in
theorem lm_339 : lwIn (.fieldLink RX12 16 "SupportSolverModel" "domain" "[I") := List.mem_of_getElem? (i := 1319) (by decide +kernel)
set_option maxRecDepth 100000 in
theorem lm_340 : lwIn (.fieldLink RX12 13 "SupportSolverModel" "told" "[I") := List.mem_of_getElem? (i := 1318) (by decide +kernel)
set_option maxRecDepth 100000 in
theorem lm_341 : lwIn (.fieldLink RX12 7 "SupportSolverModel" "p" "[I") := List.mem_of_getElem? (i := 1317) (by decide +kernel)
set_option maxRecDepth 100000 in
theorem lm_342 : lwIn (.methodLink RX12 1 objectInit) := List.mem_of_getElem? (i := 1247) (by decide +kernel)
set_option maxRecDepth 100000 in
theorem lm_343 : lwIn (.instanceMethod yX12_of) := List.mem_of_getElem? (i := 1266) (by decide +kernel)
set_option maxRecDepth 100000 in
theorem lm_344 : lwIn (.methodLink RX12 211 yX12_of) := List.mem_of_getElem? (i := 1264) (by decide +kernel)
set_option maxRecDepth 100000 in
theorem lm_345 : lwIn (.code yX12_manyIn cX12_manyIn 4 (some .int)) := List.mem_of_getElem? (i := 1263) (by decide +kernel)
set_option maxRecDepth 100000 in
theorem lm_346 : lwIn (.selects RX12 yX12_manyIn yX12_manyIn) := List.mem_of_getElem? (i := 37) (by decide +kernel)
set_option maxRecDepth 100000 in
theorem lm_347 : lwIn (.instanceMethod yX12_manyIn) := List.mem_of_getElem? (i := 1262) (by decide +kernel)
set_option maxRecDepth 100000 in
theorem lm_348 : lwIn (.methodLink RX12 236 yX12_manyIn) := List.mem_of_getElem? (i := 1260) (by decide +kernel)
set_option maxRecDepth 100000 in
theorem lm_349 : lwIn (.code yX12_sweepsOne cX12_sweepsOne 8 (some .int)) := List.mem_of_getElem? (i := 1259) (by decide +kernel)
set_option maxRecDepth 100000 in
theorem lm_350 : lwIn (.selects RX12 yX12_sweepsOne yX12_sweepsOne) := List.mem_of_getElem? (i := 36) (by decide +kernel)
set_option maxRecDepth 100000 in
theorem lm_351 : lwIn (.instanceMethod yX12_sweepsOne) := List.mem_of_getElem? (i := 1258) (by decide +kernel)
set_option maxRecDepth 100000 in
theorem lm_352 : lwIn (.methodLink RX12 250 yX12_sweepsOne) := List.mem_of_getElem? (i := 1256) (by decide +kernel)
set_option maxRecDepth 100000 in
theorem lm_353 : lwIn (.code yX12_sweeps cX12_sweeps 7 (some .boolean)) := List.mem_of_getElem? (i := 1255) (by decide +kernel)
set_option maxRecDepth 100000 in
theorem lm_354 : lwIn (.selects RX12 yX12_sweeps yX12_sweeps) := List.mem_of_getElem? (i := 35) (by decide +kernel)
set_option maxRecDepth 100000 in
theorem lm_355 : lwIn (.instanceMethod yX12_sweeps) := List.mem_of_getElem? (i := 1254) (by decide +kernel)
set_option maxRecDepth 100000 in
theorem lm_356 : lwIn (.methodLink RX12 89 yX12_sweeps) := List.mem_of_getElem? (i := 1252) (by decide +kernel)
set_option maxRecDepth 100000 in
theorem lm_357 : lwIn (.fieldLink RX12 85 "SupportSolverModel" "hasFailed" "Z") := List.mem_of_getElem? (i := 1327) (by decide +kernel)
set_option maxRecDepth 100000 in
theorem lm_358 : lwIn (.fieldLink RX12 82 "SupportSolverModel" "decided" "I") := List.mem_of_getElem? (i := 1326) (by decide +kernel)
set_option maxRecDepth 100000 in
theorem lm_359 : lwIn (.fieldLink RX12 79 "SupportSolverModel" "setMany" "I") := List.mem_of_getElem? (i := 1325) (by decide +kernel)
set_option maxRecDepth 100000 in
theorem lm_360 : lwIn (.fieldLink RX12 76 "SupportSolverModel" "level" "I") := List.mem_of_getElem? (i := 1324) (by decide +kernel)
set_option maxRecDepth 100000 in
theorem lm_361 : lwIn (.fieldLink RX12 73 "SupportSolverModel" "factMany" "I") := List.mem_of_getElem? (i := 1323) (by decide +kernel)
set_option maxRecDepth 100000 in
theorem lm_362 : lwIn (.code yX12_begins cX12_begins 2 none) := List.mem_of_getElem? (i := 1251) (by decide +kernel)
set_option maxRecDepth 100000 in
theorem lm_363 : lwIn (.selects RX12 yX12_begins yX12_begins) := List.mem_of_getElem? (i := 34) (by decide +kernel)
set_option maxRecDepth 100000 in
theorem lm_364 : lwIn (.instanceMethod yX12_begins) := List.mem_of_getElem? (i := 1250) (by decide +kernel)
set_option maxRecDepth 100000 in
theorem lm_365 : lwIn (.methodLink RX12 67 yX12_begins) := List.mem_of_getElem? (i := 1248) (by decide +kernel)
set_option maxRecDepth 100000 in
theorem lm_366 : lwIn (.code yX12_canLeave cX12_canLeave 6 (some .boolean)) := List.mem_of_getElem? (i := 1289) (by decide +kernel)
set_option maxRecDepth 100000 in
theorem lm_367 : lwIn (.selects RX12 yX12_canLeave yX12_canLeave) := List.mem_of_getElem? (i := 42) (by decide +kernel)
set_option maxRecDepth 100000 in
theorem lm_368 : lwIn (.instanceMethod yX12_canLeave) := List.mem_of_getElem? (i := 1288) (by decide +kernel)
set_option maxRecDepth 100000 in
theorem lm_369 : lwIn (.methodLink RX12 217 yX12_canLeave) := List.mem_of_getElem? (i := 1286) (by decide +kernel)
set_option maxRecDepth 100000 in
theorem lm_370 : lwIn (.code yX12_can cX12_can 5 (some .boolean)) := List.mem_of_getElem? (i := 1285) (by decide +kernel)
set_option maxRecDepth 100000 in
theorem lm_371 : lwIn (.selects RX12 yX12_can yX12_can) := List.mem_of_getElem? (i := 41) (by decide +kernel)
set_option maxRecDepth 100000 in
theorem lm_372 : lwIn (.instanceMethod yX12_can) := List.mem_of_getElem? (i := 1284) (by decide +kernel)
set_option maxRecDepth 100000 in
theorem lm_373 : lwIn (.methodLink RX12 233 yX12_can) := List.mem_of_getElem? (i := 1282) (by decide +kernel)
set_option maxRecDepth 100000 in
theorem lm_374 : lwIn (.code yX12_hasSupport cX12_hasSupport 6 (some .boolean)) := List.mem_of_getElem? (i := 1281) (by decide +kernel)
set_option maxRecDepth 100000 in
theorem lm_375 : lwIn (.selects RX12 yX12_hasSupport yX12_hasSupport) := List.mem_of_getElem? (i := 40) (by decide +kernel)
set_option maxRecDepth 100000 in
theorem lm_376 : lwIn (.instanceMethod yX12_hasSupport) := List.mem_of_getElem? (i := 1280) (by decide +kernel)
set_option maxRecDepth 100000 in
theorem lm_377 : lwIn (.methodLink RX12 242 yX12_hasSupport) := List.mem_of_getElem? (i := 1278) (by decide +kernel)
set_option maxRecDepth 100000 in
theorem lm_378 : lwIn (.code yX12_has cX12_has 2 (some .boolean)) := List.mem_of_getElem? (i := 1277) (by decide +kernel)
set_option maxRecDepth 100000 in
theorem lm_379 : lwIn (.static yX12_has) := List.mem_of_getElem? (i := 1276) (by decide +kernel)
set_option maxRecDepth 100000 in
theorem lm_380 : lwIn (.methodLink RX12 178 yX12_has) := List.mem_of_getElem? (i := 1275) (by decide +kernel)
set_option maxRecDepth 100000 in
theorem lm_381 : lwIn (.code yX12_memberOf cX12_memberOf 5 (some .int)) := List.mem_of_getElem? (i := 1274) (by decide +kernel)
set_option maxRecDepth 100000 in
theorem lm_382 : lwIn (.selects RX12 yX12_memberOf yX12_memberOf) := List.mem_of_getElem? (i := 39) (by decide +kernel)
set_option maxRecDepth 100000 in
theorem lm_383 : lwIn (.instanceMethod yX12_memberOf) := List.mem_of_getElem? (i := 1273) (by decide +kernel)
set_option maxRecDepth 100000 in
theorem lm_384 : lwIn (.methodLink RX12 239 yX12_memberOf) := List.mem_of_getElem? (i := 1271) (by decide +kernel)
set_option maxRecDepth 100000 in
theorem lm_385 : lwIn (.code yX12_valueIn cX12_valueIn 2 (some .int)) := List.mem_of_getElem? (i := 1270) (by decide +kernel)
set_option maxRecDepth 100000 in
theorem lm_386 : lwIn (.static yX12_valueIn) := List.mem_of_getElem? (i := 1269) (by decide +kernel)
set_option maxRecDepth 100000 in
theorem lm_387 : lwIn (.methodLink RX12 208 yX12_valueIn) := List.mem_of_getElem? (i := 1268) (by decide +kernel)
set_option maxRecDepth 100000 in
theorem lm_388 : lwIn (.code yX12_of cX12_of 3 (some .int)) := List.mem_of_getElem? (i := 1267) (by decide +kernel)
set_option maxRecDepth 100000 in
theorem lm_389 : lwIn (.selects RX12 yX12_of yX12_of) := List.mem_of_getElem? (i := 38) (by decide +kernel)
set_option maxRecDepth 100000 in
theorem lm_390 : lwIn (.instanceMethod yX12_lays) := List.mem_of_getElem? (i := 1314) (by decide +kernel)
set_option maxRecDepth 100000 in
theorem lm_391 : lwIn (.methodLink RX12 246 yX12_lays) := List.mem_of_getElem? (i := 1312) (by decide +kernel)
set_option maxRecDepth 100000 in
theorem lm_392 : lwIn (.code yX12_canDiffer cX12_canDiffer 3 (some .boolean)) := List.mem_of_getElem? (i := 1311) (by decide +kernel)
set_option maxRecDepth 100000 in
theorem lm_393 : lwIn (.selects RX12 yX12_canDiffer yX12_canDiffer) := List.mem_of_getElem? (i := 46) (by decide +kernel)
set_option maxRecDepth 100000 in
theorem lm_394 : lwIn (.instanceMethod yX12_canDiffer) := List.mem_of_getElem? (i := 1310) (by decide +kernel)
set_option maxRecDepth 100000 in
theorem lm_395 : lwIn (.methodLink RX12 230 yX12_canDiffer) := List.mem_of_getElem? (i := 1308) (by decide +kernel)
set_option maxRecDepth 100000 in
theorem lm_396 : lwIn (.code yX12_canBeLess cX12_canBeLess 4 (some .boolean)) := List.mem_of_getElem? (i := 1307) (by decide +kernel)
set_option maxRecDepth 100000 in
theorem lm_397 : lwIn (.selects RX12 yX12_canBeLess yX12_canBeLess) := List.mem_of_getElem? (i := 45) (by decide +kernel)
set_option maxRecDepth 100000 in
theorem lm_398 : lwIn (.instanceMethod yX12_canBeLess) := List.mem_of_getElem? (i := 1306) (by decide +kernel)
set_option maxRecDepth 100000 in
theorem lm_399 : lwIn (.methodLink RX12 227 yX12_canBeLess) := List.mem_of_getElem? (i := 1304) (by decide +kernel)
set_option maxRecDepth 100000 in
theorem lm_400 : lwIn (.code yX12_isIn cX12_isIn 3 (some .boolean)) := List.mem_of_getElem? (i := 1303) (by decide +kernel)
set_option maxRecDepth 100000 in
theorem lm_401 : lwIn (.static yX12_isIn) := List.mem_of_getElem? (i := 1302) (by decide +kernel)
set_option maxRecDepth 100000 in
theorem lm_402 : lwIn (.methodLink RX12 100 yX12_isIn) := List.mem_of_getElem? (i := 1301) (by decide +kernel)
set_option maxRecDepth 100000 in
theorem lm_403 : lwIn (.code yX12_sizeOf cX12_sizeOf 3 (some .int)) := List.mem_of_getElem? (i := 1300) (by decide +kernel)
set_option maxRecDepth 100000 in
theorem lm_404 : lwIn (.static yX12_sizeOf) := List.mem_of_getElem? (i := 1299) (by decide +kernel)
set_option maxRecDepth 100000 in
theorem lm_405 : lwIn (.methodLink RX12 214 yX12_sizeOf) := List.mem_of_getElem? (i := 1298) (by decide +kernel)
set_option maxRecDepth 100000 in
theorem lm_406 : lwIn (.code yX12_canSlide cX12_canSlide 13 (some .boolean)) := List.mem_of_getElem? (i := 1297) (by decide +kernel)
set_option maxRecDepth 100000 in
theorem lm_407 : lwIn (.selects RX12 yX12_canSlide yX12_canSlide) := List.mem_of_getElem? (i := 44) (by decide +kernel)
set_option maxRecDepth 100000 in
theorem lm_408 : lwIn (.instanceMethod yX12_canSlide) := List.mem_of_getElem? (i := 1296) (by decide +kernel)
set_option maxRecDepth 100000 in
theorem lm_409 : lwIn (.methodLink RX12 224 yX12_canSlide) := List.mem_of_getElem? (i := 1294) (by decide +kernel)
set_option maxRecDepth 100000 in
theorem lm_410 : lwIn (.code yX12_canCount cX12_canCount 10 (some .boolean)) := List.mem_of_getElem? (i := 1293) (by decide +kernel)
set_option maxRecDepth 100000 in
theorem lm_411 : lwIn (.selects RX12 yX12_canCount yX12_canCount) := List.mem_of_getElem? (i := 43) (by decide +kernel)
set_option maxRecDepth 100000 in
theorem lm_412 : lwIn (.instanceMethod yX12_canCount) := List.mem_of_getElem? (i := 1292) (by decide +kernel)
set_option maxRecDepth 100000 in
theorem lm_413 : lwIn (.methodLink RX12 221 yX12_canCount) := List.mem_of_getElem? (i := 1290) (by decide +kernel)
set_option maxRecDepth 100000 in
theorem lm_414 : lwIn (.code yX12_lays cX12_lays 6 none) := List.mem_of_getElem? (i := 1315) (by decide +kernel)
set_option maxRecDepth 100000 in
theorem lm_415 : lwIn (.selects RX12 yX12_lays yX12_lays) := List.mem_of_getElem? (i := 47) (by decide +kernel)
set_option maxRecDepth 100000 in
theorem lm_416 : lwIn (.codeWith yL_append cL_append 8 (some .int) [(0, 16, 19, 13)]) := List.mem_of_getElem? (i := 519) (by decide +kernel)
set_option maxRecDepth 100000 in
theorem lm_417 : lwIn (.selects RX11 yX11_append yX11_append) := List.mem_of_getElem? (i := 523) (by decide +kernel)
set_option maxRecDepth 100000 in
theorem lm_418 : lwIn (.instanceMethod yX11_append) := List.mem_of_getElem? (i := 522) (by decide +kernel)
set_option maxRecDepth 100000 in
theorem lm_419 : lwIn (.code yX11_append cX11_append 6 (some .int)) := List.mem_of_getElem? (i := 524) (by decide +kernel)
set_option maxRecDepth 100000 in
theorem lm_420 : lwIn (.code yX8_addFour cX8_addFour 3 none) := List.mem_of_getElem? (i := 596) (by decide +kernel)
set_option maxRecDepth 100000 in
theorem lm_421 : lwIn (.selects RX8 yX8_addFour yX8_addFour) := List.mem_of_getElem? (i := 595) (by decide +kernel)
set_option maxRecDepth 100000 in
theorem lm_422 : lwIn (.instanceMethod yX8_addFour) := List.mem_of_getElem? (i := 594) (by decide +kernel)
set_option maxRecDepth 100000 in
theorem lm_423 : lwIn (.methodLink RX11 68 yX8_addFour) := List.mem_of_getElem? (i := 593) (by decide +kernel)
set_option maxRecDepth 100000 in
theorem lm_424 : lwIn (.fieldLink RX11 58 "SupportSolver$TextReader" "length" "I") := List.mem_of_getElem? (i := 167) (by decide +kernel)
set_option maxRecDepth 100000 in
theorem lm_425 : lwIn (.classLink RX11 61 "java/lang/IllegalStateException") := List.mem_of_getElem? (i := 525) (by decide +kernel)
set_option maxRecDepth 100000 in
theorem lm_426 : lwIn (.code yX12_append cX12_append 8 (some .int)) := List.mem_of_getElem? (i := 1421) (by decide +kernel)
set_option maxRecDepth 100000 in
theorem lm_427 : lwIn (.code yX12_may cX12_may 3 (some .boolean)) := List.mem_of_getElem? (i := 1425) (by decide +kernel)
set_option maxRecDepth 100000 in
theorem lm_428 : lwIn (.selects RX12 yX12_may yX12_may) := List.mem_of_getElem? (i := 48) (by decide +kernel)
set_option maxRecDepth 100000 in
theorem lm_429 : lwIn (.instanceMethod yX12_may) := List.mem_of_getElem? (i := 1424) (by decide +kernel)
set_option maxRecDepth 100000 in
theorem lm_430 : lwIn (.methodLink RX12 96 yX12_may) := List.mem_of_getElem? (i := 1422) (by decide +kernel)
set_option maxRecDepth 100000 in
theorem lm_431 : lwIn (.fieldLink RX12 93 "SupportSolverModel" "typed" "I") := List.mem_of_getElem? (i := 1329) (by decide +kernel)
set_option maxRecDepth 100000 in
theorem lm_432 : lwIn (.fieldLink RX12 70 "SupportSolverModel" "thrown" "I") := List.mem_of_getElem? (i := 1316) (by decide +kernel)
set_option maxRecDepth 100000 in
theorem lm_433 : lwIn (.code yX12_thrown cX12_thrown 1 (some .int)) := List.mem_of_getElem? (i := 1417) (by decide +kernel)
set_option maxRecDepth 100000 in
theorem lm_434 : lwIn (.codeWith yL_truncate cL_truncate 4 (some .int) [(0, 9, 12, 19)]) := List.mem_of_getElem? (i := 599) (by decide +kernel)
set_option maxRecDepth 100000 in
theorem lm_435 : lwIn (.selects RX11 yX11_truncate yX11_truncate) := List.mem_of_getElem? (i := 603) (by decide +kernel)
set_option maxRecDepth 100000 in
theorem lm_436 : lwIn (.instanceMethod yX11_truncate) := List.mem_of_getElem? (i := 602) (by decide +kernel)
set_option maxRecDepth 100000 in
theorem lm_437 : lwIn (.code yX11_truncate cX11_truncate 2 (some .int)) := List.mem_of_getElem? (i := 604) (by decide +kernel)
set_option maxRecDepth 100000 in
theorem lm_438 : lwIn (.classLink RX11 72 "java/lang/IndexOutOfBoundsException") := List.mem_of_getElem? (i := 605) (by decide +kernel)
set_option maxRecDepth 100000 in
theorem lm_439 : lwIn (.code yX12_truncate cX12_truncate 2 (some .int)) := List.mem_of_getElem? (i := 1429) (by decide +kernel)
set_option maxRecDepth 100000 in
theorem lm_440 : lwIn (.codeWith yL_load cL_load 3 (some .int) [(0, 8, 11, 25)]) := List.mem_of_getElem? (i := 623) (by decide +kernel)
set_option maxRecDepth 100000 in
theorem lm_441 : lwIn (.selects RX11 yX11_load yX11_load) := List.mem_of_getElem? (i := 627) (by decide +kernel)
set_option maxRecDepth 100000 in
theorem lm_442 : lwIn (.instanceMethod yX11_load) := List.mem_of_getElem? (i := 626) (by decide +kernel)
set_option maxRecDepth 100000 in
theorem lm_443 : lwIn (.code yX11_load cX11_load 2 (some .int)) := List.mem_of_getElem? (i := 628) (by decide +kernel)
set_option maxRecDepth 100000 in
theorem lm_444 : lwIn (.code yX8_begin cX8_begin 1 none) := List.mem_of_getElem? (i := 632) (by decide +kernel)
set_option maxRecDepth 100000 in
theorem lm_445 : lwIn (.selects RX8 yX8_begin yX8_begin) := List.mem_of_getElem? (i := 631) (by decide +kernel)
set_option maxRecDepth 100000 in
theorem lm_446 : lwIn (.instanceMethod yX8_begin) := List.mem_of_getElem? (i := 630) (by decide +kernel)
set_option maxRecDepth 100000 in
theorem lm_447 : lwIn (.methodLink RX11 77 yX8_begin) := List.mem_of_getElem? (i := 629) (by decide +kernel)
set_option maxRecDepth 100000 in
theorem lm_448 : lwIn (.fieldLink RX11 111 "SupportSolver$Trail" "size" "I") := List.mem_of_getElem? (i := 253) (by decide +kernel)
set_option maxRecDepth 100000 in
theorem lm_449 : lwIn (.fieldLink RX11 103 "SupportSolver$Solutions" "isKnown" "Z") := List.mem_of_getElem? (i := 317) (by decide +kernel)
set_option maxRecDepth 100000 in
theorem lm_450 : lwIn (.fieldLink RX11 96 "SupportSolver$Problem" "initial" "J") := List.mem_of_getElem? (i := 152) (by decide +kernel)
set_option maxRecDepth 100000 in
theorem lm_451 : lwIn (.fieldLink RX11 93 "SupportSolver$Problem" "variables" "I") := List.mem_of_getElem? (i := 146) (by decide +kernel)
set_option maxRecDepth 100000 in
theorem lm_452 : lwIn (.fieldLink RX11 92 "SupportSolver$TextReader" "problem" "LSupportSolver$Problem;") := List.mem_of_getElem? (i := 173) (by decide +kernel)
set_option maxRecDepth 100000 in
theorem lm_453 : lwIn (.classLink RX11 87 "java/lang/IllegalArgumentException") := List.mem_of_getElem? (i := 854) (by decide +kernel)
set_option maxRecDepth 100000 in
theorem lm_454 : lwIn (.code yX8_byteAt cX8_byteAt 2 (some .int)) := List.mem_of_getElem? (i := 640) (by decide +kernel)
set_option maxRecDepth 100000 in
theorem lm_455 : lwIn (.selects RX8 yX8_byteAt yX8_byteAt) := List.mem_of_getElem? (i := 3) (by decide +kernel)
set_option maxRecDepth 100000 in
theorem lm_456 : lwIn (.instanceMethod yX8_byteAt) := List.mem_of_getElem? (i := 639) (by decide +kernel)
set_option maxRecDepth 100000 in
theorem lm_457 : lwIn (.methodLink RX8 154 yX8_byteAt) := List.mem_of_getElem? (i := 637) (by decide +kernel)
set_option maxRecDepth 100000 in
theorem lm_458 : lwIn (.code yX8_nextToken cX8_nextToken 2 none) := List.mem_of_getElem? (i := 636) (by decide +kernel)
set_option maxRecDepth 100000 in
theorem lm_459 : lwIn (.selects RX8 yX8_nextToken yX8_nextToken) := List.mem_of_getElem? (i := 2) (by decide +kernel)
set_option maxRecDepth 100000 in
theorem lm_460 : lwIn (.instanceMethod yX8_nextToken) := List.mem_of_getElem? (i := 635) (by decide +kernel)
set_option maxRecDepth 100000 in
theorem lm_461 : lwIn (.methodLink RX8 48 yX8_nextToken) := List.mem_of_getElem? (i := 633) (by decide +kernel)
set_option maxRecDepth 100000 in
theorem lm_462 : lwIn (.methodLink RX8 149 yJ0_length_8abf5) := List.mem_of_getElem? (i := 664) (by decide +kernel)
set_option maxRecDepth 100000 in
theorem lm_463 : lwIn (.code yX8_isWord cX8_isWord 3 (some .boolean)) := List.mem_of_getElem? (i := 663) (by decide +kernel)
set_option maxRecDepth 100000 in
theorem lm_464 : lwIn (.selects RX8 yX8_isWord yX8_isWord) := List.mem_of_getElem? (i := 6) (by decide +kernel)
set_option maxRecDepth 100000 in
theorem lm_465 : lwIn (.instanceMethod yX8_isWord) := List.mem_of_getElem? (i := 662) (by decide +kernel)
set_option maxRecDepth 100000 in
theorem lm_466 : lwIn (.methodLink RX8 53 yX8_isWord) := List.mem_of_getElem? (i := 660) (by decide +kernel)
set_option maxRecDepth 100000 in
theorem lm_467 : lwIn (.code yX8_readVariables cX8_readVariables 2 (some .boolean)) := List.mem_of_getElem? (i := 658) (by decide +kernel)
set_option maxRecDepth 100000 in
theorem lm_468 : lwIn (.selects RX8 yX8_readVariables yX8_readVariables) := List.mem_of_getElem? (i := 657) (by decide +kernel)
set_option maxRecDepth 100000 in
theorem lm_469 : lwIn (.instanceMethod yX8_readVariables) := List.mem_of_getElem? (i := 656) (by decide +kernel)
set_option maxRecDepth 100000 in
theorem lm_470 : lwIn (.methodLink RX11 80 yX8_readVariables) := List.mem_of_getElem? (i := 655) (by decide +kernel)
set_option maxRecDepth 100000 in
theorem lm_471 : lwIn (.code yX8_takeNumber cX8_takeNumber 2 none) := List.mem_of_getElem? (i := 654) (by decide +kernel)
set_option maxRecDepth 100000 in
theorem lm_472 : lwIn (.selects RX8 yX8_takeNumber yX8_takeNumber) := List.mem_of_getElem? (i := 5) (by decide +kernel)
set_option maxRecDepth 100000 in
theorem lm_473 : lwIn (.instanceMethod yX8_takeNumber) := List.mem_of_getElem? (i := 653) (by decide +kernel)
set_option maxRecDepth 100000 in
theorem lm_474 : lwIn (.methodLink RX8 170 yX8_takeNumber) := List.mem_of_getElem? (i := 651) (by decide +kernel)
set_option maxRecDepth 100000 in
theorem lm_475 : lwIn (.code yX8_isDigit cX8_isDigit 1 (some .boolean)) := List.mem_of_getElem? (i := 650) (by decide +kernel)
set_option maxRecDepth 100000 in
theorem lm_476 : lwIn (.static yX8_isDigit) := List.mem_of_getElem? (i := 649) (by decide +kernel)
set_option maxRecDepth 100000 in
theorem lm_477 : lwIn (.methodLink RX8 167 yX8_isDigit) := List.mem_of_getElem? (i := 648) (by decide +kernel)
set_option maxRecDepth 100000 in
theorem lm_478 : lwIn (.code yX8_takeWord cX8_takeWord 2 none) := List.mem_of_getElem? (i := 647) (by decide +kernel)
set_option maxRecDepth 100000 in
theorem lm_479 : lwIn (.selects RX8 yX8_takeWord yX8_takeWord) := List.mem_of_getElem? (i := 4) (by decide +kernel)
set_option maxRecDepth 100000 in
theorem lm_480 : lwIn (.instanceMethod yX8_takeWord) := List.mem_of_getElem? (i := 646) (by decide +kernel)
set_option maxRecDepth 100000 in
theorem lm_481 : lwIn (.methodLink RX8 164 yX8_takeWord) := List.mem_of_getElem? (i := 644) (by decide +kernel)
set_option maxRecDepth 100000 in
theorem lm_482 : lwIn (.code yX8_isLetter cX8_isLetter 1 (some .boolean)) := List.mem_of_getElem? (i := 643) (by decide +kernel)
set_option maxRecDepth 100000 in
theorem lm_483 : lwIn (.static yX8_isLetter) := List.mem_of_getElem? (i := 642) (by decide +kernel)
set_option maxRecDepth 100000 in
theorem lm_484 : lwIn (.methodLink RX8 161 yX8_isLetter) := List.mem_of_getElem? (i := 641) (by decide +kernel)
set_option maxRecDepth 100000 in
theorem lm_485 : lwIn (.methodLink RJ1 9 yJ0_checkIndex_df160) := List.mem_of_getElem? (i := 685) (by decide +kernel)
set_option maxRecDepth 100000 in
theorem lm_486 : lwIn (.code yJ1_charAt_3b067 cJ1_charAt_3b067 2 (some .char)) := List.mem_of_getElem? (i := 684) (by decide +kernel)
set_option maxRecDepth 100000 in
theorem lm_487 : lwIn (.static yJ1_charAt_3b067) := List.mem_of_getElem? (i := 683) (by decide +kernel)
set_option maxRecDepth 100000 in
theorem lm_488 : lwIn (.methodLink RJ0 495 yJ1_charAt_3b067) := List.mem_of_getElem? (i := 682) (by decide +kernel)
set_option maxRecDepth 100000 in
theorem lm_489 : lwIn (.code yJ0_isLatin1_aae02 cJ0_isLatin1_aae02 1 (some .boolean)) := List.mem_of_getElem? (i := 681) (by decide +kernel)
set_option maxRecDepth 100000 in
theorem lm_490 : lwIn (.selects RJ0 yJ0_isLatin1_aae02 yJ0_isLatin1_aae02) := List.mem_of_getElem? (i := 680) (by decide +kernel)
set_option maxRecDepth 100000 in
theorem lm_491 : lwIn (.instanceMethod yJ0_isLatin1_aae02) := List.mem_of_getElem? (i := 679) (by decide +kernel)
set_option maxRecDepth 100000 in
theorem lm_492 : lwIn (.methodLink RJ0 492 yJ0_isLatin1_aae02) := List.mem_of_getElem? (i := 678) (by decide +kernel)
set_option maxRecDepth 100000 in
theorem lm_493 : lwIn (.code yJ0_charAt_5068e cJ0_charAt_5068e 2 (some .char)) := List.mem_of_getElem? (i := 677) (by decide +kernel)
set_option maxRecDepth 100000 in
theorem lm_494 : lwIn (.selects RJ0 yJ0_charAt_5068e yJ0_charAt_5068e) := List.mem_of_getElem? (i := 676) (by decide +kernel)
set_option maxRecDepth 100000 in
theorem lm_495 : lwIn (.instanceMethod yJ0_charAt_5068e) := List.mem_of_getElem? (i := 675) (by decide +kernel)
set_option maxRecDepth 100000 in
theorem lm_496 : lwIn (.methodLink RX8 157 yJ0_charAt_5068e) := List.mem_of_getElem? (i := 674) (by decide +kernel)
set_option maxRecDepth 100000 in
theorem lm_497 : lwIn (.fieldLink RJ0 15 "java/lang/String" "coder" "B") := List.mem_of_getElem? (i := 1766) (by decide +kernel)
set_option maxRecDepth 100000 in
theorem lm_498 : lwIn (.fieldLink RJ0 38 "java/lang/String" "COMPACT_STRINGS" "Z") := List.mem_of_getElem? (i := 672) (by decide +kernel)
set_option maxRecDepth 100000 in
theorem lm_499 : lwIn (.code yJ0_coder_7d493 cJ0_coder_7d493 1 (some .byte)) := List.mem_of_getElem? (i := 671) (by decide +kernel)
set_option maxRecDepth 100000 in
theorem lm_500 : lwIn (.selects RJ0 yJ0_coder_7d493 yJ0_coder_7d493) := List.mem_of_getElem? (i := 670) (by decide +kernel)
set_option maxRecDepth 100000 in
theorem lm_501 : lwIn (.instanceMethod yJ0_coder_7d493) := List.mem_of_getElem? (i := 669) (by decide +kernel)
set_option maxRecDepth 100000 in
theorem lm_502 : lwIn (.methodLink RJ0 335 yJ0_coder_7d493) := List.mem_of_getElem? (i := 668) (by decide +kernel)
set_option maxRecDepth 100000 in
theorem lm_503 : lwIn (.fieldLink RJ0 9 "java/lang/String" "value" "[B") := List.mem_of_getElem? (i := 1765) (by decide +kernel)
set_option maxRecDepth 100000 in
theorem lm_504 : lwIn (.code yJ0_length_8abf5 cJ0_length_8abf5 1 (some .int)) := List.mem_of_getElem? (i := 667) (by decide +kernel)
set_option maxRecDepth 100000 in
theorem lm_505 : lwIn (.selects RJ0 yJ0_length_8abf5 yJ0_length_8abf5) := List.mem_of_getElem? (i := 666) (by decide +kernel)
set_option maxRecDepth 100000 in
theorem lm_506 : lwIn (.instanceMethod yJ0_length_8abf5) := List.mem_of_getElem? (i := 665) (by decide +kernel)
set_option maxRecDepth 100000 in
theorem lm_507 : lwIn (.fieldLink RJ2 63 "java/lang/StringUTF16" "LO_BYTE_SHIFT" "I") := List.mem_of_getElem? (i := 710) (by decide +kernel)
set_option maxRecDepth 100000 in
theorem lm_508 : lwIn (.fieldLink RJ2 59 "java/lang/StringUTF16" "HI_BYTE_SHIFT" "I") := List.mem_of_getElem? (i := 708) (by decide +kernel)
set_option maxRecDepth 100000 in
theorem lm_509 : lwIn (.fieldLink RJ2 44 "java/lang/StringUTF16" "$assertionsDisabled" "Z") := List.mem_of_getElem? (i := 706) (by decide +kernel)
set_option maxRecDepth 100000 in
theorem lm_510 : lwIn (.code yJ2_getChar_3b067 cJ2_getChar_3b067 2 (some .char)) := List.mem_of_getElem? (i := 705) (by decide +kernel)
set_option maxRecDepth 100000 in
theorem lm_511 : lwIn (.static yJ2_getChar_3b067) := List.mem_of_getElem? (i := 704) (by decide +kernel)
set_option maxRecDepth 100000 in
theorem lm_512 : lwIn (.methodLink RJ2 71 yJ2_getChar_3b067) := List.mem_of_getElem? (i := 703) (by decide +kernel)
set_option maxRecDepth 100000 in
theorem lm_513 : lwIn (.methodLink RJ2 414 yJ0_checkIndex_df160) := List.mem_of_getElem? (i := 702) (by decide +kernel)
set_option maxRecDepth 100000 in
theorem lm_514 : lwIn (.code yJ2_length_9d52b cJ2_length_9d52b 1 (some .int)) := List.mem_of_getElem? (i := 701) (by decide +kernel)
set_option maxRecDepth 100000 in
theorem lm_515 : lwIn (.static yJ2_length_9d52b) := List.mem_of_getElem? (i := 700) (by decide +kernel)
set_option maxRecDepth 100000 in
theorem lm_516 : lwIn (.methodLink RJ2 48 yJ2_length_9d52b) := List.mem_of_getElem? (i := 699) (by decide +kernel)
set_option maxRecDepth 100000 in
theorem lm_517 : lwIn (.code yJ2_checkIndex_2214a cJ2_checkIndex_2214a 2 none) := List.mem_of_getElem? (i := 698) (by decide +kernel)
set_option maxRecDepth 100000 in
theorem lm_518 : lwIn (.static yJ2_checkIndex_2214a) := List.mem_of_getElem? (i := 697) (by decide +kernel)
set_option maxRecDepth 100000 in
theorem lm_519 : lwIn (.methodLink RJ2 67 yJ2_checkIndex_2214a) := List.mem_of_getElem? (i := 696) (by decide +kernel)
set_option maxRecDepth 100000 in
theorem lm_520 : lwIn (.code yJ2_charAt_3b067 cJ2_charAt_3b067 2 (some .char)) := List.mem_of_getElem? (i := 695) (by decide +kernel)
set_option maxRecDepth 100000 in
theorem lm_521 : lwIn (.static yJ2_charAt_3b067) := List.mem_of_getElem? (i := 694) (by decide +kernel)
set_option maxRecDepth 100000 in
theorem lm_522 : lwIn (.methodLink RJ0 498 yJ2_charAt_3b067) := List.mem_of_getElem? (i := 693) (by decide +kernel)
set_option maxRecDepth 100000 in
theorem lm_523 : lwIn (.code yJ3_checkIndex_8e157 cJ3_checkIndex_8e157 3 (some .int)) := List.mem_of_getElem? (i := 692) (by decide +kernel)
set_option maxRecDepth 100000 in
theorem lm_524 : lwIn (.static yJ3_checkIndex_8e157) := List.mem_of_getElem? (i := 691) (by decide +kernel)
set_option maxRecDepth 100000 in
theorem lm_525 : lwIn (.methodLink RJ0 1059 yJ3_checkIndex_8e157) := List.mem_of_getElem? (i := 690) (by decide +kernel)
set_option maxRecDepth 100000 in
theorem lm_526 : lwIn (.fieldLink RJ0 1053 "jdk/internal/util/Preconditions" "SIOOBE_FORMATTER" "Ljava/util/function/BiFunction;") := List.mem_of_getElem? (i := 688) (by decide +kernel)
set_option maxRecDepth 100000 in
theorem lm_527 : lwIn (.code yJ0_checkIndex_df160 cJ0_checkIndex_df160 2 none) := List.mem_of_getElem? (i := 687) (by decide +kernel)
set_option maxRecDepth 100000 in
theorem lm_528 : lwIn (.static yJ0_checkIndex_df160) := List.mem_of_getElem? (i := 686) (by decide +kernel)
set_option maxRecDepth 100000 in
theorem lm_529 : lwIn (.instanceMethod yX8_readSemicolon) := List.mem_of_getElem? (i := 735) (by decide +kernel)
set_option maxRecDepth 100000 in
theorem lm_530 : lwIn (.methodLink RX8 76 yX8_readSemicolon) := List.mem_of_getElem? (i := 733) (by decide +kernel)
set_option maxRecDepth 100000 in
theorem lm_531 : lwIn (.code yX8_readNumber cX8_readNumber 4 (some .int)) := List.mem_of_getElem? (i := 732) (by decide +kernel)
set_option maxRecDepth 100000 in
theorem lm_532 : lwIn (.selects RX8 yX8_readNumber yX8_readNumber) := List.mem_of_getElem? (i := 11) (by decide +kernel)
set_option maxRecDepth 100000 in
theorem lm_533 : lwIn (.instanceMethod yX8_readNumber) := List.mem_of_getElem? (i := 731) (by decide +kernel)
set_option maxRecDepth 100000 in
theorem lm_534 : lwIn (.methodLink RX8 72 yX8_readNumber) := List.mem_of_getElem? (i := 729) (by decide +kernel)
set_option maxRecDepth 100000 in
theorem lm_535 : lwIn (.code yX8_variableOf cX8_variableOf 3 (some .int)) := List.mem_of_getElem? (i := 728) (by decide +kernel)
set_option maxRecDepth 100000 in
theorem lm_536 : lwIn (.selects RX8 yX8_variableOf yX8_variableOf) := List.mem_of_getElem? (i := 10) (by decide +kernel)
set_option maxRecDepth 100000 in
theorem lm_537 : lwIn (.instanceMethod yX8_variableOf) := List.mem_of_getElem? (i := 727) (by decide +kernel)
set_option maxRecDepth 100000 in
theorem lm_538 : lwIn (.methodLink RX8 68 yX8_variableOf) := List.mem_of_getElem? (i := 725) (by decide +kernel)
set_option maxRecDepth 100000 in
theorem lm_539 : lwIn (.code yX8_isName cX8_isName 1 (some .boolean)) := List.mem_of_getElem? (i := 723) (by decide +kernel)
set_option maxRecDepth 100000 in
theorem lm_540 : lwIn (.selects RX8 yX8_isName yX8_isName) := List.mem_of_getElem? (i := 9) (by decide +kernel)
set_option maxRecDepth 100000 in
theorem lm_541 : lwIn (.instanceMethod yX8_isName) := List.mem_of_getElem? (i := 722) (by decide +kernel)
set_option maxRecDepth 100000 in
theorem lm_542 : lwIn (.methodLink RX8 65 yX8_isName) := List.mem_of_getElem? (i := 720) (by decide +kernel)
set_option maxRecDepth 100000 in
theorem lm_543 : lwIn (.fieldLink RX8 79 "SupportSolver$Problem" "variables" "I") := List.mem_of_getElem? (i := 147) (by decide +kernel)
set_option maxRecDepth 100000 in
theorem lm_544 : lwIn (.code yX8_readVariable cX8_readVariable 5 (some .boolean)) := List.mem_of_getElem? (i := 719) (by decide +kernel)
set_option maxRecDepth 100000 in
theorem lm_545 : lwIn (.selects RX8 yX8_readVariable yX8_readVariable) := List.mem_of_getElem? (i := 8) (by decide +kernel)
set_option maxRecDepth 100000 in
theorem lm_546 : lwIn (.instanceMethod yX8_readVariable) := List.mem_of_getElem? (i := 718) (by decide +kernel)
set_option maxRecDepth 100000 in
theorem lm_547 : lwIn (.methodLink RX8 61 yX8_readVariable) := List.mem_of_getElem? (i := 716) (by decide +kernel)
set_option maxRecDepth 100000 in
theorem lm_548 : lwIn (.code yX8_fail cX8_fail 2 (some .boolean)) := List.mem_of_getElem? (i := 715) (by decide +kernel)
set_option maxRecDepth 100000 in
theorem lm_549 : lwIn (.selects RX8 yX8_fail yX8_fail) := List.mem_of_getElem? (i := 7) (by decide +kernel)
set_option maxRecDepth 100000 in
theorem lm_550 : lwIn (.instanceMethod yX8_fail) := List.mem_of_getElem? (i := 714) (by decide +kernel)
set_option maxRecDepth 100000 in
theorem lm_551 : lwIn (.methodLink RX8 57 yX8_fail) := List.mem_of_getElem? (i := 712) (by decide +kernel)
set_option maxRecDepth 100000 in
theorem lm_552 : lwIn (.code yX2_init cX2_init 1 none) := List.mem_of_getElem? (i := 758) (by decide +kernel)
set_option maxRecDepth 100000 in
theorem lm_553 : lwIn (.instanceMethod yX2_init) := List.mem_of_getElem? (i := 757) (by decide +kernel)
set_option maxRecDepth 100000 in
theorem lm_554 : lwIn (.methodLink RX8 120 yX2_init) := List.mem_of_getElem? (i := 756) (by decide +kernel)
set_option maxRecDepth 100000 in
theorem lm_555 : lwIn (.classLink RX8 118 RX2) := List.mem_of_getElem? (i := 754) (by decide +kernel)
set_option maxRecDepth 100000 in
theorem lm_556 : lwIn (.code yX8_readCounts cX8_readCounts 3 (some (.object "SupportSolver$Constraint"))) := List.mem_of_getElem? (i := 753) (by decide +kernel)
set_option maxRecDepth 100000 in
theorem lm_557 : lwIn (.selects RX8 yX8_readCounts yX8_readCounts) := List.mem_of_getElem? (i := 13) (by decide +kernel)
set_option maxRecDepth 100000 in
theorem lm_558 : lwIn (.instanceMethod yX8_readCounts) := List.mem_of_getElem? (i := 752) (by decide +kernel)
set_option maxRecDepth 100000 in
theorem lm_559 : lwIn (.methodLink RX8 94 yX8_readCounts) := List.mem_of_getElem? (i := 750) (by decide +kernel)
set_option maxRecDepth 100000 in
theorem lm_560 : lwIn (.code yX8_readConstraints cX8_readConstraints 6 (some .boolean)) := List.mem_of_getElem? (i := 745) (by decide +kernel)
set_option maxRecDepth 100000 in
theorem lm_561 : lwIn (.selects RX8 yX8_readConstraints yX8_readConstraints) := List.mem_of_getElem? (i := 744) (by decide +kernel)
set_option maxRecDepth 100000 in
theorem lm_562 : lwIn (.instanceMethod yX8_readConstraints) := List.mem_of_getElem? (i := 743) (by decide +kernel)
set_option maxRecDepth 100000 in
theorem lm_563 : lwIn (.methodLink RX11 84 yX8_readConstraints) := List.mem_of_getElem? (i := 742) (by decide +kernel)
set_option maxRecDepth 100000 in
theorem lm_564 : lwIn (.code yX5_pair cX5_pair 2 (some .long)) := List.mem_of_getElem? (i := 489) (by decide +kernel)
set_option maxRecDepth 100000 in
theorem lm_565 : lwIn (.static yX5_pair) := List.mem_of_getElem? (i := 488) (by decide +kernel)
set_option maxRecDepth 100000 in
theorem lm_566 : lwIn (.methodLink RX6 28 yX5_pair) := List.mem_of_getElem? (i := 741) (by decide +kernel)
set_option maxRecDepth 100000 in
theorem lm_567 : lwIn (.code yX6_addVariable cX6_addVariable 4 none) := List.mem_of_getElem? (i := 740) (by decide +kernel)
set_option maxRecDepth 100000 in
theorem lm_568 : lwIn (.selects RX6 yX6_addVariable yX6_addVariable) := List.mem_of_getElem? (i := 739) (by decide +kernel)
set_option maxRecDepth 100000 in
theorem lm_569 : lwIn (.instanceMethod yX6_addVariable) := List.mem_of_getElem? (i := 738) (by decide +kernel)
set_option maxRecDepth 100000 in
theorem lm_570 : lwIn (.methodLink RX8 82 yX6_addVariable) := List.mem_of_getElem? (i := 737) (by decide +kernel)
set_option maxRecDepth 100000 in
theorem lm_571 : lwIn (.code yX8_readSemicolon cX8_readSemicolon 1 (some .boolean)) := List.mem_of_getElem? (i := 736) (by decide +kernel)
set_option maxRecDepth 100000 in
theorem lm_572 : lwIn (.selects RX8 yX8_readSemicolon yX8_readSemicolon) := List.mem_of_getElem? (i := 12) (by decide +kernel)
set_option maxRecDepth 100000 in
theorem lm_573 : lwIn (.code yX5_allOf cX5_allOf 1 (some .long)) := List.mem_of_getElem? (i := 458) (by decide +kernel)
set_option maxRecDepth 100000 in
theorem lm_574 : lwIn (.static yX5_allOf) := List.mem_of_getElem? (i := 457) (by decide +kernel)
set_option maxRecDepth 100000 in
theorem lm_575 : lwIn (.methodLink RX1 25 yX5_allOf) := List.mem_of_getElem? (i := 786) (by decide +kernel)
set_option maxRecDepth 100000 in
theorem lm_576 : lwIn (.code yX1_hasVariable cX1_hasVariable 2 (some .boolean)) := List.mem_of_getElem? (i := 785) (by decide +kernel)
set_option maxRecDepth 100000 in
theorem lm_577 : lwIn (.instanceMethod yX1_hasVariable) := List.mem_of_getElem? (i := 779) (by decide +kernel)
set_option maxRecDepth 100000 in
theorem lm_578 : lwIn (.selects RX0 ⟨"SupportSolver$Constraint", "hasVariable", "(I)Z"⟩ yX1_hasVariable) := List.mem_of_getElem? (i := 781) (by decide +kernel)
set_option maxRecDepth 100000 in
theorem lm_579 : lwIn (.sameMethod "SupportSolver$Constraint" "SupportSolver$Constraint" "hasVariable" "(I)Z") := List.mem_of_getElem? (i := 780) (by decide +kernel)
set_option maxRecDepth 100000 in
theorem lm_580 : lwIn (.methodLink RX8 141 ⟨"SupportSolver$Constraint", "hasVariable", "(I)Z"⟩) := List.mem_of_getElem? (i := 778) (by decide +kernel)
set_option maxRecDepth 100000 in
theorem lm_581 : lwIn (.code yX8_readMember cX8_readMember 3 (some .boolean)) := List.mem_of_getElem? (i := 777) (by decide +kernel)
set_option maxRecDepth 100000 in
theorem lm_582 : lwIn (.selects RX8 yX8_readMember yX8_readMember) := List.mem_of_getElem? (i := 14) (by decide +kernel)
set_option maxRecDepth 100000 in
theorem lm_583 : lwIn (.instanceMethod yX8_readMember) := List.mem_of_getElem? (i := 776) (by decide +kernel)
set_option maxRecDepth 100000 in
theorem lm_584 : lwIn (.methodLink RX8 114 yX8_readMember) := List.mem_of_getElem? (i := 774) (by decide +kernel)
set_option maxRecDepth 100000 in
theorem lm_585 : lwIn (.methodLink RX2 5 yX1_init) := List.mem_of_getElem? (i := 759) (by decide +kernel)
set_option maxRecDepth 100000 in
theorem lm_586 : lwIn (.fieldLink RX2 18 "SupportSolver$Counts" "counted" "I") := List.mem_of_getElem? (i := 762) (by decide +kernel)
set_option maxRecDepth 100000 in
theorem lm_587 : lwIn (.fieldLink RX2 15 "SupportSolver$Counts" "greatest" "I") := List.mem_of_getElem? (i := 761) (by decide +kernel)
set_option maxRecDepth 100000 in
theorem lm_588 : lwIn (.fieldLink RX2 9 "SupportSolver$Counts" "least" "I") := List.mem_of_getElem? (i := 760) (by decide +kernel)
set_option maxRecDepth 100000 in
theorem lm_589 : lwIn (.methodLink RX8 130 yX2_addCount) := List.mem_of_getElem? (i := 804) (by decide +kernel)
set_option maxRecDepth 100000 in
theorem lm_590 : lwIn (.code yX11_isValue cX11_isValue 1 (some .boolean)) := List.mem_of_getElem? (i := 486) (by decide +kernel)
set_option maxRecDepth 100000 in
theorem lm_591 : lwIn (.static yX11_isValue) := List.mem_of_getElem? (i := 485) (by decide +kernel)
set_option maxRecDepth 100000 in
theorem lm_592 : lwIn (.code yX2_hasCount cX2_hasCount 2 (some .boolean)) := List.mem_of_getElem? (i := 802) (by decide +kernel)
set_option maxRecDepth 100000 in
theorem lm_593 : lwIn (.selects RX2 yX2_hasCount yX2_hasCount) := List.mem_of_getElem? (i := 801) (by decide +kernel)
set_option maxRecDepth 100000 in
theorem lm_594 : lwIn (.instanceMethod yX2_hasCount) := List.mem_of_getElem? (i := 800) (by decide +kernel)
set_option maxRecDepth 100000 in
theorem lm_595 : lwIn (.methodLink RX8 127 yX2_hasCount) := List.mem_of_getElem? (i := 799) (by decide +kernel)
set_option maxRecDepth 100000 in
theorem lm_596 : lwIn (.code yX8_readCount cX8_readCount 5 (some .boolean)) := List.mem_of_getElem? (i := 798) (by decide +kernel)
set_option maxRecDepth 100000 in
theorem lm_597 : lwIn (.selects RX8 yX8_readCount yX8_readCount) := List.mem_of_getElem? (i := 15) (by decide +kernel)
set_option maxRecDepth 100000 in
theorem lm_598 : lwIn (.instanceMethod yX8_readCount) := List.mem_of_getElem? (i := 797) (by decide +kernel)
set_option maxRecDepth 100000 in
theorem lm_599 : lwIn (.methodLink RX8 123 yX8_readCount) := List.mem_of_getElem? (i := 795) (by decide +kernel)
set_option maxRecDepth 100000 in
theorem lm_600 : lwIn (.selects RX10 ⟨"SupportSolver$Constraint", "addVariable", "(I)V"⟩ yX1_addVariable) := List.mem_of_getElem? (i := 793) (by decide +kernel)
set_option maxRecDepth 100000 in
theorem lm_601 : lwIn (.selects RX4 ⟨"SupportSolver$Constraint", "addVariable", "(I)V"⟩ yX1_addVariable) := List.mem_of_getElem? (i := 792) (by decide +kernel)
set_option maxRecDepth 100000 in
theorem lm_602 : lwIn (.selects RX2 ⟨"SupportSolver$Constraint", "addVariable", "(I)V"⟩ yX1_addVariable) := List.mem_of_getElem? (i := 791) (by decide +kernel)
set_option maxRecDepth 100000 in
theorem lm_603 : lwIn (.code yX1_addVariable cX1_addVariable 2 none) := List.mem_of_getElem? (i := 794) (by decide +kernel)
set_option maxRecDepth 100000 in
theorem lm_604 : lwIn (.instanceMethod yX1_addVariable) := List.mem_of_getElem? (i := 788) (by decide +kernel)
set_option maxRecDepth 100000 in
theorem lm_605 : lwIn (.selects RX0 ⟨"SupportSolver$Constraint", "addVariable", "(I)V"⟩ yX1_addVariable) := List.mem_of_getElem? (i := 790) (by decide +kernel)
set_option maxRecDepth 100000 in
theorem lm_606 : lwIn (.sameMethod "SupportSolver$Constraint" "SupportSolver$Constraint" "addVariable" "(I)V") := List.mem_of_getElem? (i := 789) (by decide +kernel)
set_option maxRecDepth 100000 in
theorem lm_607 : lwIn (.methodLink RX8 146 ⟨"SupportSolver$Constraint", "addVariable", "(I)V"⟩) := List.mem_of_getElem? (i := 787) (by decide +kernel)
set_option maxRecDepth 100000 in
theorem lm_608 : lwIn (.selects RX10 ⟨"SupportSolver$Constraint", "hasVariable", "(I)Z"⟩ yX1_hasVariable) := List.mem_of_getElem? (i := 784) (by decide +kernel)
set_option maxRecDepth 100000 in
theorem lm_609 : lwIn (.selects RX4 ⟨"SupportSolver$Constraint", "hasVariable", "(I)Z"⟩ yX1_hasVariable) := List.mem_of_getElem? (i := 783) (by decide +kernel)
set_option maxRecDepth 100000 in
theorem lm_610 : lwIn (.selects RX2 ⟨"SupportSolver$Constraint", "hasVariable", "(I)Z"⟩ yX1_hasVariable) := List.mem_of_getElem? (i := 782) (by decide +kernel)
set_option maxRecDepth 100000 in
theorem lm_611 : lwIn (.constantLong RX5 11 (31)) := List.mem_of_getElem? (i := 459) (by decide +kernel)
set_option maxRecDepth 100000 in
theorem lm_612 : lwIn (.classLink RX8 109 RX0) := List.mem_of_getElem? (i := 839) (by decide +kernel)
set_option maxRecDepth 100000 in
theorem lm_613 : lwIn (.code yX8_readComparison cX8_readComparison 3 (some (.object "SupportSolver$Constraint"))) := List.mem_of_getElem? (i := 838) (by decide +kernel)
set_option maxRecDepth 100000 in
theorem lm_614 : lwIn (.selects RX8 yX8_readComparison yX8_readComparison) := List.mem_of_getElem? (i := 17) (by decide +kernel)
set_option maxRecDepth 100000 in
theorem lm_615 : lwIn (.instanceMethod yX8_readComparison) := List.mem_of_getElem? (i := 837) (by decide +kernel)
set_option maxRecDepth 100000 in
theorem lm_616 : lwIn (.methodLink RX8 101 yX8_readComparison) := List.mem_of_getElem? (i := 835) (by decide +kernel)
set_option maxRecDepth 100000 in
theorem lm_617 : lwIn (.methodLink RX10 5 yX1_init) := List.mem_of_getElem? (i := 817) (by decide +kernel)
set_option maxRecDepth 100000 in
theorem lm_618 : lwIn (.fieldLink RX10 21 "SupportSolver$Window" "greatest" "I") := List.mem_of_getElem? (i := 821) (by decide +kernel)
set_option maxRecDepth 100000 in
theorem lm_619 : lwIn (.fieldLink RX10 18 "SupportSolver$Window" "least" "I") := List.mem_of_getElem? (i := 820) (by decide +kernel)
set_option maxRecDepth 100000 in
theorem lm_620 : lwIn (.fieldLink RX10 15 "SupportSolver$Window" "set" "I") := List.mem_of_getElem? (i := 819) (by decide +kernel)
set_option maxRecDepth 100000 in
theorem lm_621 : lwIn (.fieldLink RX10 9 "SupportSolver$Window" "width" "I") := List.mem_of_getElem? (i := 818) (by decide +kernel)
set_option maxRecDepth 100000 in
theorem lm_622 : lwIn (.code yX10_init cX10_init 5 none) := List.mem_of_getElem? (i := 816) (by decide +kernel)
set_option maxRecDepth 100000 in
theorem lm_623 : lwIn (.instanceMethod yX10_init) := List.mem_of_getElem? (i := 815) (by decide +kernel)
set_option maxRecDepth 100000 in
theorem lm_624 : lwIn (.methodLink RX8 138 yX10_init) := List.mem_of_getElem? (i := 814) (by decide +kernel)
set_option maxRecDepth 100000 in
theorem lm_625 : lwIn (.classLink RX8 136 RX10) := List.mem_of_getElem? (i := 812) (by decide +kernel)
set_option maxRecDepth 100000 in
theorem lm_626 : lwIn (.code yX8_readWindow cX8_readWindow 7 (some (.object "SupportSolver$Constraint"))) := List.mem_of_getElem? (i := 811) (by decide +kernel)
set_option maxRecDepth 100000 in
theorem lm_627 : lwIn (.selects RX8 yX8_readWindow yX8_readWindow) := List.mem_of_getElem? (i := 16) (by decide +kernel)
set_option maxRecDepth 100000 in
theorem lm_628 : lwIn (.instanceMethod yX8_readWindow) := List.mem_of_getElem? (i := 810) (by decide +kernel)
set_option maxRecDepth 100000 in
theorem lm_629 : lwIn (.methodLink RX8 98 yX8_readWindow) := List.mem_of_getElem? (i := 808) (by decide +kernel)
set_option maxRecDepth 100000 in
theorem lm_630 : lwIn (.code yX2_addCount cX2_addCount 4 none) := List.mem_of_getElem? (i := 807) (by decide +kernel)
set_option maxRecDepth 100000 in
theorem lm_631 : lwIn (.selects RX2 yX2_addCount yX2_addCount) := List.mem_of_getElem? (i := 806) (by decide +kernel)
set_option maxRecDepth 100000 in
theorem lm_632 : lwIn (.instanceMethod yX2_addCount) := List.mem_of_getElem? (i := 805) (by decide +kernel)
set_option maxRecDepth 100000 in
theorem lm_633 : lwIn (.fieldLink RX11 120 "SupportSolver$Problem" "constraints" "I") := List.mem_of_getElem? (i := 149) (by decide +kernel)
set_option maxRecDepth 100000 in
theorem lm_634 : lwIn (.code yX11_propagate cX11_propagate 7 none) := List.mem_of_getElem? (i := 877) (by decide +kernel)
set_option maxRecDepth 100000 in
theorem lm_635 : lwIn (.selects RX11 yX11_propagate yX11_propagate) := List.mem_of_getElem? (i := 18) (by decide +kernel)
set_option maxRecDepth 100000 in
theorem lm_636 : lwIn (.instanceMethod yX11_propagate) := List.mem_of_getElem? (i := 876) (by decide +kernel)
set_option maxRecDepth 100000 in
theorem lm_637 : lwIn (.methodLink RX11 107 yX11_propagate) := List.mem_of_getElem? (i := 874) (by decide +kernel)
set_option maxRecDepth 100000 in
theorem lm_638 : lwIn (.code yX9_begin cX9_begin 4 none) := List.mem_of_getElem? (i := 873) (by decide +kernel)
set_option maxRecDepth 100000 in
theorem lm_639 : lwIn (.selects RX9 yX9_begin yX9_begin) := List.mem_of_getElem? (i := 872) (by decide +kernel)
set_option maxRecDepth 100000 in
theorem lm_640 : lwIn (.instanceMethod yX9_begin) := List.mem_of_getElem? (i := 871) (by decide +kernel)
set_option maxRecDepth 100000 in
theorem lm_641 : lwIn (.methodLink RX11 100 yX9_begin) := List.mem_of_getElem? (i := 870) (by decide +kernel)
set_option maxRecDepth 100000 in
theorem lm_642 : lwIn (.code yX6_addConstraint cX6_addConstraint 2 none) := List.mem_of_getElem? (i := 853) (by decide +kernel)
set_option maxRecDepth 100000 in
theorem lm_643 : lwIn (.selects RX6 yX6_addConstraint yX6_addConstraint) := List.mem_of_getElem? (i := 852) (by decide +kernel)
set_option maxRecDepth 100000 in
theorem lm_644 : lwIn (.instanceMethod yX6_addConstraint) := List.mem_of_getElem? (i := 851) (by decide +kernel)
set_option maxRecDepth 100000 in
theorem lm_645 : lwIn (.methodLink RX8 105 yX6_addConstraint) := List.mem_of_getElem? (i := 850) (by decide +kernel)
set_option maxRecDepth 100000 in
theorem lm_646 : lwIn (.methodLink RX0 5 yX1_init) := List.mem_of_getElem? (i := 844) (by decide +kernel)
set_option maxRecDepth 100000 in
theorem lm_647 : lwIn (.code yX0_init cX0_init 2 none) := List.mem_of_getElem? (i := 843) (by decide +kernel)
set_option maxRecDepth 100000 in
theorem lm_648 : lwIn (.instanceMethod yX0_init) := List.mem_of_getElem? (i := 842) (by decide +kernel)
set_option maxRecDepth 100000 in
theorem lm_649 : lwIn (.methodLink RX8 111 yX0_init) := List.mem_of_getElem? (i := 841) (by decide +kernel)
set_option maxRecDepth 100000 in
theorem lm_650 : lwIn (.code yX5_variablesIn cX5_variablesIn 2 (some .int)) := List.mem_of_getElem? (i := 431) (by decide +kernel)
set_option maxRecDepth 100000 in
theorem lm_651 : lwIn (.static yX5_variablesIn) := List.mem_of_getElem? (i := 430) (by decide +kernel)
set_option maxRecDepth 100000 in
theorem lm_652 : lwIn (.methodLink RX9 36 yX5_variablesIn) := List.mem_of_getElem? (i := 887) (by decide +kernel)
set_option maxRecDepth 100000 in
theorem lm_653 : lwIn (.code yX9_hasFailed cX9_hasFailed 1 (some .boolean)) := List.mem_of_getElem? (i := 886) (by decide +kernel)
set_option maxRecDepth 100000 in
theorem lm_654 : lwIn (.selects RX9 yX9_hasFailed yX9_hasFailed) := List.mem_of_getElem? (i := 885) (by decide +kernel)
set_option maxRecDepth 100000 in
theorem lm_655 : lwIn (.instanceMethod yX9_hasFailed) := List.mem_of_getElem? (i := 884) (by decide +kernel)
set_option maxRecDepth 100000 in
theorem lm_656 : lwIn (.methodLink RX11 126 yX9_hasFailed) := List.mem_of_getElem? (i := 883) (by decide +kernel)
set_option maxRecDepth 100000 in
theorem lm_657 : lwIn (.selects RX10 ⟨"SupportSolver$Constraint", "variableAt", "(I)I"⟩ yX1_variableAt) := List.mem_of_getElem? (i := 1743) (by decide +kernel)
set_option maxRecDepth 100000 in
theorem lm_658 : lwIn (.selects RX4 ⟨"SupportSolver$Constraint", "variableAt", "(I)I"⟩ yX1_variableAt) := List.mem_of_getElem? (i := 1742) (by decide +kernel)
set_option maxRecDepth 100000 in
theorem lm_659 : lwIn (.selects RX2 ⟨"SupportSolver$Constraint", "variableAt", "(I)I"⟩ yX1_variableAt) := List.mem_of_getElem? (i := 1741) (by decide +kernel)
set_option maxRecDepth 100000 in
theorem lm_660 : lwIn (.code yX1_variableAt cX1_variableAt 2 (some .int)) := List.mem_of_getElem? (i := 405) (by decide +kernel)
set_option maxRecDepth 100000 in
theorem lm_661 : lwIn (.instanceMethod yX1_variableAt) := List.mem_of_getElem? (i := 404) (by decide +kernel)
set_option maxRecDepth 100000 in
theorem lm_662 : lwIn (.selects RX0 ⟨"SupportSolver$Constraint", "variableAt", "(I)I"⟩ yX1_variableAt) := List.mem_of_getElem? (i := 1740) (by decide +kernel)
set_option maxRecDepth 100000 in
theorem lm_663 : lwIn (.sameMethod "SupportSolver$Constraint" "SupportSolver$Constraint" "variableAt" "(I)I") := List.mem_of_getElem? (i := 1739) (by decide +kernel)
set_option maxRecDepth 100000 in
theorem lm_664 : lwIn (.methodLink RX11 289 ⟨"SupportSolver$Constraint", "variableAt", "(I)I"⟩) := List.mem_of_getElem? (i := 882) (by decide +kernel)
set_option maxRecDepth 100000 in
theorem lm_665 : lwIn (.fieldLink RX11 139 "SupportSolver$Trail" "domains" "J") := List.mem_of_getElem? (i := 257) (by decide +kernel)
set_option maxRecDepth 100000 in
theorem lm_666 : lwIn (.fieldLink RX11 170 "SupportSolver$Constraint" "size" "I") := List.mem_of_getElem? (i := 290) (by decide +kernel)
set_option maxRecDepth 100000 in
theorem lm_667 : lwIn (.code yX11_sweep cX11_sweep 10 none) := List.mem_of_getElem? (i := 881) (by decide +kernel)
set_option maxRecDepth 100000 in
theorem lm_668 : lwIn (.static yX11_sweep) := List.mem_of_getElem? (i := 880) (by decide +kernel)
set_option maxRecDepth 100000 in
theorem lm_669 : lwIn (.methodLink RX11 351 yX11_sweep) := List.mem_of_getElem? (i := 879) (by decide +kernel)
set_option maxRecDepth 100000 in
theorem lm_670 : lwIn (.code yX6_constraintAt cX6_constraintAt 2 (some (.object "SupportSolver$Constraint"))) := List.mem_of_getElem? (i := 393) (by decide +kernel)
set_option maxRecDepth 100000 in
theorem lm_671 : lwIn (.selects RX6 yX6_constraintAt yX6_constraintAt) := List.mem_of_getElem? (i := 392) (by decide +kernel)
set_option maxRecDepth 100000 in
theorem lm_672 : lwIn (.instanceMethod yX6_constraintAt) := List.mem_of_getElem? (i := 391) (by decide +kernel)
set_option maxRecDepth 100000 in
theorem lm_673 : lwIn (.methodLink RX11 159 yX6_constraintAt) := List.mem_of_getElem? (i := 878) (by decide +kernel)
set_option maxRecDepth 100000 in
theorem lm_674 : lwIn (.sameMethod "SupportSolver$Constraint" "SupportSolver$Constraint" "verdict" "(J)I") := List.mem_of_getElem? (i := 396) (by decide +kernel)
set_option maxRecDepth 100000 in
theorem lm_675 : lwIn (.methodLink RX1 31 ⟨"SupportSolver$Constraint", "verdict", "(J)I"⟩) := List.mem_of_getElem? (i := 893) (by decide +kernel)
set_option maxRecDepth 100000 in
theorem lm_676 : lwIn (.code yX1_leastFrom cX1_leastFrom 10 (some .long)) := List.mem_of_getElem? (i := 892) (by decide +kernel)
set_option maxRecDepth 100000 in
theorem lm_677 : lwIn (.static yX1_leastFrom) := List.mem_of_getElem? (i := 891) (by decide +kernel)
set_option maxRecDepth 100000 in
theorem lm_678 : lwIn (.methodLink RX5 21 yX5_allOf) := List.mem_of_getElem? (i := 471) (by decide +kernel)
set_option maxRecDepth 100000 in
theorem lm_679 : lwIn (.constantLong RX5 25 (-1)) := List.mem_of_getElem? (i := 493) (by decide +kernel)
set_option maxRecDepth 100000 in
theorem lm_680 : lwIn (.code yX5_narrowed cX5_narrowed 4 (some .long)) := List.mem_of_getElem? (i := 492) (by decide +kernel)
set_option maxRecDepth 100000 in
theorem lm_681 : lwIn (.static yX5_narrowed) := List.mem_of_getElem? (i := 491) (by decide +kernel)
set_option maxRecDepth 100000 in
theorem lm_682 : lwIn (.methodLink RX11 266 yX5_narrowed) := List.mem_of_getElem? (i := 889) (by decide +kernel)
set_option maxRecDepth 100000 in
theorem lm_683 : lwIn (.methodLink RX5 17 yX5_pair) := List.mem_of_getElem? (i := 487) (by decide +kernel)
set_option maxRecDepth 100000 in
theorem lm_684 : lwIn (.code yX5_has cX5_has 4 (some .boolean)) := List.mem_of_getElem? (i := 483) (by decide +kernel)
set_option maxRecDepth 100000 in
theorem lm_685 : lwIn (.static yX5_has) := List.mem_of_getElem? (i := 482) (by decide +kernel)
set_option maxRecDepth 100000 in
theorem lm_686 : lwIn (.methodLink RX11 292 yX5_has) := List.mem_of_getElem? (i := 888) (by decide +kernel)
set_option maxRecDepth 100000 in
theorem lm_687 : lwIn (.constantLong RJ13 318 (1085102592571150095)) := List.mem_of_getElem? (i := 427) (by decide +kernel)
set_option maxRecDepth 100000 in
theorem lm_688 : lwIn (.constantLong RJ13 316 (3689348814741910323)) := List.mem_of_getElem? (i := 426) (by decide +kernel)
set_option maxRecDepth 100000 in
theorem lm_689 : lwIn (.constantLong RJ13 314 (6148914691236517205)) := List.mem_of_getElem? (i := 425) (by decide +kernel)
set_option maxRecDepth 100000 in
theorem lm_690 : lwIn (.code yJ13_bitCount_95d88 cJ13_bitCount_95d88 2 (some .int)) := List.mem_of_getElem? (i := 424) (by decide +kernel)
set_option maxRecDepth 100000 in
theorem lm_691 : lwIn (.static yJ13_bitCount_95d88) := List.mem_of_getElem? (i := 423) (by decide +kernel)
set_option maxRecDepth 100000 in
theorem lm_692 : lwIn (.methodLink RX5 33 yJ13_bitCount_95d88) := List.mem_of_getElem? (i := 436) (by decide +kernel)
set_option maxRecDepth 100000 in
theorem lm_693 : lwIn (.constantLong RX5 31 (1108378657)) := List.mem_of_getElem? (i := 435) (by decide +kernel)
set_option maxRecDepth 100000 in
theorem lm_694 : lwIn (.code yX5_marks cX5_marks 2 (some .long)) := List.mem_of_getElem? (i := 434) (by decide +kernel)
set_option maxRecDepth 100000 in
theorem lm_695 : lwIn (.static yX5_marks) := List.mem_of_getElem? (i := 433) (by decide +kernel)
set_option maxRecDepth 100000 in
theorem lm_696 : lwIn (.methodLink RX5 27 yX5_marks) := List.mem_of_getElem? (i := 432) (by decide +kernel)
set_option maxRecDepth 100000 in
theorem lm_697 : lwIn (.code yX2_verdict cX2_verdict 13 (some .int)) := List.mem_of_getElem? (i := 420) (by decide +kernel)
set_option maxRecDepth 100000 in
theorem lm_698 : lwIn (.instanceMethod yX2_verdict) := List.mem_of_getElem? (i := 419) (by decide +kernel)
set_option maxRecDepth 100000 in
theorem lm_699 : lwIn (.selects RX2 ⟨"SupportSolver$Constraint", "verdict", "(J)I"⟩ yX2_verdict) := List.mem_of_getElem? (i := 418) (by decide +kernel)
set_option maxRecDepth 100000 in
theorem lm_700 : lwIn (.constant RJ6 267 (252645135)) := List.mem_of_getElem? (i := 417) (by decide +kernel)
set_option maxRecDepth 100000 in
theorem lm_701 : lwIn (.constant RJ6 266 (858993459)) := List.mem_of_getElem? (i := 416) (by decide +kernel)
set_option maxRecDepth 100000 in
theorem lm_702 : lwIn (.constant RJ6 265 (1431655765)) := List.mem_of_getElem? (i := 415) (by decide +kernel)
set_option maxRecDepth 100000 in
theorem lm_703 : lwIn (.code yJ6_bitCount_0f7a4 cJ6_bitCount_0f7a4 1 (some .int)) := List.mem_of_getElem? (i := 414) (by decide +kernel)
set_option maxRecDepth 100000 in
theorem lm_704 : lwIn (.static yJ6_bitCount_0f7a4) := List.mem_of_getElem? (i := 413) (by decide +kernel)
set_option maxRecDepth 100000 in
theorem lm_705 : lwIn (.methodLink RX0 29 yJ6_bitCount_0f7a4) := List.mem_of_getElem? (i := 412) (by decide +kernel)
set_option maxRecDepth 100000 in
theorem lm_706 : lwIn (.code yX0_verdictOnLess cX0_verdictOnLess 4 (some .int)) := List.mem_of_getElem? (i := 411) (by decide +kernel)
set_option maxRecDepth 100000 in
theorem lm_707 : lwIn (.static yX0_verdictOnLess) := List.mem_of_getElem? (i := 410) (by decide +kernel)
set_option maxRecDepth 100000 in
theorem lm_708 : lwIn (.methodLink RX0 25 yX0_verdictOnLess) := List.mem_of_getElem? (i := 409) (by decide +kernel)
set_option maxRecDepth 100000 in
theorem lm_709 : lwIn (.code yX5_valuesOf cX5_valuesOf 3 (some .int)) := List.mem_of_getElem? (i := 408) (by decide +kernel)
set_option maxRecDepth 100000 in
theorem lm_710 : lwIn (.static yX5_valuesOf) := List.mem_of_getElem? (i := 407) (by decide +kernel)
set_option maxRecDepth 100000 in
theorem lm_711 : lwIn (.methodLink RX0 15 yX5_valuesOf) := List.mem_of_getElem? (i := 406) (by decide +kernel)
set_option maxRecDepth 100000 in
theorem lm_712 : lwIn (.selects RX0 ⟨"SupportSolver$Comparison", "variableAt", "(I)I"⟩ yX1_variableAt) := List.mem_of_getElem? (i := 403) (by decide +kernel)
set_option maxRecDepth 100000 in
theorem lm_713 : lwIn (.sameMethod "SupportSolver$Comparison" "SupportSolver$Constraint" "variableAt" "(I)I") := List.mem_of_getElem? (i := 401) (by decide +kernel)
set_option maxRecDepth 100000 in
theorem lm_714 : lwIn (.methodLink RX0 9 ⟨"SupportSolver$Comparison", "variableAt", "(I)I"⟩) := List.mem_of_getElem? (i := 400) (by decide +kernel)
set_option maxRecDepth 100000 in
theorem lm_715 : lwIn (.sameField "SupportSolver$Comparison" "SupportSolver$Constraint" "kind" "I") := List.mem_of_getElem? (i := 283) (by decide +kernel)
set_option maxRecDepth 100000 in
theorem lm_716 : lwIn (.fieldLink RX0 21 "SupportSolver$Comparison" "kind" "I") := List.mem_of_getElem? (i := 282) (by decide +kernel)
set_option maxRecDepth 100000 in
theorem lm_717 : lwIn (.code yX0_verdict cX0_verdict 5 (some .int)) := List.mem_of_getElem? (i := 399) (by decide +kernel)
set_option maxRecDepth 100000 in
theorem lm_718 : lwIn (.instanceMethod yX0_verdict) := List.mem_of_getElem? (i := 398) (by decide +kernel)
set_option maxRecDepth 100000 in
theorem lm_719 : lwIn (.selects RX0 ⟨"SupportSolver$Constraint", "verdict", "(J)I"⟩ yX0_verdict) := List.mem_of_getElem? (i := 397) (by decide +kernel)
set_option maxRecDepth 100000 in
theorem lm_720 : lwIn (.instanceMethod yX10_verdict) := List.mem_of_getElem? (i := 451) (by decide +kernel)
set_option maxRecDepth 100000 in
theorem lm_721 : lwIn (.selects RX10 ⟨"SupportSolver$Constraint", "verdict", "(J)I"⟩ yX10_verdict) := List.mem_of_getElem? (i := 450) (by decide +kernel)
set_option maxRecDepth 100000 in
theorem lm_722 : lwIn (.sameField "SupportSolver$LearntSet" "SupportSolver$Constraint" "scope" "J") := List.mem_of_getElem? (i := 293) (by decide +kernel)
set_option maxRecDepth 100000 in
theorem lm_723 : lwIn (.fieldLink RX4 28 "SupportSolver$LearntSet" "scope" "J") := List.mem_of_getElem? (i := 292) (by decide +kernel)
set_option maxRecDepth 100000 in
theorem lm_724 : lwIn (.code yX4_verdict cX4_verdict 3 (some .int)) := List.mem_of_getElem? (i := 449) (by decide +kernel)
set_option maxRecDepth 100000 in
theorem lm_725 : lwIn (.instanceMethod yX4_verdict) := List.mem_of_getElem? (i := 448) (by decide +kernel)
set_option maxRecDepth 100000 in
theorem lm_726 : lwIn (.selects RX4 ⟨"SupportSolver$Constraint", "verdict", "(J)I"⟩ yX4_verdict) := List.mem_of_getElem? (i := 447) (by decide +kernel)
set_option maxRecDepth 100000 in
theorem lm_727 : lwIn (.methodLink RX2 44 yX5_variablesIn) := List.mem_of_getElem? (i := 429) (by decide +kernel)
set_option maxRecDepth 100000 in
theorem lm_728 : lwIn (.methodLink RX2 33 yJ13_bitCount_95d88) := List.mem_of_getElem? (i := 422) (by decide +kernel)
set_option maxRecDepth 100000 in
theorem lm_729 : lwIn (.code Lib.Math.max.name Lib.Math.max.code 2 (some .int)) := List.mem_of_getElem? (i := 446) (by decide +kernel)
set_option maxRecDepth 100000 in
theorem lm_730 : lwIn (.static Lib.Math.max.name) := List.mem_of_getElem? (i := 445) (by decide +kernel)
set_option maxRecDepth 100000 in
theorem lm_731 : lwIn (.methodLink RX2 57 Lib.Math.max.name) := List.mem_of_getElem? (i := 444) (by decide +kernel)
set_option maxRecDepth 100000 in
theorem lm_732 : lwIn (.code Lib.Math.min.name Lib.Math.min.code 2 (some .int)) := List.mem_of_getElem? (i := 443) (by decide +kernel)
set_option maxRecDepth 100000 in
theorem lm_733 : lwIn (.static Lib.Math.min.name) := List.mem_of_getElem? (i := 442) (by decide +kernel)
set_option maxRecDepth 100000 in
theorem lm_734 : lwIn (.methodLink RX2 51 Lib.Math.min.name) := List.mem_of_getElem? (i := 441) (by decide +kernel)
set_option maxRecDepth 100000 in
theorem lm_735 : lwIn (.constantLong RX2 42 (-1)) := List.mem_of_getElem? (i := 428) (by decide +kernel)
set_option maxRecDepth 100000 in
theorem lm_736 : lwIn (.sameField "SupportSolver$Counts" "SupportSolver$Constraint" "size" "I") := List.mem_of_getElem? (i := 289) (by decide +kernel)
set_option maxRecDepth 100000 in
theorem lm_737 : lwIn (.fieldLink RX2 39 "SupportSolver$Counts" "size" "I") := List.mem_of_getElem? (i := 288) (by decide +kernel)
set_option maxRecDepth 100000 in
theorem lm_738 : lwIn (.sameField "SupportSolver$Counts" "SupportSolver$Constraint" "scope" "J") := List.mem_of_getElem? (i := 295) (by decide +kernel)
set_option maxRecDepth 100000 in
theorem lm_739 : lwIn (.fieldLink RX2 29 "SupportSolver$Counts" "scope" "J") := List.mem_of_getElem? (i := 294) (by decide +kernel)
set_option maxRecDepth 100000 in
theorem lm_740 : lwIn (.constantLong RX2 27 (1108378657)) := List.mem_of_getElem? (i := 421) (by decide +kernel)
set_option maxRecDepth 100000 in
theorem lm_741 : lwIn (.code yX0_alike cX0_alike 2 (some .int)) := List.mem_of_getElem? (i := 905) (by decide +kernel)
set_option maxRecDepth 100000 in
theorem lm_742 : lwIn (.instanceMethod yX0_alike) := List.mem_of_getElem? (i := 904) (by decide +kernel)
set_option maxRecDepth 100000 in
theorem lm_743 : lwIn (.selects RX0 ⟨"SupportSolver$Constraint", "alike", "(I)I"⟩ yX0_alike) := List.mem_of_getElem? (i := 903) (by decide +kernel)
set_option maxRecDepth 100000 in
theorem lm_744 : lwIn (.sameMethod "SupportSolver$Constraint" "SupportSolver$Constraint" "alike" "(I)I") := List.mem_of_getElem? (i := 902) (by decide +kernel)
set_option maxRecDepth 100000 in
theorem lm_745 : lwIn (.methodLink RX1 60 ⟨"SupportSolver$Constraint", "alike", "(I)I"⟩) := List.mem_of_getElem? (i := 900) (by decide +kernel)
set_option maxRecDepth 100000 in
theorem lm_746 : lwIn (.methodLink RX1 56 yX1_leastFrom) := List.mem_of_getElem? (i := 899) (by decide +kernel)
set_option maxRecDepth 100000 in
theorem lm_747 : lwIn (.methodLink RX1 52 yX5_narrowed) := List.mem_of_getElem? (i := 898) (by decide +kernel)
set_option maxRecDepth 100000 in
theorem lm_748 : lwIn (.methodLink RX1 48 yX5_valuesOf) := List.mem_of_getElem? (i := 897) (by decide +kernel)
set_option maxRecDepth 100000 in
theorem lm_749 : lwIn (.methodLink RX1 44 ⟨"SupportSolver$Constraint", "variableAt", "(I)I"⟩) := List.mem_of_getElem? (i := 896) (by decide +kernel)
set_option maxRecDepth 100000 in
theorem lm_750 : lwIn (.methodLink RX1 39 yJ13_bitCount_95d88) := List.mem_of_getElem? (i := 895) (by decide +kernel)
set_option maxRecDepth 100000 in
theorem lm_751 : lwIn (.code yX5_leastOfEach cX5_leastOfEach 7 (some .long)) := List.mem_of_getElem? (i := 480) (by decide +kernel)
set_option maxRecDepth 100000 in
theorem lm_752 : lwIn (.static yX5_leastOfEach) := List.mem_of_getElem? (i := 479) (by decide +kernel)
set_option maxRecDepth 100000 in
theorem lm_753 : lwIn (.methodLink RX1 35 yX5_leastOfEach) := List.mem_of_getElem? (i := 894) (by decide +kernel)
set_option maxRecDepth 100000 in
theorem lm_754 : lwIn (.methodLink RX10 39 yX5_variablesIn) := List.mem_of_getElem? (i := 461) (by decide +kernel)
set_option maxRecDepth 100000 in
theorem lm_755 : lwIn (.methodLink RX10 31 yX5_allOf) := List.mem_of_getElem? (i := 456) (by decide +kernel)
set_option maxRecDepth 100000 in
theorem lm_756 : lwIn (.selects RX10 ⟨"SupportSolver$Window", "variableAt", "(I)I"⟩ yX1_variableAt) := List.mem_of_getElem? (i := 455) (by decide +kernel)
set_option maxRecDepth 100000 in
theorem lm_757 : lwIn (.sameMethod "SupportSolver$Window" "SupportSolver$Constraint" "variableAt" "(I)I") := List.mem_of_getElem? (i := 454) (by decide +kernel)
set_option maxRecDepth 100000 in
theorem lm_758 : lwIn (.methodLink RX10 27 ⟨"SupportSolver$Window", "variableAt", "(I)I"⟩) := List.mem_of_getElem? (i := 453) (by decide +kernel)
set_option maxRecDepth 100000 in
theorem lm_759 : lwIn (.methodLink RX10 49 Lib.Math.min.name) := List.mem_of_getElem? (i := 465) (by decide +kernel)
set_option maxRecDepth 100000 in
theorem lm_760 : lwIn (.constantLong RX10 43 (-1)) := List.mem_of_getElem? (i := 462) (by decide +kernel)
set_option maxRecDepth 100000 in
theorem lm_761 : lwIn (.constantLong RX10 37 (1108378657)) := List.mem_of_getElem? (i := 460) (by decide +kernel)
set_option maxRecDepth 100000 in
theorem lm_762 : lwIn (.sameField "SupportSolver$Window" "SupportSolver$Constraint" "size" "I") := List.mem_of_getElem? (i := 287) (by decide +kernel)
set_option maxRecDepth 100000 in
theorem lm_763 : lwIn (.fieldLink RX10 24 "SupportSolver$Window" "size" "I") := List.mem_of_getElem? (i := 286) (by decide +kernel)
set_option maxRecDepth 100000 in
theorem lm_764 : lwIn (.code yX10_verdict cX10_verdict 11 (some .int)) := List.mem_of_getElem? (i := 452) (by decide +kernel)
set_option maxRecDepth 100000 in
theorem lm_765 : lwIn (.selects RX9 yX9_factAt yX9_factAt) := List.mem_of_getElem? (i := 510) (by decide +kernel)
set_option maxRecDepth 100000 in
theorem lm_766 : lwIn (.instanceMethod yX9_factAt) := List.mem_of_getElem? (i := 509) (by decide +kernel)
set_option maxRecDepth 100000 in
theorem lm_767 : lwIn (.methodLink RX9 42 yX9_factAt) := List.mem_of_getElem? (i := 508) (by decide +kernel)
set_option maxRecDepth 100000 in
theorem lm_768 : lwIn (.fieldLink RX9 65 "SupportSolver$Fact" "explanation" "J") := List.mem_of_getElem? (i := 229) (by decide +kernel)
set_option maxRecDepth 100000 in
theorem lm_769 : lwIn (.constantLong RX9 63 (-1)) := List.mem_of_getElem? (i := 920) (by decide +kernel)
set_option maxRecDepth 100000 in
theorem lm_770 : lwIn (.fieldLink RX9 60 "SupportSolver$Fact" "set" "J") := List.mem_of_getElem? (i := 226) (by decide +kernel)
set_option maxRecDepth 100000 in
theorem lm_771 : lwIn (.fieldLink RX9 59 "SupportSolver$Fact" "level" "I") := List.mem_of_getElem? (i := 223) (by decide +kernel)
set_option maxRecDepth 100000 in
theorem lm_772 : lwIn (.fieldLink RX9 56 "SupportSolver$Fact" "reason" "I") := List.mem_of_getElem? (i := 220) (by decide +kernel)
set_option maxRecDepth 100000 in
theorem lm_773 : lwIn (.fieldLink RX9 53 "SupportSolver$Fact" "value" "I") := List.mem_of_getElem? (i := 217) (by decide +kernel)
set_option maxRecDepth 100000 in
theorem lm_774 : lwIn (.fieldLink RX9 50 "SupportSolver$Fact" "variable" "I") := List.mem_of_getElem? (i := 214) (by decide +kernel)
set_option maxRecDepth 100000 in
theorem lm_775 : lwIn (.code yX9_remove cX9_remove 7 none) := List.mem_of_getElem? (i := 919) (by decide +kernel)
set_option maxRecDepth 100000 in
theorem lm_776 : lwIn (.selects RX9 yX9_remove yX9_remove) := List.mem_of_getElem? (i := 918) (by decide +kernel)
set_option maxRecDepth 100000 in
theorem lm_777 : lwIn (.instanceMethod yX9_remove) := List.mem_of_getElem? (i := 917) (by decide +kernel)
set_option maxRecDepth 100000 in
theorem lm_778 : lwIn (.methodLink RX11 325 yX9_remove) := List.mem_of_getElem? (i := 916) (by decide +kernel)
set_option maxRecDepth 100000 in
theorem lm_779 : lwIn (.code yX10_alike cX10_alike 2 (some .int)) := List.mem_of_getElem? (i := 915) (by decide +kernel)
set_option maxRecDepth 100000 in
theorem lm_780 : lwIn (.instanceMethod yX10_alike) := List.mem_of_getElem? (i := 914) (by decide +kernel)
set_option maxRecDepth 100000 in
theorem lm_781 : lwIn (.selects RX10 ⟨"SupportSolver$Constraint", "alike", "(I)I"⟩ yX10_alike) := List.mem_of_getElem? (i := 913) (by decide +kernel)
set_option maxRecDepth 100000 in
theorem lm_782 : lwIn (.code yX4_alike cX4_alike 2 (some .int)) := List.mem_of_getElem? (i := 912) (by decide +kernel)
set_option maxRecDepth 100000 in
theorem lm_783 : lwIn (.instanceMethod yX4_alike) := List.mem_of_getElem? (i := 911) (by decide +kernel)
set_option maxRecDepth 100000 in
theorem lm_784 : lwIn (.selects RX4 ⟨"SupportSolver$Constraint", "alike", "(I)I"⟩ yX4_alike) := List.mem_of_getElem? (i := 910) (by decide +kernel)
set_option maxRecDepth 100000 in
theorem lm_785 : lwIn (.methodLink RX2 60 yX2_hasCount) := List.mem_of_getElem? (i := 909) (by decide +kernel)
set_option maxRecDepth 100000 in
theorem lm_786 : lwIn (.code yX2_alike cX2_alike 2 (some .int)) := List.mem_of_getElem? (i := 908) (by decide +kernel)
set_option maxRecDepth 100000 in
theorem lm_787 : lwIn (.instanceMethod yX2_alike) := List.mem_of_getElem? (i := 907) (by decide +kernel)
set_option maxRecDepth 100000 in
theorem lm_788 : lwIn (.selects RX2 ⟨"SupportSolver$Constraint", "alike", "(I)I"⟩ yX2_alike) := List.mem_of_getElem? (i := 906) (by decide +kernel)
set_option maxRecDepth 100000 in
theorem lm_789 : lwIn (.code yX1_clearVariables cX1_clearVariables 1 none) := List.mem_of_getElem? (i := 934) (by decide +kernel)
set_option maxRecDepth 100000 in
theorem lm_790 : lwIn (.instanceMethod yX1_clearVariables) := List.mem_of_getElem? (i := 933) (by decide +kernel)
set_option maxRecDepth 100000 in
theorem lm_791 : lwIn (.selects RX4 ⟨"SupportSolver$LearntSet", "clearVariables", "()V"⟩ yX1_clearVariables) := List.mem_of_getElem? (i := 932) (by decide +kernel)
set_option maxRecDepth 100000 in
theorem lm_792 : lwIn (.sameMethod "SupportSolver$LearntSet" "SupportSolver$Constraint" "clearVariables" "()V") := List.mem_of_getElem? (i := 930) (by decide +kernel)
set_option maxRecDepth 100000 in
theorem lm_793 : lwIn (.methodLink RX4 15 ⟨"SupportSolver$LearntSet", "clearVariables", "()V"⟩) := List.mem_of_getElem? (i := 929) (by decide +kernel)
set_option maxRecDepth 100000 in
theorem lm_794 : lwIn (.code yX4_show cX4_show 4 none) := List.mem_of_getElem? (i := 928) (by decide +kernel)
set_option maxRecDepth 100000 in
theorem lm_795 : lwIn (.selects RX4 yX4_show yX4_show) := List.mem_of_getElem? (i := 927) (by decide +kernel)
set_option maxRecDepth 100000 in
theorem lm_796 : lwIn (.instanceMethod yX4_show) := List.mem_of_getElem? (i := 926) (by decide +kernel)
set_option maxRecDepth 100000 in
theorem lm_797 : lwIn (.methodLink RX11 259 yX4_show) := List.mem_of_getElem? (i := 925) (by decide +kernel)
set_option maxRecDepth 100000 in
theorem lm_798 : lwIn (.code yX11_setAt cX11_setAt 2 (some .long)) := List.mem_of_getElem? (i := 924) (by decide +kernel)
set_option maxRecDepth 100000 in
theorem lm_799 : lwIn (.selects RX11 yX11_setAt yX11_setAt) := List.mem_of_getElem? (i := 19) (by decide +kernel)
set_option maxRecDepth 100000 in
theorem lm_800 : lwIn (.instanceMethod yX11_setAt) := List.mem_of_getElem? (i := 923) (by decide +kernel)
set_option maxRecDepth 100000 in
theorem lm_801 : lwIn (.methodLink RX11 355 yX11_setAt) := List.mem_of_getElem? (i := 921) (by decide +kernel)
set_option maxRecDepth 100000 in
theorem lm_802 : lwIn (.methodLink RX3 34 yX5_pair) := List.mem_of_getElem? (i := 516) (by decide +kernel)
set_option maxRecDepth 100000 in
theorem lm_803 : lwIn (.code yX3_pair cX3_pair 1 (some .long)) := List.mem_of_getElem? (i := 515) (by decide +kernel)
set_option maxRecDepth 100000 in
theorem lm_804 : lwIn (.selects RX3 yX3_pair yX3_pair) := List.mem_of_getElem? (i := 514) (by decide +kernel)
set_option maxRecDepth 100000 in
theorem lm_805 : lwIn (.instanceMethod yX3_pair) := List.mem_of_getElem? (i := 513) (by decide +kernel)
set_option maxRecDepth 100000 in
theorem lm_806 : lwIn (.methodLink RX9 46 yX3_pair) := List.mem_of_getElem? (i := 512) (by decide +kernel)
set_option maxRecDepth 100000 in
theorem lm_807 : lwIn (.code yX9_factAt cX9_factAt 2 (some (.object "SupportSolver$Fact"))) := List.mem_of_getElem? (i := 511) (by decide +kernel)
set_option maxRecDepth 100000 in
theorem lm_808 : lwIn (.selects RX4 ⟨"SupportSolver$LearntSet", "addVariable", "(I)V"⟩ yX1_addVariable) := List.mem_of_getElem? (i := 939) (by decide +kernel)
set_option maxRecDepth 100000 in
theorem lm_809 : lwIn (.sameMethod "SupportSolver$LearntSet" "SupportSolver$Constraint" "addVariable" "(I)V") := List.mem_of_getElem? (i := 937) (by decide +kernel)
set_option maxRecDepth 100000 in
theorem lm_810 : lwIn (.methodLink RX4 25 ⟨"SupportSolver$LearntSet", "addVariable", "(I)V"⟩) := List.mem_of_getElem? (i := 936) (by decide +kernel)
set_option maxRecDepth 100000 in
theorem lm_811 : lwIn (.methodLink RX4 19 yX5_valuesOf) := List.mem_of_getElem? (i := 935) (by decide +kernel)
set_option maxRecDepth 100000 in
theorem lm_812 : lwIn (.code yX12_load cX12_load 2 (some .int)) := List.mem_of_getElem? (i := 1433) (by decide +kernel)
set_option maxRecDepth 100000 in
theorem lm_813 : lwIn (.code yX12_at cX12_at 2 (some .int)) := List.mem_of_getElem? (i := 1441) (by decide +kernel)
set_option maxRecDepth 100000 in
theorem lm_814 : lwIn (.selects RX12 yX12_at yX12_at) := List.mem_of_getElem? (i := 50) (by decide +kernel)
set_option maxRecDepth 100000 in
theorem lm_815 : lwIn (.instanceMethod yX12_at) := List.mem_of_getElem? (i := 1440) (by decide +kernel)
set_option maxRecDepth 100000 in
theorem lm_816 : lwIn (.methodLink RX12 110 yX12_at) := List.mem_of_getElem? (i := 1438) (by decide +kernel)
set_option maxRecDepth 100000 in
theorem lm_817 : lwIn (.fieldLink RX12 135 "SupportSolverModel" "number" "I") := List.mem_of_getElem? (i := 1334) (by decide +kernel)
set_option maxRecDepth 100000 in
theorem lm_818 : lwIn (.constantLong RX12 130 (96)) := List.mem_of_getElem? (i := 1446) (by decide +kernel)
set_option maxRecDepth 100000 in
theorem lm_819 : lwIn (.constantLong RX12 128 (27)) := List.mem_of_getElem? (i := 1445) (by decide +kernel)
set_option maxRecDepth 100000 in
theorem lm_820 : lwIn (.fieldLink RX12 124 "SupportSolverModel" "name" "J") := List.mem_of_getElem? (i := 1337) (by decide +kernel)
set_option maxRecDepth 100000 in
theorem lm_821 : lwIn (.fieldLink RX12 114 "SupportSolverModel" "begin" "I") := List.mem_of_getElem? (i := 1332) (by decide +kernel)
set_option maxRecDepth 100000 in
theorem lm_822 : lwIn (.code yX12_token cX12_token 2 none) := List.mem_of_getElem? (i := 1437) (by decide +kernel)
set_option maxRecDepth 100000 in
theorem lm_823 : lwIn (.selects RX12 yX12_token yX12_token) := List.mem_of_getElem? (i := 49) (by decide +kernel)
set_option maxRecDepth 100000 in
theorem lm_824 : lwIn (.instanceMethod yX12_token) := List.mem_of_getElem? (i := 1436) (by decide +kernel)
set_option maxRecDepth 100000 in
theorem lm_825 : lwIn (.methodLink RX12 159 yX12_token) := List.mem_of_getElem? (i := 1434) (by decide +kernel)
set_option maxRecDepth 100000 in
theorem lm_826 : lwIn (.fieldLink RX12 117 "SupportSolverModel" "sort" "I") := List.mem_of_getElem? (i := 1333) (by decide +kernel)
set_option maxRecDepth 100000 in
theorem lm_827 : lwIn (.fieldLink RX12 138 "SupportSolverModel" "errorCode" "I") := List.mem_of_getElem? (i := 1335) (by decide +kernel)
set_option maxRecDepth 100000 in
theorem lm_828 : lwIn (.fieldLink RX12 107 "SupportSolverModel" "next" "I") := List.mem_of_getElem? (i := 1331) (by decide +kernel)
set_option maxRecDepth 100000 in
theorem lm_829 : lwIn (.fieldLink RX12 104 "SupportSolverModel" "ended" "I") := List.mem_of_getElem? (i := 1330) (by decide +kernel)
set_option maxRecDepth 100000 in
theorem lm_830 : lwIn (.methodLink RX12 145 yJ0_length_8abf5) := List.mem_of_getElem? (i := 1459) (by decide +kernel)
set_option maxRecDepth 100000 in
theorem lm_831 : lwIn (.code yX12_isWrong cX12_isWrong 1 (some .boolean)) := List.mem_of_getElem? (i := 1458) (by decide +kernel)
set_option maxRecDepth 100000 in
theorem lm_832 : lwIn (.selects RX12 yX12_isWrong yX12_isWrong) := List.mem_of_getElem? (i := 52) (by decide +kernel)
set_option maxRecDepth 100000 in
theorem lm_833 : lwIn (.instanceMethod yX12_isWrong) := List.mem_of_getElem? (i := 1457) (by decide +kernel)
set_option maxRecDepth 100000 in
theorem lm_834 : lwIn (.methodLink RX12 141 yX12_isWrong) := List.mem_of_getElem? (i := 1455) (by decide +kernel)
set_option maxRecDepth 100000 in
theorem lm_835 : lwIn (.code yX12_isWord cX12_isWord 3 (some .boolean)) := List.mem_of_getElem? (i := 1454) (by decide +kernel)
set_option maxRecDepth 100000 in
theorem lm_836 : lwIn (.selects RX12 yX12_isWord yX12_isWord) := List.mem_of_getElem? (i := 51) (by decide +kernel)
set_option maxRecDepth 100000 in
theorem lm_837 : lwIn (.instanceMethod yX12_isWord) := List.mem_of_getElem? (i := 1453) (by decide +kernel)
set_option maxRecDepth 100000 in
theorem lm_838 : lwIn (.methodLink RX12 164 yX12_isWord) := List.mem_of_getElem? (i := 1451) (by decide +kernel)
set_option maxRecDepth 100000 in
theorem lm_839 : lwIn (.code yX12_isDigit cX12_isDigit 1 (some .boolean)) := List.mem_of_getElem? (i := 1449) (by decide +kernel)
set_option maxRecDepth 100000 in
theorem lm_840 : lwIn (.static yX12_isDigit) := List.mem_of_getElem? (i := 1448) (by decide +kernel)
set_option maxRecDepth 100000 in
theorem lm_841 : lwIn (.methodLink RX12 132 yX12_isDigit) := List.mem_of_getElem? (i := 1447) (by decide +kernel)
set_option maxRecDepth 100000 in
theorem lm_842 : lwIn (.code yX12_isLetter cX12_isLetter 1 (some .boolean)) := List.mem_of_getElem? (i := 1444) (by decide +kernel)
set_option maxRecDepth 100000 in
theorem lm_843 : lwIn (.static yX12_isLetter) := List.mem_of_getElem? (i := 1443) (by decide +kernel)
set_option maxRecDepth 100000 in
theorem lm_844 : lwIn (.methodLink RX12 120 yX12_isLetter) := List.mem_of_getElem? (i := 1442) (by decide +kernel)
set_option maxRecDepth 100000 in
theorem lm_845 : lwIn (.methodLink RX12 151 yJ0_charAt_5068e) := List.mem_of_getElem? (i := 1460) (by decide +kernel)
set_option maxRecDepth 100000 in
theorem lm_846 : lwIn (.code yX12_fails cX12_fails 2 none) := List.mem_of_getElem? (i := 1468) (by decide +kernel)
set_option maxRecDepth 100000 in
theorem lm_847 : lwIn (.selects RX12 yX12_fails yX12_fails) := List.mem_of_getElem? (i := 54) (by decide +kernel)
set_option maxRecDepth 100000 in
theorem lm_848 : lwIn (.instanceMethod yX12_fails) := List.mem_of_getElem? (i := 1467) (by decide +kernel)
set_option maxRecDepth 100000 in
theorem lm_849 : lwIn (.methodLink RX12 155 yX12_fails) := List.mem_of_getElem? (i := 1465) (by decide +kernel)
set_option maxRecDepth 100000 in
theorem lm_850 : lwIn (.code yX12_variable cX12_variable 4 none) := List.mem_of_getElem? (i := 1464) (by decide +kernel)
set_option maxRecDepth 100000 in
theorem lm_851 : lwIn (.selects RX12 yX12_variable yX12_variable) := List.mem_of_getElem? (i := 53) (by decide +kernel)
set_option maxRecDepth 100000 in
theorem lm_852 : lwIn (.instanceMethod yX12_variable) := List.mem_of_getElem? (i := 1463) (by decide +kernel)
set_option maxRecDepth 100000 in
theorem lm_853 : lwIn (.methodLink RX12 202 yX12_variable) := List.mem_of_getElem? (i := 1461) (by decide +kernel)
set_option maxRecDepth 100000 in
theorem lm_854 : lwIn (.methodLink RX12 182 yX12_member) := List.mem_of_getElem? (i := 1494) (by decide +kernel)
set_option maxRecDepth 100000 in
theorem lm_855 : lwIn (.code yX12_counts cX12_counts 3 none) := List.mem_of_getElem? (i := 1493) (by decide +kernel)
set_option maxRecDepth 100000 in
theorem lm_856 : lwIn (.selects RX12 yX12_counts yX12_counts) := List.mem_of_getElem? (i := 59) (by decide +kernel)
set_option maxRecDepth 100000 in
theorem lm_857 : lwIn (.instanceMethod yX12_counts) := List.mem_of_getElem? (i := 1492) (by decide +kernel)
set_option maxRecDepth 100000 in
theorem lm_858 : lwIn (.methodLink RX12 196 yX12_counts) := List.mem_of_getElem? (i := 1490) (by decide +kernel)
set_option maxRecDepth 100000 in
theorem lm_859 : lwIn (.code yX12_constraint cX12_constraint 3 none) := List.mem_of_getElem? (i := 1485) (by decide +kernel)
set_option maxRecDepth 100000 in
theorem lm_860 : lwIn (.selects RX12 yX12_constraint yX12_constraint) := List.mem_of_getElem? (i := 58) (by decide +kernel)
set_option maxRecDepth 100000 in
theorem lm_861 : lwIn (.instanceMethod yX12_constraint) := List.mem_of_getElem? (i := 1484) (by decide +kernel)
set_option maxRecDepth 100000 in
theorem lm_862 : lwIn (.methodLink RX12 205 yX12_constraint) := List.mem_of_getElem? (i := 1482) (by decide +kernel)
set_option maxRecDepth 100000 in
theorem lm_863 : lwIn (.code yX12_ends cX12_ends 1 none) := List.mem_of_getElem? (i := 1481) (by decide +kernel)
set_option maxRecDepth 100000 in
theorem lm_864 : lwIn (.selects RX12 yX12_ends yX12_ends) := List.mem_of_getElem? (i := 57) (by decide +kernel)
set_option maxRecDepth 100000 in
theorem lm_865 : lwIn (.instanceMethod yX12_ends) := List.mem_of_getElem? (i := 1480) (by decide +kernel)
set_option maxRecDepth 100000 in
theorem lm_866 : lwIn (.methodLink RX12 175 yX12_ends) := List.mem_of_getElem? (i := 1478) (by decide +kernel)
set_option maxRecDepth 100000 in
theorem lm_867 : lwIn (.code yX12_figure cX12_figure 4 (some .int)) := List.mem_of_getElem? (i := 1477) (by decide +kernel)
set_option maxRecDepth 100000 in
theorem lm_868 : lwIn (.selects RX12 yX12_figure yX12_figure) := List.mem_of_getElem? (i := 56) (by decide +kernel)
set_option maxRecDepth 100000 in
theorem lm_869 : lwIn (.instanceMethod yX12_figure) := List.mem_of_getElem? (i := 1476) (by decide +kernel)
set_option maxRecDepth 100000 in
theorem lm_870 : lwIn (.methodLink RX12 171 yX12_figure) := List.mem_of_getElem? (i := 1474) (by decide +kernel)
set_option maxRecDepth 100000 in
theorem lm_871 : lwIn (.code yX12_named cX12_named 2 (some .int)) := List.mem_of_getElem? (i := 1472) (by decide +kernel)
set_option maxRecDepth 100000 in
theorem lm_872 : lwIn (.selects RX12 yX12_named yX12_named) := List.mem_of_getElem? (i := 55) (by decide +kernel)
set_option maxRecDepth 100000 in
theorem lm_873 : lwIn (.instanceMethod yX12_named) := List.mem_of_getElem? (i := 1471) (by decide +kernel)
set_option maxRecDepth 100000 in
theorem lm_874 : lwIn (.methodLink RX12 168 yX12_named) := List.mem_of_getElem? (i := 1469) (by decide +kernel)
set_option maxRecDepth 100000 in
theorem lm_875 : lwIn (.code yX12_window cX12_window 2 none) := List.mem_of_getElem? (i := 1505) (by decide +kernel)
set_option maxRecDepth 100000 in
theorem lm_876 : lwIn (.selects RX12 yX12_window yX12_window) := List.mem_of_getElem? (i := 62) (by decide +kernel)
set_option maxRecDepth 100000 in
theorem lm_877 : lwIn (.instanceMethod yX12_window) := List.mem_of_getElem? (i := 1504) (by decide +kernel)
set_option maxRecDepth 100000 in
theorem lm_878 : lwIn (.methodLink RX12 198 yX12_window) := List.mem_of_getElem? (i := 1502) (by decide +kernel)
set_option maxRecDepth 100000 in
theorem lm_879 : lwIn (.code yX12_count cX12_count 3 none) := List.mem_of_getElem? (i := 1501) (by decide +kernel)
set_option maxRecDepth 100000 in
theorem lm_880 : lwIn (.selects RX12 yX12_count yX12_count) := List.mem_of_getElem? (i := 61) (by decide +kernel)
set_option maxRecDepth 100000 in
theorem lm_881 : lwIn (.instanceMethod yX12_count) := List.mem_of_getElem? (i := 1500) (by decide +kernel)
set_option maxRecDepth 100000 in
theorem lm_882 : lwIn (.methodLink RX12 185 yX12_count) := List.mem_of_getElem? (i := 1498) (by decide +kernel)
set_option maxRecDepth 100000 in
theorem lm_883 : lwIn (.code yX12_member cX12_member 5 none) := List.mem_of_getElem? (i := 1497) (by decide +kernel)
set_option maxRecDepth 100000 in
theorem lm_884 : lwIn (.selects RX12 yX12_member yX12_member) := List.mem_of_getElem? (i := 60) (by decide +kernel)
set_option maxRecDepth 100000 in
theorem lm_885 : lwIn (.instanceMethod yX12_member) := List.mem_of_getElem? (i := 1496) (by decide +kernel)
set_option maxRecDepth 100000 in
theorem lm_886 : lwIn (.code yX11_errorCode cX11_errorCode 1 (some .int)) := List.mem_of_getElem? (i := 369) (by decide +kernel)
set_option maxRecDepth 100000 in
theorem lm_887 : lwIn (.fieldLink RX11 114 "SupportSolver$TextReader" "errorCode" "I") := List.mem_of_getElem? (i := 169) (by decide +kernel)
set_option maxRecDepth 100000 in
theorem lm_888 : lwIn (.code yX12_errorCode cX12_errorCode 1 (some .int)) := List.mem_of_getElem? (i := 1509) (by decide +kernel)
set_option maxRecDepth 100000 in
theorem lm_889 : lwIn (.code yX11_errorPosition cX11_errorPosition 1 (some .int)) := List.mem_of_getElem? (i := 373) (by decide +kernel)
set_option maxRecDepth 100000 in
theorem lm_890 : lwIn (.fieldLink RX11 117 "SupportSolver$TextReader" "errorPosition" "I") := List.mem_of_getElem? (i := 171) (by decide +kernel)
set_option maxRecDepth 100000 in
theorem lm_891 : lwIn (.code yX12_errorPosition cX12_errorPosition 1 (some .int)) := List.mem_of_getElem? (i := 1513) (by decide +kernel)
set_option maxRecDepth 100000 in
theorem lm_892 : lwIn (.codeWith yL_report cL_report 4 (some .int) [(0, 9, 12, 25)]) := List.mem_of_getElem? (i := 942) (by decide +kernel)
set_option maxRecDepth 100000 in
theorem lm_893 : lwIn (.selects RX11 yX11_report yX11_report) := List.mem_of_getElem? (i := 945) (by decide +kernel)
set_option maxRecDepth 100000 in
theorem lm_894 : lwIn (.instanceMethod yX11_report) := List.mem_of_getElem? (i := 944) (by decide +kernel)
set_option maxRecDepth 100000 in
theorem lm_895 : lwIn (.code yX11_report cX11_report 2 (some .int)) := List.mem_of_getElem? (i := 946) (by decide +kernel)
set_option maxRecDepth 100000 in
theorem lm_896 : lwIn (.fieldLink RX11 123 "SupportSolver$Trail" "level" "I") := List.mem_of_getElem? (i := 255) (by decide +kernel)
set_option maxRecDepth 100000 in
theorem lm_897 : lwIn (.methodLink RX11 148 yJ6_bitCount_0f7a4) := List.mem_of_getElem? (i := 956) (by decide +kernel)
set_option maxRecDepth 100000 in
theorem lm_898 : lwIn (.methodLink RX11 142 yX5_valuesOf) := List.mem_of_getElem? (i := 955) (by decide +kernel)
set_option maxRecDepth 100000 in
theorem lm_899 : lwIn (.code yX11_isFixed cX11_isFixed 2 (some .boolean)) := List.mem_of_getElem? (i := 954) (by decide +kernel)
set_option maxRecDepth 100000 in
theorem lm_900 : lwIn (.selects RX11 yX11_isFixed yX11_isFixed) := List.mem_of_getElem? (i := 21) (by decide +kernel)
set_option maxRecDepth 100000 in
theorem lm_901 : lwIn (.instanceMethod yX11_isFixed) := List.mem_of_getElem? (i := 953) (by decide +kernel)
set_option maxRecDepth 100000 in
theorem lm_902 : lwIn (.methodLink RX11 135 yX11_isFixed) := List.mem_of_getElem? (i := 951) (by decide +kernel)
set_option maxRecDepth 100000 in
theorem lm_903 : lwIn (.code yX11_fixedVariables cX11_fixedVariables 3 (some .int)) := List.mem_of_getElem? (i := 950) (by decide +kernel)
set_option maxRecDepth 100000 in
theorem lm_904 : lwIn (.selects RX11 yX11_fixedVariables yX11_fixedVariables) := List.mem_of_getElem? (i := 20) (by decide +kernel)
set_option maxRecDepth 100000 in
theorem lm_905 : lwIn (.instanceMethod yX11_fixedVariables) := List.mem_of_getElem? (i := 949) (by decide +kernel)
set_option maxRecDepth 100000 in
theorem lm_906 : lwIn (.methodLink RX11 129 yX11_fixedVariables) := List.mem_of_getElem? (i := 947) (by decide +kernel)
set_option maxRecDepth 100000 in
theorem lm_907 : lwIn (.code yX12_report cX12_report 2 (some .int)) := List.mem_of_getElem? (i := 1517) (by decide +kernel)
set_option maxRecDepth 100000 in
theorem lm_908 : lwIn (.code yX12_fixed cX12_fixed 3 (some .int)) := List.mem_of_getElem? (i := 1521) (by decide +kernel)
set_option maxRecDepth 100000 in
theorem lm_909 : lwIn (.selects RX12 yX12_fixed yX12_fixed) := List.mem_of_getElem? (i := 63) (by decide +kernel)
set_option maxRecDepth 100000 in
theorem lm_910 : lwIn (.instanceMethod yX12_fixed) := List.mem_of_getElem? (i := 1520) (by decide +kernel)
set_option maxRecDepth 100000 in
theorem lm_911 : lwIn (.methodLink RX12 263 yX12_fixed) := List.mem_of_getElem? (i := 1518) (by decide +kernel)
set_option maxRecDepth 100000 in
theorem lm_912 : lwIn (.codeWith yL_domain cL_domain 4 (some .int) [(0, 9, 12, 19)]) := List.mem_of_getElem? (i := 960) (by decide +kernel)
set_option maxRecDepth 100000 in
theorem lm_913 : lwIn (.selects RX11 yX11_domain yX11_domain) := List.mem_of_getElem? (i := 963) (by decide +kernel)
set_option maxRecDepth 100000 in
theorem lm_914 : lwIn (.instanceMethod yX11_domain) := List.mem_of_getElem? (i := 962) (by decide +kernel)
set_option maxRecDepth 100000 in
theorem lm_915 : lwIn (.code yX11_domain cX11_domain 2 (some .int)) := List.mem_of_getElem? (i := 964) (by decide +kernel)
set_option maxRecDepth 100000 in
theorem lm_916 : lwIn (.code yX11_isVariable cX11_isVariable 2 (some .boolean)) := List.mem_of_getElem? (i := 968) (by decide +kernel)
set_option maxRecDepth 100000 in
theorem lm_917 : lwIn (.selects RX11 yX11_isVariable yX11_isVariable) := List.mem_of_getElem? (i := 22) (by decide +kernel)
set_option maxRecDepth 100000 in
theorem lm_918 : lwIn (.instanceMethod yX11_isVariable) := List.mem_of_getElem? (i := 967) (by decide +kernel)
set_option maxRecDepth 100000 in
theorem lm_919 : lwIn (.methodLink RX11 154 yX11_isVariable) := List.mem_of_getElem? (i := 965) (by decide +kernel)
set_option maxRecDepth 100000 in
theorem lm_920 : lwIn (.code yX12_domain cX12_domain 2 (some .int)) := List.mem_of_getElem? (i := 1525) (by decide +kernel)
set_option maxRecDepth 100000 in
theorem lm_921 : lwIn (.code yX12_isVariable cX12_isVariable 2 (some .boolean)) := List.mem_of_getElem? (i := 1529) (by decide +kernel)
set_option maxRecDepth 100000 in
theorem lm_922 : lwIn (.selects RX12 yX12_isVariable yX12_isVariable) := List.mem_of_getElem? (i := 64) (by decide +kernel)
set_option maxRecDepth 100000 in
theorem lm_923 : lwIn (.instanceMethod yX12_isVariable) := List.mem_of_getElem? (i := 1528) (by decide +kernel)
set_option maxRecDepth 100000 in
theorem lm_924 : lwIn (.methodLink RX12 257 yX12_isVariable) := List.mem_of_getElem? (i := 1526) (by decide +kernel)
set_option maxRecDepth 100000 in
theorem lm_925 : lwIn (.codeWith yL_constraint cL_constraint 5 (some .int) [(0, 10, 13, 19), (0, 10, 17, 25)]) := List.mem_of_getElem? (i := 972) (by decide +kernel)
set_option maxRecDepth 100000 in
theorem lm_926 : lwIn (.selects RX11 yX11_constraint yX11_constraint) := List.mem_of_getElem? (i := 975) (by decide +kernel)
set_option maxRecDepth 100000 in
theorem lm_927 : lwIn (.instanceMethod yX11_constraint) := List.mem_of_getElem? (i := 974) (by decide +kernel)
set_option maxRecDepth 100000 in
theorem lm_928 : lwIn (.code yX11_constraint cX11_constraint 4 (some .int)) := List.mem_of_getElem? (i := 976) (by decide +kernel)
set_option maxRecDepth 100000 in
theorem lm_929 : lwIn (.methodLink RX11 178 ⟨"SupportSolver$Constraint", "hasVariable", "(I)Z"⟩) := List.mem_of_getElem? (i := 981) (by decide +kernel)
set_option maxRecDepth 100000 in
theorem lm_930 : lwIn (.code yX11_setOfVariables cX11_setOfVariables 3 (some .int)) := List.mem_of_getElem? (i := 980) (by decide +kernel)
set_option maxRecDepth 100000 in
theorem lm_931 : lwIn (.static yX11_setOfVariables) := List.mem_of_getElem? (i := 979) (by decide +kernel)
set_option maxRecDepth 100000 in
theorem lm_932 : lwIn (.methodLink RX11 171 yX11_setOfVariables) := List.mem_of_getElem? (i := 978) (by decide +kernel)
set_option maxRecDepth 100000 in
theorem lm_933 : lwIn (.fieldLink RX11 165 "SupportSolver$Constraint" "kind" "I") := List.mem_of_getElem? (i := 284) (by decide +kernel)
set_option maxRecDepth 100000 in
theorem lm_934 : lwIn (.methodLink RX11 181 yX9_factAt) := List.mem_of_getElem? (i := 986) (by decide +kernel)
set_option maxRecDepth 100000 in
theorem lm_935 : lwIn (.fieldLink RX11 185 "SupportSolver$Fact" "reason" "I") := List.mem_of_getElem? (i := 221) (by decide +kernel)
set_option maxRecDepth 100000 in
theorem lm_936 : lwIn (.code yX11_factsWithReason cX11_factsWithReason 5 (some .int)) := List.mem_of_getElem? (i := 985) (by decide +kernel)
set_option maxRecDepth 100000 in
theorem lm_937 : lwIn (.selects RX11 yX11_factsWithReason yX11_factsWithReason) := List.mem_of_getElem? (i := 23) (by decide +kernel)
set_option maxRecDepth 100000 in
theorem lm_938 : lwIn (.instanceMethod yX11_factsWithReason) := List.mem_of_getElem? (i := 984) (by decide +kernel)
set_option maxRecDepth 100000 in
theorem lm_939 : lwIn (.methodLink RX11 175 yX11_factsWithReason) := List.mem_of_getElem? (i := 982) (by decide +kernel)
set_option maxRecDepth 100000 in
theorem lm_940 : lwIn (.code yX12_constraint_ cX12_constraint_ 3 (some .int)) := List.mem_of_getElem? (i := 1533) (by decide +kernel)
set_option maxRecDepth 100000 in
theorem lm_941 : lwIn (.instanceMethod yX12_factsBy) := List.mem_of_getElem? (i := 1544) (by decide +kernel)
set_option maxRecDepth 100000 in
theorem lm_942 : lwIn (.methodLink RX12 269 yX12_factsBy) := List.mem_of_getElem? (i := 1542) (by decide +kernel)
set_option maxRecDepth 100000 in
theorem lm_943 : lwIn (.code yX12_setOf cX12_setOf 4 (some .int)) := List.mem_of_getElem? (i := 1541) (by decide +kernel)
set_option maxRecDepth 100000 in
theorem lm_944 : lwIn (.selects RX12 yX12_setOf yX12_setOf) := List.mem_of_getElem? (i := 66) (by decide +kernel)
set_option maxRecDepth 100000 in
theorem lm_945 : lwIn (.instanceMethod yX12_setOf) := List.mem_of_getElem? (i := 1540) (by decide +kernel)
set_option maxRecDepth 100000 in
theorem lm_946 : lwIn (.methodLink RX12 266 yX12_setOf) := List.mem_of_getElem? (i := 1538) (by decide +kernel)
set_option maxRecDepth 100000 in
theorem lm_947 : lwIn (.code yX12_isConstraint cX12_isConstraint 2 (some .boolean)) := List.mem_of_getElem? (i := 1537) (by decide +kernel)
set_option maxRecDepth 100000 in
theorem lm_948 : lwIn (.selects RX12 yX12_isConstraint yX12_isConstraint) := List.mem_of_getElem? (i := 65) (by decide +kernel)
set_option maxRecDepth 100000 in
theorem lm_949 : lwIn (.instanceMethod yX12_isConstraint) := List.mem_of_getElem? (i := 1536) (by decide +kernel)
set_option maxRecDepth 100000 in
theorem lm_950 : lwIn (.methodLink RX12 254 yX12_isConstraint) := List.mem_of_getElem? (i := 1534) (by decide +kernel)
set_option maxRecDepth 100000 in
theorem lm_951 : lwIn (.code yX12_factsBy cX12_factsBy 4 (some .int)) := List.mem_of_getElem? (i := 1545) (by decide +kernel)
set_option maxRecDepth 100000 in
theorem lm_952 : lwIn (.selects RX12 yX12_factsBy yX12_factsBy) := List.mem_of_getElem? (i := 67) (by decide +kernel)
set_option maxRecDepth 100000 in
theorem lm_953 : lwIn (.codeWith yL_fact cL_fact 5 (some .int) [(0, 10, 13, 19), (0, 10, 17, 25)]) := List.mem_of_getElem? (i := 989) (by decide +kernel)
set_option maxRecDepth 100000 in
theorem lm_954 : lwIn (.selects RX11 yX11_fact yX11_fact) := List.mem_of_getElem? (i := 992) (by decide +kernel)
set_option maxRecDepth 100000 in
theorem lm_955 : lwIn (.instanceMethod yX11_fact) := List.mem_of_getElem? (i := 991) (by decide +kernel)
set_option maxRecDepth 100000 in
theorem lm_956 : lwIn (.code yX11_fact cX11_fact 4 (some .int)) := List.mem_of_getElem? (i := 993) (by decide +kernel)
set_option maxRecDepth 100000 in
theorem lm_957 : lwIn (.fieldLink RX11 198 "SupportSolver$Fact" "level" "I") := List.mem_of_getElem? (i := 224) (by decide +kernel)
set_option maxRecDepth 100000 in
theorem lm_958 : lwIn (.fieldLink RX11 195 "SupportSolver$Fact" "value" "I") := List.mem_of_getElem? (i := 218) (by decide +kernel)
set_option maxRecDepth 100000 in
theorem lm_959 : lwIn (.fieldLink RX11 192 "SupportSolver$Fact" "variable" "I") := List.mem_of_getElem? (i := 215) (by decide +kernel)
set_option maxRecDepth 100000 in
theorem lm_960 : lwIn (.code yX12_fact cX12_fact 3 (some .int)) := List.mem_of_getElem? (i := 1549) (by decide +kernel)
set_option maxRecDepth 100000 in
theorem lm_961 : lwIn (.code yX12_isFact cX12_isFact 2 (some .boolean)) := List.mem_of_getElem? (i := 1553) (by decide +kernel)
set_option maxRecDepth 100000 in
theorem lm_962 : lwIn (.selects RX12 yX12_isFact yX12_isFact) := List.mem_of_getElem? (i := 68) (by decide +kernel)
set_option maxRecDepth 100000 in
theorem lm_963 : lwIn (.instanceMethod yX12_isFact) := List.mem_of_getElem? (i := 1552) (by decide +kernel)
set_option maxRecDepth 100000 in
theorem lm_964 : lwIn (.methodLink RX12 272 yX12_isFact) := List.mem_of_getElem? (i := 1550) (by decide +kernel)
set_option maxRecDepth 100000 in
theorem lm_965 : lwIn (.codeWith yL_factOf cL_factOf 5 (some .int) [(0, 10, 13, 19), (0, 10, 17, 25), (0, 10, 21, 43)]) := List.mem_of_getElem? (i := 997) (by decide +kernel)
set_option maxRecDepth 100000 in
theorem lm_966 : lwIn (.selects RX11 yX11_factOf yX11_factOf) := List.mem_of_getElem? (i := 1001) (by decide +kernel)
set_option maxRecDepth 100000 in
theorem lm_967 : lwIn (.instanceMethod yX11_factOf) := List.mem_of_getElem? (i := 1000) (by decide +kernel)
set_option maxRecDepth 100000 in
theorem lm_968 : lwIn (.code yX11_factOf cX11_factOf 6 (some .int)) := List.mem_of_getElem? (i := 1002) (by decide +kernel)
set_option maxRecDepth 100000 in
theorem lm_969 : lwIn (.instanceMethod yX9_pairAt) := List.mem_of_getElem? (i := 1007) (by decide +kernel)
set_option maxRecDepth 100000 in
theorem lm_970 : lwIn (.methodLink RX11 208 yX9_pairAt) := List.mem_of_getElem? (i := 1006) (by decide +kernel)
set_option maxRecDepth 100000 in
theorem lm_971 : lwIn (.methodLink RX11 204 yX5_pair) := List.mem_of_getElem? (i := 1005) (by decide +kernel)
set_option maxRecDepth 100000 in
theorem lm_972 : lwIn (.methodLink RX11 199 yX11_isValue) := List.mem_of_getElem? (i := 1003) (by decide +kernel)
set_option maxRecDepth 100000 in
theorem lm_973 : lwIn (.classLink RX11 212 "java/util/NoSuchElementException") := List.mem_of_getElem? (i := 1010) (by decide +kernel)
set_option maxRecDepth 100000 in
theorem lm_974 : lwIn (.code yX9_pairAt cX9_pairAt 3 (some .long)) := List.mem_of_getElem? (i := 1009) (by decide +kernel)
set_option maxRecDepth 100000 in
theorem lm_975 : lwIn (.selects RX9 yX9_pairAt yX9_pairAt) := List.mem_of_getElem? (i := 1008) (by decide +kernel)
set_option maxRecDepth 100000 in
theorem lm_976 : lwIn (.code yX12_factOf cX12_factOf 4 (some .int)) := List.mem_of_getElem? (i := 1557) (by decide +kernel)
set_option maxRecDepth 100000 in
theorem lm_977 : lwIn (.codeWith yL_explanationSize cL_explanationSize 4 (some .int) [(0, 9, 12, 19)]) := List.mem_of_getElem? (i := 1028) (by decide +kernel)
set_option maxRecDepth 100000 in
theorem lm_978 : lwIn (.selects RX11 yX11_explanationSize yX11_explanationSize) := List.mem_of_getElem? (i := 1031) (by decide +kernel)
set_option maxRecDepth 100000 in
theorem lm_979 : lwIn (.instanceMethod yX11_explanationSize) := List.mem_of_getElem? (i := 1030) (by decide +kernel)
set_option maxRecDepth 100000 in
theorem lm_980 : lwIn (.code yX11_explanationSize cX11_explanationSize 3 (some .int)) := List.mem_of_getElem? (i := 1032) (by decide +kernel)
set_option maxRecDepth 100000 in
theorem lm_981 : lwIn (.fieldLink RX11 256 "SupportSolver$Fact" "set" "J") := List.mem_of_getElem? (i := 227) (by decide +kernel)
set_option maxRecDepth 100000 in
theorem lm_982 : lwIn (.code yX11_sourceOf cX11_sourceOf 2 (some (.object "SupportSolver$Constraint"))) := List.mem_of_getElem? (i := 1040) (by decide +kernel)
set_option maxRecDepth 100000 in
theorem lm_983 : lwIn (.selects RX11 yX11_sourceOf yX11_sourceOf) := List.mem_of_getElem? (i := 25) (by decide +kernel)
set_option maxRecDepth 100000 in
theorem lm_984 : lwIn (.instanceMethod yX11_sourceOf) := List.mem_of_getElem? (i := 1039) (by decide +kernel)
set_option maxRecDepth 100000 in
theorem lm_985 : lwIn (.methodLink RX11 248 yX11_sourceOf) := List.mem_of_getElem? (i := 1037) (by decide +kernel)
set_option maxRecDepth 100000 in
theorem lm_986 : lwIn (.constantLong RX11 246 (-1)) := List.mem_of_getElem? (i := 498) (by decide +kernel)
set_option maxRecDepth 100000 in
theorem lm_987 : lwIn (.fieldLink RX11 243 "SupportSolver$Fact" "explanation" "J") := List.mem_of_getElem? (i := 230) (by decide +kernel)
set_option maxRecDepth 100000 in
theorem lm_988 : lwIn (.code yX11_explanationOf cX11_explanationOf 4 (some .long)) := List.mem_of_getElem? (i := 1036) (by decide +kernel)
set_option maxRecDepth 100000 in
theorem lm_989 : lwIn (.selects RX11 yX11_explanationOf yX11_explanationOf) := List.mem_of_getElem? (i := 24) (by decide +kernel)
set_option maxRecDepth 100000 in
theorem lm_990 : lwIn (.instanceMethod yX11_explanationOf) := List.mem_of_getElem? (i := 1035) (by decide +kernel)
set_option maxRecDepth 100000 in
theorem lm_991 : lwIn (.methodLink RX11 217 yX11_explanationOf) := List.mem_of_getElem? (i := 1033) (by decide +kernel)
set_option maxRecDepth 100000 in
theorem lm_992 : lwIn (.fieldLink RX11 263 "SupportSolver$Constraint" "scope" "J") := List.mem_of_getElem? (i := 297) (by decide +kernel)
set_option maxRecDepth 100000 in
theorem lm_993 : lwIn (.code yX11_leastExplanation cX11_leastExplanation 11 (some .long)) := List.mem_of_getElem? (i := 1044) (by decide +kernel)
set_option maxRecDepth 100000 in
theorem lm_994 : lwIn (.selects RX11 yX11_leastExplanation yX11_leastExplanation) := List.mem_of_getElem? (i := 26) (by decide +kernel)
set_option maxRecDepth 100000 in
theorem lm_995 : lwIn (.instanceMethod yX11_leastExplanation) := List.mem_of_getElem? (i := 1043) (by decide +kernel)
set_option maxRecDepth 100000 in
theorem lm_996 : lwIn (.methodLink RX11 252 yX11_leastExplanation) := List.mem_of_getElem? (i := 1041) (by decide +kernel)
set_option maxRecDepth 100000 in
theorem lm_997 : lwIn (.methodLink RX11 221 yJ13_bitCount_95d88) := List.mem_of_getElem? (i := 499) (by decide +kernel)
set_option maxRecDepth 100000 in
theorem lm_998 : lwIn (.code yX12_explanationSize cX12_explanationSize 2 (some .int)) := List.mem_of_getElem? (i := 1561) (by decide +kernel)
set_option maxRecDepth 100000 in
theorem lm_999 : lwIn (.selects RX12 yX12_isAmong yX12_isAmong) := List.mem_of_getElem? (i := 70) (by decide +kernel)
set_option maxRecDepth 100000 in
theorem lm_1000 : lwIn (.instanceMethod yX12_isAmong) := List.mem_of_getElem? (i := 1568) (by decide +kernel)
set_option maxRecDepth 100000 in
theorem lm_1001 : lwIn (.methodLink RX12 260 yX12_isAmong) := List.mem_of_getElem? (i := 1566) (by decide +kernel)
set_option maxRecDepth 100000 in
theorem lm_1002 : lwIn (.code yX12_explains cX12_explains 7 (some .int)) := List.mem_of_getElem? (i := 1565) (by decide +kernel)
set_option maxRecDepth 100000 in
theorem lm_1003 : lwIn (.selects RX12 yX12_explains yX12_explains) := List.mem_of_getElem? (i := 69) (by decide +kernel)
set_option maxRecDepth 100000 in
theorem lm_1004 : lwIn (.instanceMethod yX12_explains) := List.mem_of_getElem? (i := 1564) (by decide +kernel)
set_option maxRecDepth 100000 in
theorem lm_1005 : lwIn (.methodLink RX12 278 yX12_explains) := List.mem_of_getElem? (i := 1562) (by decide +kernel)
set_option maxRecDepth 100000 in
theorem lm_1006 : lwIn (.code yX12_laysWithout cX12_laysWithout 2 none) := List.mem_of_getElem? (i := 1573) (by decide +kernel)
set_option maxRecDepth 100000 in
theorem lm_1007 : lwIn (.selects RX12 yX12_laysWithout yX12_laysWithout) := List.mem_of_getElem? (i := 71) (by decide +kernel)
set_option maxRecDepth 100000 in
theorem lm_1008 : lwIn (.instanceMethod yX12_laysWithout) := List.mem_of_getElem? (i := 1572) (by decide +kernel)
set_option maxRecDepth 100000 in
theorem lm_1009 : lwIn (.methodLink RX12 275 yX12_laysWithout) := List.mem_of_getElem? (i := 1570) (by decide +kernel)
set_option maxRecDepth 100000 in
theorem lm_1010 : lwIn (.code yX12_isAmong cX12_isAmong 4 (some .boolean)) := List.mem_of_getElem? (i := 1569) (by decide +kernel)
set_option maxRecDepth 100000 in
theorem lm_1011 : lwIn (.codeWith yL_explained cL_explained 5 (some .int) [(0, 10, 13, 19)]) := List.mem_of_getElem? (i := 1047) (by decide +kernel)
set_option maxRecDepth 100000 in
theorem lm_1012 : lwIn (.selects RX11 yX11_explained yX11_explained) := List.mem_of_getElem? (i := 1050) (by decide +kernel)
set_option maxRecDepth 100000 in
theorem lm_1013 : lwIn (.instanceMethod yX11_explained) := List.mem_of_getElem? (i := 1049) (by decide +kernel)
set_option maxRecDepth 100000 in
theorem lm_1014 : lwIn (.code yX11_explained cX11_explained 8 (some .int)) := List.mem_of_getElem? (i := 1051) (by decide +kernel)
set_option maxRecDepth 100000 in
theorem lm_1015 : lwIn (.code yX12_explained cX12_explained 5 (some .int)) := List.mem_of_getElem? (i := 1577) (by decide +kernel)
set_option maxRecDepth 100000 in
theorem lm_1016 : lwIn (.codeWith yL_depth cL_depth 4 (some .int) [(0, 9, 12, 19)]) := List.mem_of_getElem? (i := 1055) (by decide +kernel)
set_option maxRecDepth 100000 in
theorem lm_1017 : lwIn (.selects RX11 yX11_depth yX11_depth) := List.mem_of_getElem? (i := 1058) (by decide +kernel)
set_option maxRecDepth 100000 in
theorem lm_1018 : lwIn (.instanceMethod yX11_depth) := List.mem_of_getElem? (i := 1057) (by decide +kernel)
set_option maxRecDepth 100000 in
theorem lm_1019 : lwIn (.code yX11_depth cX11_depth 5 (some .int)) := List.mem_of_getElem? (i := 1059) (by decide +kernel)
set_option maxRecDepth 100000 in
theorem lm_1020 : lwIn (.fieldLink RX11 231 "SupportSolver$Fact" "depth" "I") := List.mem_of_getElem? (i := 232) (by decide +kernel)
set_option maxRecDepth 100000 in
theorem lm_1021 : lwIn (.methodLink RX11 234 yX3_pair) := List.mem_of_getElem? (i := 1064) (by decide +kernel)
set_option maxRecDepth 100000 in
theorem lm_1022 : lwIn (.methodLink RX11 237 Lib.Math.max.name) := List.mem_of_getElem? (i := 1065) (by decide +kernel)
set_option maxRecDepth 100000 in
theorem lm_1023 : lwIn (.code yX11_depthAbove cX11_depthAbove 7 (some .int)) := List.mem_of_getElem? (i := 1063) (by decide +kernel)
set_option maxRecDepth 100000 in
theorem lm_1024 : lwIn (.selects RX11 yX11_depthAbove yX11_depthAbove) := List.mem_of_getElem? (i := 27) (by decide +kernel)
set_option maxRecDepth 100000 in
theorem lm_1025 : lwIn (.instanceMethod yX11_depthAbove) := List.mem_of_getElem? (i := 1062) (by decide +kernel)
set_option maxRecDepth 100000 in
theorem lm_1026 : lwIn (.methodLink RX11 228 yX11_depthAbove) := List.mem_of_getElem? (i := 1060) (by decide +kernel)
set_option maxRecDepth 100000 in
theorem lm_1027 : lwIn (.code yX12_depth cX12_depth 4 (some .int)) := List.mem_of_getElem? (i := 1581) (by decide +kernel)
set_option maxRecDepth 100000 in
theorem lm_1028 : lwIn (.codeWith yL_isSupported cL_isSupported 6 (some .int) [(0, 19, 22, 19), (0, 19, 26, 25)]) := List.mem_of_getElem? (i := 1068) (by decide +kernel)
set_option maxRecDepth 100000 in
theorem lm_1029 : lwIn (.selects RX11 yX11_isSupported yX11_isSupported) := List.mem_of_getElem? (i := 1071) (by decide +kernel)
set_option maxRecDepth 100000 in
theorem lm_1030 : lwIn (.instanceMethod yX11_isSupported) := List.mem_of_getElem? (i := 1070) (by decide +kernel)
set_option maxRecDepth 100000 in
theorem lm_1031 : lwIn (.code yX11_isSupported cX11_isSupported 5 (some .boolean)) := List.mem_of_getElem? (i := 1072) (by decide +kernel)
set_option maxRecDepth 100000 in
theorem lm_1032 : lwIn (.code yX11_presentSupport cX11_presentSupport 4 (some .long)) := List.mem_of_getElem? (i := 1077) (by decide +kernel)
set_option maxRecDepth 100000 in
theorem lm_1033 : lwIn (.selects RX11 yX11_presentSupport yX11_presentSupport) := List.mem_of_getElem? (i := 28) (by decide +kernel)
set_option maxRecDepth 100000 in
theorem lm_1034 : lwIn (.instanceMethod yX11_presentSupport) := List.mem_of_getElem? (i := 1076) (by decide +kernel)
set_option maxRecDepth 100000 in
theorem lm_1035 : lwIn (.methodLink RX11 276 yX11_presentSupport) := List.mem_of_getElem? (i := 1074) (by decide +kernel)
set_option maxRecDepth 100000 in
theorem lm_1036 : lwIn (.code yX12_isSupported cX12_isSupported 4 (some .boolean)) := List.mem_of_getElem? (i := 1585) (by decide +kernel)
set_option maxRecDepth 100000 in
theorem lm_1037 : lwIn (.code yX12_isMember cX12_isMember 3 (some .boolean)) := List.mem_of_getElem? (i := 1589) (by decide +kernel)
set_option maxRecDepth 100000 in
theorem lm_1038 : lwIn (.selects RX12 yX12_isMember yX12_isMember) := List.mem_of_getElem? (i := 72) (by decide +kernel)
set_option maxRecDepth 100000 in
theorem lm_1039 : lwIn (.instanceMethod yX12_isMember) := List.mem_of_getElem? (i := 1588) (by decide +kernel)
set_option maxRecDepth 100000 in
theorem lm_1040 : lwIn (.methodLink RX12 281 yX12_isMember) := List.mem_of_getElem? (i := 1586) (by decide +kernel)
set_option maxRecDepth 100000 in
theorem lm_1041 : lwIn (.code yX12_isSupportedNow cX12_isSupportedNow 4 (some .boolean)) := List.mem_of_getElem? (i := 1593) (by decide +kernel)
set_option maxRecDepth 100000 in
theorem lm_1042 : lwIn (.selects RX12 yX12_isSupportedNow yX12_isSupportedNow) := List.mem_of_getElem? (i := 73) (by decide +kernel)
set_option maxRecDepth 100000 in
theorem lm_1043 : lwIn (.instanceMethod yX12_isSupportedNow) := List.mem_of_getElem? (i := 1592) (by decide +kernel)
set_option maxRecDepth 100000 in
theorem lm_1044 : lwIn (.methodLink RX12 284 yX12_isSupportedNow) := List.mem_of_getElem? (i := 1590) (by decide +kernel)
set_option maxRecDepth 100000 in
theorem lm_1045 : lwIn (.codeWith yL_support cL_support 7 (some .int) [(0, 14, 17, 19), (0, 14, 21, 25), (0, 14, 25, 43)]) := List.mem_of_getElem? (i := 1080) (by decide +kernel)
set_option maxRecDepth 100000 in
theorem lm_1046 : lwIn (.selects RX11 yX11_support yX11_support) := List.mem_of_getElem? (i := 1083) (by decide +kernel)
set_option maxRecDepth 100000 in
theorem lm_1047 : lwIn (.instanceMethod yX11_support) := List.mem_of_getElem? (i := 1082) (by decide +kernel)
set_option maxRecDepth 100000 in
theorem lm_1048 : lwIn (.code yX11_support cX11_support 8 (some .int)) := List.mem_of_getElem? (i := 1084) (by decide +kernel)
set_option maxRecDepth 100000 in
theorem lm_1049 : lwIn (.methodLink RX5 39 yX5_has) := List.mem_of_getElem? (i := 1089) (by decide +kernel)
set_option maxRecDepth 100000 in
theorem lm_1050 : lwIn (.code yX5_leastValueOf cX5_leastValueOf 4 (some .int)) := List.mem_of_getElem? (i := 1088) (by decide +kernel)
set_option maxRecDepth 100000 in
theorem lm_1051 : lwIn (.static yX5_leastValueOf) := List.mem_of_getElem? (i := 1087) (by decide +kernel)
set_option maxRecDepth 100000 in
theorem lm_1052 : lwIn (.methodLink RX11 282 yX5_leastValueOf) := List.mem_of_getElem? (i := 1086) (by decide +kernel)
set_option maxRecDepth 100000 in
theorem lm_1053 : lwIn (.code yX12_support cX12_support 5 (some .int)) := List.mem_of_getElem? (i := 1597) (by decide +kernel)
set_option maxRecDepth 100000 in
theorem lm_1054 : lwIn (.code yX12_onlyOf cX12_onlyOf 2 (some .int)) := List.mem_of_getElem? (i := 1604) (by decide +kernel)
set_option maxRecDepth 100000 in
theorem lm_1055 : lwIn (.static yX12_onlyOf) := List.mem_of_getElem? (i := 1603) (by decide +kernel)
set_option maxRecDepth 100000 in
theorem lm_1056 : lwIn (.methodLink RX12 291 yX12_onlyOf) := List.mem_of_getElem? (i := 1602) (by decide +kernel)
set_option maxRecDepth 100000 in
theorem lm_1057 : lwIn (.code yX12_laysLeast cX12_laysLeast 7 none) := List.mem_of_getElem? (i := 1601) (by decide +kernel)
set_option maxRecDepth 100000 in
theorem lm_1058 : lwIn (.selects RX12 yX12_laysLeast yX12_laysLeast) := List.mem_of_getElem? (i := 74) (by decide +kernel)
set_option maxRecDepth 100000 in
theorem lm_1059 : lwIn (.instanceMethod yX12_laysLeast) := List.mem_of_getElem? (i := 1600) (by decide +kernel)
set_option maxRecDepth 100000 in
theorem lm_1060 : lwIn (.methodLink RX12 287 yX12_laysLeast) := List.mem_of_getElem? (i := 1598) (by decide +kernel)
set_option maxRecDepth 100000 in
theorem lm_1061 : lwIn (.codeWith yL_watchers cL_watchers 5 (some .int) [(0, 10, 13, 19), (0, 10, 17, 25)]) := List.mem_of_getElem? (i := 1092) (by decide +kernel)
set_option maxRecDepth 100000 in
theorem lm_1062 : lwIn (.selects RX11 yX11_watchers yX11_watchers) := List.mem_of_getElem? (i := 1095) (by decide +kernel)
set_option maxRecDepth 100000 in
theorem lm_1063 : lwIn (.instanceMethod yX11_watchers) := List.mem_of_getElem? (i := 1094) (by decide +kernel)
set_option maxRecDepth 100000 in
theorem lm_1064 : lwIn (.code yX11_watchers cX11_watchers 6 (some .int)) := List.mem_of_getElem? (i := 1096) (by decide +kernel)
set_option maxRecDepth 100000 in
theorem lm_1065 : lwIn (.code yX11_watchersIn cX11_watchersIn 8 (some .int)) := List.mem_of_getElem? (i := 1100) (by decide +kernel)
set_option maxRecDepth 100000 in
theorem lm_1066 : lwIn (.selects RX11 yX11_watchersIn yX11_watchersIn) := List.mem_of_getElem? (i := 29) (by decide +kernel)
set_option maxRecDepth 100000 in
theorem lm_1067 : lwIn (.instanceMethod yX11_watchersIn) := List.mem_of_getElem? (i := 1099) (by decide +kernel)
set_option maxRecDepth 100000 in
theorem lm_1068 : lwIn (.methodLink RX11 285 yX11_watchersIn) := List.mem_of_getElem? (i := 1097) (by decide +kernel)
set_option maxRecDepth 100000 in
theorem lm_1069 : lwIn (.code yX12_watchers cX12_watchers 7 (some .int)) := List.mem_of_getElem? (i := 1608) (by decide +kernel)
set_option maxRecDepth 100000 in
theorem lm_1070 : lwIn (.codeWith yL_tuples cL_tuples 4 (some .int) [(0, 9, 12, 19)]) := List.mem_of_getElem? (i := 1103) (by decide +kernel)
set_option maxRecDepth 100000 in
theorem lm_1071 : lwIn (.selects RX11 yX11_tuples yX11_tuples) := List.mem_of_getElem? (i := 1106) (by decide +kernel)
set_option maxRecDepth 100000 in
theorem lm_1072 : lwIn (.instanceMethod yX11_tuples) := List.mem_of_getElem? (i := 1105) (by decide +kernel)
set_option maxRecDepth 100000 in
theorem lm_1073 : lwIn (.code yX11_tuples cX11_tuples 3 (some .int)) := List.mem_of_getElem? (i := 1107) (by decide +kernel)
set_option maxRecDepth 100000 in
theorem lm_1074 : lwIn (.code yX1_countFrom cX1_countFrom 12 (some .int)) := List.mem_of_getElem? (i := 1110) (by decide +kernel)
set_option maxRecDepth 100000 in
theorem lm_1075 : lwIn (.static yX1_countFrom) := List.mem_of_getElem? (i := 1109) (by decide +kernel)
set_option maxRecDepth 100000 in
theorem lm_1076 : lwIn (.methodLink RX5 47 yJ6_bitCount_0f7a4) := List.mem_of_getElem? (i := 473) (by decide +kernel)
set_option maxRecDepth 100000 in
theorem lm_1077 : lwIn (.methodLink RX5 43 yX5_valuesOf) := List.mem_of_getElem? (i := 472) (by decide +kernel)
set_option maxRecDepth 100000 in
theorem lm_1078 : lwIn (.code yX5_assignments cX5_assignments 6 (some .int)) := List.mem_of_getElem? (i := 470) (by decide +kernel)
set_option maxRecDepth 100000 in
theorem lm_1079 : lwIn (.static yX5_assignments) := List.mem_of_getElem? (i := 469) (by decide +kernel)
set_option maxRecDepth 100000 in
theorem lm_1080 : lwIn (.methodLink RX1 63 yX5_assignments) := List.mem_of_getElem? (i := 1111) (by decide +kernel)
set_option maxRecDepth 100000 in
theorem lm_1081 : lwIn (.methodLink RX1 71 yX1_countFrom) := List.mem_of_getElem? (i := 1113) (by decide +kernel)
set_option maxRecDepth 100000 in
theorem lm_1082 : lwIn (.methodLink RX1 67 yJ6_bitCount_0f7a4) := List.mem_of_getElem? (i := 1112) (by decide +kernel)
set_option maxRecDepth 100000 in
theorem lm_1083 : lwIn (.code yX12_tuples cX12_tuples 2 (some .int)) := List.mem_of_getElem? (i := 1612) (by decide +kernel)
set_option maxRecDepth 100000 in
theorem lm_1084 : lwIn (.methodLink RX12 304 yX12_nextValue) := List.mem_of_getElem? (i := 1617) (by decide +kernel)
set_option maxRecDepth 100000 in
theorem lm_1085 : lwIn (.code yX12_tuplesOf cX12_tuplesOf 6 (some .int)) := List.mem_of_getElem? (i := 1616) (by decide +kernel)
set_option maxRecDepth 100000 in
theorem lm_1086 : lwIn (.selects RX12 yX12_tuplesOf yX12_tuplesOf) := List.mem_of_getElem? (i := 75) (by decide +kernel)
set_option maxRecDepth 100000 in
theorem lm_1087 : lwIn (.instanceMethod yX12_tuplesOf) := List.mem_of_getElem? (i := 1615) (by decide +kernel)
set_option maxRecDepth 100000 in
theorem lm_1088 : lwIn (.methodLink RX12 310 yX12_tuplesOf) := List.mem_of_getElem? (i := 1613) (by decide +kernel)
set_option maxRecDepth 100000 in
theorem lm_1089 : lwIn (.code yX12_isSlid cX12_isSlid 3 (some .boolean)) := List.mem_of_getElem? (i := 1636) (by decide +kernel)
set_option maxRecDepth 100000 in
theorem lm_1090 : lwIn (.selects RX12 yX12_isSlid yX12_isSlid) := List.mem_of_getElem? (i := 80) (by decide +kernel)
set_option maxRecDepth 100000 in
theorem lm_1091 : lwIn (.instanceMethod yX12_isSlid) := List.mem_of_getElem? (i := 1635) (by decide +kernel)
set_option maxRecDepth 100000 in
theorem lm_1092 : lwIn (.methodLink RX12 301 yX12_isSlid) := List.mem_of_getElem? (i := 1633) (by decide +kernel)
set_option maxRecDepth 100000 in
theorem lm_1093 : lwIn (.code yX12_givenIn cX12_givenIn 7 (some .int)) := List.mem_of_getElem? (i := 1632) (by decide +kernel)
set_option maxRecDepth 100000 in
theorem lm_1094 : lwIn (.selects RX12 yX12_givenIn yX12_givenIn) := List.mem_of_getElem? (i := 79) (by decide +kernel)
set_option maxRecDepth 100000 in
theorem lm_1095 : lwIn (.instanceMethod yX12_givenIn) := List.mem_of_getElem? (i := 1631) (by decide +kernel)
set_option maxRecDepth 100000 in
theorem lm_1096 : lwIn (.methodLink RX12 294 yX12_givenIn) := List.mem_of_getElem? (i := 1629) (by decide +kernel)
set_option maxRecDepth 100000 in
theorem lm_1097 : lwIn (.code yX12_isCounted cX12_isCounted 3 (some .boolean)) := List.mem_of_getElem? (i := 1628) (by decide +kernel)
set_option maxRecDepth 100000 in
theorem lm_1098 : lwIn (.selects RX12 yX12_isCounted yX12_isCounted) := List.mem_of_getElem? (i := 78) (by decide +kernel)
set_option maxRecDepth 100000 in
theorem lm_1099 : lwIn (.instanceMethod yX12_isCounted) := List.mem_of_getElem? (i := 1627) (by decide +kernel)
set_option maxRecDepth 100000 in
theorem lm_1100 : lwIn (.methodLink RX12 298 yX12_isCounted) := List.mem_of_getElem? (i := 1625) (by decide +kernel)
set_option maxRecDepth 100000 in
theorem lm_1101 : lwIn (.code yX12_fulfils cX12_fulfils 4 (some .boolean)) := List.mem_of_getElem? (i := 1624) (by decide +kernel)
set_option maxRecDepth 100000 in
theorem lm_1102 : lwIn (.selects RX12 yX12_fulfils yX12_fulfils) := List.mem_of_getElem? (i := 77) (by decide +kernel)
set_option maxRecDepth 100000 in
theorem lm_1103 : lwIn (.instanceMethod yX12_fulfils) := List.mem_of_getElem? (i := 1623) (by decide +kernel)
set_option maxRecDepth 100000 in
theorem lm_1104 : lwIn (.methodLink RX12 307 yX12_fulfils) := List.mem_of_getElem? (i := 1621) (by decide +kernel)
set_option maxRecDepth 100000 in
theorem lm_1105 : lwIn (.code yX12_nextValue cX12_nextValue 4 (some .int)) := List.mem_of_getElem? (i := 1620) (by decide +kernel)
set_option maxRecDepth 100000 in
theorem lm_1106 : lwIn (.selects RX12 yX12_nextValue yX12_nextValue) := List.mem_of_getElem? (i := 76) (by decide +kernel)
set_option maxRecDepth 100000 in
theorem lm_1107 : lwIn (.instanceMethod yX12_nextValue) := List.mem_of_getElem? (i := 1619) (by decide +kernel)
set_option maxRecDepth 100000 in
theorem lm_1108 : lwIn (.codeWith yL_tightness cL_tightness 4 (some .int) [(0, 8, 11, 19), (0, 8, 14, 13)]) := List.mem_of_getElem? (i := 1116) (by decide +kernel)
set_option maxRecDepth 100000 in
theorem lm_1109 : lwIn (.selects RX11 yX11_tightness yX11_tightness) := List.mem_of_getElem? (i := 1119) (by decide +kernel)
set_option maxRecDepth 100000 in
theorem lm_1110 : lwIn (.instanceMethod yX11_tightness) := List.mem_of_getElem? (i := 1118) (by decide +kernel)
set_option maxRecDepth 100000 in
theorem lm_1111 : lwIn (.code yX11_tightness cX11_tightness 5 (some .double)) := List.mem_of_getElem? (i := 1120) (by decide +kernel)
set_option maxRecDepth 100000 in
theorem lm_1112 : lwIn (.methodLink RX11 300 yX5_assignments) := List.mem_of_getElem? (i := 1121) (by decide +kernel)
set_option maxRecDepth 100000 in
theorem lm_1113 : lwIn (.code yX12_tightness cX12_tightness 4 (some .double)) := List.mem_of_getElem? (i := 1640) (by decide +kernel)
set_option maxRecDepth 100000 in
theorem lm_1114 : lwIn (.code yX11_solutions cX11_solutions 1 (some .int)) := List.mem_of_getElem? (i := 377) (by decide +kernel)
set_option maxRecDepth 100000 in
theorem lm_1115 : lwIn (.selects RX6 yX6_openScope yX6_openScope) := List.mem_of_getElem? (i := 387) (by decide +kernel)
set_option maxRecDepth 100000 in
theorem lm_1116 : lwIn (.instanceMethod yX6_openScope) := List.mem_of_getElem? (i := 386) (by decide +kernel)
set_option maxRecDepth 100000 in
theorem lm_1117 : lwIn (.methodLink RX7 33 yX6_openScope) := List.mem_of_getElem? (i := 385) (by decide +kernel)
set_option maxRecDepth 100000 in
theorem lm_1118 : lwIn (.fieldLink RX7 50 "SupportSolver$Problem" "initial" "J") := List.mem_of_getElem? (i := 151) (by decide +kernel)
set_option maxRecDepth 100000 in
theorem lm_1119 : lwIn (.fieldLink RX7 41 "SupportSolver$Problem" "variables" "I") := List.mem_of_getElem? (i := 145) (by decide +kernel)
set_option maxRecDepth 100000 in
theorem lm_1120 : lwIn (.constantLong RX7 39 (-1)) := List.mem_of_getElem? (i := 466) (by decide +kernel)
set_option maxRecDepth 100000 in
theorem lm_1121 : lwIn (.code yX7_addFrom cX7_addFrom 9 none) := List.mem_of_getElem? (i := 384) (by decide +kernel)
set_option maxRecDepth 100000 in
theorem lm_1122 : lwIn (.static yX7_addFrom) := List.mem_of_getElem? (i := 383) (by decide +kernel)
set_option maxRecDepth 100000 in
theorem lm_1123 : lwIn (.methodLink RX7 29 yX7_addFrom) := List.mem_of_getElem? (i := 382) (by decide +kernel)
set_option maxRecDepth 100000 in
theorem lm_1124 : lwIn (.code yX7_find cX7_find 4 none) := List.mem_of_getElem? (i := 381) (by decide +kernel)
set_option maxRecDepth 100000 in
theorem lm_1125 : lwIn (.selects RX7 yX7_find yX7_find) := List.mem_of_getElem? (i := 380) (by decide +kernel)
set_option maxRecDepth 100000 in
theorem lm_1126 : lwIn (.instanceMethod yX7_find) := List.mem_of_getElem? (i := 379) (by decide +kernel)
set_option maxRecDepth 100000 in
theorem lm_1127 : lwIn (.methodLink RX11 306 yX7_find) := List.mem_of_getElem? (i := 378) (by decide +kernel)
set_option maxRecDepth 100000 in
theorem lm_1128 : lwIn (.fieldLink RX11 310 "SupportSolver$Solutions" "count" "I") := List.mem_of_getElem? (i := 319) (by decide +kernel)
set_option maxRecDepth 100000 in
theorem lm_1129 : lwIn (.methodLink RX6 40 ⟨"SupportSolver$Constraint", "verdict", "(J)I"⟩) := List.mem_of_getElem? (i := 394) (by decide +kernel)
set_option maxRecDepth 100000 in
theorem lm_1130 : lwIn (.methodLink RX6 36 yX6_constraintAt) := List.mem_of_getElem? (i := 390) (by decide +kernel)
set_option maxRecDepth 100000 in
theorem lm_1131 : lwIn (.fieldLink RX6 44 "SupportSolver$Constraint" "scope" "J") := List.mem_of_getElem? (i := 296) (by decide +kernel)
set_option maxRecDepth 100000 in
theorem lm_1132 : lwIn (.constantLong RX6 34 (-1)) := List.mem_of_getElem? (i := 389) (by decide +kernel)
set_option maxRecDepth 100000 in
theorem lm_1133 : lwIn (.code yX6_openScope cX6_openScope 8 (some .long)) := List.mem_of_getElem? (i := 388) (by decide +kernel)
set_option maxRecDepth 100000 in
theorem lm_1134 : lwIn (.methodLink RX7 61 yX5_has) := List.mem_of_getElem? (i := 481) (by decide +kernel)
set_option maxRecDepth 100000 in
theorem lm_1135 : lwIn (.methodLink RX7 69 yX5_leastOfEach) := List.mem_of_getElem? (i := 478) (by decide +kernel)
set_option maxRecDepth 100000 in
theorem lm_1136 : lwIn (.code yX7_addAll cX7_addAll 4 none) := List.mem_of_getElem? (i := 477) (by decide +kernel)
set_option maxRecDepth 100000 in
theorem lm_1137 : lwIn (.selects RX7 yX7_addAll yX7_addAll) := List.mem_of_getElem? (i := 0) (by decide +kernel)
set_option maxRecDepth 100000 in
theorem lm_1138 : lwIn (.instanceMethod yX7_addAll) := List.mem_of_getElem? (i := 476) (by decide +kernel)
set_option maxRecDepth 100000 in
theorem lm_1139 : lwIn (.methodLink RX7 57 yX7_addAll) := List.mem_of_getElem? (i := 474) (by decide +kernel)
set_option maxRecDepth 100000 in
theorem lm_1140 : lwIn (.methodLink RX7 53 yX5_assignments) := List.mem_of_getElem? (i := 468) (by decide +kernel)
set_option maxRecDepth 100000 in
theorem lm_1141 : lwIn (.methodLink RX7 44 yX5_allOf) := List.mem_of_getElem? (i := 467) (by decide +kernel)
set_option maxRecDepth 100000 in
theorem lm_1142 : lwIn (.methodLink RX7 65 yX5_narrowed) := List.mem_of_getElem? (i := 490) (by decide +kernel)
set_option maxRecDepth 100000 in
theorem lm_1143 : lwIn (.code yX12_solutions cX12_solutions 1 (some .int)) := List.mem_of_getElem? (i := 1644) (by decide +kernel)
set_option maxRecDepth 100000 in
theorem lm_1144 : lwIn (.code yX12_fits cX12_fits 3 (some .boolean)) := List.mem_of_getElem? (i := 1652) (by decide +kernel)
set_option maxRecDepth 100000 in
theorem lm_1145 : lwIn (.selects RX12 yX12_fits yX12_fits) := List.mem_of_getElem? (i := 82) (by decide +kernel)
set_option maxRecDepth 100000 in
theorem lm_1146 : lwIn (.instanceMethod yX12_fits) := List.mem_of_getElem? (i := 1651) (by decide +kernel)
set_option maxRecDepth 100000 in
theorem lm_1147 : lwIn (.methodLink RX12 313 yX12_fits) := List.mem_of_getElem? (i := 1649) (by decide +kernel)
set_option maxRecDepth 100000 in
theorem lm_1148 : lwIn (.code yX12_solves cX12_solves 3 (some .int)) := List.mem_of_getElem? (i := 1648) (by decide +kernel)
set_option maxRecDepth 100000 in
theorem lm_1149 : lwIn (.selects RX12 yX12_solves yX12_solves) := List.mem_of_getElem? (i := 81) (by decide +kernel)
set_option maxRecDepth 100000 in
theorem lm_1150 : lwIn (.instanceMethod yX12_solves) := List.mem_of_getElem? (i := 1647) (by decide +kernel)
set_option maxRecDepth 100000 in
theorem lm_1151 : lwIn (.methodLink RX12 319 yX12_solves) := List.mem_of_getElem? (i := 1645) (by decide +kernel)
set_option maxRecDepth 100000 in
theorem lm_1152 : lwIn (.code yX12_meets cX12_meets 3 none) := List.mem_of_getElem? (i := 1656) (by decide +kernel)
set_option maxRecDepth 100000 in
theorem lm_1153 : lwIn (.selects RX12 yX12_meets yX12_meets) := List.mem_of_getElem? (i := 83) (by decide +kernel)
set_option maxRecDepth 100000 in
theorem lm_1154 : lwIn (.instanceMethod yX12_meets) := List.mem_of_getElem? (i := 1655) (by decide +kernel)
set_option maxRecDepth 100000 in
theorem lm_1155 : lwIn (.methodLink RX12 316 yX12_meets) := List.mem_of_getElem? (i := 1653) (by decide +kernel)
set_option maxRecDepth 100000 in
theorem lm_1156 : lwIn (.codeWith yL_first cL_first 4 (some .int) [(0, 9, 12, 19), (0, 9, 15, 43)]) := List.mem_of_getElem? (i := 1125) (by decide +kernel)
set_option maxRecDepth 100000 in
theorem lm_1157 : lwIn (.selects RX11 yX11_first yX11_first) := List.mem_of_getElem? (i := 1128) (by decide +kernel)
set_option maxRecDepth 100000 in
theorem lm_1158 : lwIn (.instanceMethod yX11_first) := List.mem_of_getElem? (i := 1127) (by decide +kernel)
set_option maxRecDepth 100000 in
theorem lm_1159 : lwIn (.code yX11_first cX11_first 2 (some .int)) := List.mem_of_getElem? (i := 1129) (by decide +kernel)
set_option maxRecDepth 100000 in
theorem lm_1160 : lwIn (.fieldLink RX11 315 "SupportSolver$Solutions" "least" "J") := List.mem_of_getElem? (i := 321) (by decide +kernel)
set_option maxRecDepth 100000 in
theorem lm_1161 : lwIn (.code yX12_first cX12_first 2 (some .int)) := List.mem_of_getElem? (i := 1660) (by decide +kernel)
set_option maxRecDepth 100000 in
theorem lm_1162 : lwIn (.codeWith yL_possible cL_possible 4 (some .int) [(0, 9, 12, 19)]) := List.mem_of_getElem? (i := 1133) (by decide +kernel)
set_option maxRecDepth 100000 in
theorem lm_1163 : lwIn (.selects RX11 yX11_possible yX11_possible) := List.mem_of_getElem? (i := 1136) (by decide +kernel)
set_option maxRecDepth 100000 in
theorem lm_1164 : lwIn (.instanceMethod yX11_possible) := List.mem_of_getElem? (i := 1135) (by decide +kernel)
set_option maxRecDepth 100000 in
theorem lm_1165 : lwIn (.code yX11_possible cX11_possible 2 (some .int)) := List.mem_of_getElem? (i := 1137) (by decide +kernel)
set_option maxRecDepth 100000 in
theorem lm_1166 : lwIn (.fieldLink RX11 318 "SupportSolver$Solutions" "united" "J") := List.mem_of_getElem? (i := 323) (by decide +kernel)
set_option maxRecDepth 100000 in
theorem lm_1167 : lwIn (.code yX12_possible cX12_possible 2 (some .int)) := List.mem_of_getElem? (i := 1664) (by decide +kernel)
set_option maxRecDepth 100000 in
theorem lm_1168 : lwIn (.code yX11_overlooked cX11_overlooked 1 (some .int)) := List.mem_of_getElem? (i := 497) (by decide +kernel)
set_option maxRecDepth 100000 in
theorem lm_1169 : lwIn (.code yX12_overlooked cX12_overlooked 4 (some .int)) := List.mem_of_getElem? (i := 1668) (by decide +kernel)
set_option maxRecDepth 100000 in
theorem lm_1170 : lwIn (.codeWith yL_forbid cL_forbid 5 (some .int) [(0, 10, 13, 19), (0, 10, 17, 25), (0, 10, 21, 13)]) := List.mem_of_getElem? (i := 1140) (by decide +kernel)
set_option maxRecDepth 100000 in
theorem lm_1171 : lwIn (.selects RX11 yX11_forbid yX11_forbid) := List.mem_of_getElem? (i := 1143) (by decide +kernel)
set_option maxRecDepth 100000 in
theorem lm_1172 : lwIn (.instanceMethod yX11_forbid) := List.mem_of_getElem? (i := 1142) (by decide +kernel)
set_option maxRecDepth 100000 in
theorem lm_1173 : lwIn (.code yX11_forbid cX11_forbid 4 (some .int)) := List.mem_of_getElem? (i := 1144) (by decide +kernel)
set_option maxRecDepth 100000 in
theorem lm_1174 : lwIn (.code yX12_forbid cX12_forbid 4 (some .int)) := List.mem_of_getElem? (i := 1672) (by decide +kernel)
set_option maxRecDepth 100000 in
theorem lm_1175 : lwIn (.code yX12_isValue cX12_isValue 3 (some .boolean)) := List.mem_of_getElem? (i := 1676) (by decide +kernel)
set_option maxRecDepth 100000 in
theorem lm_1176 : lwIn (.selects RX12 yX12_isValue yX12_isValue) := List.mem_of_getElem? (i := 84) (by decide +kernel)
set_option maxRecDepth 100000 in
theorem lm_1177 : lwIn (.instanceMethod yX12_isValue) := List.mem_of_getElem? (i := 1675) (by decide +kernel)
set_option maxRecDepth 100000 in
theorem lm_1178 : lwIn (.methodLink RX12 322 yX12_isValue) := List.mem_of_getElem? (i := 1673) (by decide +kernel)
set_option maxRecDepth 100000 in
theorem lm_1179 : lwIn (.code yX12_factsFrom cX12_factsFrom 2 (some .int)) := List.mem_of_getElem? (i := 1680) (by decide +kernel)
set_option maxRecDepth 100000 in
theorem lm_1180 : lwIn (.selects RX12 yX12_factsFrom yX12_factsFrom) := List.mem_of_getElem? (i := 85) (by decide +kernel)
set_option maxRecDepth 100000 in
theorem lm_1181 : lwIn (.instanceMethod yX12_factsFrom) := List.mem_of_getElem? (i := 1679) (by decide +kernel)
set_option maxRecDepth 100000 in
theorem lm_1182 : lwIn (.methodLink RX12 325 yX12_factsFrom) := List.mem_of_getElem? (i := 1677) (by decide +kernel)
set_option maxRecDepth 100000 in
theorem lm_1183 : lwIn (.codeWith yL_decide cL_decide 5 (some .int) [(0, 10, 13, 19), (0, 10, 17, 25), (0, 10, 21, 13)]) := List.mem_of_getElem? (i := 1149) (by decide +kernel)
set_option maxRecDepth 100000 in
theorem lm_1184 : lwIn (.selects RX11 yX11_decide yX11_decide) := List.mem_of_getElem? (i := 1152) (by decide +kernel)
set_option maxRecDepth 100000 in
theorem lm_1185 : lwIn (.instanceMethod yX11_decide) := List.mem_of_getElem? (i := 1151) (by decide +kernel)
set_option maxRecDepth 100000 in
theorem lm_1186 : lwIn (.code yX11_decide cX11_decide 4 (some .int)) := List.mem_of_getElem? (i := 1153) (by decide +kernel)
set_option maxRecDepth 100000 in
theorem lm_1187 : lwIn (.methodLink RX9 68 yX5_pair) := List.mem_of_getElem? (i := 1163) (by decide +kernel)
set_option maxRecDepth 100000 in
theorem lm_1188 : lwIn (.code yX9_assume cX9_assume 4 none) := List.mem_of_getElem? (i := 1162) (by decide +kernel)
set_option maxRecDepth 100000 in
theorem lm_1189 : lwIn (.selects RX9 yX9_assume yX9_assume) := List.mem_of_getElem? (i := 1161) (by decide +kernel)
set_option maxRecDepth 100000 in
theorem lm_1190 : lwIn (.instanceMethod yX9_assume) := List.mem_of_getElem? (i := 1160) (by decide +kernel)
set_option maxRecDepth 100000 in
theorem lm_1191 : lwIn (.methodLink RX11 335 yX9_assume) := List.mem_of_getElem? (i := 1159) (by decide +kernel)
set_option maxRecDepth 100000 in
theorem lm_1192 : lwIn (.code yX11_makeDecision cX11_makeDecision 3 none) := List.mem_of_getElem? (i := 1158) (by decide +kernel)
set_option maxRecDepth 100000 in
theorem lm_1193 : lwIn (.selects RX11 yX11_makeDecision yX11_makeDecision) := List.mem_of_getElem? (i := 30) (by decide +kernel)
set_option maxRecDepth 100000 in
theorem lm_1194 : lwIn (.instanceMethod yX11_makeDecision) := List.mem_of_getElem? (i := 1157) (by decide +kernel)
set_option maxRecDepth 100000 in
theorem lm_1195 : lwIn (.methodLink RX11 331 yX11_makeDecision) := List.mem_of_getElem? (i := 1155) (by decide +kernel)
set_option maxRecDepth 100000 in
theorem lm_1196 : lwIn (.methodLink RX9 75 yX9_remove) := List.mem_of_getElem? (i := 1165) (by decide +kernel)
set_option maxRecDepth 100000 in
theorem lm_1197 : lwIn (.methodLink RX9 71 yX5_has) := List.mem_of_getElem? (i := 1164) (by decide +kernel)
set_option maxRecDepth 100000 in
theorem lm_1198 : lwIn (.code yX12_decide cX12_decide 3 (some .int)) := List.mem_of_getElem? (i := 1684) (by decide +kernel)
set_option maxRecDepth 100000 in
theorem lm_1199 : lwIn (.code yX12_mayDecide cX12_mayDecide 3 (some .boolean)) := List.mem_of_getElem? (i := 1688) (by decide +kernel)
set_option maxRecDepth 100000 in
theorem lm_1200 : lwIn (.selects RX12 yX12_mayDecide yX12_mayDecide) := List.mem_of_getElem? (i := 86) (by decide +kernel)
set_option maxRecDepth 100000 in
theorem lm_1201 : lwIn (.instanceMethod yX12_mayDecide) := List.mem_of_getElem? (i := 1687) (by decide +kernel)
set_option maxRecDepth 100000 in
theorem lm_1202 : lwIn (.methodLink RX12 328 yX12_mayDecide) := List.mem_of_getElem? (i := 1685) (by decide +kernel)
set_option maxRecDepth 100000 in
theorem lm_1203 : lwIn (.code yX12_decides cX12_decides 5 (some .int)) := List.mem_of_getElem? (i := 1692) (by decide +kernel)
set_option maxRecDepth 100000 in
theorem lm_1204 : lwIn (.selects RX12 yX12_decides yX12_decides) := List.mem_of_getElem? (i := 87) (by decide +kernel)
set_option maxRecDepth 100000 in
theorem lm_1205 : lwIn (.instanceMethod yX12_decides) := List.mem_of_getElem? (i := 1691) (by decide +kernel)
set_option maxRecDepth 100000 in
theorem lm_1206 : lwIn (.methodLink RX12 331 yX12_decides) := List.mem_of_getElem? (i := 1689) (by decide +kernel)
set_option maxRecDepth 100000 in
theorem lm_1207 : lwIn (.codeWith yL_back cL_back 3 (some .int) [(0, 8, 11, 13)]) := List.mem_of_getElem? (i := 1168) (by decide +kernel)
set_option maxRecDepth 100000 in
theorem lm_1208 : lwIn (.selects RX11 yX11_back yX11_back) := List.mem_of_getElem? (i := 1171) (by decide +kernel)
set_option maxRecDepth 100000 in
theorem lm_1209 : lwIn (.instanceMethod yX11_back) := List.mem_of_getElem? (i := 1170) (by decide +kernel)
set_option maxRecDepth 100000 in
theorem lm_1210 : lwIn (.code yX11_back cX11_back 1 (some .int)) := List.mem_of_getElem? (i := 1172) (by decide +kernel)
set_option maxRecDepth 100000 in
theorem lm_1211 : lwIn (.code yX9_takeBack cX9_takeBack 4 (some .int)) := List.mem_of_getElem? (i := 507) (by decide +kernel)
set_option maxRecDepth 100000 in
theorem lm_1212 : lwIn (.selects RX9 yX9_takeBack yX9_takeBack) := List.mem_of_getElem? (i := 506) (by decide +kernel)
set_option maxRecDepth 100000 in
theorem lm_1213 : lwIn (.instanceMethod yX9_takeBack) := List.mem_of_getElem? (i := 505) (by decide +kernel)
set_option maxRecDepth 100000 in
theorem lm_1214 : lwIn (.methodLink RX11 340 yX9_takeBack) := List.mem_of_getElem? (i := 504) (by decide +kernel)
set_option maxRecDepth 100000 in
theorem lm_1215 : lwIn (.code yX12_back cX12_back 1 (some .int)) := List.mem_of_getElem? (i := 1696) (by decide +kernel)
set_option maxRecDepth 100000 in
theorem lm_1216 : lwIn (.code yX12_takesBack cX12_takesBack 2 (some .int)) := List.mem_of_getElem? (i := 1700) (by decide +kernel)
set_option maxRecDepth 100000 in
theorem lm_1217 : lwIn (.selects RX12 yX12_takesBack yX12_takesBack) := List.mem_of_getElem? (i := 88) (by decide +kernel)
set_option maxRecDepth 100000 in
theorem lm_1218 : lwIn (.instanceMethod yX12_takesBack) := List.mem_of_getElem? (i := 1699) (by decide +kernel)
set_option maxRecDepth 100000 in
theorem lm_1219 : lwIn (.methodLink RX12 334 yX12_takesBack) := List.mem_of_getElem? (i := 1697) (by decide +kernel)
set_option maxRecDepth 100000 in
theorem lm_1220 : lwIn (.codeWith yL_decision cL_decision 4 (some .int) [(0, 9, 12, 19)]) := List.mem_of_getElem? (i := 1176) (by decide +kernel)
set_option maxRecDepth 100000 in
theorem lm_1221 : lwIn (.selects RX11 yX11_decision yX11_decision) := List.mem_of_getElem? (i := 1179) (by decide +kernel)
set_option maxRecDepth 100000 in
theorem lm_1222 : lwIn (.instanceMethod yX11_decision) := List.mem_of_getElem? (i := 1178) (by decide +kernel)
set_option maxRecDepth 100000 in
theorem lm_1223 : lwIn (.code yX11_decision cX11_decision 2 (some .int)) := List.mem_of_getElem? (i := 1180) (by decide +kernel)
set_option maxRecDepth 100000 in
theorem lm_1224 : lwIn (.code yX5_toldPair cX5_toldPair 5 (some .int)) := List.mem_of_getElem? (i := 1188) (by decide +kernel)
set_option maxRecDepth 100000 in
theorem lm_1225 : lwIn (.static yX5_toldPair) := List.mem_of_getElem? (i := 1187) (by decide +kernel)
set_option maxRecDepth 100000 in
theorem lm_1226 : lwIn (.methodLink RX11 348 yX5_toldPair) := List.mem_of_getElem? (i := 1186) (by decide +kernel)
set_option maxRecDepth 100000 in
theorem lm_1227 : lwIn (.code yX9_decisionAt cX9_decisionAt 2 (some .long)) := List.mem_of_getElem? (i := 1185) (by decide +kernel)
set_option maxRecDepth 100000 in
theorem lm_1228 : lwIn (.selects RX9 yX9_decisionAt yX9_decisionAt) := List.mem_of_getElem? (i := 1184) (by decide +kernel)
set_option maxRecDepth 100000 in
theorem lm_1229 : lwIn (.instanceMethod yX9_decisionAt) := List.mem_of_getElem? (i := 1183) (by decide +kernel)
set_option maxRecDepth 100000 in
theorem lm_1230 : lwIn (.methodLink RX11 345 yX9_decisionAt) := List.mem_of_getElem? (i := 1182) (by decide +kernel)
set_option maxRecDepth 100000 in
theorem lm_1231 : lwIn (.code yX12_decision cX12_decision 2 (some .int)) := List.mem_of_getElem? (i := 1704) (by decide +kernel)
set_option maxRecDepth 100000 in
theorem lm_1232 : lwIn (.codeWith yL_probe cL_probe 5 (some .int) [(0, 10, 13, 19), (0, 10, 17, 25), (0, 10, 21, 13)]) := List.mem_of_getElem? (i := 1191) (by decide +kernel)
set_option maxRecDepth 100000 in
theorem lm_1233 : lwIn (.selects RX11 yX11_probe yX11_probe) := List.mem_of_getElem? (i := 1194) (by decide +kernel)
set_option maxRecDepth 100000 in
theorem lm_1234 : lwIn (.instanceMethod yX11_probe) := List.mem_of_getElem? (i := 1193) (by decide +kernel)
set_option maxRecDepth 100000 in
theorem lm_1235 : lwIn (.code yX11_probe cX11_probe 3 (some .int)) := List.mem_of_getElem? (i := 1195) (by decide +kernel)
set_option maxRecDepth 100000 in
theorem lm_1236 : lwIn (.code yX12_probe cX12_probe 6 (some .int)) := List.mem_of_getElem? (i := 1708) (by decide +kernel)
set_option maxRecDepth 100000 in
theorem lm_1237 : lwIn (.codeWith yL_learn cL_learn 3 (some .int) [(0, 8, 11, 13)]) := List.mem_of_getElem? (i := 1198) (by decide +kernel)
set_option maxRecDepth 100000 in
theorem lm_1238 : lwIn (.selects RX11 yX11_learn yX11_learn) := List.mem_of_getElem? (i := 1201) (by decide +kernel)
set_option maxRecDepth 100000 in
theorem lm_1239 : lwIn (.instanceMethod yX11_learn) := List.mem_of_getElem? (i := 1200) (by decide +kernel)
set_option maxRecDepth 100000 in
theorem lm_1240 : lwIn (.code yX11_learn cX11_learn 1 (some .int)) := List.mem_of_getElem? (i := 1202) (by decide +kernel)
set_option maxRecDepth 100000 in
theorem lm_1241 : lwIn (.code yX9_groundDomains cX9_groundDomains 7 (some .long)) := List.mem_of_getElem? (i := 1211) (by decide +kernel)
set_option maxRecDepth 100000 in
theorem lm_1242 : lwIn (.selects RX9 yX9_groundDomains yX9_groundDomains) := List.mem_of_getElem? (i := 1210) (by decide +kernel)
set_option maxRecDepth 100000 in
theorem lm_1243 : lwIn (.instanceMethod yX9_groundDomains) := List.mem_of_getElem? (i := 1209) (by decide +kernel)
set_option maxRecDepth 100000 in
theorem lm_1244 : lwIn (.methodLink RX11 363 yX9_groundDomains) := List.mem_of_getElem? (i := 1208) (by decide +kernel)
set_option maxRecDepth 100000 in
theorem lm_1245 : lwIn (.code yX11_learnFromFailure cX11_learnFromFailure 8 (some .int)) := List.mem_of_getElem? (i := 1207) (by decide +kernel)
set_option maxRecDepth 100000 in
theorem lm_1246 : lwIn (.selects RX11 yX11_learnFromFailure yX11_learnFromFailure) := List.mem_of_getElem? (i := 31) (by decide +kernel)
set_option maxRecDepth 100000 in
theorem lm_1247 : lwIn (.instanceMethod yX11_learnFromFailure) := List.mem_of_getElem? (i := 1206) (by decide +kernel)
set_option maxRecDepth 100000 in
theorem lm_1248 : lwIn (.methodLink RX11 360 yX11_learnFromFailure) := List.mem_of_getElem? (i := 1204) (by decide +kernel)
set_option maxRecDepth 100000 in
theorem lm_1249 : lwIn (.code yX5_assigned cX5_assigned 4 (some .long)) := List.mem_of_getElem? (i := 1214) (by decide +kernel)
set_option maxRecDepth 100000 in
theorem lm_1250 : lwIn (.static yX5_assigned) := List.mem_of_getElem? (i := 1213) (by decide +kernel)
set_option maxRecDepth 100000 in
theorem lm_1251 : lwIn (.methodLink RX11 367 yX5_assigned) := List.mem_of_getElem? (i := 1212) (by decide +kernel)
set_option maxRecDepth 100000 in
theorem lm_1252 : lwIn (.static arraycopyName) := List.mem_of_getElem? (i := 1220) (by decide +kernel)
set_option maxRecDepth 100000 in
theorem lm_1253 : lwIn (.native arraycopyName) := List.mem_of_getElem? (i := 1221) (by decide +kernel)
set_option maxRecDepth 100000 in
theorem lm_1254 : lwIn (.methodLink RX11 374 arraycopyName) := List.mem_of_getElem? (i := 1219) (by decide +kernel)
set_option maxRecDepth 100000 in
theorem lm_1255 : lwIn (.code yX11_keepSet cX11_keepSet 3 none) := List.mem_of_getElem? (i := 1218) (by decide +kernel)
set_option maxRecDepth 100000 in
theorem lm_1256 : lwIn (.selects RX11 yX11_keepSet yX11_keepSet) := List.mem_of_getElem? (i := 32) (by decide +kernel)
set_option maxRecDepth 100000 in
theorem lm_1257 : lwIn (.instanceMethod yX11_keepSet) := List.mem_of_getElem? (i := 1217) (by decide +kernel)
set_option maxRecDepth 100000 in
theorem lm_1258 : lwIn (.methodLink RX11 371 yX11_keepSet) := List.mem_of_getElem? (i := 1215) (by decide +kernel)
set_option maxRecDepth 100000 in
theorem lm_1259 : lwIn (.code yX12_learn cX12_learn 1 (some .int)) := List.mem_of_getElem? (i := 1712) (by decide +kernel)
set_option maxRecDepth 100000 in
theorem lm_1260 : lwIn (.code yX12_makeFail cX12_makeFail 3 (some .boolean)) := List.mem_of_getElem? (i := 1720) (by decide +kernel)
set_option maxRecDepth 100000 in
theorem lm_1261 : lwIn (.selects RX12 yX12_makeFail yX12_makeFail) := List.mem_of_getElem? (i := 90) (by decide +kernel)
set_option maxRecDepth 100000 in
theorem lm_1262 : lwIn (.instanceMethod yX12_makeFail) := List.mem_of_getElem? (i := 1719) (by decide +kernel)
set_option maxRecDepth 100000 in
theorem lm_1263 : lwIn (.methodLink RX12 337 yX12_makeFail) := List.mem_of_getElem? (i := 1717) (by decide +kernel)
set_option maxRecDepth 100000 in
theorem lm_1264 : lwIn (.code yX12_learns cX12_learns 4 (some .int)) := List.mem_of_getElem? (i := 1716) (by decide +kernel)
set_option maxRecDepth 100000 in
theorem lm_1265 : lwIn (.selects RX12 yX12_learns yX12_learns) := List.mem_of_getElem? (i := 89) (by decide +kernel)
set_option maxRecDepth 100000 in
theorem lm_1266 : lwIn (.instanceMethod yX12_learns) := List.mem_of_getElem? (i := 1715) (by decide +kernel)
set_option maxRecDepth 100000 in
theorem lm_1267 : lwIn (.methodLink RX12 340 yX12_learns) := List.mem_of_getElem? (i := 1713) (by decide +kernel)
set_option maxRecDepth 100000 in
theorem lm_1268 : lwIn (.codeWith yL_learnt cL_learnt 5 (some .int) [(0, 10, 13, 19)]) := List.mem_of_getElem? (i := 1224) (by decide +kernel)
set_option maxRecDepth 100000 in
theorem lm_1269 : lwIn (.selects RX11 yX11_learnt yX11_learnt) := List.mem_of_getElem? (i := 1227) (by decide +kernel)
set_option maxRecDepth 100000 in
theorem lm_1270 : lwIn (.instanceMethod yX11_learnt) := List.mem_of_getElem? (i := 1226) (by decide +kernel)
set_option maxRecDepth 100000 in
theorem lm_1271 : lwIn (.code yX11_learnt cX11_learnt 3 (some .int)) := List.mem_of_getElem? (i := 1228) (by decide +kernel)
set_option maxRecDepth 100000 in
theorem lm_1272 : lwIn (.code yX12_learnt cX12_learnt 4 (some .int)) := List.mem_of_getElem? (i := 1724) (by decide +kernel)
set_option maxRecDepth 100000 in
theorem lm_1273 : lwIn (.codeWith yL_search cL_search 4 (some .int) [(0, 9, 12, 25)]) := List.mem_of_getElem? (i := 1232) (by decide +kernel)
set_option maxRecDepth 100000 in
theorem lm_1274 : lwIn (.selects RX11 yX11_search yX11_search) := List.mem_of_getElem? (i := 1235) (by decide +kernel)
set_option maxRecDepth 100000 in
theorem lm_1275 : lwIn (.instanceMethod yX11_search) := List.mem_of_getElem? (i := 1234) (by decide +kernel)
set_option maxRecDepth 100000 in
theorem lm_1276 : lwIn (.code yX11_search cX11_search 5 (some .int)) := List.mem_of_getElem? (i := 1236) (by decide +kernel)
set_option maxRecDepth 100000 in
theorem lm_1277 : lwIn (.code yX11_variableToDecide cX11_variableToDecide 5 (some .int)) := List.mem_of_getElem? (i := 1241) (by decide +kernel)
set_option maxRecDepth 100000 in
theorem lm_1278 : lwIn (.selects RX11 yX11_variableToDecide yX11_variableToDecide) := List.mem_of_getElem? (i := 33) (by decide +kernel)
set_option maxRecDepth 100000 in
theorem lm_1279 : lwIn (.instanceMethod yX11_variableToDecide) := List.mem_of_getElem? (i := 1240) (by decide +kernel)
set_option maxRecDepth 100000 in
theorem lm_1280 : lwIn (.methodLink RX11 384 yX11_variableToDecide) := List.mem_of_getElem? (i := 1238) (by decide +kernel)
set_option maxRecDepth 100000 in
theorem lm_1281 : lwIn (.code yX12_search cX12_search 5 (some .int)) := List.mem_of_getElem? (i := 1728) (by decide +kernel)
set_option maxRecDepth 100000 in
theorem lm_1282 : lwIn (.instanceMethod yX12_chosen) := List.mem_of_getElem? (i := 1731) (by decide +kernel)
set_option maxRecDepth 100000 in
theorem lm_1283 : lwIn (.methodLink RX12 343 yX12_chosen) := List.mem_of_getElem? (i := 1729) (by decide +kernel)
set_option maxRecDepth 100000 in
theorem lm_1284 : lwIn (.code yX12_chosen cX12_chosen 4 (some .int)) := List.mem_of_getElem? (i := 1732) (by decide +kernel)
set_option maxRecDepth 100000 in
theorem lm_1285 : lwIn (.selects RX12 yX12_chosen yX12_chosen) := List.mem_of_getElem? (i := 91) (by decide +kernel)
set_option maxRecDepth 100000 in
theorem lm_1286 : lwIn (.code yX11_restart cX11_restart 3 (some .int)) := List.mem_of_getElem? (i := 503) (by decide +kernel)
set_option maxRecDepth 100000 in
theorem lm_1287 : lwIn (.code yX12_restart cX12_restart 3 (some .int)) := List.mem_of_getElem? (i := 1736) (by decide +kernel)
set_option maxRecDepth 100000 in
theorem la_0 : ∀ w ∈ (wsX110), lwIn w := by unfold lwIn; decide +kernel
set_option maxRecDepth 100000 in
theorem la_1 : ∀ w ∈ (wsX120), lwIn w := by unfold lwIn; decide +kernel
set_option maxRecDepth 100000 in
theorem lr_wsX11_init_r1 : ∀ w ∈ wsX11_init_r1, lwIn w := (List.forall_mem_cons.mpr ⟨lm_255, (List.forall_mem_cons.mpr ⟨lm_254, (List.forall_mem_cons.mpr ⟨lm_253, (List.forall_mem_cons.mpr ⟨lm_252, (List.forall_mem_cons.mpr ⟨lm_230, (List.forall_mem_cons.mpr ⟨lm_229, (List.forall_mem_cons.mpr ⟨lm_251, (List.forall_mem_cons.mpr ⟨lm_250, (List.forall_mem_cons.mpr ⟨lm_228, (List.forall_mem_cons.mpr ⟨lm_227, (List.forall_mem_cons.mpr ⟨lm_249, (List.forall_mem_cons.mpr ⟨lm_248, (List.forall_mem_cons.mpr ⟨lm_247, (List.forall_mem_cons.mpr ⟨lm_226, (List.forall_mem_cons.mpr ⟨lm_225, (List.forall_mem_cons.mpr ⟨lm_246, (List.forall_mem_cons.mpr ⟨lm_245, (List.forall_mem_cons.mpr ⟨lm_224, (List.forall_mem_cons.mpr ⟨lm_223, (List.forall_mem_cons.mpr ⟨lm_244, (List.forall_mem_cons.mpr ⟨lm_234, (List.forall_mem_cons.mpr ⟨lm_243, (List.forall_mem_cons.mpr ⟨lm_242, (List.forall_mem_cons.mpr ⟨lm_222, (fun _ h => absurd h List.not_mem_nil)⟩)⟩)⟩)⟩)⟩)⟩)⟩)⟩)⟩)⟩)⟩)⟩)⟩)⟩)⟩)⟩)⟩)⟩)⟩)⟩)⟩)⟩)⟩)⟩)
set_option maxRecDepth 100000 in
theorem lr_wsX11_init_r2 : ∀ w ∈ wsX11_init_r2, lwIn w := (List.forall_mem_cons.mpr ⟨lm_221, (List.forall_mem_cons.mpr ⟨lm_276, (List.forall_mem_cons.mpr ⟨lm_275, (List.forall_mem_cons.mpr ⟨lm_274, (List.forall_mem_cons.mpr ⟨lm_273, (List.forall_mem_cons.mpr ⟨lm_272, (List.forall_mem_cons.mpr ⟨lm_271, (List.forall_mem_cons.mpr ⟨lm_220, (List.forall_mem_cons.mpr ⟨lm_270, (List.forall_mem_cons.mpr ⟨lm_219, (List.forall_mem_cons.mpr ⟨lm_269, (List.forall_mem_cons.mpr ⟨lm_268, (List.forall_mem_cons.mpr ⟨lm_267, (List.forall_mem_cons.mpr ⟨lm_266, (List.forall_mem_cons.mpr ⟨lm_265, (List.forall_mem_cons.mpr ⟨lm_264, (List.forall_mem_cons.mpr ⟨lm_263, (List.forall_mem_cons.mpr ⟨lm_262, (List.forall_mem_cons.mpr ⟨lm_261, (List.forall_mem_cons.mpr ⟨lm_260, (List.forall_mem_cons.mpr ⟨lm_259, (List.forall_mem_cons.mpr ⟨lm_258, (List.forall_mem_cons.mpr ⟨lm_257, (List.forall_mem_cons.mpr ⟨lm_256, (fun _ h => absurd h List.not_mem_nil)⟩)⟩)⟩)⟩)⟩)⟩)⟩)⟩)⟩)⟩)⟩)⟩)⟩)⟩)⟩)⟩)⟩)⟩)⟩)⟩)⟩)⟩)⟩)⟩)
set_option maxRecDepth 100000 in
theorem lr_wsX11_init_r3 : ∀ w ∈ wsX11_init_r3, lwIn w := (List.forall_mem_cons.mpr ⟨lm_298, (List.forall_mem_cons.mpr ⟨lm_297, (List.forall_mem_cons.mpr ⟨lm_296, (List.forall_mem_cons.mpr ⟨lm_295, (List.forall_mem_cons.mpr ⟨lm_294, (List.forall_mem_cons.mpr ⟨lm_293, (List.forall_mem_cons.mpr ⟨lm_292, (List.forall_mem_cons.mpr ⟨lm_291, (List.forall_mem_cons.mpr ⟨lm_290, (List.forall_mem_cons.mpr ⟨lm_289, (List.forall_mem_cons.mpr ⟨lm_288, (List.forall_mem_cons.mpr ⟨lm_287, (List.forall_mem_cons.mpr ⟨lm_286, (List.forall_mem_cons.mpr ⟨lm_285, (List.forall_mem_cons.mpr ⟨lm_284, (List.forall_mem_cons.mpr ⟨lm_218, (List.forall_mem_cons.mpr ⟨lm_217, (List.forall_mem_cons.mpr ⟨lm_283, (List.forall_mem_cons.mpr ⟨lm_282, (List.forall_mem_cons.mpr ⟨lm_281, (List.forall_mem_cons.mpr ⟨lm_280, (List.forall_mem_cons.mpr ⟨lm_279, (List.forall_mem_cons.mpr ⟨lm_278, (List.forall_mem_cons.mpr ⟨lm_277, (fun _ h => absurd h List.not_mem_nil)⟩)⟩)⟩)⟩)⟩)⟩)⟩)⟩)⟩)⟩)⟩)⟩)⟩)⟩)⟩)⟩)⟩)⟩)⟩)⟩)⟩)⟩)⟩)⟩)
set_option maxRecDepth 100000 in
theorem lr_wsX11_init_r4 : ∀ w ∈ wsX11_init_r4, lwIn w := (List.forall_mem_cons.mpr ⟨lm_321, (List.forall_mem_cons.mpr ⟨lm_320, (List.forall_mem_cons.mpr ⟨lm_319, (List.forall_mem_cons.mpr ⟨lm_318, (List.forall_mem_cons.mpr ⟨lm_317, (List.forall_mem_cons.mpr ⟨lm_316, (List.forall_mem_cons.mpr ⟨lm_315, (List.forall_mem_cons.mpr ⟨lm_314, (List.forall_mem_cons.mpr ⟨lm_313, (List.forall_mem_cons.mpr ⟨lm_312, (List.forall_mem_cons.mpr ⟨lm_216, (List.forall_mem_cons.mpr ⟨lm_311, (List.forall_mem_cons.mpr ⟨lm_310, (List.forall_mem_cons.mpr ⟨lm_309, (List.forall_mem_cons.mpr ⟨lm_308, (List.forall_mem_cons.mpr ⟨lm_307, (List.forall_mem_cons.mpr ⟨lm_306, (List.forall_mem_cons.mpr ⟨lm_305, (List.forall_mem_cons.mpr ⟨lm_304, (List.forall_mem_cons.mpr ⟨lm_303, (List.forall_mem_cons.mpr ⟨lm_302, (List.forall_mem_cons.mpr ⟨lm_301, (List.forall_mem_cons.mpr ⟨lm_300, (List.forall_mem_cons.mpr ⟨lm_299, (fun _ h => absurd h List.not_mem_nil)⟩)⟩)⟩)⟩)⟩)⟩)⟩)⟩)⟩)⟩)⟩)⟩)⟩)⟩)⟩)⟩)⟩)⟩)⟩)⟩)⟩)⟩)⟩)⟩)
set_option maxRecDepth 100000 in
theorem lr_wsX11_init_r5 : ∀ w ∈ wsX11_init_r5, lwIn w := (List.forall_mem_cons.mpr ⟨lm_322, (fun _ h => absurd h List.not_mem_nil)⟩)
set_option maxRecDepth 100000 in
theorem la_2 : ∀ w ∈ (wsX80), lwIn w := by unfold lwIn; decide +kernel
set_option maxRecDepth 100000 in
theorem la_3 : ∀ w ∈ (wsX90), lwIn w := by unfold lwIn; decide +kernel
set_option maxRecDepth 100000 in
theorem la_4 : ∀ w ∈ (wsX40), lwIn w := by unfold lwIn; decide +kernel
set_option maxRecDepth 100000 in
theorem la_5 : ∀ w ∈ (wsX70), lwIn w := by unfold lwIn; decide +kernel
set_option maxRecDepth 100000 in
theorem la_6 : ∀ w ∈ (wsX60), lwIn w := by unfold lwIn; decide +kernel
set_option maxRecDepth 100000 in
theorem la_7 : ∀ w ∈ (wsX30), lwIn w := by unfold lwIn; decide +kernel
set_option maxRecDepth 100000 in
theorem la_8 : ∀ w ∈ (wsX00), lwIn w := by unfold lwIn; decide +kernel
set_option maxRecDepth 100000 in
theorem la_9 : ∀ w ∈ (wsX20), lwIn w := by unfold lwIn; decide +kernel
set_option maxRecDepth 100000 in
theorem la_10 : ∀ w ∈ (wsX100), lwIn w := by unfold lwIn; decide +kernel
set_option maxRecDepth 100000 in
theorem lr_wsX11_init : ∀ w ∈ wsX11_init, lwIn w := List.forall_mem_cons.mpr ⟨lm_241, (List.forall_mem_append.mpr ⟨(List.forall_mem_append.mpr ⟨(List.forall_mem_append.mpr ⟨(List.forall_mem_append.mpr ⟨(List.forall_mem_append.mpr ⟨(List.forall_mem_append.mpr ⟨(List.forall_mem_append.mpr ⟨(List.forall_mem_append.mpr ⟨(List.forall_mem_append.mpr ⟨(List.forall_mem_append.mpr ⟨(List.forall_mem_append.mpr ⟨lr_wsX11_init_r1, (List.forall_mem_append.mpr ⟨lr_wsX11_init_r2, (List.forall_mem_append.mpr ⟨lr_wsX11_init_r3, (List.forall_mem_append.mpr ⟨lr_wsX11_init_r4, lr_wsX11_init_r5⟩)⟩)⟩)⟩), la_2⟩), la_0⟩), la_3⟩), la_4⟩), la_5⟩), la_6⟩), la_7⟩), la_8⟩), la_9⟩), la_10⟩)⟩
set_option maxRecDepth 100000 in
theorem lr_wsX12_init_r1 : ∀ w ∈ wsX12_init_r1, lwIn w := (List.forall_mem_cons.mpr ⟨lm_342, (List.forall_mem_cons.mpr ⟨lm_254, (List.forall_mem_cons.mpr ⟨lm_253, (List.forall_mem_cons.mpr ⟨lm_219, (List.forall_mem_cons.mpr ⟨lm_341, (List.forall_mem_cons.mpr ⟨lm_340, (List.forall_mem_cons.mpr ⟨lm_339, (List.forall_mem_cons.mpr ⟨lm_338, (List.forall_mem_cons.mpr ⟨lm_337, (List.forall_mem_cons.mpr ⟨lm_336, (List.forall_mem_cons.mpr ⟨lm_335, (List.forall_mem_cons.mpr ⟨lm_334, (List.forall_mem_cons.mpr ⟨lm_234, (List.forall_mem_cons.mpr ⟨lm_333, (List.forall_mem_cons.mpr ⟨lm_332, (List.forall_mem_cons.mpr ⟨lm_213, (List.forall_mem_cons.mpr ⟨lm_331, (List.forall_mem_cons.mpr ⟨lm_330, (List.forall_mem_cons.mpr ⟨lm_329, (List.forall_mem_cons.mpr ⟨lm_328, (List.forall_mem_cons.mpr ⟨lm_327, (List.forall_mem_cons.mpr ⟨lm_326, (List.forall_mem_cons.mpr ⟨lm_325, (List.forall_mem_cons.mpr ⟨lm_324, (fun _ h => absurd h List.not_mem_nil)⟩)⟩)⟩)⟩)⟩)⟩)⟩)⟩)⟩)⟩)⟩)⟩)⟩)⟩)⟩)⟩)⟩)⟩)⟩)⟩)⟩)⟩)⟩)⟩)
set_option maxRecDepth 100000 in
theorem lr_wsX12_init_r2 : ∀ w ∈ wsX12_init_r2, lwIn w := (List.forall_mem_cons.mpr ⟨lm_365, (List.forall_mem_cons.mpr ⟨lm_364, (List.forall_mem_cons.mpr ⟨lm_363, (List.forall_mem_cons.mpr ⟨lm_235, (List.forall_mem_cons.mpr ⟨lm_362, (List.forall_mem_cons.mpr ⟨lm_361, (List.forall_mem_cons.mpr ⟨lm_360, (List.forall_mem_cons.mpr ⟨lm_359, (List.forall_mem_cons.mpr ⟨lm_358, (List.forall_mem_cons.mpr ⟨lm_357, (List.forall_mem_cons.mpr ⟨lm_356, (List.forall_mem_cons.mpr ⟨lm_355, (List.forall_mem_cons.mpr ⟨lm_354, (List.forall_mem_cons.mpr ⟨lm_353, (List.forall_mem_cons.mpr ⟨lm_352, (List.forall_mem_cons.mpr ⟨lm_351, (List.forall_mem_cons.mpr ⟨lm_350, (List.forall_mem_cons.mpr ⟨lm_349, (List.forall_mem_cons.mpr ⟨lm_348, (List.forall_mem_cons.mpr ⟨lm_347, (List.forall_mem_cons.mpr ⟨lm_346, (List.forall_mem_cons.mpr ⟨lm_345, (List.forall_mem_cons.mpr ⟨lm_344, (List.forall_mem_cons.mpr ⟨lm_343, (fun _ h => absurd h List.not_mem_nil)⟩)⟩)⟩)⟩)⟩)⟩)⟩)⟩)⟩)⟩)⟩)⟩)⟩)⟩)⟩)⟩)⟩)⟩)⟩)⟩)⟩)⟩)⟩)⟩)
set_option maxRecDepth 100000 in
theorem lr_wsX12_init_r3 : ∀ w ∈ wsX12_init_r3, lwIn w := (List.forall_mem_cons.mpr ⟨lm_389, (List.forall_mem_cons.mpr ⟨lm_388, (List.forall_mem_cons.mpr ⟨lm_387, (List.forall_mem_cons.mpr ⟨lm_386, (List.forall_mem_cons.mpr ⟨lm_385, (List.forall_mem_cons.mpr ⟨lm_384, (List.forall_mem_cons.mpr ⟨lm_383, (List.forall_mem_cons.mpr ⟨lm_382, (List.forall_mem_cons.mpr ⟨lm_381, (List.forall_mem_cons.mpr ⟨lm_380, (List.forall_mem_cons.mpr ⟨lm_379, (List.forall_mem_cons.mpr ⟨lm_378, (List.forall_mem_cons.mpr ⟨lm_377, (List.forall_mem_cons.mpr ⟨lm_376, (List.forall_mem_cons.mpr ⟨lm_375, (List.forall_mem_cons.mpr ⟨lm_374, (List.forall_mem_cons.mpr ⟨lm_373, (List.forall_mem_cons.mpr ⟨lm_372, (List.forall_mem_cons.mpr ⟨lm_371, (List.forall_mem_cons.mpr ⟨lm_370, (List.forall_mem_cons.mpr ⟨lm_369, (List.forall_mem_cons.mpr ⟨lm_368, (List.forall_mem_cons.mpr ⟨lm_367, (List.forall_mem_cons.mpr ⟨lm_366, (fun _ h => absurd h List.not_mem_nil)⟩)⟩)⟩)⟩)⟩)⟩)⟩)⟩)⟩)⟩)⟩)⟩)⟩)⟩)⟩)⟩)⟩)⟩)⟩)⟩)⟩)⟩)⟩)⟩)
set_option maxRecDepth 100000 in
theorem lr_wsX12_init_r4 : ∀ w ∈ wsX12_init_r4, lwIn w := (List.forall_mem_cons.mpr ⟨lm_413, (List.forall_mem_cons.mpr ⟨lm_412, (List.forall_mem_cons.mpr ⟨lm_411, (List.forall_mem_cons.mpr ⟨lm_410, (List.forall_mem_cons.mpr ⟨lm_409, (List.forall_mem_cons.mpr ⟨lm_408, (List.forall_mem_cons.mpr ⟨lm_407, (List.forall_mem_cons.mpr ⟨lm_406, (List.forall_mem_cons.mpr ⟨lm_405, (List.forall_mem_cons.mpr ⟨lm_404, (List.forall_mem_cons.mpr ⟨lm_403, (List.forall_mem_cons.mpr ⟨lm_402, (List.forall_mem_cons.mpr ⟨lm_401, (List.forall_mem_cons.mpr ⟨lm_400, (List.forall_mem_cons.mpr ⟨lm_399, (List.forall_mem_cons.mpr ⟨lm_398, (List.forall_mem_cons.mpr ⟨lm_397, (List.forall_mem_cons.mpr ⟨lm_396, (List.forall_mem_cons.mpr ⟨lm_395, (List.forall_mem_cons.mpr ⟨lm_394, (List.forall_mem_cons.mpr ⟨lm_393, (List.forall_mem_cons.mpr ⟨lm_392, (List.forall_mem_cons.mpr ⟨lm_391, (List.forall_mem_cons.mpr ⟨lm_390, (fun _ h => absurd h List.not_mem_nil)⟩)⟩)⟩)⟩)⟩)⟩)⟩)⟩)⟩)⟩)⟩)⟩)⟩)⟩)⟩)⟩)⟩)⟩)⟩)⟩)⟩)⟩)⟩)⟩)
set_option maxRecDepth 100000 in
theorem lr_wsX12_init_r5 : ∀ w ∈ wsX12_init_r5, lwIn w := (List.forall_mem_cons.mpr ⟨lm_415, (List.forall_mem_cons.mpr ⟨lm_414, (fun _ h => absurd h List.not_mem_nil)⟩)⟩)
set_option maxRecDepth 100000 in
theorem lr_wsX12_init : ∀ w ∈ wsX12_init, lwIn w := List.forall_mem_cons.mpr ⟨lm_323, (List.forall_mem_append.mpr ⟨(List.forall_mem_append.mpr ⟨lr_wsX12_init_r1, (List.forall_mem_append.mpr ⟨lr_wsX12_init_r2, (List.forall_mem_append.mpr ⟨lr_wsX12_init_r3, (List.forall_mem_append.mpr ⟨lr_wsX12_init_r4, lr_wsX12_init_r5⟩)⟩)⟩)⟩), la_1⟩)⟩
set_option maxRecDepth 100000 in
theorem la_11 : ∀ w ∈ ((vx_atS RX11 65 "java/lang/IllegalStateException" ["java/lang/RuntimeException", "java/lang/Exception"]).filter goodWord), lwIn w := by unfold lwIn; decide +kernel
set_option maxRecDepth 100000 in
theorem lr_wsX11_append : ∀ w ∈ wsX11_append, lwIn w := List.forall_mem_cons.mpr ⟨lm_419, (List.forall_mem_append.mpr ⟨(List.forall_mem_append.mpr ⟨(List.forall_mem_append.mpr ⟨(List.forall_mem_cons.mpr ⟨lm_425, (List.forall_mem_cons.mpr ⟨lm_207, (List.forall_mem_cons.mpr ⟨lm_251, (List.forall_mem_cons.mpr ⟨lm_424, (List.forall_mem_cons.mpr ⟨lm_423, (List.forall_mem_cons.mpr ⟨lm_422, (List.forall_mem_cons.mpr ⟨lm_421, (List.forall_mem_cons.mpr ⟨lm_229, (List.forall_mem_cons.mpr ⟨lm_420, (List.forall_mem_cons.mpr ⟨lm_268, (List.forall_mem_cons.mpr ⟨lm_270, (fun _ h => absurd h List.not_mem_nil)⟩)⟩)⟩)⟩)⟩)⟩)⟩)⟩)⟩)⟩)⟩), la_0⟩), la_2⟩), la_11⟩)⟩
set_option maxRecDepth 100000 in
theorem lr_wsW_append : ∀ w ∈ wsW_append, lwIn w := List.forall_mem_cons.mpr ⟨lm_416, (List.forall_mem_append.mpr ⟨(List.forall_mem_cons.mpr ⟨lm_209, (List.forall_mem_cons.mpr ⟨lm_208, (List.forall_mem_cons.mpr ⟨lm_418, (List.forall_mem_cons.mpr ⟨lm_417, (List.forall_mem_cons.mpr ⟨lm_238, (fun _ h => absurd h List.not_mem_nil)⟩)⟩)⟩)⟩)⟩), lr_wsX11_append⟩)⟩
set_option maxRecDepth 100000 in
theorem lr_wsX12_append : ∀ w ∈ wsX12_append, lwIn w := List.forall_mem_cons.mpr ⟨lm_426, (List.forall_mem_append.mpr ⟨(List.forall_mem_cons.mpr ⟨lm_432, (List.forall_mem_cons.mpr ⟨lm_431, (List.forall_mem_cons.mpr ⟨lm_335, (List.forall_mem_cons.mpr ⟨lm_430, (List.forall_mem_cons.mpr ⟨lm_429, (List.forall_mem_cons.mpr ⟨lm_428, (List.forall_mem_cons.mpr ⟨lm_235, (List.forall_mem_cons.mpr ⟨lm_427, (fun _ h => absurd h List.not_mem_nil)⟩)⟩)⟩)⟩)⟩)⟩)⟩)⟩), la_1⟩)⟩
set_option maxRecDepth 100000 in
theorem lr_wsX12_thrown : ∀ w ∈ wsX12_thrown, lwIn w := List.forall_mem_cons.mpr ⟨lm_433, (List.forall_mem_append.mpr ⟨(List.forall_mem_cons.mpr ⟨lm_432, (fun _ h => absurd h List.not_mem_nil)⟩), la_1⟩)⟩
set_option maxRecDepth 100000 in
theorem la_12 : ∀ w ∈ ((vx_atS RX11 76 "java/lang/IndexOutOfBoundsException" ["java/lang/RuntimeException", "java/lang/Exception"]).filter goodWord), lwIn w := by unfold lwIn; decide +kernel
set_option maxRecDepth 100000 in
theorem lr_wsX11_truncate : ∀ w ∈ wsX11_truncate, lwIn w := List.forall_mem_cons.mpr ⟨lm_437, (List.forall_mem_append.mpr ⟨(List.forall_mem_append.mpr ⟨(List.forall_mem_append.mpr ⟨(List.forall_mem_cons.mpr ⟨lm_438, (List.forall_mem_cons.mpr ⟨lm_196, (List.forall_mem_cons.mpr ⟨lm_251, (List.forall_mem_cons.mpr ⟨lm_424, (fun _ h => absurd h List.not_mem_nil)⟩)⟩)⟩)⟩), la_0⟩), la_2⟩), la_12⟩)⟩
set_option maxRecDepth 100000 in
theorem lr_wsW_truncate : ∀ w ∈ wsW_truncate, lwIn w := List.forall_mem_cons.mpr ⟨lm_434, (List.forall_mem_append.mpr ⟨(List.forall_mem_cons.mpr ⟨lm_198, (List.forall_mem_cons.mpr ⟨lm_197, (List.forall_mem_cons.mpr ⟨lm_436, (List.forall_mem_cons.mpr ⟨lm_435, (List.forall_mem_cons.mpr ⟨lm_238, (fun _ h => absurd h List.not_mem_nil)⟩)⟩)⟩)⟩)⟩), lr_wsX11_truncate⟩)⟩
set_option maxRecDepth 100000 in
theorem lr_wsX12_truncate : ∀ w ∈ wsX12_truncate, lwIn w := List.forall_mem_cons.mpr ⟨lm_439, (List.forall_mem_append.mpr ⟨(List.forall_mem_cons.mpr ⟨lm_432, (List.forall_mem_cons.mpr ⟨lm_431, (List.forall_mem_cons.mpr ⟨lm_402, (List.forall_mem_cons.mpr ⟨lm_401, (List.forall_mem_cons.mpr ⟨lm_235, (List.forall_mem_cons.mpr ⟨lm_400, (List.forall_mem_cons.mpr ⟨lm_430, (List.forall_mem_cons.mpr ⟨lm_429, (List.forall_mem_cons.mpr ⟨lm_428, (List.forall_mem_cons.mpr ⟨lm_427, (fun _ h => absurd h List.not_mem_nil)⟩)⟩)⟩)⟩)⟩)⟩)⟩)⟩)⟩)⟩), la_1⟩)⟩
set_option maxRecDepth 100000 in
theorem lr_wsX11_load_r1 : ∀ w ∈ wsX11_load_r1, lwIn w := (List.forall_mem_cons.mpr ⟨lm_453, (List.forall_mem_cons.mpr ⟨lm_188, (List.forall_mem_cons.mpr ⟨lm_251, (List.forall_mem_cons.mpr ⟨lm_424, (List.forall_mem_cons.mpr ⟨lm_452, (List.forall_mem_cons.mpr ⟨lm_276, (List.forall_mem_cons.mpr ⟨lm_249, (List.forall_mem_cons.mpr ⟨lm_451, (List.forall_mem_cons.mpr ⟨lm_450, (List.forall_mem_cons.mpr ⟨lm_244, (List.forall_mem_cons.mpr ⟨lm_449, (List.forall_mem_cons.mpr ⟨lm_275, (List.forall_mem_cons.mpr ⟨lm_274, (List.forall_mem_cons.mpr ⟨lm_448, (List.forall_mem_cons.mpr ⟨lm_447, (List.forall_mem_cons.mpr ⟨lm_446, (List.forall_mem_cons.mpr ⟨lm_445, (List.forall_mem_cons.mpr ⟨lm_229, (List.forall_mem_cons.mpr ⟨lm_444, (List.forall_mem_cons.mpr ⟨lm_265, (List.forall_mem_cons.mpr ⟨lm_222, (List.forall_mem_cons.mpr ⟨lm_221, (List.forall_mem_cons.mpr ⟨lm_264, (List.forall_mem_cons.mpr ⟨lm_267, (fun _ h => absurd h List.not_mem_nil)⟩)⟩)⟩)⟩)⟩)⟩)⟩)⟩)⟩)⟩)⟩)⟩)⟩)⟩)⟩)⟩)⟩)⟩)⟩)⟩)⟩)⟩)⟩)⟩)
set_option maxRecDepth 100000 in
theorem lr_wsX11_load_r2 : ∀ w ∈ wsX11_load_r2, lwIn w := (List.forall_mem_cons.mpr ⟨lm_266, (List.forall_mem_cons.mpr ⟨lm_261, (List.forall_mem_cons.mpr ⟨lm_259, (List.forall_mem_cons.mpr ⟨lm_258, (List.forall_mem_cons.mpr ⟨lm_257, (List.forall_mem_cons.mpr ⟨lm_254, (List.forall_mem_cons.mpr ⟨lm_253, (List.forall_mem_cons.mpr ⟨lm_256, (List.forall_mem_cons.mpr ⟨lm_298, (List.forall_mem_cons.mpr ⟨lm_297, (List.forall_mem_cons.mpr ⟨lm_296, (List.forall_mem_cons.mpr ⟨lm_295, (List.forall_mem_cons.mpr ⟨lm_461, (List.forall_mem_cons.mpr ⟨lm_460, (List.forall_mem_cons.mpr ⟨lm_459, (List.forall_mem_cons.mpr ⟨lm_458, (List.forall_mem_cons.mpr ⟨lm_262, (List.forall_mem_cons.mpr ⟨lm_268, (List.forall_mem_cons.mpr ⟨lm_263, (List.forall_mem_cons.mpr ⟨lm_457, (List.forall_mem_cons.mpr ⟨lm_456, (List.forall_mem_cons.mpr ⟨lm_455, (List.forall_mem_cons.mpr ⟨lm_454, (List.forall_mem_cons.mpr ⟨lm_270, (fun _ h => absurd h List.not_mem_nil)⟩)⟩)⟩)⟩)⟩)⟩)⟩)⟩)⟩)⟩)⟩)⟩)⟩)⟩)⟩)⟩)⟩)⟩)⟩)⟩)⟩)⟩)⟩)⟩)
set_option maxRecDepth 100000 in
theorem lr_wsX11_load_r3 : ∀ w ∈ wsX11_load_r3, lwIn w := (List.forall_mem_cons.mpr ⟨lm_484, (List.forall_mem_cons.mpr ⟨lm_483, (List.forall_mem_cons.mpr ⟨lm_482, (List.forall_mem_cons.mpr ⟨lm_481, (List.forall_mem_cons.mpr ⟨lm_480, (List.forall_mem_cons.mpr ⟨lm_479, (List.forall_mem_cons.mpr ⟨lm_478, (List.forall_mem_cons.mpr ⟨lm_260, (List.forall_mem_cons.mpr ⟨lm_477, (List.forall_mem_cons.mpr ⟨lm_476, (List.forall_mem_cons.mpr ⟨lm_475, (List.forall_mem_cons.mpr ⟨lm_474, (List.forall_mem_cons.mpr ⟨lm_473, (List.forall_mem_cons.mpr ⟨lm_472, (List.forall_mem_cons.mpr ⟨lm_471, (List.forall_mem_cons.mpr ⟨lm_470, (List.forall_mem_cons.mpr ⟨lm_469, (List.forall_mem_cons.mpr ⟨lm_468, (List.forall_mem_cons.mpr ⟨lm_467, (List.forall_mem_cons.mpr ⟨lm_466, (List.forall_mem_cons.mpr ⟨lm_465, (List.forall_mem_cons.mpr ⟨lm_464, (List.forall_mem_cons.mpr ⟨lm_463, (List.forall_mem_cons.mpr ⟨lm_462, (fun _ h => absurd h List.not_mem_nil)⟩)⟩)⟩)⟩)⟩)⟩)⟩)⟩)⟩)⟩)⟩)⟩)⟩)⟩)⟩)⟩)⟩)⟩)⟩)⟩)⟩)⟩)⟩)⟩)
set_option maxRecDepth 100000 in
theorem lr_wsX11_load_r4 : ∀ w ∈ wsX11_load_r4, lwIn w := (List.forall_mem_cons.mpr ⟨lm_506, (List.forall_mem_cons.mpr ⟨lm_505, (List.forall_mem_cons.mpr ⟨lm_187, (List.forall_mem_cons.mpr ⟨lm_504, (List.forall_mem_cons.mpr ⟨lm_503, (List.forall_mem_cons.mpr ⟨lm_502, (List.forall_mem_cons.mpr ⟨lm_501, (List.forall_mem_cons.mpr ⟨lm_500, (List.forall_mem_cons.mpr ⟨lm_499, (List.forall_mem_cons.mpr ⟨lm_498, (List.forall_mem_cons.mpr ⟨lm_497, (List.forall_mem_cons.mpr ⟨lm_496, (List.forall_mem_cons.mpr ⟨lm_495, (List.forall_mem_cons.mpr ⟨lm_494, (List.forall_mem_cons.mpr ⟨lm_493, (List.forall_mem_cons.mpr ⟨lm_492, (List.forall_mem_cons.mpr ⟨lm_491, (List.forall_mem_cons.mpr ⟨lm_490, (List.forall_mem_cons.mpr ⟨lm_489, (List.forall_mem_cons.mpr ⟨lm_488, (List.forall_mem_cons.mpr ⟨lm_487, (List.forall_mem_cons.mpr ⟨lm_186, (List.forall_mem_cons.mpr ⟨lm_486, (List.forall_mem_cons.mpr ⟨lm_485, (fun _ h => absurd h List.not_mem_nil)⟩)⟩)⟩)⟩)⟩)⟩)⟩)⟩)⟩)⟩)⟩)⟩)⟩)⟩)⟩)⟩)⟩)⟩)⟩)⟩)⟩)⟩)⟩)⟩)
set_option maxRecDepth 100000 in
theorem lr_wsX11_load_r5 : ∀ w ∈ wsX11_load_r5, lwIn w := (List.forall_mem_cons.mpr ⟨lm_528, (List.forall_mem_cons.mpr ⟨lm_527, (List.forall_mem_cons.mpr ⟨lm_526, (List.forall_mem_cons.mpr ⟨lm_525, (List.forall_mem_cons.mpr ⟨lm_524, (List.forall_mem_cons.mpr ⟨lm_185, (List.forall_mem_cons.mpr ⟨lm_523, (List.forall_mem_cons.mpr ⟨lm_522, (List.forall_mem_cons.mpr ⟨lm_521, (List.forall_mem_cons.mpr ⟨lm_184, (List.forall_mem_cons.mpr ⟨lm_520, (List.forall_mem_cons.mpr ⟨lm_519, (List.forall_mem_cons.mpr ⟨lm_518, (List.forall_mem_cons.mpr ⟨lm_517, (List.forall_mem_cons.mpr ⟨lm_516, (List.forall_mem_cons.mpr ⟨lm_515, (List.forall_mem_cons.mpr ⟨lm_514, (List.forall_mem_cons.mpr ⟨lm_513, (List.forall_mem_cons.mpr ⟨lm_512, (List.forall_mem_cons.mpr ⟨lm_511, (List.forall_mem_cons.mpr ⟨lm_510, (List.forall_mem_cons.mpr ⟨lm_509, (List.forall_mem_cons.mpr ⟨lm_508, (List.forall_mem_cons.mpr ⟨lm_507, (fun _ h => absurd h List.not_mem_nil)⟩)⟩)⟩)⟩)⟩)⟩)⟩)⟩)⟩)⟩)⟩)⟩)⟩)⟩)⟩)⟩)⟩)⟩)⟩)⟩)⟩)⟩)⟩)⟩)
set_option maxRecDepth 100000 in
theorem lr_wsX11_load_r6 : ∀ w ∈ wsX11_load_r6, lwIn w := (List.forall_mem_cons.mpr ⟨lm_551, (List.forall_mem_cons.mpr ⟨lm_550, (List.forall_mem_cons.mpr ⟨lm_549, (List.forall_mem_cons.mpr ⟨lm_548, (List.forall_mem_cons.mpr ⟨lm_547, (List.forall_mem_cons.mpr ⟨lm_546, (List.forall_mem_cons.mpr ⟨lm_545, (List.forall_mem_cons.mpr ⟨lm_544, (List.forall_mem_cons.mpr ⟨lm_543, (List.forall_mem_cons.mpr ⟨lm_269, (List.forall_mem_cons.mpr ⟨lm_542, (List.forall_mem_cons.mpr ⟨lm_541, (List.forall_mem_cons.mpr ⟨lm_540, (List.forall_mem_cons.mpr ⟨lm_539, (List.forall_mem_cons.mpr ⟨lm_538, (List.forall_mem_cons.mpr ⟨lm_537, (List.forall_mem_cons.mpr ⟨lm_536, (List.forall_mem_cons.mpr ⟨lm_535, (List.forall_mem_cons.mpr ⟨lm_534, (List.forall_mem_cons.mpr ⟨lm_533, (List.forall_mem_cons.mpr ⟨lm_532, (List.forall_mem_cons.mpr ⟨lm_531, (List.forall_mem_cons.mpr ⟨lm_530, (List.forall_mem_cons.mpr ⟨lm_529, (fun _ h => absurd h List.not_mem_nil)⟩)⟩)⟩)⟩)⟩)⟩)⟩)⟩)⟩)⟩)⟩)⟩)⟩)⟩)⟩)⟩)⟩)⟩)⟩)⟩)⟩)⟩)⟩)⟩)
set_option maxRecDepth 100000 in
theorem lr_wsX11_load_r7 : ∀ w ∈ wsX11_load_r7, lwIn w := (List.forall_mem_cons.mpr ⟨lm_572, (List.forall_mem_cons.mpr ⟨lm_571, (List.forall_mem_cons.mpr ⟨lm_570, (List.forall_mem_cons.mpr ⟨lm_569, (List.forall_mem_cons.mpr ⟨lm_568, (List.forall_mem_cons.mpr ⟨lm_567, (List.forall_mem_cons.mpr ⟨lm_566, (List.forall_mem_cons.mpr ⟨lm_565, (List.forall_mem_cons.mpr ⟨lm_183, (List.forall_mem_cons.mpr ⟨lm_564, (List.forall_mem_cons.mpr ⟨lm_563, (List.forall_mem_cons.mpr ⟨lm_562, (List.forall_mem_cons.mpr ⟨lm_561, (List.forall_mem_cons.mpr ⟨lm_560, (List.forall_mem_cons.mpr ⟨lm_559, (List.forall_mem_cons.mpr ⟨lm_558, (List.forall_mem_cons.mpr ⟨lm_557, (List.forall_mem_cons.mpr ⟨lm_556, (List.forall_mem_cons.mpr ⟨lm_555, (List.forall_mem_cons.mpr ⟨lm_182, (List.forall_mem_cons.mpr ⟨lm_181, (List.forall_mem_cons.mpr ⟨lm_554, (List.forall_mem_cons.mpr ⟨lm_553, (List.forall_mem_cons.mpr ⟨lm_552, (fun _ h => absurd h List.not_mem_nil)⟩)⟩)⟩)⟩)⟩)⟩)⟩)⟩)⟩)⟩)⟩)⟩)⟩)⟩)⟩)⟩)⟩)⟩)⟩)⟩)⟩)⟩)⟩)⟩)
set_option maxRecDepth 100000 in
theorem lr_wsX11_load_r8 : ∀ w ∈ wsX11_load_r8, lwIn w := (List.forall_mem_cons.mpr ⟨lm_588, (List.forall_mem_cons.mpr ⟨lm_587, (List.forall_mem_cons.mpr ⟨lm_586, (List.forall_mem_cons.mpr ⟨lm_585, (List.forall_mem_cons.mpr ⟨lm_312, (List.forall_mem_cons.mpr ⟨lm_216, (List.forall_mem_cons.mpr ⟨lm_311, (List.forall_mem_cons.mpr ⟨lm_310, (List.forall_mem_cons.mpr ⟨lm_309, (List.forall_mem_cons.mpr ⟨lm_308, (List.forall_mem_cons.mpr ⟨lm_307, (List.forall_mem_cons.mpr ⟨lm_306, (List.forall_mem_cons.mpr ⟨lm_584, (List.forall_mem_cons.mpr ⟨lm_583, (List.forall_mem_cons.mpr ⟨lm_582, (List.forall_mem_cons.mpr ⟨lm_581, (List.forall_mem_cons.mpr ⟨lm_580, (List.forall_mem_cons.mpr ⟨lm_579, (List.forall_mem_cons.mpr ⟨lm_578, (List.forall_mem_cons.mpr ⟨lm_577, (List.forall_mem_cons.mpr ⟨lm_576, (List.forall_mem_cons.mpr ⟨lm_575, (List.forall_mem_cons.mpr ⟨lm_574, (List.forall_mem_cons.mpr ⟨lm_573, (fun _ h => absurd h List.not_mem_nil)⟩)⟩)⟩)⟩)⟩)⟩)⟩)⟩)⟩)⟩)⟩)⟩)⟩)⟩)⟩)⟩)⟩)⟩)⟩)⟩)⟩)⟩)⟩)⟩)
set_option maxRecDepth 100000 in
theorem lr_wsX11_load_r9 : ∀ w ∈ wsX11_load_r9, lwIn w := (List.forall_mem_cons.mpr ⟨lm_611, (List.forall_mem_cons.mpr ⟨lm_610, (List.forall_mem_cons.mpr ⟨lm_609, (List.forall_mem_cons.mpr ⟨lm_608, (List.forall_mem_cons.mpr ⟨lm_607, (List.forall_mem_cons.mpr ⟨lm_606, (List.forall_mem_cons.mpr ⟨lm_605, (List.forall_mem_cons.mpr ⟨lm_604, (List.forall_mem_cons.mpr ⟨lm_603, (List.forall_mem_cons.mpr ⟨lm_602, (List.forall_mem_cons.mpr ⟨lm_601, (List.forall_mem_cons.mpr ⟨lm_600, (List.forall_mem_cons.mpr ⟨lm_599, (List.forall_mem_cons.mpr ⟨lm_598, (List.forall_mem_cons.mpr ⟨lm_597, (List.forall_mem_cons.mpr ⟨lm_596, (List.forall_mem_cons.mpr ⟨lm_595, (List.forall_mem_cons.mpr ⟨lm_594, (List.forall_mem_cons.mpr ⟨lm_593, (List.forall_mem_cons.mpr ⟨lm_592, (List.forall_mem_cons.mpr ⟨lm_591, (List.forall_mem_cons.mpr ⟨lm_238, (List.forall_mem_cons.mpr ⟨lm_590, (List.forall_mem_cons.mpr ⟨lm_589, (fun _ h => absurd h List.not_mem_nil)⟩)⟩)⟩)⟩)⟩)⟩)⟩)⟩)⟩)⟩)⟩)⟩)⟩)⟩)⟩)⟩)⟩)⟩)⟩)⟩)⟩)⟩)⟩)⟩)
set_option maxRecDepth 100000 in
theorem lr_wsX11_load_r10 : ∀ w ∈ wsX11_load_r10, lwIn w := (List.forall_mem_cons.mpr ⟨lm_632, (List.forall_mem_cons.mpr ⟨lm_631, (List.forall_mem_cons.mpr ⟨lm_630, (List.forall_mem_cons.mpr ⟨lm_629, (List.forall_mem_cons.mpr ⟨lm_628, (List.forall_mem_cons.mpr ⟨lm_627, (List.forall_mem_cons.mpr ⟨lm_626, (List.forall_mem_cons.mpr ⟨lm_625, (List.forall_mem_cons.mpr ⟨lm_180, (List.forall_mem_cons.mpr ⟨lm_179, (List.forall_mem_cons.mpr ⟨lm_624, (List.forall_mem_cons.mpr ⟨lm_623, (List.forall_mem_cons.mpr ⟨lm_622, (List.forall_mem_cons.mpr ⟨lm_621, (List.forall_mem_cons.mpr ⟨lm_620, (List.forall_mem_cons.mpr ⟨lm_619, (List.forall_mem_cons.mpr ⟨lm_618, (List.forall_mem_cons.mpr ⟨lm_617, (List.forall_mem_cons.mpr ⟨lm_616, (List.forall_mem_cons.mpr ⟨lm_615, (List.forall_mem_cons.mpr ⟨lm_614, (List.forall_mem_cons.mpr ⟨lm_613, (List.forall_mem_cons.mpr ⟨lm_612, (List.forall_mem_cons.mpr ⟨lm_178, (fun _ h => absurd h List.not_mem_nil)⟩)⟩)⟩)⟩)⟩)⟩)⟩)⟩)⟩)⟩)⟩)⟩)⟩)⟩)⟩)⟩)⟩)⟩)⟩)⟩)⟩)⟩)⟩)⟩)
set_option maxRecDepth 100000 in
theorem lr_wsX11_load_r11 : ∀ w ∈ wsX11_load_r11, lwIn w := (List.forall_mem_cons.mpr ⟨lm_177, (List.forall_mem_cons.mpr ⟨lm_649, (List.forall_mem_cons.mpr ⟨lm_648, (List.forall_mem_cons.mpr ⟨lm_647, (List.forall_mem_cons.mpr ⟨lm_646, (List.forall_mem_cons.mpr ⟨lm_645, (List.forall_mem_cons.mpr ⟨lm_644, (List.forall_mem_cons.mpr ⟨lm_643, (List.forall_mem_cons.mpr ⟨lm_642, (List.forall_mem_cons.mpr ⟨lm_641, (List.forall_mem_cons.mpr ⟨lm_640, (List.forall_mem_cons.mpr ⟨lm_639, (List.forall_mem_cons.mpr ⟨lm_227, (List.forall_mem_cons.mpr ⟨lm_638, (List.forall_mem_cons.mpr ⟨lm_287, (List.forall_mem_cons.mpr ⟨lm_286, (List.forall_mem_cons.mpr ⟨lm_285, (List.forall_mem_cons.mpr ⟨lm_284, (List.forall_mem_cons.mpr ⟨lm_637, (List.forall_mem_cons.mpr ⟨lm_636, (List.forall_mem_cons.mpr ⟨lm_635, (List.forall_mem_cons.mpr ⟨lm_634, (List.forall_mem_cons.mpr ⟨lm_633, (List.forall_mem_cons.mpr ⟨lm_246, (fun _ h => absurd h List.not_mem_nil)⟩)⟩)⟩)⟩)⟩)⟩)⟩)⟩)⟩)⟩)⟩)⟩)⟩)⟩)⟩)⟩)⟩)⟩)⟩)⟩)⟩)⟩)⟩)⟩)
set_option maxRecDepth 100000 in
theorem lr_wsX11_load_r12 : ∀ w ∈ wsX11_load_r12, lwIn w := (List.forall_mem_cons.mpr ⟨lm_673, (List.forall_mem_cons.mpr ⟨lm_672, (List.forall_mem_cons.mpr ⟨lm_671, (List.forall_mem_cons.mpr ⟨lm_670, (List.forall_mem_cons.mpr ⟨lm_669, (List.forall_mem_cons.mpr ⟨lm_668, (List.forall_mem_cons.mpr ⟨lm_667, (List.forall_mem_cons.mpr ⟨lm_666, (List.forall_mem_cons.mpr ⟨lm_665, (List.forall_mem_cons.mpr ⟨lm_664, (List.forall_mem_cons.mpr ⟨lm_663, (List.forall_mem_cons.mpr ⟨lm_662, (List.forall_mem_cons.mpr ⟨lm_661, (List.forall_mem_cons.mpr ⟨lm_660, (List.forall_mem_cons.mpr ⟨lm_659, (List.forall_mem_cons.mpr ⟨lm_658, (List.forall_mem_cons.mpr ⟨lm_657, (List.forall_mem_cons.mpr ⟨lm_656, (List.forall_mem_cons.mpr ⟨lm_655, (List.forall_mem_cons.mpr ⟨lm_654, (List.forall_mem_cons.mpr ⟨lm_653, (List.forall_mem_cons.mpr ⟨lm_652, (List.forall_mem_cons.mpr ⟨lm_651, (List.forall_mem_cons.mpr ⟨lm_650, (fun _ h => absurd h List.not_mem_nil)⟩)⟩)⟩)⟩)⟩)⟩)⟩)⟩)⟩)⟩)⟩)⟩)⟩)⟩)⟩)⟩)⟩)⟩)⟩)⟩)⟩)⟩)⟩)⟩)
set_option maxRecDepth 100000 in
theorem lr_wsX11_load_r13 : ∀ w ∈ wsX11_load_r13, lwIn w := (List.forall_mem_cons.mpr ⟨lm_696, (List.forall_mem_cons.mpr ⟨lm_695, (List.forall_mem_cons.mpr ⟨lm_694, (List.forall_mem_cons.mpr ⟨lm_693, (List.forall_mem_cons.mpr ⟨lm_692, (List.forall_mem_cons.mpr ⟨lm_691, (List.forall_mem_cons.mpr ⟨lm_176, (List.forall_mem_cons.mpr ⟨lm_690, (List.forall_mem_cons.mpr ⟨lm_689, (List.forall_mem_cons.mpr ⟨lm_688, (List.forall_mem_cons.mpr ⟨lm_687, (List.forall_mem_cons.mpr ⟨lm_686, (List.forall_mem_cons.mpr ⟨lm_685, (List.forall_mem_cons.mpr ⟨lm_684, (List.forall_mem_cons.mpr ⟨lm_683, (List.forall_mem_cons.mpr ⟨lm_682, (List.forall_mem_cons.mpr ⟨lm_681, (List.forall_mem_cons.mpr ⟨lm_680, (List.forall_mem_cons.mpr ⟨lm_679, (List.forall_mem_cons.mpr ⟨lm_678, (List.forall_mem_cons.mpr ⟨lm_677, (List.forall_mem_cons.mpr ⟨lm_676, (List.forall_mem_cons.mpr ⟨lm_675, (List.forall_mem_cons.mpr ⟨lm_674, (fun _ h => absurd h List.not_mem_nil)⟩)⟩)⟩)⟩)⟩)⟩)⟩)⟩)⟩)⟩)⟩)⟩)⟩)⟩)⟩)⟩)⟩)⟩)⟩)⟩)⟩)⟩)⟩)⟩)
set_option maxRecDepth 100000 in
theorem lr_wsX11_load_r14 : ∀ w ∈ wsX11_load_r14, lwIn w := (List.forall_mem_cons.mpr ⟨lm_719, (List.forall_mem_cons.mpr ⟨lm_718, (List.forall_mem_cons.mpr ⟨lm_717, (List.forall_mem_cons.mpr ⟨lm_716, (List.forall_mem_cons.mpr ⟨lm_715, (List.forall_mem_cons.mpr ⟨lm_714, (List.forall_mem_cons.mpr ⟨lm_713, (List.forall_mem_cons.mpr ⟨lm_712, (List.forall_mem_cons.mpr ⟨lm_711, (List.forall_mem_cons.mpr ⟨lm_710, (List.forall_mem_cons.mpr ⟨lm_709, (List.forall_mem_cons.mpr ⟨lm_708, (List.forall_mem_cons.mpr ⟨lm_707, (List.forall_mem_cons.mpr ⟨lm_706, (List.forall_mem_cons.mpr ⟨lm_705, (List.forall_mem_cons.mpr ⟨lm_704, (List.forall_mem_cons.mpr ⟨lm_175, (List.forall_mem_cons.mpr ⟨lm_703, (List.forall_mem_cons.mpr ⟨lm_702, (List.forall_mem_cons.mpr ⟨lm_701, (List.forall_mem_cons.mpr ⟨lm_700, (List.forall_mem_cons.mpr ⟨lm_699, (List.forall_mem_cons.mpr ⟨lm_698, (List.forall_mem_cons.mpr ⟨lm_697, (fun _ h => absurd h List.not_mem_nil)⟩)⟩)⟩)⟩)⟩)⟩)⟩)⟩)⟩)⟩)⟩)⟩)⟩)⟩)⟩)⟩)⟩)⟩)⟩)⟩)⟩)⟩)⟩)⟩)
set_option maxRecDepth 100000 in
theorem lr_wsX11_load_r15 : ∀ w ∈ wsX11_load_r15, lwIn w := (List.forall_mem_cons.mpr ⟨lm_740, (List.forall_mem_cons.mpr ⟨lm_739, (List.forall_mem_cons.mpr ⟨lm_738, (List.forall_mem_cons.mpr ⟨lm_737, (List.forall_mem_cons.mpr ⟨lm_736, (List.forall_mem_cons.mpr ⟨lm_735, (List.forall_mem_cons.mpr ⟨lm_734, (List.forall_mem_cons.mpr ⟨lm_733, (List.forall_mem_cons.mpr ⟨lm_174, (List.forall_mem_cons.mpr ⟨lm_732, (List.forall_mem_cons.mpr ⟨lm_731, (List.forall_mem_cons.mpr ⟨lm_730, (List.forall_mem_cons.mpr ⟨lm_729, (List.forall_mem_cons.mpr ⟨lm_728, (List.forall_mem_cons.mpr ⟨lm_727, (List.forall_mem_cons.mpr ⟨lm_726, (List.forall_mem_cons.mpr ⟨lm_725, (List.forall_mem_cons.mpr ⟨lm_225, (List.forall_mem_cons.mpr ⟨lm_724, (List.forall_mem_cons.mpr ⟨lm_314, (List.forall_mem_cons.mpr ⟨lm_723, (List.forall_mem_cons.mpr ⟨lm_722, (List.forall_mem_cons.mpr ⟨lm_721, (List.forall_mem_cons.mpr ⟨lm_720, (fun _ h => absurd h List.not_mem_nil)⟩)⟩)⟩)⟩)⟩)⟩)⟩)⟩)⟩)⟩)⟩)⟩)⟩)⟩)⟩)⟩)⟩)⟩)⟩)⟩)⟩)⟩)⟩)⟩)
set_option maxRecDepth 100000 in
theorem lr_wsX11_load_r16 : ∀ w ∈ wsX11_load_r16, lwIn w := (List.forall_mem_cons.mpr ⟨lm_764, (List.forall_mem_cons.mpr ⟨lm_763, (List.forall_mem_cons.mpr ⟨lm_762, (List.forall_mem_cons.mpr ⟨lm_761, (List.forall_mem_cons.mpr ⟨lm_760, (List.forall_mem_cons.mpr ⟨lm_759, (List.forall_mem_cons.mpr ⟨lm_758, (List.forall_mem_cons.mpr ⟨lm_757, (List.forall_mem_cons.mpr ⟨lm_756, (List.forall_mem_cons.mpr ⟨lm_755, (List.forall_mem_cons.mpr ⟨lm_754, (List.forall_mem_cons.mpr ⟨lm_753, (List.forall_mem_cons.mpr ⟨lm_752, (List.forall_mem_cons.mpr ⟨lm_751, (List.forall_mem_cons.mpr ⟨lm_750, (List.forall_mem_cons.mpr ⟨lm_749, (List.forall_mem_cons.mpr ⟨lm_748, (List.forall_mem_cons.mpr ⟨lm_747, (List.forall_mem_cons.mpr ⟨lm_746, (List.forall_mem_cons.mpr ⟨lm_745, (List.forall_mem_cons.mpr ⟨lm_744, (List.forall_mem_cons.mpr ⟨lm_743, (List.forall_mem_cons.mpr ⟨lm_742, (List.forall_mem_cons.mpr ⟨lm_741, (fun _ h => absurd h List.not_mem_nil)⟩)⟩)⟩)⟩)⟩)⟩)⟩)⟩)⟩)⟩)⟩)⟩)⟩)⟩)⟩)⟩)⟩)⟩)⟩)⟩)⟩)⟩)⟩)⟩)
set_option maxRecDepth 100000 in
theorem lr_wsX11_load_r17 : ∀ w ∈ wsX11_load_r17, lwIn w := (List.forall_mem_cons.mpr ⟨lm_788, (List.forall_mem_cons.mpr ⟨lm_787, (List.forall_mem_cons.mpr ⟨lm_786, (List.forall_mem_cons.mpr ⟨lm_785, (List.forall_mem_cons.mpr ⟨lm_784, (List.forall_mem_cons.mpr ⟨lm_783, (List.forall_mem_cons.mpr ⟨lm_782, (List.forall_mem_cons.mpr ⟨lm_781, (List.forall_mem_cons.mpr ⟨lm_780, (List.forall_mem_cons.mpr ⟨lm_779, (List.forall_mem_cons.mpr ⟨lm_778, (List.forall_mem_cons.mpr ⟨lm_777, (List.forall_mem_cons.mpr ⟨lm_776, (List.forall_mem_cons.mpr ⟨lm_775, (List.forall_mem_cons.mpr ⟨lm_774, (List.forall_mem_cons.mpr ⟨lm_773, (List.forall_mem_cons.mpr ⟨lm_772, (List.forall_mem_cons.mpr ⟨lm_771, (List.forall_mem_cons.mpr ⟨lm_770, (List.forall_mem_cons.mpr ⟨lm_769, (List.forall_mem_cons.mpr ⟨lm_768, (List.forall_mem_cons.mpr ⟨lm_767, (List.forall_mem_cons.mpr ⟨lm_766, (List.forall_mem_cons.mpr ⟨lm_765, (fun _ h => absurd h List.not_mem_nil)⟩)⟩)⟩)⟩)⟩)⟩)⟩)⟩)⟩)⟩)⟩)⟩)⟩)⟩)⟩)⟩)⟩)⟩)⟩)⟩)⟩)⟩)⟩)⟩)
set_option maxRecDepth 100000 in
theorem lr_wsX11_load_r18 : ∀ w ∈ wsX11_load_r18, lwIn w := (List.forall_mem_cons.mpr ⟨lm_807, (List.forall_mem_cons.mpr ⟨lm_289, (List.forall_mem_cons.mpr ⟨lm_806, (List.forall_mem_cons.mpr ⟨lm_805, (List.forall_mem_cons.mpr ⟨lm_804, (List.forall_mem_cons.mpr ⟨lm_217, (List.forall_mem_cons.mpr ⟨lm_803, (List.forall_mem_cons.mpr ⟨lm_280, (List.forall_mem_cons.mpr ⟨lm_279, (List.forall_mem_cons.mpr ⟨lm_802, (List.forall_mem_cons.mpr ⟨lm_801, (List.forall_mem_cons.mpr ⟨lm_800, (List.forall_mem_cons.mpr ⟨lm_799, (List.forall_mem_cons.mpr ⟨lm_798, (List.forall_mem_cons.mpr ⟨lm_243, (List.forall_mem_cons.mpr ⟨lm_797, (List.forall_mem_cons.mpr ⟨lm_796, (List.forall_mem_cons.mpr ⟨lm_795, (List.forall_mem_cons.mpr ⟨lm_794, (List.forall_mem_cons.mpr ⟨lm_793, (List.forall_mem_cons.mpr ⟨lm_792, (List.forall_mem_cons.mpr ⟨lm_791, (List.forall_mem_cons.mpr ⟨lm_790, (List.forall_mem_cons.mpr ⟨lm_789, (fun _ h => absurd h List.not_mem_nil)⟩)⟩)⟩)⟩)⟩)⟩)⟩)⟩)⟩)⟩)⟩)⟩)⟩)⟩)⟩)⟩)⟩)⟩)⟩)⟩)⟩)⟩)⟩)⟩)
set_option maxRecDepth 100000 in
theorem lr_wsX11_load_r19 : ∀ w ∈ wsX11_load_r19, lwIn w := (List.forall_mem_cons.mpr ⟨lm_811, (List.forall_mem_cons.mpr ⟨lm_810, (List.forall_mem_cons.mpr ⟨lm_809, (List.forall_mem_cons.mpr ⟨lm_808, (fun _ h => absurd h List.not_mem_nil)⟩)⟩)⟩)⟩)
set_option maxRecDepth 100000 in
theorem la_13 : ∀ w ∈ ((vx_atS RX11 91 "java/lang/IllegalArgumentException" ["java/lang/RuntimeException", "java/lang/Exception"]).filter goodWord), lwIn w := by unfold lwIn; decide +kernel
set_option maxRecDepth 100000 in
theorem lr_wsX11_load : ∀ w ∈ wsX11_load, lwIn w := List.forall_mem_cons.mpr ⟨lm_443, (List.forall_mem_append.mpr ⟨(List.forall_mem_append.mpr ⟨(List.forall_mem_append.mpr ⟨(List.forall_mem_append.mpr ⟨(List.forall_mem_append.mpr ⟨(List.forall_mem_append.mpr ⟨(List.forall_mem_append.mpr ⟨(List.forall_mem_append.mpr ⟨(List.forall_mem_append.mpr ⟨(List.forall_mem_append.mpr ⟨(List.forall_mem_append.mpr ⟨(List.forall_mem_append.mpr ⟨lr_wsX11_load_r1, (List.forall_mem_append.mpr ⟨lr_wsX11_load_r2, (List.forall_mem_append.mpr ⟨lr_wsX11_load_r3, (List.forall_mem_append.mpr ⟨lr_wsX11_load_r4, (List.forall_mem_append.mpr ⟨lr_wsX11_load_r5, (List.forall_mem_append.mpr ⟨lr_wsX11_load_r6, (List.forall_mem_append.mpr ⟨lr_wsX11_load_r7, (List.forall_mem_append.mpr ⟨lr_wsX11_load_r8, (List.forall_mem_append.mpr ⟨lr_wsX11_load_r9, (List.forall_mem_append.mpr ⟨lr_wsX11_load_r10, (List.forall_mem_append.mpr ⟨lr_wsX11_load_r11, (List.forall_mem_append.mpr ⟨lr_wsX11_load_r12, (List.forall_mem_append.mpr ⟨lr_wsX11_load_r13, (List.forall_mem_append.mpr ⟨lr_wsX11_load_r14, (List.forall_mem_append.mpr ⟨lr_wsX11_load_r15, (List.forall_mem_append.mpr ⟨lr_wsX11_load_r16, (List.forall_mem_append.mpr ⟨lr_wsX11_load_r17, (List.forall_mem_append.mpr ⟨lr_wsX11_load_r18, lr_wsX11_load_r19⟩)⟩)⟩)⟩)⟩)⟩)⟩)⟩)⟩)⟩)⟩)⟩)⟩)⟩)⟩)⟩)⟩)⟩), la_0⟩), la_2⟩), la_6⟩), la_5⟩), la_3⟩), la_9⟩), la_8⟩), la_4⟩), la_10⟩), la_7⟩), la_13⟩)⟩
set_option maxRecDepth 100000 in
theorem lr_wsW_load : ∀ w ∈ wsW_load, lwIn w := List.forall_mem_cons.mpr ⟨lm_440, (List.forall_mem_append.mpr ⟨(List.forall_mem_cons.mpr ⟨lm_190, (List.forall_mem_cons.mpr ⟨lm_189, (List.forall_mem_cons.mpr ⟨lm_442, (List.forall_mem_cons.mpr ⟨lm_441, (List.forall_mem_cons.mpr ⟨lm_238, (fun _ h => absurd h List.not_mem_nil)⟩)⟩)⟩)⟩)⟩), lr_wsX11_load⟩)⟩
set_option maxRecDepth 100000 in
theorem lr_wsX12_load_r1 : ∀ w ∈ wsX12_load_r1, lwIn w := (List.forall_mem_cons.mpr ⟨lm_432, (List.forall_mem_cons.mpr ⟨lm_431, (List.forall_mem_cons.mpr ⟨lm_829, (List.forall_mem_cons.mpr ⟨lm_828, (List.forall_mem_cons.mpr ⟨lm_827, (List.forall_mem_cons.mpr ⟨lm_334, (List.forall_mem_cons.mpr ⟨lm_340, (List.forall_mem_cons.mpr ⟨lm_826, (List.forall_mem_cons.mpr ⟨lm_361, (List.forall_mem_cons.mpr ⟨lm_825, (List.forall_mem_cons.mpr ⟨lm_824, (List.forall_mem_cons.mpr ⟨lm_823, (List.forall_mem_cons.mpr ⟨lm_235, (List.forall_mem_cons.mpr ⟨lm_822, (List.forall_mem_cons.mpr ⟨lm_821, (List.forall_mem_cons.mpr ⟨lm_820, (List.forall_mem_cons.mpr ⟨lm_819, (List.forall_mem_cons.mpr ⟨lm_818, (List.forall_mem_cons.mpr ⟨lm_817, (List.forall_mem_cons.mpr ⟨lm_816, (List.forall_mem_cons.mpr ⟨lm_815, (List.forall_mem_cons.mpr ⟨lm_814, (List.forall_mem_cons.mpr ⟨lm_813, (List.forall_mem_cons.mpr ⟨lm_335, (fun _ h => absurd h List.not_mem_nil)⟩)⟩)⟩)⟩)⟩)⟩)⟩)⟩)⟩)⟩)⟩)⟩)⟩)⟩)⟩)⟩)⟩)⟩)⟩)⟩)⟩)⟩)⟩)⟩)
set_option maxRecDepth 100000 in
theorem lr_wsX12_load_r2 : ∀ w ∈ wsX12_load_r2, lwIn w := (List.forall_mem_cons.mpr ⟨lm_844, (List.forall_mem_cons.mpr ⟨lm_843, (List.forall_mem_cons.mpr ⟨lm_842, (List.forall_mem_cons.mpr ⟨lm_841, (List.forall_mem_cons.mpr ⟨lm_840, (List.forall_mem_cons.mpr ⟨lm_839, (List.forall_mem_cons.mpr ⟨lm_838, (List.forall_mem_cons.mpr ⟨lm_837, (List.forall_mem_cons.mpr ⟨lm_836, (List.forall_mem_cons.mpr ⟨lm_835, (List.forall_mem_cons.mpr ⟨lm_834, (List.forall_mem_cons.mpr ⟨lm_833, (List.forall_mem_cons.mpr ⟨lm_832, (List.forall_mem_cons.mpr ⟨lm_831, (List.forall_mem_cons.mpr ⟨lm_830, (List.forall_mem_cons.mpr ⟨lm_506, (List.forall_mem_cons.mpr ⟨lm_505, (List.forall_mem_cons.mpr ⟨lm_187, (List.forall_mem_cons.mpr ⟨lm_504, (List.forall_mem_cons.mpr ⟨lm_503, (List.forall_mem_cons.mpr ⟨lm_502, (List.forall_mem_cons.mpr ⟨lm_501, (List.forall_mem_cons.mpr ⟨lm_500, (List.forall_mem_cons.mpr ⟨lm_499, (fun _ h => absurd h List.not_mem_nil)⟩)⟩)⟩)⟩)⟩)⟩)⟩)⟩)⟩)⟩)⟩)⟩)⟩)⟩)⟩)⟩)⟩)⟩)⟩)⟩)⟩)⟩)⟩)⟩)
set_option maxRecDepth 100000 in
theorem lr_wsX12_load_r3 : ∀ w ∈ wsX12_load_r3, lwIn w := (List.forall_mem_cons.mpr ⟨lm_498, (List.forall_mem_cons.mpr ⟨lm_497, (List.forall_mem_cons.mpr ⟨lm_845, (List.forall_mem_cons.mpr ⟨lm_495, (List.forall_mem_cons.mpr ⟨lm_494, (List.forall_mem_cons.mpr ⟨lm_493, (List.forall_mem_cons.mpr ⟨lm_492, (List.forall_mem_cons.mpr ⟨lm_491, (List.forall_mem_cons.mpr ⟨lm_490, (List.forall_mem_cons.mpr ⟨lm_489, (List.forall_mem_cons.mpr ⟨lm_488, (List.forall_mem_cons.mpr ⟨lm_487, (List.forall_mem_cons.mpr ⟨lm_186, (List.forall_mem_cons.mpr ⟨lm_486, (List.forall_mem_cons.mpr ⟨lm_485, (List.forall_mem_cons.mpr ⟨lm_528, (List.forall_mem_cons.mpr ⟨lm_527, (List.forall_mem_cons.mpr ⟨lm_526, (List.forall_mem_cons.mpr ⟨lm_525, (List.forall_mem_cons.mpr ⟨lm_524, (List.forall_mem_cons.mpr ⟨lm_185, (List.forall_mem_cons.mpr ⟨lm_523, (List.forall_mem_cons.mpr ⟨lm_522, (List.forall_mem_cons.mpr ⟨lm_521, (fun _ h => absurd h List.not_mem_nil)⟩)⟩)⟩)⟩)⟩)⟩)⟩)⟩)⟩)⟩)⟩)⟩)⟩)⟩)⟩)⟩)⟩)⟩)⟩)⟩)⟩)⟩)⟩)⟩)
set_option maxRecDepth 100000 in
theorem lr_wsX12_load_r4 : ∀ w ∈ wsX12_load_r4, lwIn w := (List.forall_mem_cons.mpr ⟨lm_184, (List.forall_mem_cons.mpr ⟨lm_520, (List.forall_mem_cons.mpr ⟨lm_519, (List.forall_mem_cons.mpr ⟨lm_518, (List.forall_mem_cons.mpr ⟨lm_517, (List.forall_mem_cons.mpr ⟨lm_516, (List.forall_mem_cons.mpr ⟨lm_515, (List.forall_mem_cons.mpr ⟨lm_514, (List.forall_mem_cons.mpr ⟨lm_513, (List.forall_mem_cons.mpr ⟨lm_512, (List.forall_mem_cons.mpr ⟨lm_511, (List.forall_mem_cons.mpr ⟨lm_510, (List.forall_mem_cons.mpr ⟨lm_509, (List.forall_mem_cons.mpr ⟨lm_508, (List.forall_mem_cons.mpr ⟨lm_507, (List.forall_mem_cons.mpr ⟨lm_853, (List.forall_mem_cons.mpr ⟨lm_852, (List.forall_mem_cons.mpr ⟨lm_851, (List.forall_mem_cons.mpr ⟨lm_850, (List.forall_mem_cons.mpr ⟨lm_333, (List.forall_mem_cons.mpr ⟨lm_849, (List.forall_mem_cons.mpr ⟨lm_848, (List.forall_mem_cons.mpr ⟨lm_847, (List.forall_mem_cons.mpr ⟨lm_846, (fun _ h => absurd h List.not_mem_nil)⟩)⟩)⟩)⟩)⟩)⟩)⟩)⟩)⟩)⟩)⟩)⟩)⟩)⟩)⟩)⟩)⟩)⟩)⟩)⟩)⟩)⟩)⟩)⟩)
set_option maxRecDepth 100000 in
theorem lr_wsX12_load_r5 : ∀ w ∈ wsX12_load_r5, lwIn w := (List.forall_mem_cons.mpr ⟨lm_874, (List.forall_mem_cons.mpr ⟨lm_873, (List.forall_mem_cons.mpr ⟨lm_872, (List.forall_mem_cons.mpr ⟨lm_871, (List.forall_mem_cons.mpr ⟨lm_870, (List.forall_mem_cons.mpr ⟨lm_869, (List.forall_mem_cons.mpr ⟨lm_868, (List.forall_mem_cons.mpr ⟨lm_867, (List.forall_mem_cons.mpr ⟨lm_402, (List.forall_mem_cons.mpr ⟨lm_401, (List.forall_mem_cons.mpr ⟨lm_400, (List.forall_mem_cons.mpr ⟨lm_866, (List.forall_mem_cons.mpr ⟨lm_865, (List.forall_mem_cons.mpr ⟨lm_864, (List.forall_mem_cons.mpr ⟨lm_863, (List.forall_mem_cons.mpr ⟨lm_862, (List.forall_mem_cons.mpr ⟨lm_861, (List.forall_mem_cons.mpr ⟨lm_860, (List.forall_mem_cons.mpr ⟨lm_859, (List.forall_mem_cons.mpr ⟨lm_858, (List.forall_mem_cons.mpr ⟨lm_857, (List.forall_mem_cons.mpr ⟨lm_856, (List.forall_mem_cons.mpr ⟨lm_855, (List.forall_mem_cons.mpr ⟨lm_854, (fun _ h => absurd h List.not_mem_nil)⟩)⟩)⟩)⟩)⟩)⟩)⟩)⟩)⟩)⟩)⟩)⟩)⟩)⟩)⟩)⟩)⟩)⟩)⟩)⟩)⟩)⟩)⟩)⟩)
set_option maxRecDepth 100000 in
theorem lr_wsX12_load_r6 : ∀ w ∈ wsX12_load_r6, lwIn w := (List.forall_mem_cons.mpr ⟨lm_885, (List.forall_mem_cons.mpr ⟨lm_884, (List.forall_mem_cons.mpr ⟨lm_883, (List.forall_mem_cons.mpr ⟨lm_882, (List.forall_mem_cons.mpr ⟨lm_881, (List.forall_mem_cons.mpr ⟨lm_880, (List.forall_mem_cons.mpr ⟨lm_879, (List.forall_mem_cons.mpr ⟨lm_380, (List.forall_mem_cons.mpr ⟨lm_379, (List.forall_mem_cons.mpr ⟨lm_378, (List.forall_mem_cons.mpr ⟨lm_878, (List.forall_mem_cons.mpr ⟨lm_877, (List.forall_mem_cons.mpr ⟨lm_876, (List.forall_mem_cons.mpr ⟨lm_875, (List.forall_mem_cons.mpr ⟨lm_430, (List.forall_mem_cons.mpr ⟨lm_429, (List.forall_mem_cons.mpr ⟨lm_428, (List.forall_mem_cons.mpr ⟨lm_427, (List.forall_mem_cons.mpr ⟨lm_365, (List.forall_mem_cons.mpr ⟨lm_364, (List.forall_mem_cons.mpr ⟨lm_363, (List.forall_mem_cons.mpr ⟨lm_362, (List.forall_mem_cons.mpr ⟨lm_341, (List.forall_mem_cons.mpr ⟨lm_339, (fun _ h => absurd h List.not_mem_nil)⟩)⟩)⟩)⟩)⟩)⟩)⟩)⟩)⟩)⟩)⟩)⟩)⟩)⟩)⟩)⟩)⟩)⟩)⟩)⟩)⟩)⟩)⟩)⟩)
set_option maxRecDepth 100000 in
theorem lr_wsX12_load_r7 : ∀ w ∈ wsX12_load_r7, lwIn w := (List.forall_mem_cons.mpr ⟨lm_360, (List.forall_mem_cons.mpr ⟨lm_359, (List.forall_mem_cons.mpr ⟨lm_358, (List.forall_mem_cons.mpr ⟨lm_357, (List.forall_mem_cons.mpr ⟨lm_356, (List.forall_mem_cons.mpr ⟨lm_355, (List.forall_mem_cons.mpr ⟨lm_354, (List.forall_mem_cons.mpr ⟨lm_353, (List.forall_mem_cons.mpr ⟨lm_336, (List.forall_mem_cons.mpr ⟨lm_352, (List.forall_mem_cons.mpr ⟨lm_351, (List.forall_mem_cons.mpr ⟨lm_350, (List.forall_mem_cons.mpr ⟨lm_349, (List.forall_mem_cons.mpr ⟨lm_348, (List.forall_mem_cons.mpr ⟨lm_347, (List.forall_mem_cons.mpr ⟨lm_346, (List.forall_mem_cons.mpr ⟨lm_345, (List.forall_mem_cons.mpr ⟨lm_344, (List.forall_mem_cons.mpr ⟨lm_343, (List.forall_mem_cons.mpr ⟨lm_389, (List.forall_mem_cons.mpr ⟨lm_388, (List.forall_mem_cons.mpr ⟨lm_387, (List.forall_mem_cons.mpr ⟨lm_386, (List.forall_mem_cons.mpr ⟨lm_385, (fun _ h => absurd h List.not_mem_nil)⟩)⟩)⟩)⟩)⟩)⟩)⟩)⟩)⟩)⟩)⟩)⟩)⟩)⟩)⟩)⟩)⟩)⟩)⟩)⟩)⟩)⟩)⟩)⟩)
set_option maxRecDepth 100000 in
theorem lr_wsX12_load_r8 : ∀ w ∈ wsX12_load_r8, lwIn w := (List.forall_mem_cons.mpr ⟨lm_384, (List.forall_mem_cons.mpr ⟨lm_383, (List.forall_mem_cons.mpr ⟨lm_382, (List.forall_mem_cons.mpr ⟨lm_381, (List.forall_mem_cons.mpr ⟨lm_377, (List.forall_mem_cons.mpr ⟨lm_376, (List.forall_mem_cons.mpr ⟨lm_375, (List.forall_mem_cons.mpr ⟨lm_374, (List.forall_mem_cons.mpr ⟨lm_332, (List.forall_mem_cons.mpr ⟨lm_373, (List.forall_mem_cons.mpr ⟨lm_372, (List.forall_mem_cons.mpr ⟨lm_371, (List.forall_mem_cons.mpr ⟨lm_370, (List.forall_mem_cons.mpr ⟨lm_369, (List.forall_mem_cons.mpr ⟨lm_368, (List.forall_mem_cons.mpr ⟨lm_367, (List.forall_mem_cons.mpr ⟨lm_366, (List.forall_mem_cons.mpr ⟨lm_413, (List.forall_mem_cons.mpr ⟨lm_412, (List.forall_mem_cons.mpr ⟨lm_411, (List.forall_mem_cons.mpr ⟨lm_410, (List.forall_mem_cons.mpr ⟨lm_409, (List.forall_mem_cons.mpr ⟨lm_408, (List.forall_mem_cons.mpr ⟨lm_407, (fun _ h => absurd h List.not_mem_nil)⟩)⟩)⟩)⟩)⟩)⟩)⟩)⟩)⟩)⟩)⟩)⟩)⟩)⟩)⟩)⟩)⟩)⟩)⟩)⟩)⟩)⟩)⟩)⟩)
set_option maxRecDepth 100000 in
theorem lr_wsX12_load_r9 : ∀ w ∈ wsX12_load_r9, lwIn w := (List.forall_mem_cons.mpr ⟨lm_406, (List.forall_mem_cons.mpr ⟨lm_405, (List.forall_mem_cons.mpr ⟨lm_404, (List.forall_mem_cons.mpr ⟨lm_403, (List.forall_mem_cons.mpr ⟨lm_399, (List.forall_mem_cons.mpr ⟨lm_398, (List.forall_mem_cons.mpr ⟨lm_397, (List.forall_mem_cons.mpr ⟨lm_396, (List.forall_mem_cons.mpr ⟨lm_395, (List.forall_mem_cons.mpr ⟨lm_394, (List.forall_mem_cons.mpr ⟨lm_393, (List.forall_mem_cons.mpr ⟨lm_392, (List.forall_mem_cons.mpr ⟨lm_391, (List.forall_mem_cons.mpr ⟨lm_390, (List.forall_mem_cons.mpr ⟨lm_415, (List.forall_mem_cons.mpr ⟨lm_414, (List.forall_mem_cons.mpr ⟨lm_338, (fun _ h => absurd h List.not_mem_nil)⟩)⟩)⟩)⟩)⟩)⟩)⟩)⟩)⟩)⟩)⟩)⟩)⟩)⟩)⟩)⟩)⟩)
set_option maxRecDepth 100000 in
theorem lr_wsX12_load : ∀ w ∈ wsX12_load, lwIn w := List.forall_mem_cons.mpr ⟨lm_812, (List.forall_mem_append.mpr ⟨(List.forall_mem_append.mpr ⟨lr_wsX12_load_r1, (List.forall_mem_append.mpr ⟨lr_wsX12_load_r2, (List.forall_mem_append.mpr ⟨lr_wsX12_load_r3, (List.forall_mem_append.mpr ⟨lr_wsX12_load_r4, (List.forall_mem_append.mpr ⟨lr_wsX12_load_r5, (List.forall_mem_append.mpr ⟨lr_wsX12_load_r6, (List.forall_mem_append.mpr ⟨lr_wsX12_load_r7, (List.forall_mem_append.mpr ⟨lr_wsX12_load_r8, lr_wsX12_load_r9⟩)⟩)⟩)⟩)⟩)⟩)⟩)⟩), la_1⟩)⟩
set_option maxRecDepth 100000 in
theorem lr_wsX11_errorCode : ∀ w ∈ wsX11_errorCode, lwIn w := List.forall_mem_cons.mpr ⟨lm_886, (List.forall_mem_append.mpr ⟨(List.forall_mem_append.mpr ⟨(List.forall_mem_cons.mpr ⟨lm_251, (List.forall_mem_cons.mpr ⟨lm_887, (fun _ h => absurd h List.not_mem_nil)⟩)⟩), la_0⟩), la_2⟩)⟩
set_option maxRecDepth 100000 in
theorem lr_wsX12_errorCode : ∀ w ∈ wsX12_errorCode, lwIn w := List.forall_mem_cons.mpr ⟨lm_888, (List.forall_mem_append.mpr ⟨(List.forall_mem_cons.mpr ⟨lm_432, (List.forall_mem_cons.mpr ⟨lm_827, (fun _ h => absurd h List.not_mem_nil)⟩)⟩), la_1⟩)⟩
set_option maxRecDepth 100000 in
theorem lr_wsX11_errorPosition : ∀ w ∈ wsX11_errorPosition, lwIn w := List.forall_mem_cons.mpr ⟨lm_889, (List.forall_mem_append.mpr ⟨(List.forall_mem_append.mpr ⟨(List.forall_mem_cons.mpr ⟨lm_251, (List.forall_mem_cons.mpr ⟨lm_890, (fun _ h => absurd h List.not_mem_nil)⟩)⟩), la_0⟩), la_2⟩)⟩
set_option maxRecDepth 100000 in
theorem lr_wsX12_errorPosition : ∀ w ∈ wsX12_errorPosition, lwIn w := List.forall_mem_cons.mpr ⟨lm_891, (List.forall_mem_append.mpr ⟨(List.forall_mem_cons.mpr ⟨lm_432, (List.forall_mem_cons.mpr ⟨lm_334, (fun _ h => absurd h List.not_mem_nil)⟩)⟩), la_1⟩)⟩
set_option maxRecDepth 100000 in
theorem lr_wsX11_report_r1 : ∀ w ∈ wsX11_report_r1, lwIn w := (List.forall_mem_cons.mpr ⟨lm_453, (List.forall_mem_cons.mpr ⟨lm_188, (List.forall_mem_cons.mpr ⟨lm_276, (List.forall_mem_cons.mpr ⟨lm_451, (List.forall_mem_cons.mpr ⟨lm_633, (List.forall_mem_cons.mpr ⟨lm_249, (List.forall_mem_cons.mpr ⟨lm_896, (List.forall_mem_cons.mpr ⟨lm_448, (List.forall_mem_cons.mpr ⟨lm_275, (List.forall_mem_cons.mpr ⟨lm_274, (List.forall_mem_cons.mpr ⟨lm_656, (List.forall_mem_cons.mpr ⟨lm_655, (List.forall_mem_cons.mpr ⟨lm_654, (List.forall_mem_cons.mpr ⟨lm_227, (List.forall_mem_cons.mpr ⟨lm_653, (List.forall_mem_cons.mpr ⟨lm_284, (List.forall_mem_cons.mpr ⟨lm_287, (List.forall_mem_cons.mpr ⟨lm_652, (List.forall_mem_cons.mpr ⟨lm_651, (List.forall_mem_cons.mpr ⟨lm_183, (List.forall_mem_cons.mpr ⟨lm_650, (List.forall_mem_cons.mpr ⟨lm_696, (List.forall_mem_cons.mpr ⟨lm_695, (List.forall_mem_cons.mpr ⟨lm_694, (fun _ h => absurd h List.not_mem_nil)⟩)⟩)⟩)⟩)⟩)⟩)⟩)⟩)⟩)⟩)⟩)⟩)⟩)⟩)⟩)⟩)⟩)⟩)⟩)⟩)⟩)⟩)⟩)⟩)
set_option maxRecDepth 100000 in
theorem lr_wsX11_report_r2 : ∀ w ∈ wsX11_report_r2, lwIn w := (List.forall_mem_cons.mpr ⟨lm_693, (List.forall_mem_cons.mpr ⟨lm_692, (List.forall_mem_cons.mpr ⟨lm_691, (List.forall_mem_cons.mpr ⟨lm_176, (List.forall_mem_cons.mpr ⟨lm_690, (List.forall_mem_cons.mpr ⟨lm_689, (List.forall_mem_cons.mpr ⟨lm_688, (List.forall_mem_cons.mpr ⟨lm_687, (List.forall_mem_cons.mpr ⟨lm_906, (List.forall_mem_cons.mpr ⟨lm_905, (List.forall_mem_cons.mpr ⟨lm_904, (List.forall_mem_cons.mpr ⟨lm_238, (List.forall_mem_cons.mpr ⟨lm_903, (List.forall_mem_cons.mpr ⟨lm_902, (List.forall_mem_cons.mpr ⟨lm_901, (List.forall_mem_cons.mpr ⟨lm_900, (List.forall_mem_cons.mpr ⟨lm_899, (List.forall_mem_cons.mpr ⟨lm_665, (List.forall_mem_cons.mpr ⟨lm_898, (List.forall_mem_cons.mpr ⟨lm_710, (List.forall_mem_cons.mpr ⟨lm_709, (List.forall_mem_cons.mpr ⟨lm_897, (List.forall_mem_cons.mpr ⟨lm_704, (List.forall_mem_cons.mpr ⟨lm_175, (fun _ h => absurd h List.not_mem_nil)⟩)⟩)⟩)⟩)⟩)⟩)⟩)⟩)⟩)⟩)⟩)⟩)⟩)⟩)⟩)⟩)⟩)⟩)⟩)⟩)⟩)⟩)⟩)⟩)
set_option maxRecDepth 100000 in
theorem lr_wsX11_report_r3 : ∀ w ∈ wsX11_report_r3, lwIn w := (List.forall_mem_cons.mpr ⟨lm_703, (List.forall_mem_cons.mpr ⟨lm_702, (List.forall_mem_cons.mpr ⟨lm_701, (List.forall_mem_cons.mpr ⟨lm_700, (fun _ h => absurd h List.not_mem_nil)⟩)⟩)⟩)⟩)
set_option maxRecDepth 100000 in
theorem lr_wsX11_report : ∀ w ∈ wsX11_report, lwIn w := List.forall_mem_cons.mpr ⟨lm_895, (List.forall_mem_append.mpr ⟨(List.forall_mem_append.mpr ⟨(List.forall_mem_append.mpr ⟨(List.forall_mem_append.mpr ⟨(List.forall_mem_append.mpr ⟨lr_wsX11_report_r1, (List.forall_mem_append.mpr ⟨lr_wsX11_report_r2, lr_wsX11_report_r3⟩)⟩), la_0⟩), la_6⟩), la_3⟩), la_13⟩)⟩
set_option maxRecDepth 100000 in
theorem lr_wsW_report : ∀ w ∈ wsW_report, lwIn w := List.forall_mem_cons.mpr ⟨lm_892, (List.forall_mem_append.mpr ⟨(List.forall_mem_cons.mpr ⟨lm_190, (List.forall_mem_cons.mpr ⟨lm_156, (List.forall_mem_cons.mpr ⟨lm_894, (List.forall_mem_cons.mpr ⟨lm_893, (List.forall_mem_cons.mpr ⟨lm_238, (fun _ h => absurd h List.not_mem_nil)⟩)⟩)⟩)⟩)⟩), lr_wsX11_report⟩)⟩
set_option maxRecDepth 100000 in
theorem lr_wsX12_report : ∀ w ∈ wsX12_report, lwIn w := List.forall_mem_cons.mpr ⟨lm_907, (List.forall_mem_append.mpr ⟨(List.forall_mem_cons.mpr ⟨lm_432, (List.forall_mem_cons.mpr ⟨lm_341, (List.forall_mem_cons.mpr ⟨lm_360, (List.forall_mem_cons.mpr ⟨lm_361, (List.forall_mem_cons.mpr ⟨lm_359, (List.forall_mem_cons.mpr ⟨lm_357, (List.forall_mem_cons.mpr ⟨lm_358, (List.forall_mem_cons.mpr ⟨lm_402, (List.forall_mem_cons.mpr ⟨lm_401, (List.forall_mem_cons.mpr ⟨lm_235, (List.forall_mem_cons.mpr ⟨lm_400, (List.forall_mem_cons.mpr ⟨lm_430, (List.forall_mem_cons.mpr ⟨lm_429, (List.forall_mem_cons.mpr ⟨lm_428, (List.forall_mem_cons.mpr ⟨lm_427, (List.forall_mem_cons.mpr ⟨lm_911, (List.forall_mem_cons.mpr ⟨lm_910, (List.forall_mem_cons.mpr ⟨lm_909, (List.forall_mem_cons.mpr ⟨lm_908, (List.forall_mem_cons.mpr ⟨lm_339, (List.forall_mem_cons.mpr ⟨lm_405, (List.forall_mem_cons.mpr ⟨lm_404, (List.forall_mem_cons.mpr ⟨lm_403, (fun _ h => absurd h List.not_mem_nil)⟩)⟩)⟩)⟩)⟩)⟩)⟩)⟩)⟩)⟩)⟩)⟩)⟩)⟩)⟩)⟩)⟩)⟩)⟩)⟩)⟩)⟩)⟩), la_1⟩)⟩
set_option maxRecDepth 100000 in
theorem lr_wsX11_domain : ∀ w ∈ wsX11_domain, lwIn w := List.forall_mem_cons.mpr ⟨lm_915, (List.forall_mem_append.mpr ⟨(List.forall_mem_append.mpr ⟨(List.forall_mem_append.mpr ⟨(List.forall_mem_append.mpr ⟨(List.forall_mem_cons.mpr ⟨lm_438, (List.forall_mem_cons.mpr ⟨lm_196, (List.forall_mem_cons.mpr ⟨lm_249, (List.forall_mem_cons.mpr ⟨lm_665, (List.forall_mem_cons.mpr ⟨lm_919, (List.forall_mem_cons.mpr ⟨lm_918, (List.forall_mem_cons.mpr ⟨lm_917, (List.forall_mem_cons.mpr ⟨lm_238, (List.forall_mem_cons.mpr ⟨lm_916, (List.forall_mem_cons.mpr ⟨lm_276, (List.forall_mem_cons.mpr ⟨lm_451, (List.forall_mem_cons.mpr ⟨lm_898, (List.forall_mem_cons.mpr ⟨lm_710, (List.forall_mem_cons.mpr ⟨lm_183, (List.forall_mem_cons.mpr ⟨lm_709, (fun _ h => absurd h List.not_mem_nil)⟩)⟩)⟩)⟩)⟩)⟩)⟩)⟩)⟩)⟩)⟩)⟩)⟩)⟩)⟩), la_0⟩), la_3⟩), la_6⟩), la_12⟩)⟩
set_option maxRecDepth 100000 in
theorem lr_wsW_domain : ∀ w ∈ wsW_domain, lwIn w := List.forall_mem_cons.mpr ⟨lm_912, (List.forall_mem_append.mpr ⟨(List.forall_mem_cons.mpr ⟨lm_198, (List.forall_mem_cons.mpr ⟨lm_150, (List.forall_mem_cons.mpr ⟨lm_914, (List.forall_mem_cons.mpr ⟨lm_913, (List.forall_mem_cons.mpr ⟨lm_238, (fun _ h => absurd h List.not_mem_nil)⟩)⟩)⟩)⟩)⟩), lr_wsX11_domain⟩)⟩
set_option maxRecDepth 100000 in
theorem lr_wsX12_domain : ∀ w ∈ wsX12_domain, lwIn w := List.forall_mem_cons.mpr ⟨lm_920, (List.forall_mem_append.mpr ⟨(List.forall_mem_cons.mpr ⟨lm_432, (List.forall_mem_cons.mpr ⟨lm_339, (List.forall_mem_cons.mpr ⟨lm_924, (List.forall_mem_cons.mpr ⟨lm_923, (List.forall_mem_cons.mpr ⟨lm_922, (List.forall_mem_cons.mpr ⟨lm_235, (List.forall_mem_cons.mpr ⟨lm_921, (List.forall_mem_cons.mpr ⟨lm_341, (List.forall_mem_cons.mpr ⟨lm_402, (List.forall_mem_cons.mpr ⟨lm_401, (List.forall_mem_cons.mpr ⟨lm_400, (List.forall_mem_cons.mpr ⟨lm_430, (List.forall_mem_cons.mpr ⟨lm_429, (List.forall_mem_cons.mpr ⟨lm_428, (List.forall_mem_cons.mpr ⟨lm_427, (fun _ h => absurd h List.not_mem_nil)⟩)⟩)⟩)⟩)⟩)⟩)⟩)⟩)⟩)⟩)⟩)⟩)⟩)⟩)⟩), la_1⟩)⟩
set_option maxRecDepth 100000 in
theorem lr_wsX11_constraint_r1 : ∀ w ∈ wsX11_constraint_r1, lwIn w := (List.forall_mem_cons.mpr ⟨lm_438, (List.forall_mem_cons.mpr ⟨lm_196, (List.forall_mem_cons.mpr ⟨lm_453, (List.forall_mem_cons.mpr ⟨lm_188, (List.forall_mem_cons.mpr ⟨lm_276, (List.forall_mem_cons.mpr ⟨lm_933, (List.forall_mem_cons.mpr ⟨lm_666, (List.forall_mem_cons.mpr ⟨lm_673, (List.forall_mem_cons.mpr ⟨lm_672, (List.forall_mem_cons.mpr ⟨lm_671, (List.forall_mem_cons.mpr ⟨lm_221, (List.forall_mem_cons.mpr ⟨lm_670, (List.forall_mem_cons.mpr ⟨lm_296, (List.forall_mem_cons.mpr ⟨lm_298, (List.forall_mem_cons.mpr ⟨lm_932, (List.forall_mem_cons.mpr ⟨lm_931, (List.forall_mem_cons.mpr ⟨lm_238, (List.forall_mem_cons.mpr ⟨lm_930, (List.forall_mem_cons.mpr ⟨lm_929, (List.forall_mem_cons.mpr ⟨lm_579, (List.forall_mem_cons.mpr ⟨lm_578, (List.forall_mem_cons.mpr ⟨lm_577, (List.forall_mem_cons.mpr ⟨lm_216, (List.forall_mem_cons.mpr ⟨lm_576, (fun _ h => absurd h List.not_mem_nil)⟩)⟩)⟩)⟩)⟩)⟩)⟩)⟩)⟩)⟩)⟩)⟩)⟩)⟩)⟩)⟩)⟩)⟩)⟩)⟩)⟩)⟩)⟩)⟩)
set_option maxRecDepth 100000 in
theorem lr_wsX11_constraint_r2 : ∀ w ∈ wsX11_constraint_r2, lwIn w := (List.forall_mem_cons.mpr ⟨lm_308, (List.forall_mem_cons.mpr ⟨lm_575, (List.forall_mem_cons.mpr ⟨lm_574, (List.forall_mem_cons.mpr ⟨lm_183, (List.forall_mem_cons.mpr ⟨lm_573, (List.forall_mem_cons.mpr ⟨lm_611, (List.forall_mem_cons.mpr ⟨lm_610, (List.forall_mem_cons.mpr ⟨lm_609, (List.forall_mem_cons.mpr ⟨lm_608, (List.forall_mem_cons.mpr ⟨lm_939, (List.forall_mem_cons.mpr ⟨lm_938, (List.forall_mem_cons.mpr ⟨lm_937, (List.forall_mem_cons.mpr ⟨lm_936, (List.forall_mem_cons.mpr ⟨lm_249, (List.forall_mem_cons.mpr ⟨lm_448, (List.forall_mem_cons.mpr ⟨lm_935, (List.forall_mem_cons.mpr ⟨lm_934, (List.forall_mem_cons.mpr ⟨lm_766, (List.forall_mem_cons.mpr ⟨lm_765, (List.forall_mem_cons.mpr ⟨lm_227, (List.forall_mem_cons.mpr ⟨lm_807, (List.forall_mem_cons.mpr ⟨lm_286, (List.forall_mem_cons.mpr ⟨lm_289, (fun _ h => absurd h List.not_mem_nil)⟩)⟩)⟩)⟩)⟩)⟩)⟩)⟩)⟩)⟩)⟩)⟩)⟩)⟩)⟩)⟩)⟩)⟩)⟩)⟩)⟩)⟩)⟩)
set_option maxRecDepth 100000 in
theorem lr_wsX11_constraint : ∀ w ∈ wsX11_constraint, lwIn w := List.forall_mem_cons.mpr ⟨lm_928, (List.forall_mem_append.mpr ⟨(List.forall_mem_append.mpr ⟨(List.forall_mem_append.mpr ⟨(List.forall_mem_append.mpr ⟨(List.forall_mem_append.mpr ⟨(List.forall_mem_append.mpr ⟨(List.forall_mem_append.mpr ⟨(List.forall_mem_append.mpr ⟨(List.forall_mem_append.mpr ⟨(List.forall_mem_append.mpr ⟨(List.forall_mem_append.mpr ⟨lr_wsX11_constraint_r1, lr_wsX11_constraint_r2⟩), la_0⟩), la_8⟩), la_9⟩), la_4⟩), la_10⟩), la_6⟩), la_3⟩), la_7⟩), la_12⟩), la_13⟩)⟩
set_option maxRecDepth 100000 in
theorem lr_wsW_constraint : ∀ w ∈ wsW_constraint, lwIn w := List.forall_mem_cons.mpr ⟨lm_925, (List.forall_mem_append.mpr ⟨(List.forall_mem_cons.mpr ⟨lm_198, (List.forall_mem_cons.mpr ⟨lm_190, (List.forall_mem_cons.mpr ⟨lm_144, (List.forall_mem_cons.mpr ⟨lm_927, (List.forall_mem_cons.mpr ⟨lm_926, (List.forall_mem_cons.mpr ⟨lm_238, (fun _ h => absurd h List.not_mem_nil)⟩)⟩)⟩)⟩)⟩)⟩), lr_wsX11_constraint⟩)⟩
set_option maxRecDepth 100000 in
theorem lr_wsX12_constraint__r1 : ∀ w ∈ wsX12_constraint__r1, lwIn w := (List.forall_mem_cons.mpr ⟨lm_432, (List.forall_mem_cons.mpr ⟨lm_950, (List.forall_mem_cons.mpr ⟨lm_949, (List.forall_mem_cons.mpr ⟨lm_948, (List.forall_mem_cons.mpr ⟨lm_235, (List.forall_mem_cons.mpr ⟨lm_947, (List.forall_mem_cons.mpr ⟨lm_341, (List.forall_mem_cons.mpr ⟨lm_402, (List.forall_mem_cons.mpr ⟨lm_401, (List.forall_mem_cons.mpr ⟨lm_400, (List.forall_mem_cons.mpr ⟨lm_430, (List.forall_mem_cons.mpr ⟨lm_429, (List.forall_mem_cons.mpr ⟨lm_428, (List.forall_mem_cons.mpr ⟨lm_427, (List.forall_mem_cons.mpr ⟨lm_344, (List.forall_mem_cons.mpr ⟨lm_343, (List.forall_mem_cons.mpr ⟨lm_389, (List.forall_mem_cons.mpr ⟨lm_388, (List.forall_mem_cons.mpr ⟨lm_946, (List.forall_mem_cons.mpr ⟨lm_945, (List.forall_mem_cons.mpr ⟨lm_944, (List.forall_mem_cons.mpr ⟨lm_943, (List.forall_mem_cons.mpr ⟨lm_942, (List.forall_mem_cons.mpr ⟨lm_941, (fun _ h => absurd h List.not_mem_nil)⟩)⟩)⟩)⟩)⟩)⟩)⟩)⟩)⟩)⟩)⟩)⟩)⟩)⟩)⟩)⟩)⟩)⟩)⟩)⟩)⟩)⟩)⟩)⟩)
set_option maxRecDepth 100000 in
theorem lr_wsX12_constraint__r2 : ∀ w ∈ wsX12_constraint__r2, lwIn w := (List.forall_mem_cons.mpr ⟨lm_952, (List.forall_mem_cons.mpr ⟨lm_951, (List.forall_mem_cons.mpr ⟨lm_361, (List.forall_mem_cons.mpr ⟨lm_338, (fun _ h => absurd h List.not_mem_nil)⟩)⟩)⟩)⟩)
set_option maxRecDepth 100000 in
theorem lr_wsX12_constraint_ : ∀ w ∈ wsX12_constraint_, lwIn w := List.forall_mem_cons.mpr ⟨lm_940, (List.forall_mem_append.mpr ⟨(List.forall_mem_append.mpr ⟨lr_wsX12_constraint__r1, lr_wsX12_constraint__r2⟩), la_1⟩)⟩
set_option maxRecDepth 100000 in
theorem lr_wsX11_fact : ∀ w ∈ wsX11_fact, lwIn w := List.forall_mem_cons.mpr ⟨lm_956, (List.forall_mem_append.mpr ⟨(List.forall_mem_append.mpr ⟨(List.forall_mem_append.mpr ⟨(List.forall_mem_append.mpr ⟨(List.forall_mem_append.mpr ⟨(List.forall_mem_cons.mpr ⟨lm_438, (List.forall_mem_cons.mpr ⟨lm_196, (List.forall_mem_cons.mpr ⟨lm_453, (List.forall_mem_cons.mpr ⟨lm_188, (List.forall_mem_cons.mpr ⟨lm_249, (List.forall_mem_cons.mpr ⟨lm_959, (List.forall_mem_cons.mpr ⟨lm_958, (List.forall_mem_cons.mpr ⟨lm_935, (List.forall_mem_cons.mpr ⟨lm_957, (List.forall_mem_cons.mpr ⟨lm_934, (List.forall_mem_cons.mpr ⟨lm_766, (List.forall_mem_cons.mpr ⟨lm_765, (List.forall_mem_cons.mpr ⟨lm_227, (List.forall_mem_cons.mpr ⟨lm_807, (List.forall_mem_cons.mpr ⟨lm_286, (List.forall_mem_cons.mpr ⟨lm_289, (fun _ h => absurd h List.not_mem_nil)⟩)⟩)⟩)⟩)⟩)⟩)⟩)⟩)⟩)⟩)⟩)⟩)⟩)⟩)⟩)⟩), la_0⟩), la_7⟩), la_3⟩), la_12⟩), la_13⟩)⟩
set_option maxRecDepth 100000 in
theorem lr_wsW_fact : ∀ w ∈ wsW_fact, lwIn w := List.forall_mem_cons.mpr ⟨lm_953, (List.forall_mem_append.mpr ⟨(List.forall_mem_cons.mpr ⟨lm_198, (List.forall_mem_cons.mpr ⟨lm_190, (List.forall_mem_cons.mpr ⟨lm_138, (List.forall_mem_cons.mpr ⟨lm_955, (List.forall_mem_cons.mpr ⟨lm_954, (List.forall_mem_cons.mpr ⟨lm_238, (fun _ h => absurd h List.not_mem_nil)⟩)⟩)⟩)⟩)⟩)⟩), lr_wsX11_fact⟩)⟩
set_option maxRecDepth 100000 in
theorem lr_wsX12_fact : ∀ w ∈ wsX12_fact, lwIn w := List.forall_mem_cons.mpr ⟨lm_960, (List.forall_mem_append.mpr ⟨(List.forall_mem_cons.mpr ⟨lm_432, (List.forall_mem_cons.mpr ⟨lm_338, (List.forall_mem_cons.mpr ⟨lm_964, (List.forall_mem_cons.mpr ⟨lm_963, (List.forall_mem_cons.mpr ⟨lm_962, (List.forall_mem_cons.mpr ⟨lm_235, (List.forall_mem_cons.mpr ⟨lm_961, (List.forall_mem_cons.mpr ⟨lm_361, (List.forall_mem_cons.mpr ⟨lm_402, (List.forall_mem_cons.mpr ⟨lm_401, (List.forall_mem_cons.mpr ⟨lm_400, (List.forall_mem_cons.mpr ⟨lm_430, (List.forall_mem_cons.mpr ⟨lm_429, (List.forall_mem_cons.mpr ⟨lm_428, (List.forall_mem_cons.mpr ⟨lm_427, (fun _ h => absurd h List.not_mem_nil)⟩)⟩)⟩)⟩)⟩)⟩)⟩)⟩)⟩)⟩)⟩)⟩)⟩)⟩)⟩), la_1⟩)⟩
set_option maxRecDepth 100000 in
theorem lr_wsX11_factOf_r1 : ∀ w ∈ wsX11_factOf_r1, lwIn w := (List.forall_mem_cons.mpr ⟨lm_438, (List.forall_mem_cons.mpr ⟨lm_196, (List.forall_mem_cons.mpr ⟨lm_453, (List.forall_mem_cons.mpr ⟨lm_188, (List.forall_mem_cons.mpr ⟨lm_973, (List.forall_mem_cons.mpr ⟨lm_130, (List.forall_mem_cons.mpr ⟨lm_249, (List.forall_mem_cons.mpr ⟨lm_448, (List.forall_mem_cons.mpr ⟨lm_919, (List.forall_mem_cons.mpr ⟨lm_918, (List.forall_mem_cons.mpr ⟨lm_917, (List.forall_mem_cons.mpr ⟨lm_238, (List.forall_mem_cons.mpr ⟨lm_916, (List.forall_mem_cons.mpr ⟨lm_276, (List.forall_mem_cons.mpr ⟨lm_451, (List.forall_mem_cons.mpr ⟨lm_972, (List.forall_mem_cons.mpr ⟨lm_591, (List.forall_mem_cons.mpr ⟨lm_590, (List.forall_mem_cons.mpr ⟨lm_971, (List.forall_mem_cons.mpr ⟨lm_565, (List.forall_mem_cons.mpr ⟨lm_183, (List.forall_mem_cons.mpr ⟨lm_564, (List.forall_mem_cons.mpr ⟨lm_970, (List.forall_mem_cons.mpr ⟨lm_969, (fun _ h => absurd h List.not_mem_nil)⟩)⟩)⟩)⟩)⟩)⟩)⟩)⟩)⟩)⟩)⟩)⟩)⟩)⟩)⟩)⟩)⟩)⟩)⟩)⟩)⟩)⟩)⟩)⟩)
set_option maxRecDepth 100000 in
theorem lr_wsX11_factOf_r2 : ∀ w ∈ wsX11_factOf_r2, lwIn w := (List.forall_mem_cons.mpr ⟨lm_975, (List.forall_mem_cons.mpr ⟨lm_227, (List.forall_mem_cons.mpr ⟨lm_974, (List.forall_mem_cons.mpr ⟨lm_767, (List.forall_mem_cons.mpr ⟨lm_766, (List.forall_mem_cons.mpr ⟨lm_765, (List.forall_mem_cons.mpr ⟨lm_807, (List.forall_mem_cons.mpr ⟨lm_286, (List.forall_mem_cons.mpr ⟨lm_289, (List.forall_mem_cons.mpr ⟨lm_806, (List.forall_mem_cons.mpr ⟨lm_805, (List.forall_mem_cons.mpr ⟨lm_804, (List.forall_mem_cons.mpr ⟨lm_217, (List.forall_mem_cons.mpr ⟨lm_803, (List.forall_mem_cons.mpr ⟨lm_280, (List.forall_mem_cons.mpr ⟨lm_279, (List.forall_mem_cons.mpr ⟨lm_802, (fun _ h => absurd h List.not_mem_nil)⟩)⟩)⟩)⟩)⟩)⟩)⟩)⟩)⟩)⟩)⟩)⟩)⟩)⟩)⟩)⟩)⟩)
set_option maxRecDepth 100000 in
theorem lr_wsQ_factOf : ∀ w ∈ wsQ_factOf, lwIn w := List.forall_mem_cons.mpr ⟨lm_968, (List.forall_mem_append.mpr ⟨(List.forall_mem_append.mpr ⟨(List.forall_mem_append.mpr ⟨(List.forall_mem_append.mpr ⟨(List.forall_mem_append.mpr ⟨(List.forall_mem_append.mpr ⟨(List.forall_mem_append.mpr ⟨lr_wsX11_factOf_r1, lr_wsX11_factOf_r2⟩), la_0⟩), la_3⟩), la_6⟩), la_7⟩), la_12⟩), la_13⟩)⟩
set_option maxRecDepth 100000 in
theorem lr_wsW_factOf : ∀ w ∈ wsW_factOf, lwIn w := List.forall_mem_cons.mpr ⟨lm_965, (List.forall_mem_append.mpr ⟨(List.forall_mem_cons.mpr ⟨lm_198, (List.forall_mem_cons.mpr ⟨lm_190, (List.forall_mem_cons.mpr ⟨lm_132, (List.forall_mem_cons.mpr ⟨lm_131, (List.forall_mem_cons.mpr ⟨lm_967, (List.forall_mem_cons.mpr ⟨lm_966, (List.forall_mem_cons.mpr ⟨lm_238, (fun _ h => absurd h List.not_mem_nil)⟩)⟩)⟩)⟩)⟩)⟩)⟩), lr_wsQ_factOf⟩)⟩
set_option maxRecDepth 100000 in
theorem lr_wsX12_factOf : ∀ w ∈ wsX12_factOf, lwIn w := List.forall_mem_cons.mpr ⟨lm_976, (List.forall_mem_append.mpr ⟨(List.forall_mem_cons.mpr ⟨lm_432, (List.forall_mem_cons.mpr ⟨lm_361, (List.forall_mem_cons.mpr ⟨lm_338, (List.forall_mem_cons.mpr ⟨lm_924, (List.forall_mem_cons.mpr ⟨lm_923, (List.forall_mem_cons.mpr ⟨lm_922, (List.forall_mem_cons.mpr ⟨lm_235, (List.forall_mem_cons.mpr ⟨lm_921, (List.forall_mem_cons.mpr ⟨lm_341, (List.forall_mem_cons.mpr ⟨lm_402, (List.forall_mem_cons.mpr ⟨lm_401, (List.forall_mem_cons.mpr ⟨lm_400, (List.forall_mem_cons.mpr ⟨lm_430, (List.forall_mem_cons.mpr ⟨lm_429, (List.forall_mem_cons.mpr ⟨lm_428, (List.forall_mem_cons.mpr ⟨lm_427, (fun _ h => absurd h List.not_mem_nil)⟩)⟩)⟩)⟩)⟩)⟩)⟩)⟩)⟩)⟩)⟩)⟩)⟩)⟩)⟩)⟩), la_1⟩)⟩
set_option maxRecDepth 100000 in
theorem lr_wsX11_explanationSize_r1 : ∀ w ∈ wsX11_explanationSize_r1, lwIn w := (List.forall_mem_cons.mpr ⟨lm_438, (List.forall_mem_cons.mpr ⟨lm_196, (List.forall_mem_cons.mpr ⟨lm_249, (List.forall_mem_cons.mpr ⟨lm_934, (List.forall_mem_cons.mpr ⟨lm_766, (List.forall_mem_cons.mpr ⟨lm_765, (List.forall_mem_cons.mpr ⟨lm_227, (List.forall_mem_cons.mpr ⟨lm_807, (List.forall_mem_cons.mpr ⟨lm_286, (List.forall_mem_cons.mpr ⟨lm_289, (List.forall_mem_cons.mpr ⟨lm_991, (List.forall_mem_cons.mpr ⟨lm_990, (List.forall_mem_cons.mpr ⟨lm_989, (List.forall_mem_cons.mpr ⟨lm_238, (List.forall_mem_cons.mpr ⟨lm_988, (List.forall_mem_cons.mpr ⟨lm_987, (List.forall_mem_cons.mpr ⟨lm_986, (List.forall_mem_cons.mpr ⟨lm_985, (List.forall_mem_cons.mpr ⟨lm_984, (List.forall_mem_cons.mpr ⟨lm_983, (List.forall_mem_cons.mpr ⟨lm_982, (List.forall_mem_cons.mpr ⟨lm_935, (List.forall_mem_cons.mpr ⟨lm_246, (List.forall_mem_cons.mpr ⟨lm_981, (fun _ h => absurd h List.not_mem_nil)⟩)⟩)⟩)⟩)⟩)⟩)⟩)⟩)⟩)⟩)⟩)⟩)⟩)⟩)⟩)⟩)⟩)⟩)⟩)⟩)⟩)⟩)⟩)⟩)
set_option maxRecDepth 100000 in
theorem lr_wsX11_explanationSize_r2 : ∀ w ∈ wsX11_explanationSize_r2, lwIn w := (List.forall_mem_cons.mpr ⟨lm_276, (List.forall_mem_cons.mpr ⟨lm_797, (List.forall_mem_cons.mpr ⟨lm_796, (List.forall_mem_cons.mpr ⟨lm_795, (List.forall_mem_cons.mpr ⟨lm_225, (List.forall_mem_cons.mpr ⟨lm_794, (List.forall_mem_cons.mpr ⟨lm_314, (List.forall_mem_cons.mpr ⟨lm_793, (List.forall_mem_cons.mpr ⟨lm_792, (List.forall_mem_cons.mpr ⟨lm_791, (List.forall_mem_cons.mpr ⟨lm_790, (List.forall_mem_cons.mpr ⟨lm_216, (List.forall_mem_cons.mpr ⟨lm_789, (List.forall_mem_cons.mpr ⟨lm_307, (List.forall_mem_cons.mpr ⟨lm_308, (List.forall_mem_cons.mpr ⟨lm_309, (List.forall_mem_cons.mpr ⟨lm_811, (List.forall_mem_cons.mpr ⟨lm_710, (List.forall_mem_cons.mpr ⟨lm_183, (List.forall_mem_cons.mpr ⟨lm_709, (List.forall_mem_cons.mpr ⟨lm_810, (List.forall_mem_cons.mpr ⟨lm_809, (List.forall_mem_cons.mpr ⟨lm_808, (List.forall_mem_cons.mpr ⟨lm_604, (fun _ h => absurd h List.not_mem_nil)⟩)⟩)⟩)⟩)⟩)⟩)⟩)⟩)⟩)⟩)⟩)⟩)⟩)⟩)⟩)⟩)⟩)⟩)⟩)⟩)⟩)⟩)⟩)⟩)
set_option maxRecDepth 100000 in
theorem lr_wsX11_explanationSize_r3 : ∀ w ∈ wsX11_explanationSize_r3, lwIn w := (List.forall_mem_cons.mpr ⟨lm_603, (List.forall_mem_cons.mpr ⟨lm_575, (List.forall_mem_cons.mpr ⟨lm_574, (List.forall_mem_cons.mpr ⟨lm_573, (List.forall_mem_cons.mpr ⟨lm_611, (List.forall_mem_cons.mpr ⟨lm_673, (List.forall_mem_cons.mpr ⟨lm_672, (List.forall_mem_cons.mpr ⟨lm_671, (List.forall_mem_cons.mpr ⟨lm_221, (List.forall_mem_cons.mpr ⟨lm_670, (List.forall_mem_cons.mpr ⟨lm_296, (List.forall_mem_cons.mpr ⟨lm_298, (List.forall_mem_cons.mpr ⟨lm_996, (List.forall_mem_cons.mpr ⟨lm_995, (List.forall_mem_cons.mpr ⟨lm_994, (List.forall_mem_cons.mpr ⟨lm_993, (List.forall_mem_cons.mpr ⟨lm_992, (List.forall_mem_cons.mpr ⟨lm_450, (List.forall_mem_cons.mpr ⟨lm_959, (List.forall_mem_cons.mpr ⟨lm_958, (List.forall_mem_cons.mpr ⟨lm_970, (List.forall_mem_cons.mpr ⟨lm_969, (List.forall_mem_cons.mpr ⟨lm_975, (List.forall_mem_cons.mpr ⟨lm_974, (fun _ h => absurd h List.not_mem_nil)⟩)⟩)⟩)⟩)⟩)⟩)⟩)⟩)⟩)⟩)⟩)⟩)⟩)⟩)⟩)⟩)⟩)⟩)⟩)⟩)⟩)⟩)⟩)⟩)
set_option maxRecDepth 100000 in
theorem lr_wsX11_explanationSize_r4 : ∀ w ∈ wsX11_explanationSize_r4, lwIn w := (List.forall_mem_cons.mpr ⟨lm_767, (List.forall_mem_cons.mpr ⟨lm_806, (List.forall_mem_cons.mpr ⟨lm_805, (List.forall_mem_cons.mpr ⟨lm_804, (List.forall_mem_cons.mpr ⟨lm_217, (List.forall_mem_cons.mpr ⟨lm_803, (List.forall_mem_cons.mpr ⟨lm_280, (List.forall_mem_cons.mpr ⟨lm_279, (List.forall_mem_cons.mpr ⟨lm_802, (List.forall_mem_cons.mpr ⟨lm_565, (List.forall_mem_cons.mpr ⟨lm_564, (List.forall_mem_cons.mpr ⟨lm_682, (List.forall_mem_cons.mpr ⟨lm_681, (List.forall_mem_cons.mpr ⟨lm_680, (List.forall_mem_cons.mpr ⟨lm_679, (List.forall_mem_cons.mpr ⟨lm_678, (List.forall_mem_cons.mpr ⟨lm_683, (List.forall_mem_cons.mpr ⟨lm_677, (List.forall_mem_cons.mpr ⟨lm_676, (List.forall_mem_cons.mpr ⟨lm_675, (List.forall_mem_cons.mpr ⟨lm_674, (List.forall_mem_cons.mpr ⟨lm_719, (List.forall_mem_cons.mpr ⟨lm_718, (List.forall_mem_cons.mpr ⟨lm_177, (fun _ h => absurd h List.not_mem_nil)⟩)⟩)⟩)⟩)⟩)⟩)⟩)⟩)⟩)⟩)⟩)⟩)⟩)⟩)⟩)⟩)⟩)⟩)⟩)⟩)⟩)⟩)⟩)⟩)
set_option maxRecDepth 100000 in
theorem lr_wsX11_explanationSize_r5 : ∀ w ∈ wsX11_explanationSize_r5, lwIn w := (List.forall_mem_cons.mpr ⟨lm_717, (List.forall_mem_cons.mpr ⟨lm_716, (List.forall_mem_cons.mpr ⟨lm_715, (List.forall_mem_cons.mpr ⟨lm_714, (List.forall_mem_cons.mpr ⟨lm_713, (List.forall_mem_cons.mpr ⟨lm_712, (List.forall_mem_cons.mpr ⟨lm_661, (List.forall_mem_cons.mpr ⟨lm_660, (List.forall_mem_cons.mpr ⟨lm_711, (List.forall_mem_cons.mpr ⟨lm_708, (List.forall_mem_cons.mpr ⟨lm_707, (List.forall_mem_cons.mpr ⟨lm_706, (List.forall_mem_cons.mpr ⟨lm_705, (List.forall_mem_cons.mpr ⟨lm_704, (List.forall_mem_cons.mpr ⟨lm_175, (List.forall_mem_cons.mpr ⟨lm_703, (List.forall_mem_cons.mpr ⟨lm_702, (List.forall_mem_cons.mpr ⟨lm_701, (List.forall_mem_cons.mpr ⟨lm_700, (List.forall_mem_cons.mpr ⟨lm_699, (List.forall_mem_cons.mpr ⟨lm_698, (List.forall_mem_cons.mpr ⟨lm_181, (List.forall_mem_cons.mpr ⟨lm_697, (List.forall_mem_cons.mpr ⟨lm_740, (fun _ h => absurd h List.not_mem_nil)⟩)⟩)⟩)⟩)⟩)⟩)⟩)⟩)⟩)⟩)⟩)⟩)⟩)⟩)⟩)⟩)⟩)⟩)⟩)⟩)⟩)⟩)⟩)⟩)
set_option maxRecDepth 100000 in
theorem lr_wsX11_explanationSize_r6 : ∀ w ∈ wsX11_explanationSize_r6, lwIn w := (List.forall_mem_cons.mpr ⟨lm_739, (List.forall_mem_cons.mpr ⟨lm_738, (List.forall_mem_cons.mpr ⟨lm_737, (List.forall_mem_cons.mpr ⟨lm_736, (List.forall_mem_cons.mpr ⟨lm_735, (List.forall_mem_cons.mpr ⟨lm_588, (List.forall_mem_cons.mpr ⟨lm_587, (List.forall_mem_cons.mpr ⟨lm_734, (List.forall_mem_cons.mpr ⟨lm_733, (List.forall_mem_cons.mpr ⟨lm_174, (List.forall_mem_cons.mpr ⟨lm_732, (List.forall_mem_cons.mpr ⟨lm_731, (List.forall_mem_cons.mpr ⟨lm_730, (List.forall_mem_cons.mpr ⟨lm_729, (List.forall_mem_cons.mpr ⟨lm_728, (List.forall_mem_cons.mpr ⟨lm_691, (List.forall_mem_cons.mpr ⟨lm_176, (List.forall_mem_cons.mpr ⟨lm_690, (List.forall_mem_cons.mpr ⟨lm_689, (List.forall_mem_cons.mpr ⟨lm_688, (List.forall_mem_cons.mpr ⟨lm_687, (List.forall_mem_cons.mpr ⟨lm_727, (List.forall_mem_cons.mpr ⟨lm_651, (List.forall_mem_cons.mpr ⟨lm_650, (fun _ h => absurd h List.not_mem_nil)⟩)⟩)⟩)⟩)⟩)⟩)⟩)⟩)⟩)⟩)⟩)⟩)⟩)⟩)⟩)⟩)⟩)⟩)⟩)⟩)⟩)⟩)⟩)⟩)
set_option maxRecDepth 100000 in
theorem lr_wsX11_explanationSize_r7 : ∀ w ∈ wsX11_explanationSize_r7, lwIn w := (List.forall_mem_cons.mpr ⟨lm_696, (List.forall_mem_cons.mpr ⟨lm_695, (List.forall_mem_cons.mpr ⟨lm_694, (List.forall_mem_cons.mpr ⟨lm_693, (List.forall_mem_cons.mpr ⟨lm_692, (List.forall_mem_cons.mpr ⟨lm_726, (List.forall_mem_cons.mpr ⟨lm_725, (List.forall_mem_cons.mpr ⟨lm_724, (List.forall_mem_cons.mpr ⟨lm_723, (List.forall_mem_cons.mpr ⟨lm_722, (List.forall_mem_cons.mpr ⟨lm_721, (List.forall_mem_cons.mpr ⟨lm_720, (List.forall_mem_cons.mpr ⟨lm_179, (List.forall_mem_cons.mpr ⟨lm_764, (List.forall_mem_cons.mpr ⟨lm_621, (List.forall_mem_cons.mpr ⟨lm_763, (List.forall_mem_cons.mpr ⟨lm_762, (List.forall_mem_cons.mpr ⟨lm_761, (List.forall_mem_cons.mpr ⟨lm_620, (List.forall_mem_cons.mpr ⟨lm_760, (List.forall_mem_cons.mpr ⟨lm_619, (List.forall_mem_cons.mpr ⟨lm_618, (List.forall_mem_cons.mpr ⟨lm_759, (List.forall_mem_cons.mpr ⟨lm_758, (fun _ h => absurd h List.not_mem_nil)⟩)⟩)⟩)⟩)⟩)⟩)⟩)⟩)⟩)⟩)⟩)⟩)⟩)⟩)⟩)⟩)⟩)⟩)⟩)⟩)⟩)⟩)⟩)⟩)
set_option maxRecDepth 100000 in
theorem lr_wsX11_explanationSize_r8 : ∀ w ∈ wsX11_explanationSize_r8, lwIn w := (List.forall_mem_cons.mpr ⟨lm_757, (List.forall_mem_cons.mpr ⟨lm_756, (List.forall_mem_cons.mpr ⟨lm_755, (List.forall_mem_cons.mpr ⟨lm_754, (List.forall_mem_cons.mpr ⟨lm_753, (List.forall_mem_cons.mpr ⟨lm_752, (List.forall_mem_cons.mpr ⟨lm_751, (List.forall_mem_cons.mpr ⟨lm_750, (List.forall_mem_cons.mpr ⟨lm_749, (List.forall_mem_cons.mpr ⟨lm_663, (List.forall_mem_cons.mpr ⟨lm_662, (List.forall_mem_cons.mpr ⟨lm_659, (List.forall_mem_cons.mpr ⟨lm_658, (List.forall_mem_cons.mpr ⟨lm_657, (List.forall_mem_cons.mpr ⟨lm_748, (List.forall_mem_cons.mpr ⟨lm_747, (List.forall_mem_cons.mpr ⟨lm_746, (List.forall_mem_cons.mpr ⟨lm_745, (List.forall_mem_cons.mpr ⟨lm_744, (List.forall_mem_cons.mpr ⟨lm_743, (List.forall_mem_cons.mpr ⟨lm_742, (List.forall_mem_cons.mpr ⟨lm_741, (List.forall_mem_cons.mpr ⟨lm_788, (List.forall_mem_cons.mpr ⟨lm_787, (fun _ h => absurd h List.not_mem_nil)⟩)⟩)⟩)⟩)⟩)⟩)⟩)⟩)⟩)⟩)⟩)⟩)⟩)⟩)⟩)⟩)⟩)⟩)⟩)⟩)⟩)⟩)⟩)⟩)
set_option maxRecDepth 100000 in
theorem lr_wsX11_explanationSize_r9 : ∀ w ∈ wsX11_explanationSize_r9, lwIn w := (List.forall_mem_cons.mpr ⟨lm_786, (List.forall_mem_cons.mpr ⟨lm_586, (List.forall_mem_cons.mpr ⟨lm_785, (List.forall_mem_cons.mpr ⟨lm_594, (List.forall_mem_cons.mpr ⟨lm_593, (List.forall_mem_cons.mpr ⟨lm_592, (List.forall_mem_cons.mpr ⟨lm_591, (List.forall_mem_cons.mpr ⟨lm_590, (List.forall_mem_cons.mpr ⟨lm_784, (List.forall_mem_cons.mpr ⟨lm_783, (List.forall_mem_cons.mpr ⟨lm_782, (List.forall_mem_cons.mpr ⟨lm_781, (List.forall_mem_cons.mpr ⟨lm_780, (List.forall_mem_cons.mpr ⟨lm_779, (List.forall_mem_cons.mpr ⟨lm_997, (fun _ h => absurd h List.not_mem_nil)⟩)⟩)⟩)⟩)⟩)⟩)⟩)⟩)⟩)⟩)⟩)⟩)⟩)⟩)⟩)
set_option maxRecDepth 100000 in
theorem lr_wsX11_explanationSize : ∀ w ∈ wsX11_explanationSize, lwIn w := List.forall_mem_cons.mpr ⟨lm_980, (List.forall_mem_append.mpr ⟨(List.forall_mem_append.mpr ⟨(List.forall_mem_append.mpr ⟨(List.forall_mem_append.mpr ⟨(List.forall_mem_append.mpr ⟨(List.forall_mem_append.mpr ⟨(List.forall_mem_append.mpr ⟨(List.forall_mem_append.mpr ⟨(List.forall_mem_append.mpr ⟨(List.forall_mem_append.mpr ⟨lr_wsX11_explanationSize_r1, (List.forall_mem_append.mpr ⟨lr_wsX11_explanationSize_r2, (List.forall_mem_append.mpr ⟨lr_wsX11_explanationSize_r3, (List.forall_mem_append.mpr ⟨lr_wsX11_explanationSize_r4, (List.forall_mem_append.mpr ⟨lr_wsX11_explanationSize_r5, (List.forall_mem_append.mpr ⟨lr_wsX11_explanationSize_r6, (List.forall_mem_append.mpr ⟨lr_wsX11_explanationSize_r7, (List.forall_mem_append.mpr ⟨lr_wsX11_explanationSize_r8, lr_wsX11_explanationSize_r9⟩)⟩)⟩)⟩)⟩)⟩)⟩)⟩), la_0⟩), la_3⟩), la_7⟩), la_4⟩), la_8⟩), la_9⟩), la_10⟩), la_6⟩), la_12⟩)⟩
set_option maxRecDepth 100000 in
theorem lr_wsW_explanationSize : ∀ w ∈ wsW_explanationSize, lwIn w := List.forall_mem_cons.mpr ⟨lm_977, (List.forall_mem_append.mpr ⟨(List.forall_mem_cons.mpr ⟨lm_198, (List.forall_mem_cons.mpr ⟨lm_124, (List.forall_mem_cons.mpr ⟨lm_979, (List.forall_mem_cons.mpr ⟨lm_978, (List.forall_mem_cons.mpr ⟨lm_238, (fun _ h => absurd h List.not_mem_nil)⟩)⟩)⟩)⟩)⟩), lr_wsX11_explanationSize⟩)⟩
set_option maxRecDepth 100000 in
theorem lr_wsX12_explanationSize_r1 : ∀ w ∈ wsX12_explanationSize_r1, lwIn w := (List.forall_mem_cons.mpr ⟨lm_432, (List.forall_mem_cons.mpr ⟨lm_964, (List.forall_mem_cons.mpr ⟨lm_963, (List.forall_mem_cons.mpr ⟨lm_962, (List.forall_mem_cons.mpr ⟨lm_235, (List.forall_mem_cons.mpr ⟨lm_961, (List.forall_mem_cons.mpr ⟨lm_361, (List.forall_mem_cons.mpr ⟨lm_402, (List.forall_mem_cons.mpr ⟨lm_401, (List.forall_mem_cons.mpr ⟨lm_400, (List.forall_mem_cons.mpr ⟨lm_430, (List.forall_mem_cons.mpr ⟨lm_429, (List.forall_mem_cons.mpr ⟨lm_428, (List.forall_mem_cons.mpr ⟨lm_427, (List.forall_mem_cons.mpr ⟨lm_1005, (List.forall_mem_cons.mpr ⟨lm_1004, (List.forall_mem_cons.mpr ⟨lm_1003, (List.forall_mem_cons.mpr ⟨lm_1002, (List.forall_mem_cons.mpr ⟨lm_338, (List.forall_mem_cons.mpr ⟨lm_331, (List.forall_mem_cons.mpr ⟨lm_330, (List.forall_mem_cons.mpr ⟨lm_1001, (List.forall_mem_cons.mpr ⟨lm_1000, (List.forall_mem_cons.mpr ⟨lm_999, (fun _ h => absurd h List.not_mem_nil)⟩)⟩)⟩)⟩)⟩)⟩)⟩)⟩)⟩)⟩)⟩)⟩)⟩)⟩)⟩)⟩)⟩)⟩)⟩)⟩)⟩)⟩)⟩)⟩)
set_option maxRecDepth 100000 in
theorem lr_wsX12_explanationSize_r2 : ∀ w ∈ wsX12_explanationSize_r2, lwIn w := (List.forall_mem_cons.mpr ⟨lm_1010, (List.forall_mem_cons.mpr ⟨lm_387, (List.forall_mem_cons.mpr ⟨lm_386, (List.forall_mem_cons.mpr ⟨lm_385, (List.forall_mem_cons.mpr ⟨lm_344, (List.forall_mem_cons.mpr ⟨lm_343, (List.forall_mem_cons.mpr ⟨lm_389, (List.forall_mem_cons.mpr ⟨lm_388, (List.forall_mem_cons.mpr ⟨lm_341, (List.forall_mem_cons.mpr ⟨lm_1009, (List.forall_mem_cons.mpr ⟨lm_1008, (List.forall_mem_cons.mpr ⟨lm_1007, (List.forall_mem_cons.mpr ⟨lm_1006, (List.forall_mem_cons.mpr ⟨lm_377, (List.forall_mem_cons.mpr ⟨lm_376, (List.forall_mem_cons.mpr ⟨lm_375, (List.forall_mem_cons.mpr ⟨lm_374, (List.forall_mem_cons.mpr ⟨lm_332, (List.forall_mem_cons.mpr ⟨lm_373, (List.forall_mem_cons.mpr ⟨lm_372, (List.forall_mem_cons.mpr ⟨lm_371, (List.forall_mem_cons.mpr ⟨lm_370, (List.forall_mem_cons.mpr ⟨lm_369, (List.forall_mem_cons.mpr ⟨lm_368, (fun _ h => absurd h List.not_mem_nil)⟩)⟩)⟩)⟩)⟩)⟩)⟩)⟩)⟩)⟩)⟩)⟩)⟩)⟩)⟩)⟩)⟩)⟩)⟩)⟩)⟩)⟩)⟩)⟩)
set_option maxRecDepth 100000 in
theorem lr_wsX12_explanationSize_r3 : ∀ w ∈ wsX12_explanationSize_r3, lwIn w := (List.forall_mem_cons.mpr ⟨lm_367, (List.forall_mem_cons.mpr ⟨lm_366, (List.forall_mem_cons.mpr ⟨lm_413, (List.forall_mem_cons.mpr ⟨lm_412, (List.forall_mem_cons.mpr ⟨lm_411, (List.forall_mem_cons.mpr ⟨lm_410, (List.forall_mem_cons.mpr ⟨lm_380, (List.forall_mem_cons.mpr ⟨lm_379, (List.forall_mem_cons.mpr ⟨lm_378, (List.forall_mem_cons.mpr ⟨lm_409, (List.forall_mem_cons.mpr ⟨lm_408, (List.forall_mem_cons.mpr ⟨lm_407, (List.forall_mem_cons.mpr ⟨lm_406, (List.forall_mem_cons.mpr ⟨lm_405, (List.forall_mem_cons.mpr ⟨lm_404, (List.forall_mem_cons.mpr ⟨lm_403, (List.forall_mem_cons.mpr ⟨lm_399, (List.forall_mem_cons.mpr ⟨lm_398, (List.forall_mem_cons.mpr ⟨lm_397, (List.forall_mem_cons.mpr ⟨lm_396, (List.forall_mem_cons.mpr ⟨lm_395, (List.forall_mem_cons.mpr ⟨lm_394, (List.forall_mem_cons.mpr ⟨lm_393, (List.forall_mem_cons.mpr ⟨lm_392, (fun _ h => absurd h List.not_mem_nil)⟩)⟩)⟩)⟩)⟩)⟩)⟩)⟩)⟩)⟩)⟩)⟩)⟩)⟩)⟩)⟩)⟩)⟩)⟩)⟩)⟩)⟩)⟩)⟩)
set_option maxRecDepth 100000 in
theorem lr_wsX12_explanationSize : ∀ w ∈ wsX12_explanationSize, lwIn w := List.forall_mem_cons.mpr ⟨lm_998, (List.forall_mem_append.mpr ⟨(List.forall_mem_append.mpr ⟨lr_wsX12_explanationSize_r1, (List.forall_mem_append.mpr ⟨lr_wsX12_explanationSize_r2, lr_wsX12_explanationSize_r3⟩)⟩), la_1⟩)⟩
set_option maxRecDepth 100000 in
theorem lr_wsX11_explained_r1 : ∀ w ∈ wsX11_explained_r1, lwIn w := (List.forall_mem_cons.mpr ⟨lm_438, (List.forall_mem_cons.mpr ⟨lm_196, (List.forall_mem_cons.mpr ⟨lm_249, (List.forall_mem_cons.mpr ⟨lm_934, (List.forall_mem_cons.mpr ⟨lm_766, (List.forall_mem_cons.mpr ⟨lm_765, (List.forall_mem_cons.mpr ⟨lm_227, (List.forall_mem_cons.mpr ⟨lm_807, (List.forall_mem_cons.mpr ⟨lm_286, (List.forall_mem_cons.mpr ⟨lm_289, (List.forall_mem_cons.mpr ⟨lm_991, (List.forall_mem_cons.mpr ⟨lm_990, (List.forall_mem_cons.mpr ⟨lm_989, (List.forall_mem_cons.mpr ⟨lm_238, (List.forall_mem_cons.mpr ⟨lm_988, (List.forall_mem_cons.mpr ⟨lm_987, (List.forall_mem_cons.mpr ⟨lm_986, (List.forall_mem_cons.mpr ⟨lm_985, (List.forall_mem_cons.mpr ⟨lm_984, (List.forall_mem_cons.mpr ⟨lm_983, (List.forall_mem_cons.mpr ⟨lm_982, (List.forall_mem_cons.mpr ⟨lm_935, (List.forall_mem_cons.mpr ⟨lm_246, (List.forall_mem_cons.mpr ⟨lm_981, (fun _ h => absurd h List.not_mem_nil)⟩)⟩)⟩)⟩)⟩)⟩)⟩)⟩)⟩)⟩)⟩)⟩)⟩)⟩)⟩)⟩)⟩)⟩)⟩)⟩)⟩)⟩)⟩)⟩)
set_option maxRecDepth 100000 in
theorem lr_wsX11_explained_r2 : ∀ w ∈ wsX11_explained_r2, lwIn w := (List.forall_mem_cons.mpr ⟨lm_276, (List.forall_mem_cons.mpr ⟨lm_797, (List.forall_mem_cons.mpr ⟨lm_796, (List.forall_mem_cons.mpr ⟨lm_795, (List.forall_mem_cons.mpr ⟨lm_225, (List.forall_mem_cons.mpr ⟨lm_794, (List.forall_mem_cons.mpr ⟨lm_314, (List.forall_mem_cons.mpr ⟨lm_793, (List.forall_mem_cons.mpr ⟨lm_792, (List.forall_mem_cons.mpr ⟨lm_791, (List.forall_mem_cons.mpr ⟨lm_790, (List.forall_mem_cons.mpr ⟨lm_216, (List.forall_mem_cons.mpr ⟨lm_789, (List.forall_mem_cons.mpr ⟨lm_307, (List.forall_mem_cons.mpr ⟨lm_308, (List.forall_mem_cons.mpr ⟨lm_309, (List.forall_mem_cons.mpr ⟨lm_811, (List.forall_mem_cons.mpr ⟨lm_710, (List.forall_mem_cons.mpr ⟨lm_183, (List.forall_mem_cons.mpr ⟨lm_709, (List.forall_mem_cons.mpr ⟨lm_810, (List.forall_mem_cons.mpr ⟨lm_809, (List.forall_mem_cons.mpr ⟨lm_808, (List.forall_mem_cons.mpr ⟨lm_604, (fun _ h => absurd h List.not_mem_nil)⟩)⟩)⟩)⟩)⟩)⟩)⟩)⟩)⟩)⟩)⟩)⟩)⟩)⟩)⟩)⟩)⟩)⟩)⟩)⟩)⟩)⟩)⟩)⟩)
set_option maxRecDepth 100000 in
theorem lr_wsX11_explained_r3 : ∀ w ∈ wsX11_explained_r3, lwIn w := (List.forall_mem_cons.mpr ⟨lm_603, (List.forall_mem_cons.mpr ⟨lm_575, (List.forall_mem_cons.mpr ⟨lm_574, (List.forall_mem_cons.mpr ⟨lm_573, (List.forall_mem_cons.mpr ⟨lm_611, (List.forall_mem_cons.mpr ⟨lm_673, (List.forall_mem_cons.mpr ⟨lm_672, (List.forall_mem_cons.mpr ⟨lm_671, (List.forall_mem_cons.mpr ⟨lm_221, (List.forall_mem_cons.mpr ⟨lm_670, (List.forall_mem_cons.mpr ⟨lm_296, (List.forall_mem_cons.mpr ⟨lm_298, (List.forall_mem_cons.mpr ⟨lm_996, (List.forall_mem_cons.mpr ⟨lm_995, (List.forall_mem_cons.mpr ⟨lm_994, (List.forall_mem_cons.mpr ⟨lm_993, (List.forall_mem_cons.mpr ⟨lm_992, (List.forall_mem_cons.mpr ⟨lm_450, (List.forall_mem_cons.mpr ⟨lm_959, (List.forall_mem_cons.mpr ⟨lm_958, (List.forall_mem_cons.mpr ⟨lm_970, (List.forall_mem_cons.mpr ⟨lm_969, (List.forall_mem_cons.mpr ⟨lm_975, (List.forall_mem_cons.mpr ⟨lm_974, (fun _ h => absurd h List.not_mem_nil)⟩)⟩)⟩)⟩)⟩)⟩)⟩)⟩)⟩)⟩)⟩)⟩)⟩)⟩)⟩)⟩)⟩)⟩)⟩)⟩)⟩)⟩)⟩)⟩)
set_option maxRecDepth 100000 in
theorem lr_wsX11_explained_r4 : ∀ w ∈ wsX11_explained_r4, lwIn w := (List.forall_mem_cons.mpr ⟨lm_767, (List.forall_mem_cons.mpr ⟨lm_806, (List.forall_mem_cons.mpr ⟨lm_805, (List.forall_mem_cons.mpr ⟨lm_804, (List.forall_mem_cons.mpr ⟨lm_217, (List.forall_mem_cons.mpr ⟨lm_803, (List.forall_mem_cons.mpr ⟨lm_280, (List.forall_mem_cons.mpr ⟨lm_279, (List.forall_mem_cons.mpr ⟨lm_802, (List.forall_mem_cons.mpr ⟨lm_565, (List.forall_mem_cons.mpr ⟨lm_564, (List.forall_mem_cons.mpr ⟨lm_682, (List.forall_mem_cons.mpr ⟨lm_681, (List.forall_mem_cons.mpr ⟨lm_680, (List.forall_mem_cons.mpr ⟨lm_679, (List.forall_mem_cons.mpr ⟨lm_678, (List.forall_mem_cons.mpr ⟨lm_683, (List.forall_mem_cons.mpr ⟨lm_677, (List.forall_mem_cons.mpr ⟨lm_676, (List.forall_mem_cons.mpr ⟨lm_675, (List.forall_mem_cons.mpr ⟨lm_674, (List.forall_mem_cons.mpr ⟨lm_719, (List.forall_mem_cons.mpr ⟨lm_718, (List.forall_mem_cons.mpr ⟨lm_177, (fun _ h => absurd h List.not_mem_nil)⟩)⟩)⟩)⟩)⟩)⟩)⟩)⟩)⟩)⟩)⟩)⟩)⟩)⟩)⟩)⟩)⟩)⟩)⟩)⟩)⟩)⟩)⟩)⟩)
set_option maxRecDepth 100000 in
theorem lr_wsX11_explained_r5 : ∀ w ∈ wsX11_explained_r5, lwIn w := (List.forall_mem_cons.mpr ⟨lm_717, (List.forall_mem_cons.mpr ⟨lm_716, (List.forall_mem_cons.mpr ⟨lm_715, (List.forall_mem_cons.mpr ⟨lm_714, (List.forall_mem_cons.mpr ⟨lm_713, (List.forall_mem_cons.mpr ⟨lm_712, (List.forall_mem_cons.mpr ⟨lm_661, (List.forall_mem_cons.mpr ⟨lm_660, (List.forall_mem_cons.mpr ⟨lm_711, (List.forall_mem_cons.mpr ⟨lm_708, (List.forall_mem_cons.mpr ⟨lm_707, (List.forall_mem_cons.mpr ⟨lm_706, (List.forall_mem_cons.mpr ⟨lm_705, (List.forall_mem_cons.mpr ⟨lm_704, (List.forall_mem_cons.mpr ⟨lm_175, (List.forall_mem_cons.mpr ⟨lm_703, (List.forall_mem_cons.mpr ⟨lm_702, (List.forall_mem_cons.mpr ⟨lm_701, (List.forall_mem_cons.mpr ⟨lm_700, (List.forall_mem_cons.mpr ⟨lm_699, (List.forall_mem_cons.mpr ⟨lm_698, (List.forall_mem_cons.mpr ⟨lm_181, (List.forall_mem_cons.mpr ⟨lm_697, (List.forall_mem_cons.mpr ⟨lm_740, (fun _ h => absurd h List.not_mem_nil)⟩)⟩)⟩)⟩)⟩)⟩)⟩)⟩)⟩)⟩)⟩)⟩)⟩)⟩)⟩)⟩)⟩)⟩)⟩)⟩)⟩)⟩)⟩)⟩)
set_option maxRecDepth 100000 in
theorem lr_wsX11_explained_r6 : ∀ w ∈ wsX11_explained_r6, lwIn w := (List.forall_mem_cons.mpr ⟨lm_739, (List.forall_mem_cons.mpr ⟨lm_738, (List.forall_mem_cons.mpr ⟨lm_737, (List.forall_mem_cons.mpr ⟨lm_736, (List.forall_mem_cons.mpr ⟨lm_735, (List.forall_mem_cons.mpr ⟨lm_588, (List.forall_mem_cons.mpr ⟨lm_587, (List.forall_mem_cons.mpr ⟨lm_734, (List.forall_mem_cons.mpr ⟨lm_733, (List.forall_mem_cons.mpr ⟨lm_174, (List.forall_mem_cons.mpr ⟨lm_732, (List.forall_mem_cons.mpr ⟨lm_731, (List.forall_mem_cons.mpr ⟨lm_730, (List.forall_mem_cons.mpr ⟨lm_729, (List.forall_mem_cons.mpr ⟨lm_728, (List.forall_mem_cons.mpr ⟨lm_691, (List.forall_mem_cons.mpr ⟨lm_176, (List.forall_mem_cons.mpr ⟨lm_690, (List.forall_mem_cons.mpr ⟨lm_689, (List.forall_mem_cons.mpr ⟨lm_688, (List.forall_mem_cons.mpr ⟨lm_687, (List.forall_mem_cons.mpr ⟨lm_727, (List.forall_mem_cons.mpr ⟨lm_651, (List.forall_mem_cons.mpr ⟨lm_650, (fun _ h => absurd h List.not_mem_nil)⟩)⟩)⟩)⟩)⟩)⟩)⟩)⟩)⟩)⟩)⟩)⟩)⟩)⟩)⟩)⟩)⟩)⟩)⟩)⟩)⟩)⟩)⟩)⟩)
set_option maxRecDepth 100000 in
theorem lr_wsX11_explained_r7 : ∀ w ∈ wsX11_explained_r7, lwIn w := (List.forall_mem_cons.mpr ⟨lm_696, (List.forall_mem_cons.mpr ⟨lm_695, (List.forall_mem_cons.mpr ⟨lm_694, (List.forall_mem_cons.mpr ⟨lm_693, (List.forall_mem_cons.mpr ⟨lm_692, (List.forall_mem_cons.mpr ⟨lm_726, (List.forall_mem_cons.mpr ⟨lm_725, (List.forall_mem_cons.mpr ⟨lm_724, (List.forall_mem_cons.mpr ⟨lm_723, (List.forall_mem_cons.mpr ⟨lm_722, (List.forall_mem_cons.mpr ⟨lm_721, (List.forall_mem_cons.mpr ⟨lm_720, (List.forall_mem_cons.mpr ⟨lm_179, (List.forall_mem_cons.mpr ⟨lm_764, (List.forall_mem_cons.mpr ⟨lm_621, (List.forall_mem_cons.mpr ⟨lm_763, (List.forall_mem_cons.mpr ⟨lm_762, (List.forall_mem_cons.mpr ⟨lm_761, (List.forall_mem_cons.mpr ⟨lm_620, (List.forall_mem_cons.mpr ⟨lm_760, (List.forall_mem_cons.mpr ⟨lm_619, (List.forall_mem_cons.mpr ⟨lm_618, (List.forall_mem_cons.mpr ⟨lm_759, (List.forall_mem_cons.mpr ⟨lm_758, (fun _ h => absurd h List.not_mem_nil)⟩)⟩)⟩)⟩)⟩)⟩)⟩)⟩)⟩)⟩)⟩)⟩)⟩)⟩)⟩)⟩)⟩)⟩)⟩)⟩)⟩)⟩)⟩)⟩)
set_option maxRecDepth 100000 in
theorem lr_wsX11_explained_r8 : ∀ w ∈ wsX11_explained_r8, lwIn w := (List.forall_mem_cons.mpr ⟨lm_757, (List.forall_mem_cons.mpr ⟨lm_756, (List.forall_mem_cons.mpr ⟨lm_755, (List.forall_mem_cons.mpr ⟨lm_754, (List.forall_mem_cons.mpr ⟨lm_753, (List.forall_mem_cons.mpr ⟨lm_752, (List.forall_mem_cons.mpr ⟨lm_751, (List.forall_mem_cons.mpr ⟨lm_750, (List.forall_mem_cons.mpr ⟨lm_749, (List.forall_mem_cons.mpr ⟨lm_663, (List.forall_mem_cons.mpr ⟨lm_662, (List.forall_mem_cons.mpr ⟨lm_659, (List.forall_mem_cons.mpr ⟨lm_658, (List.forall_mem_cons.mpr ⟨lm_657, (List.forall_mem_cons.mpr ⟨lm_748, (List.forall_mem_cons.mpr ⟨lm_747, (List.forall_mem_cons.mpr ⟨lm_746, (List.forall_mem_cons.mpr ⟨lm_745, (List.forall_mem_cons.mpr ⟨lm_744, (List.forall_mem_cons.mpr ⟨lm_743, (List.forall_mem_cons.mpr ⟨lm_742, (List.forall_mem_cons.mpr ⟨lm_741, (List.forall_mem_cons.mpr ⟨lm_788, (List.forall_mem_cons.mpr ⟨lm_787, (fun _ h => absurd h List.not_mem_nil)⟩)⟩)⟩)⟩)⟩)⟩)⟩)⟩)⟩)⟩)⟩)⟩)⟩)⟩)⟩)⟩)⟩)⟩)⟩)⟩)⟩)⟩)⟩)⟩)
set_option maxRecDepth 100000 in
theorem lr_wsX11_explained_r9 : ∀ w ∈ wsX11_explained_r9, lwIn w := (List.forall_mem_cons.mpr ⟨lm_786, (List.forall_mem_cons.mpr ⟨lm_586, (List.forall_mem_cons.mpr ⟨lm_785, (List.forall_mem_cons.mpr ⟨lm_594, (List.forall_mem_cons.mpr ⟨lm_593, (List.forall_mem_cons.mpr ⟨lm_592, (List.forall_mem_cons.mpr ⟨lm_591, (List.forall_mem_cons.mpr ⟨lm_590, (List.forall_mem_cons.mpr ⟨lm_784, (List.forall_mem_cons.mpr ⟨lm_783, (List.forall_mem_cons.mpr ⟨lm_782, (List.forall_mem_cons.mpr ⟨lm_781, (List.forall_mem_cons.mpr ⟨lm_780, (List.forall_mem_cons.mpr ⟨lm_779, (fun _ h => absurd h List.not_mem_nil)⟩)⟩)⟩)⟩)⟩)⟩)⟩)⟩)⟩)⟩)⟩)⟩)⟩)⟩)
set_option maxRecDepth 100000 in
theorem lr_wsX11_explained : ∀ w ∈ wsX11_explained, lwIn w := List.forall_mem_cons.mpr ⟨lm_1014, (List.forall_mem_append.mpr ⟨(List.forall_mem_append.mpr ⟨(List.forall_mem_append.mpr ⟨(List.forall_mem_append.mpr ⟨(List.forall_mem_append.mpr ⟨(List.forall_mem_append.mpr ⟨(List.forall_mem_append.mpr ⟨(List.forall_mem_append.mpr ⟨(List.forall_mem_append.mpr ⟨(List.forall_mem_append.mpr ⟨lr_wsX11_explained_r1, (List.forall_mem_append.mpr ⟨lr_wsX11_explained_r2, (List.forall_mem_append.mpr ⟨lr_wsX11_explained_r3, (List.forall_mem_append.mpr ⟨lr_wsX11_explained_r4, (List.forall_mem_append.mpr ⟨lr_wsX11_explained_r5, (List.forall_mem_append.mpr ⟨lr_wsX11_explained_r6, (List.forall_mem_append.mpr ⟨lr_wsX11_explained_r7, (List.forall_mem_append.mpr ⟨lr_wsX11_explained_r8, lr_wsX11_explained_r9⟩)⟩)⟩)⟩)⟩)⟩)⟩)⟩), la_0⟩), la_3⟩), la_7⟩), la_4⟩), la_8⟩), la_9⟩), la_10⟩), la_6⟩), la_12⟩)⟩
set_option maxRecDepth 100000 in
theorem lr_wsW_explained : ∀ w ∈ wsW_explained, lwIn w := List.forall_mem_cons.mpr ⟨lm_1011, (List.forall_mem_append.mpr ⟨(List.forall_mem_cons.mpr ⟨lm_198, (List.forall_mem_cons.mpr ⟨lm_118, (List.forall_mem_cons.mpr ⟨lm_1013, (List.forall_mem_cons.mpr ⟨lm_1012, (List.forall_mem_cons.mpr ⟨lm_238, (fun _ h => absurd h List.not_mem_nil)⟩)⟩)⟩)⟩)⟩), lr_wsX11_explained⟩)⟩
set_option maxRecDepth 100000 in
theorem lr_wsX12_explained_r1 : ∀ w ∈ wsX12_explained_r1, lwIn w := (List.forall_mem_cons.mpr ⟨lm_432, (List.forall_mem_cons.mpr ⟨lm_331, (List.forall_mem_cons.mpr ⟨lm_964, (List.forall_mem_cons.mpr ⟨lm_963, (List.forall_mem_cons.mpr ⟨lm_962, (List.forall_mem_cons.mpr ⟨lm_235, (List.forall_mem_cons.mpr ⟨lm_961, (List.forall_mem_cons.mpr ⟨lm_361, (List.forall_mem_cons.mpr ⟨lm_402, (List.forall_mem_cons.mpr ⟨lm_401, (List.forall_mem_cons.mpr ⟨lm_400, (List.forall_mem_cons.mpr ⟨lm_430, (List.forall_mem_cons.mpr ⟨lm_429, (List.forall_mem_cons.mpr ⟨lm_428, (List.forall_mem_cons.mpr ⟨lm_427, (List.forall_mem_cons.mpr ⟨lm_1005, (List.forall_mem_cons.mpr ⟨lm_1004, (List.forall_mem_cons.mpr ⟨lm_1003, (List.forall_mem_cons.mpr ⟨lm_1002, (List.forall_mem_cons.mpr ⟨lm_338, (List.forall_mem_cons.mpr ⟨lm_330, (List.forall_mem_cons.mpr ⟨lm_1001, (List.forall_mem_cons.mpr ⟨lm_1000, (List.forall_mem_cons.mpr ⟨lm_999, (fun _ h => absurd h List.not_mem_nil)⟩)⟩)⟩)⟩)⟩)⟩)⟩)⟩)⟩)⟩)⟩)⟩)⟩)⟩)⟩)⟩)⟩)⟩)⟩)⟩)⟩)⟩)⟩)⟩)
set_option maxRecDepth 100000 in
theorem lr_wsX12_explained_r2 : ∀ w ∈ wsX12_explained_r2, lwIn w := (List.forall_mem_cons.mpr ⟨lm_1010, (List.forall_mem_cons.mpr ⟨lm_387, (List.forall_mem_cons.mpr ⟨lm_386, (List.forall_mem_cons.mpr ⟨lm_385, (List.forall_mem_cons.mpr ⟨lm_344, (List.forall_mem_cons.mpr ⟨lm_343, (List.forall_mem_cons.mpr ⟨lm_389, (List.forall_mem_cons.mpr ⟨lm_388, (List.forall_mem_cons.mpr ⟨lm_341, (List.forall_mem_cons.mpr ⟨lm_1009, (List.forall_mem_cons.mpr ⟨lm_1008, (List.forall_mem_cons.mpr ⟨lm_1007, (List.forall_mem_cons.mpr ⟨lm_1006, (List.forall_mem_cons.mpr ⟨lm_377, (List.forall_mem_cons.mpr ⟨lm_376, (List.forall_mem_cons.mpr ⟨lm_375, (List.forall_mem_cons.mpr ⟨lm_374, (List.forall_mem_cons.mpr ⟨lm_332, (List.forall_mem_cons.mpr ⟨lm_373, (List.forall_mem_cons.mpr ⟨lm_372, (List.forall_mem_cons.mpr ⟨lm_371, (List.forall_mem_cons.mpr ⟨lm_370, (List.forall_mem_cons.mpr ⟨lm_369, (List.forall_mem_cons.mpr ⟨lm_368, (fun _ h => absurd h List.not_mem_nil)⟩)⟩)⟩)⟩)⟩)⟩)⟩)⟩)⟩)⟩)⟩)⟩)⟩)⟩)⟩)⟩)⟩)⟩)⟩)⟩)⟩)⟩)⟩)⟩)
set_option maxRecDepth 100000 in
theorem lr_wsX12_explained_r3 : ∀ w ∈ wsX12_explained_r3, lwIn w := (List.forall_mem_cons.mpr ⟨lm_367, (List.forall_mem_cons.mpr ⟨lm_366, (List.forall_mem_cons.mpr ⟨lm_413, (List.forall_mem_cons.mpr ⟨lm_412, (List.forall_mem_cons.mpr ⟨lm_411, (List.forall_mem_cons.mpr ⟨lm_410, (List.forall_mem_cons.mpr ⟨lm_380, (List.forall_mem_cons.mpr ⟨lm_379, (List.forall_mem_cons.mpr ⟨lm_378, (List.forall_mem_cons.mpr ⟨lm_409, (List.forall_mem_cons.mpr ⟨lm_408, (List.forall_mem_cons.mpr ⟨lm_407, (List.forall_mem_cons.mpr ⟨lm_406, (List.forall_mem_cons.mpr ⟨lm_405, (List.forall_mem_cons.mpr ⟨lm_404, (List.forall_mem_cons.mpr ⟨lm_403, (List.forall_mem_cons.mpr ⟨lm_399, (List.forall_mem_cons.mpr ⟨lm_398, (List.forall_mem_cons.mpr ⟨lm_397, (List.forall_mem_cons.mpr ⟨lm_396, (List.forall_mem_cons.mpr ⟨lm_395, (List.forall_mem_cons.mpr ⟨lm_394, (List.forall_mem_cons.mpr ⟨lm_393, (List.forall_mem_cons.mpr ⟨lm_392, (fun _ h => absurd h List.not_mem_nil)⟩)⟩)⟩)⟩)⟩)⟩)⟩)⟩)⟩)⟩)⟩)⟩)⟩)⟩)⟩)⟩)⟩)⟩)⟩)⟩)⟩)⟩)⟩)⟩)
set_option maxRecDepth 100000 in
theorem lr_wsX12_explained : ∀ w ∈ wsX12_explained, lwIn w := List.forall_mem_cons.mpr ⟨lm_1015, (List.forall_mem_append.mpr ⟨(List.forall_mem_append.mpr ⟨lr_wsX12_explained_r1, (List.forall_mem_append.mpr ⟨lr_wsX12_explained_r2, lr_wsX12_explained_r3⟩)⟩), la_1⟩)⟩
set_option maxRecDepth 100000 in
theorem lr_wsX11_depth_r1 : ∀ w ∈ wsX11_depth_r1, lwIn w := (List.forall_mem_cons.mpr ⟨lm_438, (List.forall_mem_cons.mpr ⟨lm_196, (List.forall_mem_cons.mpr ⟨lm_249, (List.forall_mem_cons.mpr ⟨lm_1020, (List.forall_mem_cons.mpr ⟨lm_934, (List.forall_mem_cons.mpr ⟨lm_766, (List.forall_mem_cons.mpr ⟨lm_765, (List.forall_mem_cons.mpr ⟨lm_227, (List.forall_mem_cons.mpr ⟨lm_807, (List.forall_mem_cons.mpr ⟨lm_286, (List.forall_mem_cons.mpr ⟨lm_289, (List.forall_mem_cons.mpr ⟨lm_991, (List.forall_mem_cons.mpr ⟨lm_990, (List.forall_mem_cons.mpr ⟨lm_989, (List.forall_mem_cons.mpr ⟨lm_238, (List.forall_mem_cons.mpr ⟨lm_988, (List.forall_mem_cons.mpr ⟨lm_987, (List.forall_mem_cons.mpr ⟨lm_986, (List.forall_mem_cons.mpr ⟨lm_985, (List.forall_mem_cons.mpr ⟨lm_984, (List.forall_mem_cons.mpr ⟨lm_983, (List.forall_mem_cons.mpr ⟨lm_982, (List.forall_mem_cons.mpr ⟨lm_935, (List.forall_mem_cons.mpr ⟨lm_246, (fun _ h => absurd h List.not_mem_nil)⟩)⟩)⟩)⟩)⟩)⟩)⟩)⟩)⟩)⟩)⟩)⟩)⟩)⟩)⟩)⟩)⟩)⟩)⟩)⟩)⟩)⟩)⟩)⟩)
set_option maxRecDepth 100000 in
theorem lr_wsX11_depth_r2 : ∀ w ∈ wsX11_depth_r2, lwIn w := (List.forall_mem_cons.mpr ⟨lm_981, (List.forall_mem_cons.mpr ⟨lm_276, (List.forall_mem_cons.mpr ⟨lm_797, (List.forall_mem_cons.mpr ⟨lm_796, (List.forall_mem_cons.mpr ⟨lm_795, (List.forall_mem_cons.mpr ⟨lm_225, (List.forall_mem_cons.mpr ⟨lm_794, (List.forall_mem_cons.mpr ⟨lm_314, (List.forall_mem_cons.mpr ⟨lm_793, (List.forall_mem_cons.mpr ⟨lm_792, (List.forall_mem_cons.mpr ⟨lm_791, (List.forall_mem_cons.mpr ⟨lm_790, (List.forall_mem_cons.mpr ⟨lm_216, (List.forall_mem_cons.mpr ⟨lm_789, (List.forall_mem_cons.mpr ⟨lm_307, (List.forall_mem_cons.mpr ⟨lm_308, (List.forall_mem_cons.mpr ⟨lm_309, (List.forall_mem_cons.mpr ⟨lm_811, (List.forall_mem_cons.mpr ⟨lm_710, (List.forall_mem_cons.mpr ⟨lm_183, (List.forall_mem_cons.mpr ⟨lm_709, (List.forall_mem_cons.mpr ⟨lm_810, (List.forall_mem_cons.mpr ⟨lm_809, (List.forall_mem_cons.mpr ⟨lm_808, (fun _ h => absurd h List.not_mem_nil)⟩)⟩)⟩)⟩)⟩)⟩)⟩)⟩)⟩)⟩)⟩)⟩)⟩)⟩)⟩)⟩)⟩)⟩)⟩)⟩)⟩)⟩)⟩)⟩)
set_option maxRecDepth 100000 in
theorem lr_wsX11_depth_r3 : ∀ w ∈ wsX11_depth_r3, lwIn w := (List.forall_mem_cons.mpr ⟨lm_604, (List.forall_mem_cons.mpr ⟨lm_603, (List.forall_mem_cons.mpr ⟨lm_575, (List.forall_mem_cons.mpr ⟨lm_574, (List.forall_mem_cons.mpr ⟨lm_573, (List.forall_mem_cons.mpr ⟨lm_611, (List.forall_mem_cons.mpr ⟨lm_673, (List.forall_mem_cons.mpr ⟨lm_672, (List.forall_mem_cons.mpr ⟨lm_671, (List.forall_mem_cons.mpr ⟨lm_221, (List.forall_mem_cons.mpr ⟨lm_670, (List.forall_mem_cons.mpr ⟨lm_296, (List.forall_mem_cons.mpr ⟨lm_298, (List.forall_mem_cons.mpr ⟨lm_996, (List.forall_mem_cons.mpr ⟨lm_995, (List.forall_mem_cons.mpr ⟨lm_994, (List.forall_mem_cons.mpr ⟨lm_993, (List.forall_mem_cons.mpr ⟨lm_992, (List.forall_mem_cons.mpr ⟨lm_450, (List.forall_mem_cons.mpr ⟨lm_959, (List.forall_mem_cons.mpr ⟨lm_958, (List.forall_mem_cons.mpr ⟨lm_970, (List.forall_mem_cons.mpr ⟨lm_969, (List.forall_mem_cons.mpr ⟨lm_975, (fun _ h => absurd h List.not_mem_nil)⟩)⟩)⟩)⟩)⟩)⟩)⟩)⟩)⟩)⟩)⟩)⟩)⟩)⟩)⟩)⟩)⟩)⟩)⟩)⟩)⟩)⟩)⟩)⟩)
set_option maxRecDepth 100000 in
theorem lr_wsX11_depth_r4 : ∀ w ∈ wsX11_depth_r4, lwIn w := (List.forall_mem_cons.mpr ⟨lm_974, (List.forall_mem_cons.mpr ⟨lm_767, (List.forall_mem_cons.mpr ⟨lm_806, (List.forall_mem_cons.mpr ⟨lm_805, (List.forall_mem_cons.mpr ⟨lm_804, (List.forall_mem_cons.mpr ⟨lm_217, (List.forall_mem_cons.mpr ⟨lm_803, (List.forall_mem_cons.mpr ⟨lm_280, (List.forall_mem_cons.mpr ⟨lm_279, (List.forall_mem_cons.mpr ⟨lm_802, (List.forall_mem_cons.mpr ⟨lm_565, (List.forall_mem_cons.mpr ⟨lm_564, (List.forall_mem_cons.mpr ⟨lm_682, (List.forall_mem_cons.mpr ⟨lm_681, (List.forall_mem_cons.mpr ⟨lm_680, (List.forall_mem_cons.mpr ⟨lm_679, (List.forall_mem_cons.mpr ⟨lm_678, (List.forall_mem_cons.mpr ⟨lm_683, (List.forall_mem_cons.mpr ⟨lm_677, (List.forall_mem_cons.mpr ⟨lm_676, (List.forall_mem_cons.mpr ⟨lm_675, (List.forall_mem_cons.mpr ⟨lm_674, (List.forall_mem_cons.mpr ⟨lm_719, (List.forall_mem_cons.mpr ⟨lm_718, (fun _ h => absurd h List.not_mem_nil)⟩)⟩)⟩)⟩)⟩)⟩)⟩)⟩)⟩)⟩)⟩)⟩)⟩)⟩)⟩)⟩)⟩)⟩)⟩)⟩)⟩)⟩)⟩)⟩)
set_option maxRecDepth 100000 in
theorem lr_wsX11_depth_r5 : ∀ w ∈ wsX11_depth_r5, lwIn w := (List.forall_mem_cons.mpr ⟨lm_177, (List.forall_mem_cons.mpr ⟨lm_717, (List.forall_mem_cons.mpr ⟨lm_716, (List.forall_mem_cons.mpr ⟨lm_715, (List.forall_mem_cons.mpr ⟨lm_714, (List.forall_mem_cons.mpr ⟨lm_713, (List.forall_mem_cons.mpr ⟨lm_712, (List.forall_mem_cons.mpr ⟨lm_661, (List.forall_mem_cons.mpr ⟨lm_660, (List.forall_mem_cons.mpr ⟨lm_711, (List.forall_mem_cons.mpr ⟨lm_708, (List.forall_mem_cons.mpr ⟨lm_707, (List.forall_mem_cons.mpr ⟨lm_706, (List.forall_mem_cons.mpr ⟨lm_705, (List.forall_mem_cons.mpr ⟨lm_704, (List.forall_mem_cons.mpr ⟨lm_175, (List.forall_mem_cons.mpr ⟨lm_703, (List.forall_mem_cons.mpr ⟨lm_702, (List.forall_mem_cons.mpr ⟨lm_701, (List.forall_mem_cons.mpr ⟨lm_700, (List.forall_mem_cons.mpr ⟨lm_699, (List.forall_mem_cons.mpr ⟨lm_698, (List.forall_mem_cons.mpr ⟨lm_181, (List.forall_mem_cons.mpr ⟨lm_697, (fun _ h => absurd h List.not_mem_nil)⟩)⟩)⟩)⟩)⟩)⟩)⟩)⟩)⟩)⟩)⟩)⟩)⟩)⟩)⟩)⟩)⟩)⟩)⟩)⟩)⟩)⟩)⟩)⟩)
set_option maxRecDepth 100000 in
theorem lr_wsX11_depth_r6 : ∀ w ∈ wsX11_depth_r6, lwIn w := (List.forall_mem_cons.mpr ⟨lm_740, (List.forall_mem_cons.mpr ⟨lm_739, (List.forall_mem_cons.mpr ⟨lm_738, (List.forall_mem_cons.mpr ⟨lm_737, (List.forall_mem_cons.mpr ⟨lm_736, (List.forall_mem_cons.mpr ⟨lm_735, (List.forall_mem_cons.mpr ⟨lm_588, (List.forall_mem_cons.mpr ⟨lm_587, (List.forall_mem_cons.mpr ⟨lm_734, (List.forall_mem_cons.mpr ⟨lm_733, (List.forall_mem_cons.mpr ⟨lm_174, (List.forall_mem_cons.mpr ⟨lm_732, (List.forall_mem_cons.mpr ⟨lm_731, (List.forall_mem_cons.mpr ⟨lm_730, (List.forall_mem_cons.mpr ⟨lm_729, (List.forall_mem_cons.mpr ⟨lm_728, (List.forall_mem_cons.mpr ⟨lm_691, (List.forall_mem_cons.mpr ⟨lm_176, (List.forall_mem_cons.mpr ⟨lm_690, (List.forall_mem_cons.mpr ⟨lm_689, (List.forall_mem_cons.mpr ⟨lm_688, (List.forall_mem_cons.mpr ⟨lm_687, (List.forall_mem_cons.mpr ⟨lm_727, (List.forall_mem_cons.mpr ⟨lm_651, (fun _ h => absurd h List.not_mem_nil)⟩)⟩)⟩)⟩)⟩)⟩)⟩)⟩)⟩)⟩)⟩)⟩)⟩)⟩)⟩)⟩)⟩)⟩)⟩)⟩)⟩)⟩)⟩)⟩)
set_option maxRecDepth 100000 in
theorem lr_wsX11_depth_r7 : ∀ w ∈ wsX11_depth_r7, lwIn w := (List.forall_mem_cons.mpr ⟨lm_650, (List.forall_mem_cons.mpr ⟨lm_696, (List.forall_mem_cons.mpr ⟨lm_695, (List.forall_mem_cons.mpr ⟨lm_694, (List.forall_mem_cons.mpr ⟨lm_693, (List.forall_mem_cons.mpr ⟨lm_692, (List.forall_mem_cons.mpr ⟨lm_726, (List.forall_mem_cons.mpr ⟨lm_725, (List.forall_mem_cons.mpr ⟨lm_724, (List.forall_mem_cons.mpr ⟨lm_723, (List.forall_mem_cons.mpr ⟨lm_722, (List.forall_mem_cons.mpr ⟨lm_721, (List.forall_mem_cons.mpr ⟨lm_720, (List.forall_mem_cons.mpr ⟨lm_179, (List.forall_mem_cons.mpr ⟨lm_764, (List.forall_mem_cons.mpr ⟨lm_621, (List.forall_mem_cons.mpr ⟨lm_763, (List.forall_mem_cons.mpr ⟨lm_762, (List.forall_mem_cons.mpr ⟨lm_761, (List.forall_mem_cons.mpr ⟨lm_620, (List.forall_mem_cons.mpr ⟨lm_760, (List.forall_mem_cons.mpr ⟨lm_619, (List.forall_mem_cons.mpr ⟨lm_618, (List.forall_mem_cons.mpr ⟨lm_759, (fun _ h => absurd h List.not_mem_nil)⟩)⟩)⟩)⟩)⟩)⟩)⟩)⟩)⟩)⟩)⟩)⟩)⟩)⟩)⟩)⟩)⟩)⟩)⟩)⟩)⟩)⟩)⟩)⟩)
set_option maxRecDepth 100000 in
theorem lr_wsX11_depth_r8 : ∀ w ∈ wsX11_depth_r8, lwIn w := (List.forall_mem_cons.mpr ⟨lm_758, (List.forall_mem_cons.mpr ⟨lm_757, (List.forall_mem_cons.mpr ⟨lm_756, (List.forall_mem_cons.mpr ⟨lm_755, (List.forall_mem_cons.mpr ⟨lm_754, (List.forall_mem_cons.mpr ⟨lm_753, (List.forall_mem_cons.mpr ⟨lm_752, (List.forall_mem_cons.mpr ⟨lm_751, (List.forall_mem_cons.mpr ⟨lm_750, (List.forall_mem_cons.mpr ⟨lm_749, (List.forall_mem_cons.mpr ⟨lm_663, (List.forall_mem_cons.mpr ⟨lm_662, (List.forall_mem_cons.mpr ⟨lm_659, (List.forall_mem_cons.mpr ⟨lm_658, (List.forall_mem_cons.mpr ⟨lm_657, (List.forall_mem_cons.mpr ⟨lm_748, (List.forall_mem_cons.mpr ⟨lm_747, (List.forall_mem_cons.mpr ⟨lm_746, (List.forall_mem_cons.mpr ⟨lm_745, (List.forall_mem_cons.mpr ⟨lm_744, (List.forall_mem_cons.mpr ⟨lm_743, (List.forall_mem_cons.mpr ⟨lm_742, (List.forall_mem_cons.mpr ⟨lm_741, (List.forall_mem_cons.mpr ⟨lm_788, (fun _ h => absurd h List.not_mem_nil)⟩)⟩)⟩)⟩)⟩)⟩)⟩)⟩)⟩)⟩)⟩)⟩)⟩)⟩)⟩)⟩)⟩)⟩)⟩)⟩)⟩)⟩)⟩)⟩)
set_option maxRecDepth 100000 in
theorem lr_wsX11_depth_r9 : ∀ w ∈ wsX11_depth_r9, lwIn w := (List.forall_mem_cons.mpr ⟨lm_787, (List.forall_mem_cons.mpr ⟨lm_786, (List.forall_mem_cons.mpr ⟨lm_586, (List.forall_mem_cons.mpr ⟨lm_785, (List.forall_mem_cons.mpr ⟨lm_594, (List.forall_mem_cons.mpr ⟨lm_593, (List.forall_mem_cons.mpr ⟨lm_592, (List.forall_mem_cons.mpr ⟨lm_591, (List.forall_mem_cons.mpr ⟨lm_590, (List.forall_mem_cons.mpr ⟨lm_784, (List.forall_mem_cons.mpr ⟨lm_783, (List.forall_mem_cons.mpr ⟨lm_782, (List.forall_mem_cons.mpr ⟨lm_781, (List.forall_mem_cons.mpr ⟨lm_780, (List.forall_mem_cons.mpr ⟨lm_779, (List.forall_mem_cons.mpr ⟨lm_1026, (List.forall_mem_cons.mpr ⟨lm_1025, (List.forall_mem_cons.mpr ⟨lm_1024, (List.forall_mem_cons.mpr ⟨lm_1023, (List.forall_mem_cons.mpr ⟨lm_1022, (List.forall_mem_cons.mpr ⟨lm_1021, (fun _ h => absurd h List.not_mem_nil)⟩)⟩)⟩)⟩)⟩)⟩)⟩)⟩)⟩)⟩)⟩)⟩)⟩)⟩)⟩)⟩)⟩)⟩)⟩)⟩)⟩)
set_option maxRecDepth 100000 in
theorem lr_wsX11_depth : ∀ w ∈ wsX11_depth, lwIn w := List.forall_mem_cons.mpr ⟨lm_1019, (List.forall_mem_append.mpr ⟨(List.forall_mem_append.mpr ⟨(List.forall_mem_append.mpr ⟨(List.forall_mem_append.mpr ⟨(List.forall_mem_append.mpr ⟨(List.forall_mem_append.mpr ⟨(List.forall_mem_append.mpr ⟨(List.forall_mem_append.mpr ⟨(List.forall_mem_append.mpr ⟨(List.forall_mem_append.mpr ⟨lr_wsX11_depth_r1, (List.forall_mem_append.mpr ⟨lr_wsX11_depth_r2, (List.forall_mem_append.mpr ⟨lr_wsX11_depth_r3, (List.forall_mem_append.mpr ⟨lr_wsX11_depth_r4, (List.forall_mem_append.mpr ⟨lr_wsX11_depth_r5, (List.forall_mem_append.mpr ⟨lr_wsX11_depth_r6, (List.forall_mem_append.mpr ⟨lr_wsX11_depth_r7, (List.forall_mem_append.mpr ⟨lr_wsX11_depth_r8, lr_wsX11_depth_r9⟩)⟩)⟩)⟩)⟩)⟩)⟩)⟩), la_0⟩), la_7⟩), la_3⟩), la_4⟩), la_8⟩), la_9⟩), la_10⟩), la_6⟩), la_12⟩)⟩
set_option maxRecDepth 100000 in
theorem lr_wsW_depth : ∀ w ∈ wsW_depth, lwIn w := List.forall_mem_cons.mpr ⟨lm_1016, (List.forall_mem_append.mpr ⟨(List.forall_mem_cons.mpr ⟨lm_198, (List.forall_mem_cons.mpr ⟨lm_112, (List.forall_mem_cons.mpr ⟨lm_1018, (List.forall_mem_cons.mpr ⟨lm_1017, (List.forall_mem_cons.mpr ⟨lm_238, (fun _ h => absurd h List.not_mem_nil)⟩)⟩)⟩)⟩)⟩), lr_wsX11_depth⟩)⟩
set_option maxRecDepth 100000 in
theorem lr_wsX12_depth_r1 : ∀ w ∈ wsX12_depth_r1, lwIn w := (List.forall_mem_cons.mpr ⟨lm_432, (List.forall_mem_cons.mpr ⟨lm_329, (List.forall_mem_cons.mpr ⟨lm_331, (List.forall_mem_cons.mpr ⟨lm_964, (List.forall_mem_cons.mpr ⟨lm_963, (List.forall_mem_cons.mpr ⟨lm_962, (List.forall_mem_cons.mpr ⟨lm_235, (List.forall_mem_cons.mpr ⟨lm_961, (List.forall_mem_cons.mpr ⟨lm_361, (List.forall_mem_cons.mpr ⟨lm_402, (List.forall_mem_cons.mpr ⟨lm_401, (List.forall_mem_cons.mpr ⟨lm_400, (List.forall_mem_cons.mpr ⟨lm_430, (List.forall_mem_cons.mpr ⟨lm_429, (List.forall_mem_cons.mpr ⟨lm_428, (List.forall_mem_cons.mpr ⟨lm_427, (List.forall_mem_cons.mpr ⟨lm_1005, (List.forall_mem_cons.mpr ⟨lm_1004, (List.forall_mem_cons.mpr ⟨lm_1003, (List.forall_mem_cons.mpr ⟨lm_1002, (List.forall_mem_cons.mpr ⟨lm_338, (List.forall_mem_cons.mpr ⟨lm_330, (List.forall_mem_cons.mpr ⟨lm_1001, (List.forall_mem_cons.mpr ⟨lm_1000, (fun _ h => absurd h List.not_mem_nil)⟩)⟩)⟩)⟩)⟩)⟩)⟩)⟩)⟩)⟩)⟩)⟩)⟩)⟩)⟩)⟩)⟩)⟩)⟩)⟩)⟩)⟩)⟩)⟩)
set_option maxRecDepth 100000 in
theorem lr_wsX12_depth_r2 : ∀ w ∈ wsX12_depth_r2, lwIn w := (List.forall_mem_cons.mpr ⟨lm_999, (List.forall_mem_cons.mpr ⟨lm_1010, (List.forall_mem_cons.mpr ⟨lm_387, (List.forall_mem_cons.mpr ⟨lm_386, (List.forall_mem_cons.mpr ⟨lm_385, (List.forall_mem_cons.mpr ⟨lm_344, (List.forall_mem_cons.mpr ⟨lm_343, (List.forall_mem_cons.mpr ⟨lm_389, (List.forall_mem_cons.mpr ⟨lm_388, (List.forall_mem_cons.mpr ⟨lm_341, (List.forall_mem_cons.mpr ⟨lm_1009, (List.forall_mem_cons.mpr ⟨lm_1008, (List.forall_mem_cons.mpr ⟨lm_1007, (List.forall_mem_cons.mpr ⟨lm_1006, (List.forall_mem_cons.mpr ⟨lm_377, (List.forall_mem_cons.mpr ⟨lm_376, (List.forall_mem_cons.mpr ⟨lm_375, (List.forall_mem_cons.mpr ⟨lm_374, (List.forall_mem_cons.mpr ⟨lm_332, (List.forall_mem_cons.mpr ⟨lm_373, (List.forall_mem_cons.mpr ⟨lm_372, (List.forall_mem_cons.mpr ⟨lm_371, (List.forall_mem_cons.mpr ⟨lm_370, (List.forall_mem_cons.mpr ⟨lm_369, (fun _ h => absurd h List.not_mem_nil)⟩)⟩)⟩)⟩)⟩)⟩)⟩)⟩)⟩)⟩)⟩)⟩)⟩)⟩)⟩)⟩)⟩)⟩)⟩)⟩)⟩)⟩)⟩)⟩)
set_option maxRecDepth 100000 in
theorem lr_wsX12_depth_r3 : ∀ w ∈ wsX12_depth_r3, lwIn w := (List.forall_mem_cons.mpr ⟨lm_368, (List.forall_mem_cons.mpr ⟨lm_367, (List.forall_mem_cons.mpr ⟨lm_366, (List.forall_mem_cons.mpr ⟨lm_413, (List.forall_mem_cons.mpr ⟨lm_412, (List.forall_mem_cons.mpr ⟨lm_411, (List.forall_mem_cons.mpr ⟨lm_410, (List.forall_mem_cons.mpr ⟨lm_380, (List.forall_mem_cons.mpr ⟨lm_379, (List.forall_mem_cons.mpr ⟨lm_378, (List.forall_mem_cons.mpr ⟨lm_409, (List.forall_mem_cons.mpr ⟨lm_408, (List.forall_mem_cons.mpr ⟨lm_407, (List.forall_mem_cons.mpr ⟨lm_406, (List.forall_mem_cons.mpr ⟨lm_405, (List.forall_mem_cons.mpr ⟨lm_404, (List.forall_mem_cons.mpr ⟨lm_403, (List.forall_mem_cons.mpr ⟨lm_399, (List.forall_mem_cons.mpr ⟨lm_398, (List.forall_mem_cons.mpr ⟨lm_397, (List.forall_mem_cons.mpr ⟨lm_396, (List.forall_mem_cons.mpr ⟨lm_395, (List.forall_mem_cons.mpr ⟨lm_394, (List.forall_mem_cons.mpr ⟨lm_393, (fun _ h => absurd h List.not_mem_nil)⟩)⟩)⟩)⟩)⟩)⟩)⟩)⟩)⟩)⟩)⟩)⟩)⟩)⟩)⟩)⟩)⟩)⟩)⟩)⟩)⟩)⟩)⟩)⟩)
set_option maxRecDepth 100000 in
theorem lr_wsX12_depth_r4 : ∀ w ∈ wsX12_depth_r4, lwIn w := (List.forall_mem_cons.mpr ⟨lm_392, (fun _ h => absurd h List.not_mem_nil)⟩)
set_option maxRecDepth 100000 in
theorem lr_wsX12_depth : ∀ w ∈ wsX12_depth, lwIn w := List.forall_mem_cons.mpr ⟨lm_1027, (List.forall_mem_append.mpr ⟨(List.forall_mem_append.mpr ⟨lr_wsX12_depth_r1, (List.forall_mem_append.mpr ⟨lr_wsX12_depth_r2, (List.forall_mem_append.mpr ⟨lr_wsX12_depth_r3, lr_wsX12_depth_r4⟩)⟩)⟩), la_1⟩)⟩
set_option maxRecDepth 100000 in
theorem lr_wsX11_isSupported_r1 : ∀ w ∈ wsX11_isSupported_r1, lwIn w := (List.forall_mem_cons.mpr ⟨lm_438, (List.forall_mem_cons.mpr ⟨lm_196, (List.forall_mem_cons.mpr ⟨lm_453, (List.forall_mem_cons.mpr ⟨lm_188, (List.forall_mem_cons.mpr ⟨lm_276, (List.forall_mem_cons.mpr ⟨lm_673, (List.forall_mem_cons.mpr ⟨lm_672, (List.forall_mem_cons.mpr ⟨lm_671, (List.forall_mem_cons.mpr ⟨lm_221, (List.forall_mem_cons.mpr ⟨lm_670, (List.forall_mem_cons.mpr ⟨lm_296, (List.forall_mem_cons.mpr ⟨lm_298, (List.forall_mem_cons.mpr ⟨lm_929, (List.forall_mem_cons.mpr ⟨lm_579, (List.forall_mem_cons.mpr ⟨lm_578, (List.forall_mem_cons.mpr ⟨lm_577, (List.forall_mem_cons.mpr ⟨lm_216, (List.forall_mem_cons.mpr ⟨lm_576, (List.forall_mem_cons.mpr ⟨lm_308, (List.forall_mem_cons.mpr ⟨lm_575, (List.forall_mem_cons.mpr ⟨lm_574, (List.forall_mem_cons.mpr ⟨lm_183, (List.forall_mem_cons.mpr ⟨lm_573, (List.forall_mem_cons.mpr ⟨lm_611, (fun _ h => absurd h List.not_mem_nil)⟩)⟩)⟩)⟩)⟩)⟩)⟩)⟩)⟩)⟩)⟩)⟩)⟩)⟩)⟩)⟩)⟩)⟩)⟩)⟩)⟩)⟩)⟩)⟩)
set_option maxRecDepth 100000 in
theorem lr_wsX11_isSupported_r2 : ∀ w ∈ wsX11_isSupported_r2, lwIn w := (List.forall_mem_cons.mpr ⟨lm_610, (List.forall_mem_cons.mpr ⟨lm_609, (List.forall_mem_cons.mpr ⟨lm_608, (List.forall_mem_cons.mpr ⟨lm_972, (List.forall_mem_cons.mpr ⟨lm_591, (List.forall_mem_cons.mpr ⟨lm_238, (List.forall_mem_cons.mpr ⟨lm_590, (List.forall_mem_cons.mpr ⟨lm_1035, (List.forall_mem_cons.mpr ⟨lm_1034, (List.forall_mem_cons.mpr ⟨lm_1033, (List.forall_mem_cons.mpr ⟨lm_1032, (List.forall_mem_cons.mpr ⟨lm_249, (List.forall_mem_cons.mpr ⟨lm_665, (List.forall_mem_cons.mpr ⟨lm_682, (List.forall_mem_cons.mpr ⟨lm_681, (List.forall_mem_cons.mpr ⟨lm_680, (List.forall_mem_cons.mpr ⟨lm_679, (List.forall_mem_cons.mpr ⟨lm_678, (List.forall_mem_cons.mpr ⟨lm_683, (List.forall_mem_cons.mpr ⟨lm_565, (List.forall_mem_cons.mpr ⟨lm_564, (List.forall_mem_cons.mpr ⟨lm_677, (List.forall_mem_cons.mpr ⟨lm_676, (List.forall_mem_cons.mpr ⟨lm_309, (fun _ h => absurd h List.not_mem_nil)⟩)⟩)⟩)⟩)⟩)⟩)⟩)⟩)⟩)⟩)⟩)⟩)⟩)⟩)⟩)⟩)⟩)⟩)⟩)⟩)⟩)⟩)⟩)⟩)
set_option maxRecDepth 100000 in
theorem lr_wsX11_isSupported_r3 : ∀ w ∈ wsX11_isSupported_r3, lwIn w := (List.forall_mem_cons.mpr ⟨lm_675, (List.forall_mem_cons.mpr ⟨lm_674, (List.forall_mem_cons.mpr ⟨lm_719, (List.forall_mem_cons.mpr ⟨lm_718, (List.forall_mem_cons.mpr ⟨lm_177, (List.forall_mem_cons.mpr ⟨lm_717, (List.forall_mem_cons.mpr ⟨lm_716, (List.forall_mem_cons.mpr ⟨lm_715, (List.forall_mem_cons.mpr ⟨lm_714, (List.forall_mem_cons.mpr ⟨lm_713, (List.forall_mem_cons.mpr ⟨lm_712, (List.forall_mem_cons.mpr ⟨lm_661, (List.forall_mem_cons.mpr ⟨lm_660, (List.forall_mem_cons.mpr ⟨lm_307, (List.forall_mem_cons.mpr ⟨lm_711, (List.forall_mem_cons.mpr ⟨lm_710, (List.forall_mem_cons.mpr ⟨lm_709, (List.forall_mem_cons.mpr ⟨lm_708, (List.forall_mem_cons.mpr ⟨lm_707, (List.forall_mem_cons.mpr ⟨lm_706, (List.forall_mem_cons.mpr ⟨lm_705, (List.forall_mem_cons.mpr ⟨lm_704, (List.forall_mem_cons.mpr ⟨lm_175, (List.forall_mem_cons.mpr ⟨lm_703, (fun _ h => absurd h List.not_mem_nil)⟩)⟩)⟩)⟩)⟩)⟩)⟩)⟩)⟩)⟩)⟩)⟩)⟩)⟩)⟩)⟩)⟩)⟩)⟩)⟩)⟩)⟩)⟩)⟩)
set_option maxRecDepth 100000 in
theorem lr_wsX11_isSupported_r4 : ∀ w ∈ wsX11_isSupported_r4, lwIn w := (List.forall_mem_cons.mpr ⟨lm_702, (List.forall_mem_cons.mpr ⟨lm_701, (List.forall_mem_cons.mpr ⟨lm_700, (List.forall_mem_cons.mpr ⟨lm_699, (List.forall_mem_cons.mpr ⟨lm_698, (List.forall_mem_cons.mpr ⟨lm_181, (List.forall_mem_cons.mpr ⟨lm_697, (List.forall_mem_cons.mpr ⟨lm_740, (List.forall_mem_cons.mpr ⟨lm_739, (List.forall_mem_cons.mpr ⟨lm_738, (List.forall_mem_cons.mpr ⟨lm_737, (List.forall_mem_cons.mpr ⟨lm_736, (List.forall_mem_cons.mpr ⟨lm_735, (List.forall_mem_cons.mpr ⟨lm_588, (List.forall_mem_cons.mpr ⟨lm_587, (List.forall_mem_cons.mpr ⟨lm_734, (List.forall_mem_cons.mpr ⟨lm_733, (List.forall_mem_cons.mpr ⟨lm_174, (List.forall_mem_cons.mpr ⟨lm_732, (List.forall_mem_cons.mpr ⟨lm_731, (List.forall_mem_cons.mpr ⟨lm_730, (List.forall_mem_cons.mpr ⟨lm_729, (List.forall_mem_cons.mpr ⟨lm_728, (List.forall_mem_cons.mpr ⟨lm_691, (fun _ h => absurd h List.not_mem_nil)⟩)⟩)⟩)⟩)⟩)⟩)⟩)⟩)⟩)⟩)⟩)⟩)⟩)⟩)⟩)⟩)⟩)⟩)⟩)⟩)⟩)⟩)⟩)⟩)
set_option maxRecDepth 100000 in
theorem lr_wsX11_isSupported_r5 : ∀ w ∈ wsX11_isSupported_r5, lwIn w := (List.forall_mem_cons.mpr ⟨lm_176, (List.forall_mem_cons.mpr ⟨lm_690, (List.forall_mem_cons.mpr ⟨lm_689, (List.forall_mem_cons.mpr ⟨lm_688, (List.forall_mem_cons.mpr ⟨lm_687, (List.forall_mem_cons.mpr ⟨lm_727, (List.forall_mem_cons.mpr ⟨lm_651, (List.forall_mem_cons.mpr ⟨lm_650, (List.forall_mem_cons.mpr ⟨lm_696, (List.forall_mem_cons.mpr ⟨lm_695, (List.forall_mem_cons.mpr ⟨lm_694, (List.forall_mem_cons.mpr ⟨lm_693, (List.forall_mem_cons.mpr ⟨lm_692, (List.forall_mem_cons.mpr ⟨lm_726, (List.forall_mem_cons.mpr ⟨lm_725, (List.forall_mem_cons.mpr ⟨lm_225, (List.forall_mem_cons.mpr ⟨lm_724, (List.forall_mem_cons.mpr ⟨lm_314, (List.forall_mem_cons.mpr ⟨lm_723, (List.forall_mem_cons.mpr ⟨lm_722, (List.forall_mem_cons.mpr ⟨lm_721, (List.forall_mem_cons.mpr ⟨lm_720, (List.forall_mem_cons.mpr ⟨lm_179, (List.forall_mem_cons.mpr ⟨lm_764, (fun _ h => absurd h List.not_mem_nil)⟩)⟩)⟩)⟩)⟩)⟩)⟩)⟩)⟩)⟩)⟩)⟩)⟩)⟩)⟩)⟩)⟩)⟩)⟩)⟩)⟩)⟩)⟩)⟩)
set_option maxRecDepth 100000 in
theorem lr_wsX11_isSupported_r6 : ∀ w ∈ wsX11_isSupported_r6, lwIn w := (List.forall_mem_cons.mpr ⟨lm_621, (List.forall_mem_cons.mpr ⟨lm_763, (List.forall_mem_cons.mpr ⟨lm_762, (List.forall_mem_cons.mpr ⟨lm_761, (List.forall_mem_cons.mpr ⟨lm_620, (List.forall_mem_cons.mpr ⟨lm_760, (List.forall_mem_cons.mpr ⟨lm_619, (List.forall_mem_cons.mpr ⟨lm_618, (List.forall_mem_cons.mpr ⟨lm_759, (List.forall_mem_cons.mpr ⟨lm_758, (List.forall_mem_cons.mpr ⟨lm_757, (List.forall_mem_cons.mpr ⟨lm_756, (List.forall_mem_cons.mpr ⟨lm_755, (List.forall_mem_cons.mpr ⟨lm_754, (List.forall_mem_cons.mpr ⟨lm_753, (List.forall_mem_cons.mpr ⟨lm_752, (List.forall_mem_cons.mpr ⟨lm_751, (List.forall_mem_cons.mpr ⟨lm_750, (List.forall_mem_cons.mpr ⟨lm_749, (List.forall_mem_cons.mpr ⟨lm_663, (List.forall_mem_cons.mpr ⟨lm_662, (List.forall_mem_cons.mpr ⟨lm_659, (List.forall_mem_cons.mpr ⟨lm_658, (List.forall_mem_cons.mpr ⟨lm_657, (fun _ h => absurd h List.not_mem_nil)⟩)⟩)⟩)⟩)⟩)⟩)⟩)⟩)⟩)⟩)⟩)⟩)⟩)⟩)⟩)⟩)⟩)⟩)⟩)⟩)⟩)⟩)⟩)⟩)
set_option maxRecDepth 100000 in
theorem lr_wsX11_isSupported_r7 : ∀ w ∈ wsX11_isSupported_r7, lwIn w := (List.forall_mem_cons.mpr ⟨lm_748, (List.forall_mem_cons.mpr ⟨lm_747, (List.forall_mem_cons.mpr ⟨lm_746, (List.forall_mem_cons.mpr ⟨lm_745, (List.forall_mem_cons.mpr ⟨lm_744, (List.forall_mem_cons.mpr ⟨lm_743, (List.forall_mem_cons.mpr ⟨lm_742, (List.forall_mem_cons.mpr ⟨lm_741, (List.forall_mem_cons.mpr ⟨lm_788, (List.forall_mem_cons.mpr ⟨lm_787, (List.forall_mem_cons.mpr ⟨lm_786, (List.forall_mem_cons.mpr ⟨lm_586, (List.forall_mem_cons.mpr ⟨lm_785, (List.forall_mem_cons.mpr ⟨lm_594, (List.forall_mem_cons.mpr ⟨lm_593, (List.forall_mem_cons.mpr ⟨lm_592, (List.forall_mem_cons.mpr ⟨lm_784, (List.forall_mem_cons.mpr ⟨lm_783, (List.forall_mem_cons.mpr ⟨lm_782, (List.forall_mem_cons.mpr ⟨lm_781, (List.forall_mem_cons.mpr ⟨lm_780, (List.forall_mem_cons.mpr ⟨lm_779, (fun _ h => absurd h List.not_mem_nil)⟩)⟩)⟩)⟩)⟩)⟩)⟩)⟩)⟩)⟩)⟩)⟩)⟩)⟩)⟩)⟩)⟩)⟩)⟩)⟩)⟩)⟩)
set_option maxRecDepth 100000 in
theorem lr_wsX11_isSupported : ∀ w ∈ wsX11_isSupported, lwIn w := List.forall_mem_cons.mpr ⟨lm_1031, (List.forall_mem_append.mpr ⟨(List.forall_mem_append.mpr ⟨(List.forall_mem_append.mpr ⟨(List.forall_mem_append.mpr ⟨(List.forall_mem_append.mpr ⟨(List.forall_mem_append.mpr ⟨(List.forall_mem_append.mpr ⟨(List.forall_mem_append.mpr ⟨(List.forall_mem_append.mpr ⟨(List.forall_mem_append.mpr ⟨lr_wsX11_isSupported_r1, (List.forall_mem_append.mpr ⟨lr_wsX11_isSupported_r2, (List.forall_mem_append.mpr ⟨lr_wsX11_isSupported_r3, (List.forall_mem_append.mpr ⟨lr_wsX11_isSupported_r4, (List.forall_mem_append.mpr ⟨lr_wsX11_isSupported_r5, (List.forall_mem_append.mpr ⟨lr_wsX11_isSupported_r6, lr_wsX11_isSupported_r7⟩)⟩)⟩)⟩)⟩)⟩), la_0⟩), la_6⟩), la_8⟩), la_9⟩), la_4⟩), la_10⟩), la_3⟩), la_12⟩), la_13⟩)⟩
set_option maxRecDepth 100000 in
theorem lr_wsW_isSupported : ∀ w ∈ wsW_isSupported, lwIn w := List.forall_mem_cons.mpr ⟨lm_1028, (List.forall_mem_append.mpr ⟨(List.forall_mem_cons.mpr ⟨lm_198, (List.forall_mem_cons.mpr ⟨lm_190, (List.forall_mem_cons.mpr ⟨lm_106, (List.forall_mem_cons.mpr ⟨lm_1030, (List.forall_mem_cons.mpr ⟨lm_1029, (List.forall_mem_cons.mpr ⟨lm_238, (fun _ h => absurd h List.not_mem_nil)⟩)⟩)⟩)⟩)⟩)⟩), lr_wsX11_isSupported⟩)⟩
set_option maxRecDepth 100000 in
theorem lr_wsX12_isSupported_r1 : ∀ w ∈ wsX12_isSupported_r1, lwIn w := (List.forall_mem_cons.mpr ⟨lm_432, (List.forall_mem_cons.mpr ⟨lm_1040, (List.forall_mem_cons.mpr ⟨lm_1039, (List.forall_mem_cons.mpr ⟨lm_1038, (List.forall_mem_cons.mpr ⟨lm_235, (List.forall_mem_cons.mpr ⟨lm_1037, (List.forall_mem_cons.mpr ⟨lm_950, (List.forall_mem_cons.mpr ⟨lm_949, (List.forall_mem_cons.mpr ⟨lm_948, (List.forall_mem_cons.mpr ⟨lm_947, (List.forall_mem_cons.mpr ⟨lm_341, (List.forall_mem_cons.mpr ⟨lm_402, (List.forall_mem_cons.mpr ⟨lm_401, (List.forall_mem_cons.mpr ⟨lm_400, (List.forall_mem_cons.mpr ⟨lm_924, (List.forall_mem_cons.mpr ⟨lm_923, (List.forall_mem_cons.mpr ⟨lm_922, (List.forall_mem_cons.mpr ⟨lm_921, (List.forall_mem_cons.mpr ⟨lm_1001, (List.forall_mem_cons.mpr ⟨lm_1000, (List.forall_mem_cons.mpr ⟨lm_999, (List.forall_mem_cons.mpr ⟨lm_1010, (List.forall_mem_cons.mpr ⟨lm_387, (List.forall_mem_cons.mpr ⟨lm_386, (fun _ h => absurd h List.not_mem_nil)⟩)⟩)⟩)⟩)⟩)⟩)⟩)⟩)⟩)⟩)⟩)⟩)⟩)⟩)⟩)⟩)⟩)⟩)⟩)⟩)⟩)⟩)⟩)⟩)
set_option maxRecDepth 100000 in
theorem lr_wsX12_isSupported_r2 : ∀ w ∈ wsX12_isSupported_r2, lwIn w := (List.forall_mem_cons.mpr ⟨lm_385, (List.forall_mem_cons.mpr ⟨lm_344, (List.forall_mem_cons.mpr ⟨lm_343, (List.forall_mem_cons.mpr ⟨lm_389, (List.forall_mem_cons.mpr ⟨lm_388, (List.forall_mem_cons.mpr ⟨lm_430, (List.forall_mem_cons.mpr ⟨lm_429, (List.forall_mem_cons.mpr ⟨lm_428, (List.forall_mem_cons.mpr ⟨lm_427, (List.forall_mem_cons.mpr ⟨lm_1044, (List.forall_mem_cons.mpr ⟨lm_1043, (List.forall_mem_cons.mpr ⟨lm_1042, (List.forall_mem_cons.mpr ⟨lm_1041, (List.forall_mem_cons.mpr ⟨lm_339, (List.forall_mem_cons.mpr ⟨lm_380, (List.forall_mem_cons.mpr ⟨lm_379, (List.forall_mem_cons.mpr ⟨lm_378, (List.forall_mem_cons.mpr ⟨lm_377, (List.forall_mem_cons.mpr ⟨lm_376, (List.forall_mem_cons.mpr ⟨lm_375, (List.forall_mem_cons.mpr ⟨lm_374, (List.forall_mem_cons.mpr ⟨lm_332, (List.forall_mem_cons.mpr ⟨lm_373, (List.forall_mem_cons.mpr ⟨lm_372, (fun _ h => absurd h List.not_mem_nil)⟩)⟩)⟩)⟩)⟩)⟩)⟩)⟩)⟩)⟩)⟩)⟩)⟩)⟩)⟩)⟩)⟩)⟩)⟩)⟩)⟩)⟩)⟩)⟩)
set_option maxRecDepth 100000 in
theorem lr_wsX12_isSupported_r3 : ∀ w ∈ wsX12_isSupported_r3, lwIn w := (List.forall_mem_cons.mpr ⟨lm_371, (List.forall_mem_cons.mpr ⟨lm_370, (List.forall_mem_cons.mpr ⟨lm_369, (List.forall_mem_cons.mpr ⟨lm_368, (List.forall_mem_cons.mpr ⟨lm_367, (List.forall_mem_cons.mpr ⟨lm_366, (List.forall_mem_cons.mpr ⟨lm_413, (List.forall_mem_cons.mpr ⟨lm_412, (List.forall_mem_cons.mpr ⟨lm_411, (List.forall_mem_cons.mpr ⟨lm_410, (List.forall_mem_cons.mpr ⟨lm_409, (List.forall_mem_cons.mpr ⟨lm_408, (List.forall_mem_cons.mpr ⟨lm_407, (List.forall_mem_cons.mpr ⟨lm_406, (List.forall_mem_cons.mpr ⟨lm_405, (List.forall_mem_cons.mpr ⟨lm_404, (List.forall_mem_cons.mpr ⟨lm_403, (List.forall_mem_cons.mpr ⟨lm_399, (List.forall_mem_cons.mpr ⟨lm_398, (List.forall_mem_cons.mpr ⟨lm_397, (List.forall_mem_cons.mpr ⟨lm_396, (List.forall_mem_cons.mpr ⟨lm_395, (List.forall_mem_cons.mpr ⟨lm_394, (List.forall_mem_cons.mpr ⟨lm_393, (fun _ h => absurd h List.not_mem_nil)⟩)⟩)⟩)⟩)⟩)⟩)⟩)⟩)⟩)⟩)⟩)⟩)⟩)⟩)⟩)⟩)⟩)⟩)⟩)⟩)⟩)⟩)⟩)⟩)
set_option maxRecDepth 100000 in
theorem lr_wsX12_isSupported_r4 : ∀ w ∈ wsX12_isSupported_r4, lwIn w := (List.forall_mem_cons.mpr ⟨lm_392, (fun _ h => absurd h List.not_mem_nil)⟩)
set_option maxRecDepth 100000 in
theorem lr_wsX12_isSupported : ∀ w ∈ wsX12_isSupported, lwIn w := List.forall_mem_cons.mpr ⟨lm_1036, (List.forall_mem_append.mpr ⟨(List.forall_mem_append.mpr ⟨lr_wsX12_isSupported_r1, (List.forall_mem_append.mpr ⟨lr_wsX12_isSupported_r2, (List.forall_mem_append.mpr ⟨lr_wsX12_isSupported_r3, lr_wsX12_isSupported_r4⟩)⟩)⟩), la_1⟩)⟩
set_option maxRecDepth 100000 in
theorem lr_wsX11_support_r1 : ∀ w ∈ wsX11_support_r1, lwIn w := (List.forall_mem_cons.mpr ⟨lm_438, (List.forall_mem_cons.mpr ⟨lm_196, (List.forall_mem_cons.mpr ⟨lm_453, (List.forall_mem_cons.mpr ⟨lm_188, (List.forall_mem_cons.mpr ⟨lm_973, (List.forall_mem_cons.mpr ⟨lm_130, (List.forall_mem_cons.mpr ⟨lm_276, (List.forall_mem_cons.mpr ⟨lm_673, (List.forall_mem_cons.mpr ⟨lm_672, (List.forall_mem_cons.mpr ⟨lm_671, (List.forall_mem_cons.mpr ⟨lm_221, (List.forall_mem_cons.mpr ⟨lm_670, (List.forall_mem_cons.mpr ⟨lm_296, (List.forall_mem_cons.mpr ⟨lm_298, (List.forall_mem_cons.mpr ⟨lm_929, (List.forall_mem_cons.mpr ⟨lm_579, (List.forall_mem_cons.mpr ⟨lm_578, (List.forall_mem_cons.mpr ⟨lm_577, (List.forall_mem_cons.mpr ⟨lm_216, (List.forall_mem_cons.mpr ⟨lm_576, (List.forall_mem_cons.mpr ⟨lm_308, (List.forall_mem_cons.mpr ⟨lm_575, (List.forall_mem_cons.mpr ⟨lm_574, (List.forall_mem_cons.mpr ⟨lm_183, (fun _ h => absurd h List.not_mem_nil)⟩)⟩)⟩)⟩)⟩)⟩)⟩)⟩)⟩)⟩)⟩)⟩)⟩)⟩)⟩)⟩)⟩)⟩)⟩)⟩)⟩)⟩)⟩)⟩)
set_option maxRecDepth 100000 in
theorem lr_wsX11_support_r2 : ∀ w ∈ wsX11_support_r2, lwIn w := (List.forall_mem_cons.mpr ⟨lm_573, (List.forall_mem_cons.mpr ⟨lm_611, (List.forall_mem_cons.mpr ⟨lm_610, (List.forall_mem_cons.mpr ⟨lm_609, (List.forall_mem_cons.mpr ⟨lm_608, (List.forall_mem_cons.mpr ⟨lm_972, (List.forall_mem_cons.mpr ⟨lm_591, (List.forall_mem_cons.mpr ⟨lm_238, (List.forall_mem_cons.mpr ⟨lm_590, (List.forall_mem_cons.mpr ⟨lm_1035, (List.forall_mem_cons.mpr ⟨lm_1034, (List.forall_mem_cons.mpr ⟨lm_1033, (List.forall_mem_cons.mpr ⟨lm_1032, (List.forall_mem_cons.mpr ⟨lm_249, (List.forall_mem_cons.mpr ⟨lm_665, (List.forall_mem_cons.mpr ⟨lm_682, (List.forall_mem_cons.mpr ⟨lm_681, (List.forall_mem_cons.mpr ⟨lm_680, (List.forall_mem_cons.mpr ⟨lm_679, (List.forall_mem_cons.mpr ⟨lm_678, (List.forall_mem_cons.mpr ⟨lm_683, (List.forall_mem_cons.mpr ⟨lm_565, (List.forall_mem_cons.mpr ⟨lm_564, (List.forall_mem_cons.mpr ⟨lm_677, (fun _ h => absurd h List.not_mem_nil)⟩)⟩)⟩)⟩)⟩)⟩)⟩)⟩)⟩)⟩)⟩)⟩)⟩)⟩)⟩)⟩)⟩)⟩)⟩)⟩)⟩)⟩)⟩)⟩)
set_option maxRecDepth 100000 in
theorem lr_wsX11_support_r3 : ∀ w ∈ wsX11_support_r3, lwIn w := (List.forall_mem_cons.mpr ⟨lm_676, (List.forall_mem_cons.mpr ⟨lm_309, (List.forall_mem_cons.mpr ⟨lm_675, (List.forall_mem_cons.mpr ⟨lm_674, (List.forall_mem_cons.mpr ⟨lm_719, (List.forall_mem_cons.mpr ⟨lm_718, (List.forall_mem_cons.mpr ⟨lm_177, (List.forall_mem_cons.mpr ⟨lm_717, (List.forall_mem_cons.mpr ⟨lm_716, (List.forall_mem_cons.mpr ⟨lm_715, (List.forall_mem_cons.mpr ⟨lm_714, (List.forall_mem_cons.mpr ⟨lm_713, (List.forall_mem_cons.mpr ⟨lm_712, (List.forall_mem_cons.mpr ⟨lm_661, (List.forall_mem_cons.mpr ⟨lm_660, (List.forall_mem_cons.mpr ⟨lm_307, (List.forall_mem_cons.mpr ⟨lm_711, (List.forall_mem_cons.mpr ⟨lm_710, (List.forall_mem_cons.mpr ⟨lm_709, (List.forall_mem_cons.mpr ⟨lm_708, (List.forall_mem_cons.mpr ⟨lm_707, (List.forall_mem_cons.mpr ⟨lm_706, (List.forall_mem_cons.mpr ⟨lm_705, (List.forall_mem_cons.mpr ⟨lm_704, (fun _ h => absurd h List.not_mem_nil)⟩)⟩)⟩)⟩)⟩)⟩)⟩)⟩)⟩)⟩)⟩)⟩)⟩)⟩)⟩)⟩)⟩)⟩)⟩)⟩)⟩)⟩)⟩)⟩)
set_option maxRecDepth 100000 in
theorem lr_wsX11_support_r4 : ∀ w ∈ wsX11_support_r4, lwIn w := (List.forall_mem_cons.mpr ⟨lm_175, (List.forall_mem_cons.mpr ⟨lm_703, (List.forall_mem_cons.mpr ⟨lm_702, (List.forall_mem_cons.mpr ⟨lm_701, (List.forall_mem_cons.mpr ⟨lm_700, (List.forall_mem_cons.mpr ⟨lm_699, (List.forall_mem_cons.mpr ⟨lm_698, (List.forall_mem_cons.mpr ⟨lm_181, (List.forall_mem_cons.mpr ⟨lm_697, (List.forall_mem_cons.mpr ⟨lm_740, (List.forall_mem_cons.mpr ⟨lm_739, (List.forall_mem_cons.mpr ⟨lm_738, (List.forall_mem_cons.mpr ⟨lm_737, (List.forall_mem_cons.mpr ⟨lm_736, (List.forall_mem_cons.mpr ⟨lm_735, (List.forall_mem_cons.mpr ⟨lm_588, (List.forall_mem_cons.mpr ⟨lm_587, (List.forall_mem_cons.mpr ⟨lm_734, (List.forall_mem_cons.mpr ⟨lm_733, (List.forall_mem_cons.mpr ⟨lm_174, (List.forall_mem_cons.mpr ⟨lm_732, (List.forall_mem_cons.mpr ⟨lm_731, (List.forall_mem_cons.mpr ⟨lm_730, (List.forall_mem_cons.mpr ⟨lm_729, (fun _ h => absurd h List.not_mem_nil)⟩)⟩)⟩)⟩)⟩)⟩)⟩)⟩)⟩)⟩)⟩)⟩)⟩)⟩)⟩)⟩)⟩)⟩)⟩)⟩)⟩)⟩)⟩)⟩)
set_option maxRecDepth 100000 in
theorem lr_wsX11_support_r5 : ∀ w ∈ wsX11_support_r5, lwIn w := (List.forall_mem_cons.mpr ⟨lm_728, (List.forall_mem_cons.mpr ⟨lm_691, (List.forall_mem_cons.mpr ⟨lm_176, (List.forall_mem_cons.mpr ⟨lm_690, (List.forall_mem_cons.mpr ⟨lm_689, (List.forall_mem_cons.mpr ⟨lm_688, (List.forall_mem_cons.mpr ⟨lm_687, (List.forall_mem_cons.mpr ⟨lm_727, (List.forall_mem_cons.mpr ⟨lm_651, (List.forall_mem_cons.mpr ⟨lm_650, (List.forall_mem_cons.mpr ⟨lm_696, (List.forall_mem_cons.mpr ⟨lm_695, (List.forall_mem_cons.mpr ⟨lm_694, (List.forall_mem_cons.mpr ⟨lm_693, (List.forall_mem_cons.mpr ⟨lm_692, (List.forall_mem_cons.mpr ⟨lm_726, (List.forall_mem_cons.mpr ⟨lm_725, (List.forall_mem_cons.mpr ⟨lm_225, (List.forall_mem_cons.mpr ⟨lm_724, (List.forall_mem_cons.mpr ⟨lm_314, (List.forall_mem_cons.mpr ⟨lm_723, (List.forall_mem_cons.mpr ⟨lm_722, (List.forall_mem_cons.mpr ⟨lm_721, (List.forall_mem_cons.mpr ⟨lm_720, (fun _ h => absurd h List.not_mem_nil)⟩)⟩)⟩)⟩)⟩)⟩)⟩)⟩)⟩)⟩)⟩)⟩)⟩)⟩)⟩)⟩)⟩)⟩)⟩)⟩)⟩)⟩)⟩)⟩)
set_option maxRecDepth 100000 in
theorem lr_wsX11_support_r6 : ∀ w ∈ wsX11_support_r6, lwIn w := (List.forall_mem_cons.mpr ⟨lm_179, (List.forall_mem_cons.mpr ⟨lm_764, (List.forall_mem_cons.mpr ⟨lm_621, (List.forall_mem_cons.mpr ⟨lm_763, (List.forall_mem_cons.mpr ⟨lm_762, (List.forall_mem_cons.mpr ⟨lm_761, (List.forall_mem_cons.mpr ⟨lm_620, (List.forall_mem_cons.mpr ⟨lm_760, (List.forall_mem_cons.mpr ⟨lm_619, (List.forall_mem_cons.mpr ⟨lm_618, (List.forall_mem_cons.mpr ⟨lm_759, (List.forall_mem_cons.mpr ⟨lm_758, (List.forall_mem_cons.mpr ⟨lm_757, (List.forall_mem_cons.mpr ⟨lm_756, (List.forall_mem_cons.mpr ⟨lm_755, (List.forall_mem_cons.mpr ⟨lm_754, (List.forall_mem_cons.mpr ⟨lm_753, (List.forall_mem_cons.mpr ⟨lm_752, (List.forall_mem_cons.mpr ⟨lm_751, (List.forall_mem_cons.mpr ⟨lm_750, (List.forall_mem_cons.mpr ⟨lm_749, (List.forall_mem_cons.mpr ⟨lm_663, (List.forall_mem_cons.mpr ⟨lm_662, (List.forall_mem_cons.mpr ⟨lm_659, (fun _ h => absurd h List.not_mem_nil)⟩)⟩)⟩)⟩)⟩)⟩)⟩)⟩)⟩)⟩)⟩)⟩)⟩)⟩)⟩)⟩)⟩)⟩)⟩)⟩)⟩)⟩)⟩)⟩)
set_option maxRecDepth 100000 in
theorem lr_wsX11_support_r7 : ∀ w ∈ wsX11_support_r7, lwIn w := (List.forall_mem_cons.mpr ⟨lm_658, (List.forall_mem_cons.mpr ⟨lm_657, (List.forall_mem_cons.mpr ⟨lm_748, (List.forall_mem_cons.mpr ⟨lm_747, (List.forall_mem_cons.mpr ⟨lm_746, (List.forall_mem_cons.mpr ⟨lm_745, (List.forall_mem_cons.mpr ⟨lm_744, (List.forall_mem_cons.mpr ⟨lm_743, (List.forall_mem_cons.mpr ⟨lm_742, (List.forall_mem_cons.mpr ⟨lm_741, (List.forall_mem_cons.mpr ⟨lm_788, (List.forall_mem_cons.mpr ⟨lm_787, (List.forall_mem_cons.mpr ⟨lm_786, (List.forall_mem_cons.mpr ⟨lm_586, (List.forall_mem_cons.mpr ⟨lm_785, (List.forall_mem_cons.mpr ⟨lm_594, (List.forall_mem_cons.mpr ⟨lm_593, (List.forall_mem_cons.mpr ⟨lm_592, (List.forall_mem_cons.mpr ⟨lm_784, (List.forall_mem_cons.mpr ⟨lm_783, (List.forall_mem_cons.mpr ⟨lm_782, (List.forall_mem_cons.mpr ⟨lm_781, (List.forall_mem_cons.mpr ⟨lm_780, (List.forall_mem_cons.mpr ⟨lm_779, (fun _ h => absurd h List.not_mem_nil)⟩)⟩)⟩)⟩)⟩)⟩)⟩)⟩)⟩)⟩)⟩)⟩)⟩)⟩)⟩)⟩)⟩)⟩)⟩)⟩)⟩)⟩)⟩)⟩)
set_option maxRecDepth 100000 in
theorem lr_wsX11_support_r8 : ∀ w ∈ wsX11_support_r8, lwIn w := (List.forall_mem_cons.mpr ⟨lm_1052, (List.forall_mem_cons.mpr ⟨lm_1051, (List.forall_mem_cons.mpr ⟨lm_1050, (List.forall_mem_cons.mpr ⟨lm_1049, (List.forall_mem_cons.mpr ⟨lm_685, (List.forall_mem_cons.mpr ⟨lm_684, (fun _ h => absurd h List.not_mem_nil)⟩)⟩)⟩)⟩)⟩)⟩)
set_option maxRecDepth 100000 in
theorem lr_wsQ_support : ∀ w ∈ wsQ_support, lwIn w := List.forall_mem_cons.mpr ⟨lm_1048, (List.forall_mem_append.mpr ⟨(List.forall_mem_append.mpr ⟨(List.forall_mem_append.mpr ⟨(List.forall_mem_append.mpr ⟨(List.forall_mem_append.mpr ⟨(List.forall_mem_append.mpr ⟨(List.forall_mem_append.mpr ⟨(List.forall_mem_append.mpr ⟨(List.forall_mem_append.mpr ⟨(List.forall_mem_append.mpr ⟨lr_wsX11_support_r1, (List.forall_mem_append.mpr ⟨lr_wsX11_support_r2, (List.forall_mem_append.mpr ⟨lr_wsX11_support_r3, (List.forall_mem_append.mpr ⟨lr_wsX11_support_r4, (List.forall_mem_append.mpr ⟨lr_wsX11_support_r5, (List.forall_mem_append.mpr ⟨lr_wsX11_support_r6, (List.forall_mem_append.mpr ⟨lr_wsX11_support_r7, lr_wsX11_support_r8⟩)⟩)⟩)⟩)⟩)⟩)⟩), la_0⟩), la_6⟩), la_8⟩), la_9⟩), la_4⟩), la_10⟩), la_3⟩), la_12⟩), la_13⟩)⟩
set_option maxRecDepth 100000 in
theorem lr_wsW_support : ∀ w ∈ wsW_support, lwIn w := List.forall_mem_cons.mpr ⟨lm_1045, (List.forall_mem_append.mpr ⟨(List.forall_mem_cons.mpr ⟨lm_198, (List.forall_mem_cons.mpr ⟨lm_190, (List.forall_mem_cons.mpr ⟨lm_132, (List.forall_mem_cons.mpr ⟨lm_100, (List.forall_mem_cons.mpr ⟨lm_1047, (List.forall_mem_cons.mpr ⟨lm_1046, (List.forall_mem_cons.mpr ⟨lm_238, (fun _ h => absurd h List.not_mem_nil)⟩)⟩)⟩)⟩)⟩)⟩)⟩), lr_wsQ_support⟩)⟩
set_option maxRecDepth 100000 in
theorem lr_wsX12_support_r1 : ∀ w ∈ wsX12_support_r1, lwIn w := (List.forall_mem_cons.mpr ⟨lm_432, (List.forall_mem_cons.mpr ⟨lm_328, (List.forall_mem_cons.mpr ⟨lm_1040, (List.forall_mem_cons.mpr ⟨lm_1039, (List.forall_mem_cons.mpr ⟨lm_1038, (List.forall_mem_cons.mpr ⟨lm_235, (List.forall_mem_cons.mpr ⟨lm_1037, (List.forall_mem_cons.mpr ⟨lm_950, (List.forall_mem_cons.mpr ⟨lm_949, (List.forall_mem_cons.mpr ⟨lm_948, (List.forall_mem_cons.mpr ⟨lm_947, (List.forall_mem_cons.mpr ⟨lm_341, (List.forall_mem_cons.mpr ⟨lm_402, (List.forall_mem_cons.mpr ⟨lm_401, (List.forall_mem_cons.mpr ⟨lm_400, (List.forall_mem_cons.mpr ⟨lm_924, (List.forall_mem_cons.mpr ⟨lm_923, (List.forall_mem_cons.mpr ⟨lm_922, (List.forall_mem_cons.mpr ⟨lm_921, (List.forall_mem_cons.mpr ⟨lm_1001, (List.forall_mem_cons.mpr ⟨lm_1000, (List.forall_mem_cons.mpr ⟨lm_999, (List.forall_mem_cons.mpr ⟨lm_1010, (List.forall_mem_cons.mpr ⟨lm_387, (fun _ h => absurd h List.not_mem_nil)⟩)⟩)⟩)⟩)⟩)⟩)⟩)⟩)⟩)⟩)⟩)⟩)⟩)⟩)⟩)⟩)⟩)⟩)⟩)⟩)⟩)⟩)⟩)⟩)
set_option maxRecDepth 100000 in
theorem lr_wsX12_support_r2 : ∀ w ∈ wsX12_support_r2, lwIn w := (List.forall_mem_cons.mpr ⟨lm_386, (List.forall_mem_cons.mpr ⟨lm_385, (List.forall_mem_cons.mpr ⟨lm_344, (List.forall_mem_cons.mpr ⟨lm_343, (List.forall_mem_cons.mpr ⟨lm_389, (List.forall_mem_cons.mpr ⟨lm_388, (List.forall_mem_cons.mpr ⟨lm_430, (List.forall_mem_cons.mpr ⟨lm_429, (List.forall_mem_cons.mpr ⟨lm_428, (List.forall_mem_cons.mpr ⟨lm_427, (List.forall_mem_cons.mpr ⟨lm_1044, (List.forall_mem_cons.mpr ⟨lm_1043, (List.forall_mem_cons.mpr ⟨lm_1042, (List.forall_mem_cons.mpr ⟨lm_1041, (List.forall_mem_cons.mpr ⟨lm_339, (List.forall_mem_cons.mpr ⟨lm_380, (List.forall_mem_cons.mpr ⟨lm_379, (List.forall_mem_cons.mpr ⟨lm_378, (List.forall_mem_cons.mpr ⟨lm_377, (List.forall_mem_cons.mpr ⟨lm_376, (List.forall_mem_cons.mpr ⟨lm_375, (List.forall_mem_cons.mpr ⟨lm_374, (List.forall_mem_cons.mpr ⟨lm_332, (List.forall_mem_cons.mpr ⟨lm_373, (fun _ h => absurd h List.not_mem_nil)⟩)⟩)⟩)⟩)⟩)⟩)⟩)⟩)⟩)⟩)⟩)⟩)⟩)⟩)⟩)⟩)⟩)⟩)⟩)⟩)⟩)⟩)⟩)⟩)
set_option maxRecDepth 100000 in
theorem lr_wsX12_support_r3 : ∀ w ∈ wsX12_support_r3, lwIn w := (List.forall_mem_cons.mpr ⟨lm_372, (List.forall_mem_cons.mpr ⟨lm_371, (List.forall_mem_cons.mpr ⟨lm_370, (List.forall_mem_cons.mpr ⟨lm_369, (List.forall_mem_cons.mpr ⟨lm_368, (List.forall_mem_cons.mpr ⟨lm_367, (List.forall_mem_cons.mpr ⟨lm_366, (List.forall_mem_cons.mpr ⟨lm_413, (List.forall_mem_cons.mpr ⟨lm_412, (List.forall_mem_cons.mpr ⟨lm_411, (List.forall_mem_cons.mpr ⟨lm_410, (List.forall_mem_cons.mpr ⟨lm_409, (List.forall_mem_cons.mpr ⟨lm_408, (List.forall_mem_cons.mpr ⟨lm_407, (List.forall_mem_cons.mpr ⟨lm_406, (List.forall_mem_cons.mpr ⟨lm_405, (List.forall_mem_cons.mpr ⟨lm_404, (List.forall_mem_cons.mpr ⟨lm_403, (List.forall_mem_cons.mpr ⟨lm_399, (List.forall_mem_cons.mpr ⟨lm_398, (List.forall_mem_cons.mpr ⟨lm_397, (List.forall_mem_cons.mpr ⟨lm_396, (List.forall_mem_cons.mpr ⟨lm_395, (List.forall_mem_cons.mpr ⟨lm_394, (fun _ h => absurd h List.not_mem_nil)⟩)⟩)⟩)⟩)⟩)⟩)⟩)⟩)⟩)⟩)⟩)⟩)⟩)⟩)⟩)⟩)⟩)⟩)⟩)⟩)⟩)⟩)⟩)⟩)
set_option maxRecDepth 100000 in
theorem lr_wsX12_support_r4 : ∀ w ∈ wsX12_support_r4, lwIn w := (List.forall_mem_cons.mpr ⟨lm_393, (List.forall_mem_cons.mpr ⟨lm_392, (List.forall_mem_cons.mpr ⟨lm_1060, (List.forall_mem_cons.mpr ⟨lm_1059, (List.forall_mem_cons.mpr ⟨lm_1058, (List.forall_mem_cons.mpr ⟨lm_1057, (List.forall_mem_cons.mpr ⟨lm_1056, (List.forall_mem_cons.mpr ⟨lm_1055, (List.forall_mem_cons.mpr ⟨lm_1054, (fun _ h => absurd h List.not_mem_nil)⟩)⟩)⟩)⟩)⟩)⟩)⟩)⟩)⟩)
set_option maxRecDepth 100000 in
theorem lr_wsX12_support : ∀ w ∈ wsX12_support, lwIn w := List.forall_mem_cons.mpr ⟨lm_1053, (List.forall_mem_append.mpr ⟨(List.forall_mem_append.mpr ⟨lr_wsX12_support_r1, (List.forall_mem_append.mpr ⟨lr_wsX12_support_r2, (List.forall_mem_append.mpr ⟨lr_wsX12_support_r3, lr_wsX12_support_r4⟩)⟩)⟩), la_1⟩)⟩
set_option maxRecDepth 100000 in
theorem lr_wsX11_watchers_r1 : ∀ w ∈ wsX11_watchers_r1, lwIn w := (List.forall_mem_cons.mpr ⟨lm_438, (List.forall_mem_cons.mpr ⟨lm_196, (List.forall_mem_cons.mpr ⟨lm_453, (List.forall_mem_cons.mpr ⟨lm_188, (List.forall_mem_cons.mpr ⟨lm_276, (List.forall_mem_cons.mpr ⟨lm_633, (List.forall_mem_cons.mpr ⟨lm_919, (List.forall_mem_cons.mpr ⟨lm_918, (List.forall_mem_cons.mpr ⟨lm_917, (List.forall_mem_cons.mpr ⟨lm_238, (List.forall_mem_cons.mpr ⟨lm_916, (List.forall_mem_cons.mpr ⟨lm_451, (List.forall_mem_cons.mpr ⟨lm_972, (List.forall_mem_cons.mpr ⟨lm_591, (List.forall_mem_cons.mpr ⟨lm_590, (List.forall_mem_cons.mpr ⟨lm_673, (List.forall_mem_cons.mpr ⟨lm_672, (List.forall_mem_cons.mpr ⟨lm_671, (List.forall_mem_cons.mpr ⟨lm_221, (List.forall_mem_cons.mpr ⟨lm_670, (List.forall_mem_cons.mpr ⟨lm_296, (List.forall_mem_cons.mpr ⟨lm_298, (List.forall_mem_cons.mpr ⟨lm_929, (List.forall_mem_cons.mpr ⟨lm_579, (fun _ h => absurd h List.not_mem_nil)⟩)⟩)⟩)⟩)⟩)⟩)⟩)⟩)⟩)⟩)⟩)⟩)⟩)⟩)⟩)⟩)⟩)⟩)⟩)⟩)⟩)⟩)⟩)⟩)
set_option maxRecDepth 100000 in
theorem lr_wsX11_watchers_r2 : ∀ w ∈ wsX11_watchers_r2, lwIn w := (List.forall_mem_cons.mpr ⟨lm_578, (List.forall_mem_cons.mpr ⟨lm_577, (List.forall_mem_cons.mpr ⟨lm_216, (List.forall_mem_cons.mpr ⟨lm_576, (List.forall_mem_cons.mpr ⟨lm_308, (List.forall_mem_cons.mpr ⟨lm_575, (List.forall_mem_cons.mpr ⟨lm_574, (List.forall_mem_cons.mpr ⟨lm_183, (List.forall_mem_cons.mpr ⟨lm_573, (List.forall_mem_cons.mpr ⟨lm_611, (List.forall_mem_cons.mpr ⟨lm_610, (List.forall_mem_cons.mpr ⟨lm_609, (List.forall_mem_cons.mpr ⟨lm_608, (List.forall_mem_cons.mpr ⟨lm_1068, (List.forall_mem_cons.mpr ⟨lm_1067, (List.forall_mem_cons.mpr ⟨lm_1066, (List.forall_mem_cons.mpr ⟨lm_1065, (List.forall_mem_cons.mpr ⟨lm_666, (List.forall_mem_cons.mpr ⟨lm_664, (List.forall_mem_cons.mpr ⟨lm_663, (List.forall_mem_cons.mpr ⟨lm_662, (List.forall_mem_cons.mpr ⟨lm_661, (List.forall_mem_cons.mpr ⟨lm_660, (List.forall_mem_cons.mpr ⟨lm_307, (fun _ h => absurd h List.not_mem_nil)⟩)⟩)⟩)⟩)⟩)⟩)⟩)⟩)⟩)⟩)⟩)⟩)⟩)⟩)⟩)⟩)⟩)⟩)⟩)⟩)⟩)⟩)⟩)⟩)
set_option maxRecDepth 100000 in
theorem lr_wsX11_watchers_r3 : ∀ w ∈ wsX11_watchers_r3, lwIn w := (List.forall_mem_cons.mpr ⟨lm_659, (List.forall_mem_cons.mpr ⟨lm_658, (List.forall_mem_cons.mpr ⟨lm_657, (List.forall_mem_cons.mpr ⟨lm_1035, (List.forall_mem_cons.mpr ⟨lm_1034, (List.forall_mem_cons.mpr ⟨lm_1033, (List.forall_mem_cons.mpr ⟨lm_1032, (List.forall_mem_cons.mpr ⟨lm_249, (List.forall_mem_cons.mpr ⟨lm_665, (List.forall_mem_cons.mpr ⟨lm_682, (List.forall_mem_cons.mpr ⟨lm_681, (List.forall_mem_cons.mpr ⟨lm_680, (List.forall_mem_cons.mpr ⟨lm_679, (List.forall_mem_cons.mpr ⟨lm_678, (List.forall_mem_cons.mpr ⟨lm_683, (List.forall_mem_cons.mpr ⟨lm_565, (List.forall_mem_cons.mpr ⟨lm_564, (List.forall_mem_cons.mpr ⟨lm_677, (List.forall_mem_cons.mpr ⟨lm_676, (List.forall_mem_cons.mpr ⟨lm_309, (List.forall_mem_cons.mpr ⟨lm_675, (List.forall_mem_cons.mpr ⟨lm_674, (List.forall_mem_cons.mpr ⟨lm_719, (List.forall_mem_cons.mpr ⟨lm_718, (fun _ h => absurd h List.not_mem_nil)⟩)⟩)⟩)⟩)⟩)⟩)⟩)⟩)⟩)⟩)⟩)⟩)⟩)⟩)⟩)⟩)⟩)⟩)⟩)⟩)⟩)⟩)⟩)⟩)
set_option maxRecDepth 100000 in
theorem lr_wsX11_watchers_r4 : ∀ w ∈ wsX11_watchers_r4, lwIn w := (List.forall_mem_cons.mpr ⟨lm_177, (List.forall_mem_cons.mpr ⟨lm_717, (List.forall_mem_cons.mpr ⟨lm_716, (List.forall_mem_cons.mpr ⟨lm_715, (List.forall_mem_cons.mpr ⟨lm_714, (List.forall_mem_cons.mpr ⟨lm_713, (List.forall_mem_cons.mpr ⟨lm_712, (List.forall_mem_cons.mpr ⟨lm_711, (List.forall_mem_cons.mpr ⟨lm_710, (List.forall_mem_cons.mpr ⟨lm_709, (List.forall_mem_cons.mpr ⟨lm_708, (List.forall_mem_cons.mpr ⟨lm_707, (List.forall_mem_cons.mpr ⟨lm_706, (List.forall_mem_cons.mpr ⟨lm_705, (List.forall_mem_cons.mpr ⟨lm_704, (List.forall_mem_cons.mpr ⟨lm_175, (List.forall_mem_cons.mpr ⟨lm_703, (List.forall_mem_cons.mpr ⟨lm_702, (List.forall_mem_cons.mpr ⟨lm_701, (List.forall_mem_cons.mpr ⟨lm_700, (List.forall_mem_cons.mpr ⟨lm_699, (List.forall_mem_cons.mpr ⟨lm_698, (List.forall_mem_cons.mpr ⟨lm_181, (List.forall_mem_cons.mpr ⟨lm_697, (fun _ h => absurd h List.not_mem_nil)⟩)⟩)⟩)⟩)⟩)⟩)⟩)⟩)⟩)⟩)⟩)⟩)⟩)⟩)⟩)⟩)⟩)⟩)⟩)⟩)⟩)⟩)⟩)⟩)
set_option maxRecDepth 100000 in
theorem lr_wsX11_watchers_r5 : ∀ w ∈ wsX11_watchers_r5, lwIn w := (List.forall_mem_cons.mpr ⟨lm_740, (List.forall_mem_cons.mpr ⟨lm_739, (List.forall_mem_cons.mpr ⟨lm_738, (List.forall_mem_cons.mpr ⟨lm_737, (List.forall_mem_cons.mpr ⟨lm_736, (List.forall_mem_cons.mpr ⟨lm_735, (List.forall_mem_cons.mpr ⟨lm_588, (List.forall_mem_cons.mpr ⟨lm_587, (List.forall_mem_cons.mpr ⟨lm_734, (List.forall_mem_cons.mpr ⟨lm_733, (List.forall_mem_cons.mpr ⟨lm_174, (List.forall_mem_cons.mpr ⟨lm_732, (List.forall_mem_cons.mpr ⟨lm_731, (List.forall_mem_cons.mpr ⟨lm_730, (List.forall_mem_cons.mpr ⟨lm_729, (List.forall_mem_cons.mpr ⟨lm_728, (List.forall_mem_cons.mpr ⟨lm_691, (List.forall_mem_cons.mpr ⟨lm_176, (List.forall_mem_cons.mpr ⟨lm_690, (List.forall_mem_cons.mpr ⟨lm_689, (List.forall_mem_cons.mpr ⟨lm_688, (List.forall_mem_cons.mpr ⟨lm_687, (List.forall_mem_cons.mpr ⟨lm_727, (List.forall_mem_cons.mpr ⟨lm_651, (fun _ h => absurd h List.not_mem_nil)⟩)⟩)⟩)⟩)⟩)⟩)⟩)⟩)⟩)⟩)⟩)⟩)⟩)⟩)⟩)⟩)⟩)⟩)⟩)⟩)⟩)⟩)⟩)⟩)
set_option maxRecDepth 100000 in
theorem lr_wsX11_watchers_r6 : ∀ w ∈ wsX11_watchers_r6, lwIn w := (List.forall_mem_cons.mpr ⟨lm_650, (List.forall_mem_cons.mpr ⟨lm_696, (List.forall_mem_cons.mpr ⟨lm_695, (List.forall_mem_cons.mpr ⟨lm_694, (List.forall_mem_cons.mpr ⟨lm_693, (List.forall_mem_cons.mpr ⟨lm_692, (List.forall_mem_cons.mpr ⟨lm_726, (List.forall_mem_cons.mpr ⟨lm_725, (List.forall_mem_cons.mpr ⟨lm_225, (List.forall_mem_cons.mpr ⟨lm_724, (List.forall_mem_cons.mpr ⟨lm_314, (List.forall_mem_cons.mpr ⟨lm_723, (List.forall_mem_cons.mpr ⟨lm_722, (List.forall_mem_cons.mpr ⟨lm_721, (List.forall_mem_cons.mpr ⟨lm_720, (List.forall_mem_cons.mpr ⟨lm_179, (List.forall_mem_cons.mpr ⟨lm_764, (List.forall_mem_cons.mpr ⟨lm_621, (List.forall_mem_cons.mpr ⟨lm_763, (List.forall_mem_cons.mpr ⟨lm_762, (List.forall_mem_cons.mpr ⟨lm_761, (List.forall_mem_cons.mpr ⟨lm_620, (List.forall_mem_cons.mpr ⟨lm_760, (List.forall_mem_cons.mpr ⟨lm_619, (fun _ h => absurd h List.not_mem_nil)⟩)⟩)⟩)⟩)⟩)⟩)⟩)⟩)⟩)⟩)⟩)⟩)⟩)⟩)⟩)⟩)⟩)⟩)⟩)⟩)⟩)⟩)⟩)⟩)
set_option maxRecDepth 100000 in
theorem lr_wsX11_watchers_r7 : ∀ w ∈ wsX11_watchers_r7, lwIn w := (List.forall_mem_cons.mpr ⟨lm_618, (List.forall_mem_cons.mpr ⟨lm_759, (List.forall_mem_cons.mpr ⟨lm_758, (List.forall_mem_cons.mpr ⟨lm_757, (List.forall_mem_cons.mpr ⟨lm_756, (List.forall_mem_cons.mpr ⟨lm_755, (List.forall_mem_cons.mpr ⟨lm_754, (List.forall_mem_cons.mpr ⟨lm_753, (List.forall_mem_cons.mpr ⟨lm_752, (List.forall_mem_cons.mpr ⟨lm_751, (List.forall_mem_cons.mpr ⟨lm_750, (List.forall_mem_cons.mpr ⟨lm_749, (List.forall_mem_cons.mpr ⟨lm_748, (List.forall_mem_cons.mpr ⟨lm_747, (List.forall_mem_cons.mpr ⟨lm_746, (List.forall_mem_cons.mpr ⟨lm_745, (List.forall_mem_cons.mpr ⟨lm_744, (List.forall_mem_cons.mpr ⟨lm_743, (List.forall_mem_cons.mpr ⟨lm_742, (List.forall_mem_cons.mpr ⟨lm_741, (List.forall_mem_cons.mpr ⟨lm_788, (List.forall_mem_cons.mpr ⟨lm_787, (List.forall_mem_cons.mpr ⟨lm_786, (List.forall_mem_cons.mpr ⟨lm_586, (fun _ h => absurd h List.not_mem_nil)⟩)⟩)⟩)⟩)⟩)⟩)⟩)⟩)⟩)⟩)⟩)⟩)⟩)⟩)⟩)⟩)⟩)⟩)⟩)⟩)⟩)⟩)⟩)⟩)
set_option maxRecDepth 100000 in
theorem lr_wsX11_watchers_r8 : ∀ w ∈ wsX11_watchers_r8, lwIn w := (List.forall_mem_cons.mpr ⟨lm_785, (List.forall_mem_cons.mpr ⟨lm_594, (List.forall_mem_cons.mpr ⟨lm_593, (List.forall_mem_cons.mpr ⟨lm_592, (List.forall_mem_cons.mpr ⟨lm_784, (List.forall_mem_cons.mpr ⟨lm_783, (List.forall_mem_cons.mpr ⟨lm_782, (List.forall_mem_cons.mpr ⟨lm_781, (List.forall_mem_cons.mpr ⟨lm_780, (List.forall_mem_cons.mpr ⟨lm_779, (List.forall_mem_cons.mpr ⟨lm_686, (List.forall_mem_cons.mpr ⟨lm_685, (List.forall_mem_cons.mpr ⟨lm_684, (fun _ h => absurd h List.not_mem_nil)⟩)⟩)⟩)⟩)⟩)⟩)⟩)⟩)⟩)⟩)⟩)⟩)⟩)
set_option maxRecDepth 100000 in
theorem lr_wsX11_watchers : ∀ w ∈ wsX11_watchers, lwIn w := List.forall_mem_cons.mpr ⟨lm_1064, (List.forall_mem_append.mpr ⟨(List.forall_mem_append.mpr ⟨(List.forall_mem_append.mpr ⟨(List.forall_mem_append.mpr ⟨(List.forall_mem_append.mpr ⟨(List.forall_mem_append.mpr ⟨(List.forall_mem_append.mpr ⟨(List.forall_mem_append.mpr ⟨(List.forall_mem_append.mpr ⟨(List.forall_mem_append.mpr ⟨lr_wsX11_watchers_r1, (List.forall_mem_append.mpr ⟨lr_wsX11_watchers_r2, (List.forall_mem_append.mpr ⟨lr_wsX11_watchers_r3, (List.forall_mem_append.mpr ⟨lr_wsX11_watchers_r4, (List.forall_mem_append.mpr ⟨lr_wsX11_watchers_r5, (List.forall_mem_append.mpr ⟨lr_wsX11_watchers_r6, (List.forall_mem_append.mpr ⟨lr_wsX11_watchers_r7, lr_wsX11_watchers_r8⟩)⟩)⟩)⟩)⟩)⟩)⟩), la_0⟩), la_6⟩), la_8⟩), la_9⟩), la_4⟩), la_10⟩), la_3⟩), la_12⟩), la_13⟩)⟩
set_option maxRecDepth 100000 in
theorem lr_wsW_watchers : ∀ w ∈ wsW_watchers, lwIn w := List.forall_mem_cons.mpr ⟨lm_1061, (List.forall_mem_append.mpr ⟨(List.forall_mem_cons.mpr ⟨lm_198, (List.forall_mem_cons.mpr ⟨lm_190, (List.forall_mem_cons.mpr ⟨lm_94, (List.forall_mem_cons.mpr ⟨lm_1063, (List.forall_mem_cons.mpr ⟨lm_1062, (List.forall_mem_cons.mpr ⟨lm_238, (fun _ h => absurd h List.not_mem_nil)⟩)⟩)⟩)⟩)⟩)⟩), lr_wsX11_watchers⟩)⟩
set_option maxRecDepth 100000 in
theorem lr_wsX12_watchers_r1 : ∀ w ∈ wsX12_watchers_r1, lwIn w := (List.forall_mem_cons.mpr ⟨lm_432, (List.forall_mem_cons.mpr ⟨lm_341, (List.forall_mem_cons.mpr ⟨lm_328, (List.forall_mem_cons.mpr ⟨lm_924, (List.forall_mem_cons.mpr ⟨lm_923, (List.forall_mem_cons.mpr ⟨lm_922, (List.forall_mem_cons.mpr ⟨lm_235, (List.forall_mem_cons.mpr ⟨lm_921, (List.forall_mem_cons.mpr ⟨lm_402, (List.forall_mem_cons.mpr ⟨lm_401, (List.forall_mem_cons.mpr ⟨lm_400, (List.forall_mem_cons.mpr ⟨lm_430, (List.forall_mem_cons.mpr ⟨lm_429, (List.forall_mem_cons.mpr ⟨lm_428, (List.forall_mem_cons.mpr ⟨lm_427, (List.forall_mem_cons.mpr ⟨lm_344, (List.forall_mem_cons.mpr ⟨lm_343, (List.forall_mem_cons.mpr ⟨lm_389, (List.forall_mem_cons.mpr ⟨lm_388, (List.forall_mem_cons.mpr ⟨lm_1001, (List.forall_mem_cons.mpr ⟨lm_1000, (List.forall_mem_cons.mpr ⟨lm_999, (List.forall_mem_cons.mpr ⟨lm_1010, (List.forall_mem_cons.mpr ⟨lm_387, (fun _ h => absurd h List.not_mem_nil)⟩)⟩)⟩)⟩)⟩)⟩)⟩)⟩)⟩)⟩)⟩)⟩)⟩)⟩)⟩)⟩)⟩)⟩)⟩)⟩)⟩)⟩)⟩)⟩)
set_option maxRecDepth 100000 in
theorem lr_wsX12_watchers_r2 : ∀ w ∈ wsX12_watchers_r2, lwIn w := (List.forall_mem_cons.mpr ⟨lm_386, (List.forall_mem_cons.mpr ⟨lm_385, (List.forall_mem_cons.mpr ⟨lm_1044, (List.forall_mem_cons.mpr ⟨lm_1043, (List.forall_mem_cons.mpr ⟨lm_1042, (List.forall_mem_cons.mpr ⟨lm_1041, (List.forall_mem_cons.mpr ⟨lm_339, (List.forall_mem_cons.mpr ⟨lm_380, (List.forall_mem_cons.mpr ⟨lm_379, (List.forall_mem_cons.mpr ⟨lm_378, (List.forall_mem_cons.mpr ⟨lm_377, (List.forall_mem_cons.mpr ⟨lm_376, (List.forall_mem_cons.mpr ⟨lm_375, (List.forall_mem_cons.mpr ⟨lm_374, (List.forall_mem_cons.mpr ⟨lm_332, (List.forall_mem_cons.mpr ⟨lm_373, (List.forall_mem_cons.mpr ⟨lm_372, (List.forall_mem_cons.mpr ⟨lm_371, (List.forall_mem_cons.mpr ⟨lm_370, (List.forall_mem_cons.mpr ⟨lm_369, (List.forall_mem_cons.mpr ⟨lm_368, (List.forall_mem_cons.mpr ⟨lm_367, (List.forall_mem_cons.mpr ⟨lm_366, (List.forall_mem_cons.mpr ⟨lm_413, (fun _ h => absurd h List.not_mem_nil)⟩)⟩)⟩)⟩)⟩)⟩)⟩)⟩)⟩)⟩)⟩)⟩)⟩)⟩)⟩)⟩)⟩)⟩)⟩)⟩)⟩)⟩)⟩)⟩)
set_option maxRecDepth 100000 in
theorem lr_wsX12_watchers_r3 : ∀ w ∈ wsX12_watchers_r3, lwIn w := (List.forall_mem_cons.mpr ⟨lm_412, (List.forall_mem_cons.mpr ⟨lm_411, (List.forall_mem_cons.mpr ⟨lm_410, (List.forall_mem_cons.mpr ⟨lm_409, (List.forall_mem_cons.mpr ⟨lm_408, (List.forall_mem_cons.mpr ⟨lm_407, (List.forall_mem_cons.mpr ⟨lm_406, (List.forall_mem_cons.mpr ⟨lm_405, (List.forall_mem_cons.mpr ⟨lm_404, (List.forall_mem_cons.mpr ⟨lm_403, (List.forall_mem_cons.mpr ⟨lm_399, (List.forall_mem_cons.mpr ⟨lm_398, (List.forall_mem_cons.mpr ⟨lm_397, (List.forall_mem_cons.mpr ⟨lm_396, (List.forall_mem_cons.mpr ⟨lm_395, (List.forall_mem_cons.mpr ⟨lm_394, (List.forall_mem_cons.mpr ⟨lm_393, (List.forall_mem_cons.mpr ⟨lm_392, (List.forall_mem_cons.mpr ⟨lm_1060, (List.forall_mem_cons.mpr ⟨lm_1059, (List.forall_mem_cons.mpr ⟨lm_1058, (List.forall_mem_cons.mpr ⟨lm_1057, (fun _ h => absurd h List.not_mem_nil)⟩)⟩)⟩)⟩)⟩)⟩)⟩)⟩)⟩)⟩)⟩)⟩)⟩)⟩)⟩)⟩)⟩)⟩)⟩)⟩)⟩)⟩)
set_option maxRecDepth 100000 in
theorem lr_wsX12_watchers : ∀ w ∈ wsX12_watchers, lwIn w := List.forall_mem_cons.mpr ⟨lm_1069, (List.forall_mem_append.mpr ⟨(List.forall_mem_append.mpr ⟨lr_wsX12_watchers_r1, (List.forall_mem_append.mpr ⟨lr_wsX12_watchers_r2, lr_wsX12_watchers_r3⟩)⟩), la_1⟩)⟩
set_option maxRecDepth 100000 in
theorem lr_wsX11_tuples_r1 : ∀ w ∈ wsX11_tuples_r1, lwIn w := (List.forall_mem_cons.mpr ⟨lm_438, (List.forall_mem_cons.mpr ⟨lm_196, (List.forall_mem_cons.mpr ⟨lm_276, (List.forall_mem_cons.mpr ⟨lm_249, (List.forall_mem_cons.mpr ⟨lm_665, (List.forall_mem_cons.mpr ⟨lm_673, (List.forall_mem_cons.mpr ⟨lm_672, (List.forall_mem_cons.mpr ⟨lm_671, (List.forall_mem_cons.mpr ⟨lm_221, (List.forall_mem_cons.mpr ⟨lm_670, (List.forall_mem_cons.mpr ⟨lm_296, (List.forall_mem_cons.mpr ⟨lm_298, (List.forall_mem_cons.mpr ⟨lm_1075, (List.forall_mem_cons.mpr ⟨lm_216, (List.forall_mem_cons.mpr ⟨lm_1074, (List.forall_mem_cons.mpr ⟨lm_309, (List.forall_mem_cons.mpr ⟨lm_308, (List.forall_mem_cons.mpr ⟨lm_675, (List.forall_mem_cons.mpr ⟨lm_674, (List.forall_mem_cons.mpr ⟨lm_719, (List.forall_mem_cons.mpr ⟨lm_718, (List.forall_mem_cons.mpr ⟨lm_177, (List.forall_mem_cons.mpr ⟨lm_717, (List.forall_mem_cons.mpr ⟨lm_716, (fun _ h => absurd h List.not_mem_nil)⟩)⟩)⟩)⟩)⟩)⟩)⟩)⟩)⟩)⟩)⟩)⟩)⟩)⟩)⟩)⟩)⟩)⟩)⟩)⟩)⟩)⟩)⟩)⟩)
set_option maxRecDepth 100000 in
theorem lr_wsX11_tuples_r2 : ∀ w ∈ wsX11_tuples_r2, lwIn w := (List.forall_mem_cons.mpr ⟨lm_715, (List.forall_mem_cons.mpr ⟨lm_714, (List.forall_mem_cons.mpr ⟨lm_713, (List.forall_mem_cons.mpr ⟨lm_712, (List.forall_mem_cons.mpr ⟨lm_661, (List.forall_mem_cons.mpr ⟨lm_660, (List.forall_mem_cons.mpr ⟨lm_307, (List.forall_mem_cons.mpr ⟨lm_711, (List.forall_mem_cons.mpr ⟨lm_710, (List.forall_mem_cons.mpr ⟨lm_183, (List.forall_mem_cons.mpr ⟨lm_709, (List.forall_mem_cons.mpr ⟨lm_708, (List.forall_mem_cons.mpr ⟨lm_707, (List.forall_mem_cons.mpr ⟨lm_706, (List.forall_mem_cons.mpr ⟨lm_705, (List.forall_mem_cons.mpr ⟨lm_704, (List.forall_mem_cons.mpr ⟨lm_175, (List.forall_mem_cons.mpr ⟨lm_703, (List.forall_mem_cons.mpr ⟨lm_702, (List.forall_mem_cons.mpr ⟨lm_701, (List.forall_mem_cons.mpr ⟨lm_700, (List.forall_mem_cons.mpr ⟨lm_699, (List.forall_mem_cons.mpr ⟨lm_698, (List.forall_mem_cons.mpr ⟨lm_181, (fun _ h => absurd h List.not_mem_nil)⟩)⟩)⟩)⟩)⟩)⟩)⟩)⟩)⟩)⟩)⟩)⟩)⟩)⟩)⟩)⟩)⟩)⟩)⟩)⟩)⟩)⟩)⟩)⟩)
set_option maxRecDepth 100000 in
theorem lr_wsX11_tuples_r3 : ∀ w ∈ wsX11_tuples_r3, lwIn w := (List.forall_mem_cons.mpr ⟨lm_697, (List.forall_mem_cons.mpr ⟨lm_740, (List.forall_mem_cons.mpr ⟨lm_739, (List.forall_mem_cons.mpr ⟨lm_738, (List.forall_mem_cons.mpr ⟨lm_737, (List.forall_mem_cons.mpr ⟨lm_736, (List.forall_mem_cons.mpr ⟨lm_735, (List.forall_mem_cons.mpr ⟨lm_588, (List.forall_mem_cons.mpr ⟨lm_587, (List.forall_mem_cons.mpr ⟨lm_734, (List.forall_mem_cons.mpr ⟨lm_733, (List.forall_mem_cons.mpr ⟨lm_174, (List.forall_mem_cons.mpr ⟨lm_732, (List.forall_mem_cons.mpr ⟨lm_731, (List.forall_mem_cons.mpr ⟨lm_730, (List.forall_mem_cons.mpr ⟨lm_729, (List.forall_mem_cons.mpr ⟨lm_728, (List.forall_mem_cons.mpr ⟨lm_691, (List.forall_mem_cons.mpr ⟨lm_176, (List.forall_mem_cons.mpr ⟨lm_690, (List.forall_mem_cons.mpr ⟨lm_689, (List.forall_mem_cons.mpr ⟨lm_688, (List.forall_mem_cons.mpr ⟨lm_687, (List.forall_mem_cons.mpr ⟨lm_727, (fun _ h => absurd h List.not_mem_nil)⟩)⟩)⟩)⟩)⟩)⟩)⟩)⟩)⟩)⟩)⟩)⟩)⟩)⟩)⟩)⟩)⟩)⟩)⟩)⟩)⟩)⟩)⟩)⟩)
set_option maxRecDepth 100000 in
theorem lr_wsX11_tuples_r4 : ∀ w ∈ wsX11_tuples_r4, lwIn w := (List.forall_mem_cons.mpr ⟨lm_651, (List.forall_mem_cons.mpr ⟨lm_650, (List.forall_mem_cons.mpr ⟨lm_696, (List.forall_mem_cons.mpr ⟨lm_695, (List.forall_mem_cons.mpr ⟨lm_694, (List.forall_mem_cons.mpr ⟨lm_693, (List.forall_mem_cons.mpr ⟨lm_692, (List.forall_mem_cons.mpr ⟨lm_726, (List.forall_mem_cons.mpr ⟨lm_725, (List.forall_mem_cons.mpr ⟨lm_225, (List.forall_mem_cons.mpr ⟨lm_724, (List.forall_mem_cons.mpr ⟨lm_314, (List.forall_mem_cons.mpr ⟨lm_723, (List.forall_mem_cons.mpr ⟨lm_722, (List.forall_mem_cons.mpr ⟨lm_721, (List.forall_mem_cons.mpr ⟨lm_720, (List.forall_mem_cons.mpr ⟨lm_179, (List.forall_mem_cons.mpr ⟨lm_764, (List.forall_mem_cons.mpr ⟨lm_621, (List.forall_mem_cons.mpr ⟨lm_763, (List.forall_mem_cons.mpr ⟨lm_762, (List.forall_mem_cons.mpr ⟨lm_761, (List.forall_mem_cons.mpr ⟨lm_620, (List.forall_mem_cons.mpr ⟨lm_760, (fun _ h => absurd h List.not_mem_nil)⟩)⟩)⟩)⟩)⟩)⟩)⟩)⟩)⟩)⟩)⟩)⟩)⟩)⟩)⟩)⟩)⟩)⟩)⟩)⟩)⟩)⟩)⟩)⟩)
set_option maxRecDepth 100000 in
theorem lr_wsX11_tuples_r5 : ∀ w ∈ wsX11_tuples_r5, lwIn w := (List.forall_mem_cons.mpr ⟨lm_619, (List.forall_mem_cons.mpr ⟨lm_618, (List.forall_mem_cons.mpr ⟨lm_759, (List.forall_mem_cons.mpr ⟨lm_758, (List.forall_mem_cons.mpr ⟨lm_757, (List.forall_mem_cons.mpr ⟨lm_756, (List.forall_mem_cons.mpr ⟨lm_755, (List.forall_mem_cons.mpr ⟨lm_574, (List.forall_mem_cons.mpr ⟨lm_573, (List.forall_mem_cons.mpr ⟨lm_611, (List.forall_mem_cons.mpr ⟨lm_754, (List.forall_mem_cons.mpr ⟨lm_1080, (List.forall_mem_cons.mpr ⟨lm_1079, (List.forall_mem_cons.mpr ⟨lm_1078, (List.forall_mem_cons.mpr ⟨lm_678, (List.forall_mem_cons.mpr ⟨lm_1077, (List.forall_mem_cons.mpr ⟨lm_1076, (List.forall_mem_cons.mpr ⟨lm_749, (List.forall_mem_cons.mpr ⟨lm_663, (List.forall_mem_cons.mpr ⟨lm_662, (List.forall_mem_cons.mpr ⟨lm_659, (List.forall_mem_cons.mpr ⟨lm_658, (List.forall_mem_cons.mpr ⟨lm_657, (List.forall_mem_cons.mpr ⟨lm_748, (fun _ h => absurd h List.not_mem_nil)⟩)⟩)⟩)⟩)⟩)⟩)⟩)⟩)⟩)⟩)⟩)⟩)⟩)⟩)⟩)⟩)⟩)⟩)⟩)⟩)⟩)⟩)⟩)⟩)
set_option maxRecDepth 100000 in
theorem lr_wsX11_tuples_r6 : ∀ w ∈ wsX11_tuples_r6, lwIn w := (List.forall_mem_cons.mpr ⟨lm_745, (List.forall_mem_cons.mpr ⟨lm_744, (List.forall_mem_cons.mpr ⟨lm_743, (List.forall_mem_cons.mpr ⟨lm_742, (List.forall_mem_cons.mpr ⟨lm_741, (List.forall_mem_cons.mpr ⟨lm_788, (List.forall_mem_cons.mpr ⟨lm_787, (List.forall_mem_cons.mpr ⟨lm_786, (List.forall_mem_cons.mpr ⟨lm_586, (List.forall_mem_cons.mpr ⟨lm_785, (List.forall_mem_cons.mpr ⟨lm_594, (List.forall_mem_cons.mpr ⟨lm_593, (List.forall_mem_cons.mpr ⟨lm_592, (List.forall_mem_cons.mpr ⟨lm_591, (List.forall_mem_cons.mpr ⟨lm_238, (List.forall_mem_cons.mpr ⟨lm_590, (List.forall_mem_cons.mpr ⟨lm_784, (List.forall_mem_cons.mpr ⟨lm_783, (List.forall_mem_cons.mpr ⟨lm_782, (List.forall_mem_cons.mpr ⟨lm_781, (List.forall_mem_cons.mpr ⟨lm_780, (List.forall_mem_cons.mpr ⟨lm_779, (List.forall_mem_cons.mpr ⟨lm_747, (List.forall_mem_cons.mpr ⟨lm_681, (fun _ h => absurd h List.not_mem_nil)⟩)⟩)⟩)⟩)⟩)⟩)⟩)⟩)⟩)⟩)⟩)⟩)⟩)⟩)⟩)⟩)⟩)⟩)⟩)⟩)⟩)⟩)⟩)⟩)
set_option maxRecDepth 100000 in
theorem lr_wsX11_tuples_r7 : ∀ w ∈ wsX11_tuples_r7, lwIn w := (List.forall_mem_cons.mpr ⟨lm_680, (List.forall_mem_cons.mpr ⟨lm_679, (List.forall_mem_cons.mpr ⟨lm_683, (List.forall_mem_cons.mpr ⟨lm_565, (List.forall_mem_cons.mpr ⟨lm_564, (List.forall_mem_cons.mpr ⟨lm_1082, (List.forall_mem_cons.mpr ⟨lm_1081, (fun _ h => absurd h List.not_mem_nil)⟩)⟩)⟩)⟩)⟩)⟩)⟩)
set_option maxRecDepth 100000 in
theorem lr_wsX11_tuples : ∀ w ∈ wsX11_tuples, lwIn w := List.forall_mem_cons.mpr ⟨lm_1073, (List.forall_mem_append.mpr ⟨(List.forall_mem_append.mpr ⟨(List.forall_mem_append.mpr ⟨(List.forall_mem_append.mpr ⟨(List.forall_mem_append.mpr ⟨(List.forall_mem_append.mpr ⟨(List.forall_mem_append.mpr ⟨(List.forall_mem_append.mpr ⟨(List.forall_mem_append.mpr ⟨lr_wsX11_tuples_r1, (List.forall_mem_append.mpr ⟨lr_wsX11_tuples_r2, (List.forall_mem_append.mpr ⟨lr_wsX11_tuples_r3, (List.forall_mem_append.mpr ⟨lr_wsX11_tuples_r4, (List.forall_mem_append.mpr ⟨lr_wsX11_tuples_r5, (List.forall_mem_append.mpr ⟨lr_wsX11_tuples_r6, lr_wsX11_tuples_r7⟩)⟩)⟩)⟩)⟩)⟩), la_0⟩), la_3⟩), la_6⟩), la_8⟩), la_9⟩), la_4⟩), la_10⟩), la_12⟩)⟩
set_option maxRecDepth 100000 in
theorem lr_wsW_tuples : ∀ w ∈ wsW_tuples, lwIn w := List.forall_mem_cons.mpr ⟨lm_1070, (List.forall_mem_append.mpr ⟨(List.forall_mem_cons.mpr ⟨lm_198, (List.forall_mem_cons.mpr ⟨lm_88, (List.forall_mem_cons.mpr ⟨lm_1072, (List.forall_mem_cons.mpr ⟨lm_1071, (List.forall_mem_cons.mpr ⟨lm_238, (fun _ h => absurd h List.not_mem_nil)⟩)⟩)⟩)⟩)⟩), lr_wsX11_tuples⟩)⟩
set_option maxRecDepth 100000 in
theorem lr_wsX12_tuples_r1 : ∀ w ∈ wsX12_tuples_r1, lwIn w := (List.forall_mem_cons.mpr ⟨lm_432, (List.forall_mem_cons.mpr ⟨lm_950, (List.forall_mem_cons.mpr ⟨lm_949, (List.forall_mem_cons.mpr ⟨lm_948, (List.forall_mem_cons.mpr ⟨lm_235, (List.forall_mem_cons.mpr ⟨lm_947, (List.forall_mem_cons.mpr ⟨lm_341, (List.forall_mem_cons.mpr ⟨lm_402, (List.forall_mem_cons.mpr ⟨lm_401, (List.forall_mem_cons.mpr ⟨lm_400, (List.forall_mem_cons.mpr ⟨lm_430, (List.forall_mem_cons.mpr ⟨lm_429, (List.forall_mem_cons.mpr ⟨lm_428, (List.forall_mem_cons.mpr ⟨lm_427, (List.forall_mem_cons.mpr ⟨lm_1088, (List.forall_mem_cons.mpr ⟨lm_1087, (List.forall_mem_cons.mpr ⟨lm_1086, (List.forall_mem_cons.mpr ⟨lm_1085, (List.forall_mem_cons.mpr ⟨lm_327, (List.forall_mem_cons.mpr ⟨lm_344, (List.forall_mem_cons.mpr ⟨lm_343, (List.forall_mem_cons.mpr ⟨lm_389, (List.forall_mem_cons.mpr ⟨lm_388, (List.forall_mem_cons.mpr ⟨lm_1084, (fun _ h => absurd h List.not_mem_nil)⟩)⟩)⟩)⟩)⟩)⟩)⟩)⟩)⟩)⟩)⟩)⟩)⟩)⟩)⟩)⟩)⟩)⟩)⟩)⟩)⟩)⟩)⟩)⟩)
set_option maxRecDepth 100000 in
theorem lr_wsX12_tuples_r2 : ∀ w ∈ wsX12_tuples_r2, lwIn w := (List.forall_mem_cons.mpr ⟨lm_1107, (List.forall_mem_cons.mpr ⟨lm_1106, (List.forall_mem_cons.mpr ⟨lm_1105, (List.forall_mem_cons.mpr ⟨lm_339, (List.forall_mem_cons.mpr ⟨lm_380, (List.forall_mem_cons.mpr ⟨lm_379, (List.forall_mem_cons.mpr ⟨lm_378, (List.forall_mem_cons.mpr ⟨lm_1104, (List.forall_mem_cons.mpr ⟨lm_1103, (List.forall_mem_cons.mpr ⟨lm_1102, (List.forall_mem_cons.mpr ⟨lm_1101, (List.forall_mem_cons.mpr ⟨lm_1100, (List.forall_mem_cons.mpr ⟨lm_1099, (List.forall_mem_cons.mpr ⟨lm_1098, (List.forall_mem_cons.mpr ⟨lm_1097, (List.forall_mem_cons.mpr ⟨lm_1096, (List.forall_mem_cons.mpr ⟨lm_1095, (List.forall_mem_cons.mpr ⟨lm_1094, (List.forall_mem_cons.mpr ⟨lm_1093, (List.forall_mem_cons.mpr ⟨lm_1092, (List.forall_mem_cons.mpr ⟨lm_1091, (List.forall_mem_cons.mpr ⟨lm_1090, (List.forall_mem_cons.mpr ⟨lm_1089, (fun _ h => absurd h List.not_mem_nil)⟩)⟩)⟩)⟩)⟩)⟩)⟩)⟩)⟩)⟩)⟩)⟩)⟩)⟩)⟩)⟩)⟩)⟩)⟩)⟩)⟩)⟩)⟩)
set_option maxRecDepth 100000 in
theorem lr_wsX12_tuples : ∀ w ∈ wsX12_tuples, lwIn w := List.forall_mem_cons.mpr ⟨lm_1083, (List.forall_mem_append.mpr ⟨(List.forall_mem_append.mpr ⟨lr_wsX12_tuples_r1, lr_wsX12_tuples_r2⟩), la_1⟩)⟩
set_option maxRecDepth 100000 in
theorem lr_wsX11_tightness_r1 : ∀ w ∈ wsX11_tightness_r1, lwIn w := (List.forall_mem_cons.mpr ⟨lm_438, (List.forall_mem_cons.mpr ⟨lm_196, (List.forall_mem_cons.mpr ⟨lm_425, (List.forall_mem_cons.mpr ⟨lm_207, (List.forall_mem_cons.mpr ⟨lm_276, (List.forall_mem_cons.mpr ⟨lm_249, (List.forall_mem_cons.mpr ⟨lm_665, (List.forall_mem_cons.mpr ⟨lm_992, (List.forall_mem_cons.mpr ⟨lm_673, (List.forall_mem_cons.mpr ⟨lm_672, (List.forall_mem_cons.mpr ⟨lm_671, (List.forall_mem_cons.mpr ⟨lm_221, (List.forall_mem_cons.mpr ⟨lm_670, (List.forall_mem_cons.mpr ⟨lm_296, (List.forall_mem_cons.mpr ⟨lm_298, (List.forall_mem_cons.mpr ⟨lm_1112, (List.forall_mem_cons.mpr ⟨lm_1079, (List.forall_mem_cons.mpr ⟨lm_183, (List.forall_mem_cons.mpr ⟨lm_1078, (List.forall_mem_cons.mpr ⟨lm_678, (List.forall_mem_cons.mpr ⟨lm_574, (List.forall_mem_cons.mpr ⟨lm_573, (List.forall_mem_cons.mpr ⟨lm_611, (List.forall_mem_cons.mpr ⟨lm_1077, (fun _ h => absurd h List.not_mem_nil)⟩)⟩)⟩)⟩)⟩)⟩)⟩)⟩)⟩)⟩)⟩)⟩)⟩)⟩)⟩)⟩)⟩)⟩)⟩)⟩)⟩)⟩)⟩)⟩)
set_option maxRecDepth 100000 in
theorem lr_wsX11_tightness_r2 : ∀ w ∈ wsX11_tightness_r2, lwIn w := (List.forall_mem_cons.mpr ⟨lm_710, (List.forall_mem_cons.mpr ⟨lm_709, (List.forall_mem_cons.mpr ⟨lm_1076, (List.forall_mem_cons.mpr ⟨lm_704, (List.forall_mem_cons.mpr ⟨lm_175, (List.forall_mem_cons.mpr ⟨lm_703, (List.forall_mem_cons.mpr ⟨lm_702, (List.forall_mem_cons.mpr ⟨lm_701, (List.forall_mem_cons.mpr ⟨lm_700, (List.forall_mem_cons.mpr ⟨lm_1075, (List.forall_mem_cons.mpr ⟨lm_216, (List.forall_mem_cons.mpr ⟨lm_1074, (List.forall_mem_cons.mpr ⟨lm_309, (List.forall_mem_cons.mpr ⟨lm_308, (List.forall_mem_cons.mpr ⟨lm_675, (List.forall_mem_cons.mpr ⟨lm_674, (List.forall_mem_cons.mpr ⟨lm_719, (List.forall_mem_cons.mpr ⟨lm_718, (List.forall_mem_cons.mpr ⟨lm_177, (List.forall_mem_cons.mpr ⟨lm_717, (List.forall_mem_cons.mpr ⟨lm_716, (List.forall_mem_cons.mpr ⟨lm_715, (List.forall_mem_cons.mpr ⟨lm_714, (List.forall_mem_cons.mpr ⟨lm_713, (fun _ h => absurd h List.not_mem_nil)⟩)⟩)⟩)⟩)⟩)⟩)⟩)⟩)⟩)⟩)⟩)⟩)⟩)⟩)⟩)⟩)⟩)⟩)⟩)⟩)⟩)⟩)⟩)⟩)
set_option maxRecDepth 100000 in
theorem lr_wsX11_tightness_r3 : ∀ w ∈ wsX11_tightness_r3, lwIn w := (List.forall_mem_cons.mpr ⟨lm_712, (List.forall_mem_cons.mpr ⟨lm_661, (List.forall_mem_cons.mpr ⟨lm_660, (List.forall_mem_cons.mpr ⟨lm_307, (List.forall_mem_cons.mpr ⟨lm_711, (List.forall_mem_cons.mpr ⟨lm_708, (List.forall_mem_cons.mpr ⟨lm_707, (List.forall_mem_cons.mpr ⟨lm_706, (List.forall_mem_cons.mpr ⟨lm_705, (List.forall_mem_cons.mpr ⟨lm_699, (List.forall_mem_cons.mpr ⟨lm_698, (List.forall_mem_cons.mpr ⟨lm_181, (List.forall_mem_cons.mpr ⟨lm_697, (List.forall_mem_cons.mpr ⟨lm_740, (List.forall_mem_cons.mpr ⟨lm_739, (List.forall_mem_cons.mpr ⟨lm_738, (List.forall_mem_cons.mpr ⟨lm_737, (List.forall_mem_cons.mpr ⟨lm_736, (List.forall_mem_cons.mpr ⟨lm_735, (List.forall_mem_cons.mpr ⟨lm_588, (List.forall_mem_cons.mpr ⟨lm_587, (List.forall_mem_cons.mpr ⟨lm_734, (List.forall_mem_cons.mpr ⟨lm_733, (List.forall_mem_cons.mpr ⟨lm_174, (fun _ h => absurd h List.not_mem_nil)⟩)⟩)⟩)⟩)⟩)⟩)⟩)⟩)⟩)⟩)⟩)⟩)⟩)⟩)⟩)⟩)⟩)⟩)⟩)⟩)⟩)⟩)⟩)⟩)
set_option maxRecDepth 100000 in
theorem lr_wsX11_tightness_r4 : ∀ w ∈ wsX11_tightness_r4, lwIn w := (List.forall_mem_cons.mpr ⟨lm_732, (List.forall_mem_cons.mpr ⟨lm_731, (List.forall_mem_cons.mpr ⟨lm_730, (List.forall_mem_cons.mpr ⟨lm_729, (List.forall_mem_cons.mpr ⟨lm_728, (List.forall_mem_cons.mpr ⟨lm_691, (List.forall_mem_cons.mpr ⟨lm_176, (List.forall_mem_cons.mpr ⟨lm_690, (List.forall_mem_cons.mpr ⟨lm_689, (List.forall_mem_cons.mpr ⟨lm_688, (List.forall_mem_cons.mpr ⟨lm_687, (List.forall_mem_cons.mpr ⟨lm_727, (List.forall_mem_cons.mpr ⟨lm_651, (List.forall_mem_cons.mpr ⟨lm_650, (List.forall_mem_cons.mpr ⟨lm_696, (List.forall_mem_cons.mpr ⟨lm_695, (List.forall_mem_cons.mpr ⟨lm_694, (List.forall_mem_cons.mpr ⟨lm_693, (List.forall_mem_cons.mpr ⟨lm_692, (List.forall_mem_cons.mpr ⟨lm_726, (List.forall_mem_cons.mpr ⟨lm_725, (List.forall_mem_cons.mpr ⟨lm_225, (List.forall_mem_cons.mpr ⟨lm_724, (List.forall_mem_cons.mpr ⟨lm_314, (fun _ h => absurd h List.not_mem_nil)⟩)⟩)⟩)⟩)⟩)⟩)⟩)⟩)⟩)⟩)⟩)⟩)⟩)⟩)⟩)⟩)⟩)⟩)⟩)⟩)⟩)⟩)⟩)⟩)
set_option maxRecDepth 100000 in
theorem lr_wsX11_tightness_r5 : ∀ w ∈ wsX11_tightness_r5, lwIn w := (List.forall_mem_cons.mpr ⟨lm_723, (List.forall_mem_cons.mpr ⟨lm_722, (List.forall_mem_cons.mpr ⟨lm_721, (List.forall_mem_cons.mpr ⟨lm_720, (List.forall_mem_cons.mpr ⟨lm_179, (List.forall_mem_cons.mpr ⟨lm_764, (List.forall_mem_cons.mpr ⟨lm_621, (List.forall_mem_cons.mpr ⟨lm_763, (List.forall_mem_cons.mpr ⟨lm_762, (List.forall_mem_cons.mpr ⟨lm_761, (List.forall_mem_cons.mpr ⟨lm_620, (List.forall_mem_cons.mpr ⟨lm_760, (List.forall_mem_cons.mpr ⟨lm_619, (List.forall_mem_cons.mpr ⟨lm_618, (List.forall_mem_cons.mpr ⟨lm_759, (List.forall_mem_cons.mpr ⟨lm_758, (List.forall_mem_cons.mpr ⟨lm_757, (List.forall_mem_cons.mpr ⟨lm_756, (List.forall_mem_cons.mpr ⟨lm_755, (List.forall_mem_cons.mpr ⟨lm_754, (List.forall_mem_cons.mpr ⟨lm_1080, (List.forall_mem_cons.mpr ⟨lm_749, (List.forall_mem_cons.mpr ⟨lm_663, (List.forall_mem_cons.mpr ⟨lm_662, (fun _ h => absurd h List.not_mem_nil)⟩)⟩)⟩)⟩)⟩)⟩)⟩)⟩)⟩)⟩)⟩)⟩)⟩)⟩)⟩)⟩)⟩)⟩)⟩)⟩)⟩)⟩)⟩)⟩)
set_option maxRecDepth 100000 in
theorem lr_wsX11_tightness_r6 : ∀ w ∈ wsX11_tightness_r6, lwIn w := (List.forall_mem_cons.mpr ⟨lm_659, (List.forall_mem_cons.mpr ⟨lm_658, (List.forall_mem_cons.mpr ⟨lm_657, (List.forall_mem_cons.mpr ⟨lm_748, (List.forall_mem_cons.mpr ⟨lm_745, (List.forall_mem_cons.mpr ⟨lm_744, (List.forall_mem_cons.mpr ⟨lm_743, (List.forall_mem_cons.mpr ⟨lm_742, (List.forall_mem_cons.mpr ⟨lm_741, (List.forall_mem_cons.mpr ⟨lm_788, (List.forall_mem_cons.mpr ⟨lm_787, (List.forall_mem_cons.mpr ⟨lm_786, (List.forall_mem_cons.mpr ⟨lm_586, (List.forall_mem_cons.mpr ⟨lm_785, (List.forall_mem_cons.mpr ⟨lm_594, (List.forall_mem_cons.mpr ⟨lm_593, (List.forall_mem_cons.mpr ⟨lm_592, (List.forall_mem_cons.mpr ⟨lm_591, (List.forall_mem_cons.mpr ⟨lm_238, (List.forall_mem_cons.mpr ⟨lm_590, (List.forall_mem_cons.mpr ⟨lm_784, (List.forall_mem_cons.mpr ⟨lm_783, (List.forall_mem_cons.mpr ⟨lm_782, (List.forall_mem_cons.mpr ⟨lm_781, (fun _ h => absurd h List.not_mem_nil)⟩)⟩)⟩)⟩)⟩)⟩)⟩)⟩)⟩)⟩)⟩)⟩)⟩)⟩)⟩)⟩)⟩)⟩)⟩)⟩)⟩)⟩)⟩)⟩)
set_option maxRecDepth 100000 in
theorem lr_wsX11_tightness_r7 : ∀ w ∈ wsX11_tightness_r7, lwIn w := (List.forall_mem_cons.mpr ⟨lm_780, (List.forall_mem_cons.mpr ⟨lm_779, (List.forall_mem_cons.mpr ⟨lm_747, (List.forall_mem_cons.mpr ⟨lm_681, (List.forall_mem_cons.mpr ⟨lm_680, (List.forall_mem_cons.mpr ⟨lm_679, (List.forall_mem_cons.mpr ⟨lm_683, (List.forall_mem_cons.mpr ⟨lm_565, (List.forall_mem_cons.mpr ⟨lm_564, (List.forall_mem_cons.mpr ⟨lm_1082, (List.forall_mem_cons.mpr ⟨lm_1081, (fun _ h => absurd h List.not_mem_nil)⟩)⟩)⟩)⟩)⟩)⟩)⟩)⟩)⟩)⟩)⟩)
set_option maxRecDepth 100000 in
theorem lr_wsX11_tightness : ∀ w ∈ wsX11_tightness, lwIn w := List.forall_mem_cons.mpr ⟨lm_1111, (List.forall_mem_append.mpr ⟨(List.forall_mem_append.mpr ⟨(List.forall_mem_append.mpr ⟨(List.forall_mem_append.mpr ⟨(List.forall_mem_append.mpr ⟨(List.forall_mem_append.mpr ⟨(List.forall_mem_append.mpr ⟨(List.forall_mem_append.mpr ⟨(List.forall_mem_append.mpr ⟨(List.forall_mem_append.mpr ⟨lr_wsX11_tightness_r1, (List.forall_mem_append.mpr ⟨lr_wsX11_tightness_r2, (List.forall_mem_append.mpr ⟨lr_wsX11_tightness_r3, (List.forall_mem_append.mpr ⟨lr_wsX11_tightness_r4, (List.forall_mem_append.mpr ⟨lr_wsX11_tightness_r5, (List.forall_mem_append.mpr ⟨lr_wsX11_tightness_r6, lr_wsX11_tightness_r7⟩)⟩)⟩)⟩)⟩)⟩), la_0⟩), la_3⟩), la_8⟩), la_9⟩), la_4⟩), la_10⟩), la_6⟩), la_12⟩), la_11⟩)⟩
set_option maxRecDepth 100000 in
theorem lr_wsW_tightness : ∀ w ∈ wsW_tightness, lwIn w := List.forall_mem_cons.mpr ⟨lm_1108, (List.forall_mem_append.mpr ⟨(List.forall_mem_cons.mpr ⟨lm_198, (List.forall_mem_cons.mpr ⟨lm_209, (List.forall_mem_cons.mpr ⟨lm_82, (List.forall_mem_cons.mpr ⟨lm_1110, (List.forall_mem_cons.mpr ⟨lm_1109, (List.forall_mem_cons.mpr ⟨lm_238, (fun _ h => absurd h List.not_mem_nil)⟩)⟩)⟩)⟩)⟩)⟩), lr_wsX11_tightness⟩)⟩
set_option maxRecDepth 100000 in
theorem lr_wsX12_tightness_r1 : ∀ w ∈ wsX12_tightness_r1, lwIn w := (List.forall_mem_cons.mpr ⟨lm_432, (List.forall_mem_cons.mpr ⟨lm_339, (List.forall_mem_cons.mpr ⟨lm_950, (List.forall_mem_cons.mpr ⟨lm_949, (List.forall_mem_cons.mpr ⟨lm_948, (List.forall_mem_cons.mpr ⟨lm_235, (List.forall_mem_cons.mpr ⟨lm_947, (List.forall_mem_cons.mpr ⟨lm_341, (List.forall_mem_cons.mpr ⟨lm_402, (List.forall_mem_cons.mpr ⟨lm_401, (List.forall_mem_cons.mpr ⟨lm_400, (List.forall_mem_cons.mpr ⟨lm_430, (List.forall_mem_cons.mpr ⟨lm_429, (List.forall_mem_cons.mpr ⟨lm_428, (List.forall_mem_cons.mpr ⟨lm_427, (List.forall_mem_cons.mpr ⟨lm_344, (List.forall_mem_cons.mpr ⟨lm_343, (List.forall_mem_cons.mpr ⟨lm_389, (List.forall_mem_cons.mpr ⟨lm_388, (List.forall_mem_cons.mpr ⟨lm_405, (List.forall_mem_cons.mpr ⟨lm_404, (List.forall_mem_cons.mpr ⟨lm_403, (List.forall_mem_cons.mpr ⟨lm_1088, (List.forall_mem_cons.mpr ⟨lm_1087, (fun _ h => absurd h List.not_mem_nil)⟩)⟩)⟩)⟩)⟩)⟩)⟩)⟩)⟩)⟩)⟩)⟩)⟩)⟩)⟩)⟩)⟩)⟩)⟩)⟩)⟩)⟩)⟩)⟩)
set_option maxRecDepth 100000 in
theorem lr_wsX12_tightness_r2 : ∀ w ∈ wsX12_tightness_r2, lwIn w := (List.forall_mem_cons.mpr ⟨lm_1086, (List.forall_mem_cons.mpr ⟨lm_1085, (List.forall_mem_cons.mpr ⟨lm_327, (List.forall_mem_cons.mpr ⟨lm_1084, (List.forall_mem_cons.mpr ⟨lm_1107, (List.forall_mem_cons.mpr ⟨lm_1106, (List.forall_mem_cons.mpr ⟨lm_1105, (List.forall_mem_cons.mpr ⟨lm_380, (List.forall_mem_cons.mpr ⟨lm_379, (List.forall_mem_cons.mpr ⟨lm_378, (List.forall_mem_cons.mpr ⟨lm_1104, (List.forall_mem_cons.mpr ⟨lm_1103, (List.forall_mem_cons.mpr ⟨lm_1102, (List.forall_mem_cons.mpr ⟨lm_1101, (List.forall_mem_cons.mpr ⟨lm_1100, (List.forall_mem_cons.mpr ⟨lm_1099, (List.forall_mem_cons.mpr ⟨lm_1098, (List.forall_mem_cons.mpr ⟨lm_1097, (List.forall_mem_cons.mpr ⟨lm_1096, (List.forall_mem_cons.mpr ⟨lm_1095, (List.forall_mem_cons.mpr ⟨lm_1094, (List.forall_mem_cons.mpr ⟨lm_1093, (List.forall_mem_cons.mpr ⟨lm_1092, (List.forall_mem_cons.mpr ⟨lm_1091, (fun _ h => absurd h List.not_mem_nil)⟩)⟩)⟩)⟩)⟩)⟩)⟩)⟩)⟩)⟩)⟩)⟩)⟩)⟩)⟩)⟩)⟩)⟩)⟩)⟩)⟩)⟩)⟩)⟩)
set_option maxRecDepth 100000 in
theorem lr_wsX12_tightness_r3 : ∀ w ∈ wsX12_tightness_r3, lwIn w := (List.forall_mem_cons.mpr ⟨lm_1090, (List.forall_mem_cons.mpr ⟨lm_1089, (fun _ h => absurd h List.not_mem_nil)⟩)⟩)
set_option maxRecDepth 100000 in
theorem lr_wsX12_tightness : ∀ w ∈ wsX12_tightness, lwIn w := List.forall_mem_cons.mpr ⟨lm_1113, (List.forall_mem_append.mpr ⟨(List.forall_mem_append.mpr ⟨lr_wsX12_tightness_r1, (List.forall_mem_append.mpr ⟨lr_wsX12_tightness_r2, lr_wsX12_tightness_r3⟩)⟩), la_1⟩)⟩
set_option maxRecDepth 100000 in
theorem lr_wsX11_solutions_r1 : ∀ w ∈ wsX11_solutions_r1, lwIn w := (List.forall_mem_cons.mpr ⟨lm_244, (List.forall_mem_cons.mpr ⟨lm_276, (List.forall_mem_cons.mpr ⟨lm_249, (List.forall_mem_cons.mpr ⟨lm_665, (List.forall_mem_cons.mpr ⟨lm_1128, (List.forall_mem_cons.mpr ⟨lm_1127, (List.forall_mem_cons.mpr ⟨lm_1126, (List.forall_mem_cons.mpr ⟨lm_1125, (List.forall_mem_cons.mpr ⟨lm_223, (List.forall_mem_cons.mpr ⟨lm_1124, (List.forall_mem_cons.mpr ⟨lm_302, (List.forall_mem_cons.mpr ⟨lm_322, (List.forall_mem_cons.mpr ⟨lm_301, (List.forall_mem_cons.mpr ⟨lm_300, (List.forall_mem_cons.mpr ⟨lm_299, (List.forall_mem_cons.mpr ⟨lm_1123, (List.forall_mem_cons.mpr ⟨lm_1122, (List.forall_mem_cons.mpr ⟨lm_1121, (List.forall_mem_cons.mpr ⟨lm_1120, (List.forall_mem_cons.mpr ⟨lm_1119, (List.forall_mem_cons.mpr ⟨lm_1118, (List.forall_mem_cons.mpr ⟨lm_1117, (List.forall_mem_cons.mpr ⟨lm_1116, (List.forall_mem_cons.mpr ⟨lm_1115, (fun _ h => absurd h List.not_mem_nil)⟩)⟩)⟩)⟩)⟩)⟩)⟩)⟩)⟩)⟩)⟩)⟩)⟩)⟩)⟩)⟩)⟩)⟩)⟩)⟩)⟩)⟩)⟩)⟩)
set_option maxRecDepth 100000 in
theorem lr_wsX11_solutions_r2 : ∀ w ∈ wsX11_solutions_r2, lwIn w := (List.forall_mem_cons.mpr ⟨lm_221, (List.forall_mem_cons.mpr ⟨lm_1133, (List.forall_mem_cons.mpr ⟨lm_296, (List.forall_mem_cons.mpr ⟨lm_1132, (List.forall_mem_cons.mpr ⟨lm_1131, (List.forall_mem_cons.mpr ⟨lm_1130, (List.forall_mem_cons.mpr ⟨lm_672, (List.forall_mem_cons.mpr ⟨lm_671, (List.forall_mem_cons.mpr ⟨lm_670, (List.forall_mem_cons.mpr ⟨lm_298, (List.forall_mem_cons.mpr ⟨lm_1129, (List.forall_mem_cons.mpr ⟨lm_674, (List.forall_mem_cons.mpr ⟨lm_719, (List.forall_mem_cons.mpr ⟨lm_718, (List.forall_mem_cons.mpr ⟨lm_177, (List.forall_mem_cons.mpr ⟨lm_717, (List.forall_mem_cons.mpr ⟨lm_716, (List.forall_mem_cons.mpr ⟨lm_715, (List.forall_mem_cons.mpr ⟨lm_714, (List.forall_mem_cons.mpr ⟨lm_713, (List.forall_mem_cons.mpr ⟨lm_712, (List.forall_mem_cons.mpr ⟨lm_661, (List.forall_mem_cons.mpr ⟨lm_216, (List.forall_mem_cons.mpr ⟨lm_660, (fun _ h => absurd h List.not_mem_nil)⟩)⟩)⟩)⟩)⟩)⟩)⟩)⟩)⟩)⟩)⟩)⟩)⟩)⟩)⟩)⟩)⟩)⟩)⟩)⟩)⟩)⟩)⟩)⟩)
set_option maxRecDepth 100000 in
theorem lr_wsX11_solutions_r3 : ∀ w ∈ wsX11_solutions_r3, lwIn w := (List.forall_mem_cons.mpr ⟨lm_307, (List.forall_mem_cons.mpr ⟨lm_711, (List.forall_mem_cons.mpr ⟨lm_710, (List.forall_mem_cons.mpr ⟨lm_183, (List.forall_mem_cons.mpr ⟨lm_709, (List.forall_mem_cons.mpr ⟨lm_708, (List.forall_mem_cons.mpr ⟨lm_707, (List.forall_mem_cons.mpr ⟨lm_706, (List.forall_mem_cons.mpr ⟨lm_705, (List.forall_mem_cons.mpr ⟨lm_704, (List.forall_mem_cons.mpr ⟨lm_175, (List.forall_mem_cons.mpr ⟨lm_703, (List.forall_mem_cons.mpr ⟨lm_702, (List.forall_mem_cons.mpr ⟨lm_701, (List.forall_mem_cons.mpr ⟨lm_700, (List.forall_mem_cons.mpr ⟨lm_699, (List.forall_mem_cons.mpr ⟨lm_698, (List.forall_mem_cons.mpr ⟨lm_181, (List.forall_mem_cons.mpr ⟨lm_697, (List.forall_mem_cons.mpr ⟨lm_740, (List.forall_mem_cons.mpr ⟨lm_739, (List.forall_mem_cons.mpr ⟨lm_738, (List.forall_mem_cons.mpr ⟨lm_737, (List.forall_mem_cons.mpr ⟨lm_736, (fun _ h => absurd h List.not_mem_nil)⟩)⟩)⟩)⟩)⟩)⟩)⟩)⟩)⟩)⟩)⟩)⟩)⟩)⟩)⟩)⟩)⟩)⟩)⟩)⟩)⟩)⟩)⟩)⟩)
set_option maxRecDepth 100000 in
theorem lr_wsX11_solutions_r4 : ∀ w ∈ wsX11_solutions_r4, lwIn w := (List.forall_mem_cons.mpr ⟨lm_735, (List.forall_mem_cons.mpr ⟨lm_588, (List.forall_mem_cons.mpr ⟨lm_587, (List.forall_mem_cons.mpr ⟨lm_734, (List.forall_mem_cons.mpr ⟨lm_733, (List.forall_mem_cons.mpr ⟨lm_174, (List.forall_mem_cons.mpr ⟨lm_732, (List.forall_mem_cons.mpr ⟨lm_731, (List.forall_mem_cons.mpr ⟨lm_730, (List.forall_mem_cons.mpr ⟨lm_729, (List.forall_mem_cons.mpr ⟨lm_728, (List.forall_mem_cons.mpr ⟨lm_691, (List.forall_mem_cons.mpr ⟨lm_176, (List.forall_mem_cons.mpr ⟨lm_690, (List.forall_mem_cons.mpr ⟨lm_689, (List.forall_mem_cons.mpr ⟨lm_688, (List.forall_mem_cons.mpr ⟨lm_687, (List.forall_mem_cons.mpr ⟨lm_727, (List.forall_mem_cons.mpr ⟨lm_651, (List.forall_mem_cons.mpr ⟨lm_650, (List.forall_mem_cons.mpr ⟨lm_696, (List.forall_mem_cons.mpr ⟨lm_695, (List.forall_mem_cons.mpr ⟨lm_694, (List.forall_mem_cons.mpr ⟨lm_693, (fun _ h => absurd h List.not_mem_nil)⟩)⟩)⟩)⟩)⟩)⟩)⟩)⟩)⟩)⟩)⟩)⟩)⟩)⟩)⟩)⟩)⟩)⟩)⟩)⟩)⟩)⟩)⟩)⟩)
set_option maxRecDepth 100000 in
theorem lr_wsX11_solutions_r5 : ∀ w ∈ wsX11_solutions_r5, lwIn w := (List.forall_mem_cons.mpr ⟨lm_692, (List.forall_mem_cons.mpr ⟨lm_726, (List.forall_mem_cons.mpr ⟨lm_725, (List.forall_mem_cons.mpr ⟨lm_225, (List.forall_mem_cons.mpr ⟨lm_724, (List.forall_mem_cons.mpr ⟨lm_314, (List.forall_mem_cons.mpr ⟨lm_723, (List.forall_mem_cons.mpr ⟨lm_722, (List.forall_mem_cons.mpr ⟨lm_721, (List.forall_mem_cons.mpr ⟨lm_720, (List.forall_mem_cons.mpr ⟨lm_179, (List.forall_mem_cons.mpr ⟨lm_764, (List.forall_mem_cons.mpr ⟨lm_621, (List.forall_mem_cons.mpr ⟨lm_763, (List.forall_mem_cons.mpr ⟨lm_762, (List.forall_mem_cons.mpr ⟨lm_761, (List.forall_mem_cons.mpr ⟨lm_620, (List.forall_mem_cons.mpr ⟨lm_760, (List.forall_mem_cons.mpr ⟨lm_619, (List.forall_mem_cons.mpr ⟨lm_618, (List.forall_mem_cons.mpr ⟨lm_759, (List.forall_mem_cons.mpr ⟨lm_758, (List.forall_mem_cons.mpr ⟨lm_757, (List.forall_mem_cons.mpr ⟨lm_756, (fun _ h => absurd h List.not_mem_nil)⟩)⟩)⟩)⟩)⟩)⟩)⟩)⟩)⟩)⟩)⟩)⟩)⟩)⟩)⟩)⟩)⟩)⟩)⟩)⟩)⟩)⟩)⟩)⟩)
set_option maxRecDepth 100000 in
theorem lr_wsX11_solutions_r6 : ∀ w ∈ wsX11_solutions_r6, lwIn w := (List.forall_mem_cons.mpr ⟨lm_755, (List.forall_mem_cons.mpr ⟨lm_574, (List.forall_mem_cons.mpr ⟨lm_573, (List.forall_mem_cons.mpr ⟨lm_611, (List.forall_mem_cons.mpr ⟨lm_754, (List.forall_mem_cons.mpr ⟨lm_1141, (List.forall_mem_cons.mpr ⟨lm_1140, (List.forall_mem_cons.mpr ⟨lm_1079, (List.forall_mem_cons.mpr ⟨lm_1078, (List.forall_mem_cons.mpr ⟨lm_678, (List.forall_mem_cons.mpr ⟨lm_1077, (List.forall_mem_cons.mpr ⟨lm_1076, (List.forall_mem_cons.mpr ⟨lm_1139, (List.forall_mem_cons.mpr ⟨lm_1138, (List.forall_mem_cons.mpr ⟨lm_1137, (List.forall_mem_cons.mpr ⟨lm_1136, (List.forall_mem_cons.mpr ⟨lm_1135, (List.forall_mem_cons.mpr ⟨lm_752, (List.forall_mem_cons.mpr ⟨lm_751, (List.forall_mem_cons.mpr ⟨lm_1134, (List.forall_mem_cons.mpr ⟨lm_685, (List.forall_mem_cons.mpr ⟨lm_684, (List.forall_mem_cons.mpr ⟨lm_591, (List.forall_mem_cons.mpr ⟨lm_238, (fun _ h => absurd h List.not_mem_nil)⟩)⟩)⟩)⟩)⟩)⟩)⟩)⟩)⟩)⟩)⟩)⟩)⟩)⟩)⟩)⟩)⟩)⟩)⟩)⟩)⟩)⟩)⟩)⟩)
set_option maxRecDepth 100000 in
theorem lr_wsX11_solutions_r7 : ∀ w ∈ wsX11_solutions_r7, lwIn w := (List.forall_mem_cons.mpr ⟨lm_590, (List.forall_mem_cons.mpr ⟨lm_683, (List.forall_mem_cons.mpr ⟨lm_565, (List.forall_mem_cons.mpr ⟨lm_564, (List.forall_mem_cons.mpr ⟨lm_1142, (List.forall_mem_cons.mpr ⟨lm_681, (List.forall_mem_cons.mpr ⟨lm_680, (List.forall_mem_cons.mpr ⟨lm_679, (fun _ h => absurd h List.not_mem_nil)⟩)⟩)⟩)⟩)⟩)⟩)⟩)⟩)
set_option maxRecDepth 100000 in
theorem lr_wsX11_solutions : ∀ w ∈ wsX11_solutions, lwIn w := List.forall_mem_cons.mpr ⟨lm_1114, (List.forall_mem_append.mpr ⟨(List.forall_mem_append.mpr ⟨(List.forall_mem_append.mpr ⟨(List.forall_mem_append.mpr ⟨(List.forall_mem_append.mpr ⟨(List.forall_mem_append.mpr ⟨(List.forall_mem_append.mpr ⟨(List.forall_mem_append.mpr ⟨(List.forall_mem_append.mpr ⟨lr_wsX11_solutions_r1, (List.forall_mem_append.mpr ⟨lr_wsX11_solutions_r2, (List.forall_mem_append.mpr ⟨lr_wsX11_solutions_r3, (List.forall_mem_append.mpr ⟨lr_wsX11_solutions_r4, (List.forall_mem_append.mpr ⟨lr_wsX11_solutions_r5, (List.forall_mem_append.mpr ⟨lr_wsX11_solutions_r6, lr_wsX11_solutions_r7⟩)⟩)⟩)⟩)⟩)⟩), la_0⟩), la_3⟩), la_5⟩), la_6⟩), la_8⟩), la_9⟩), la_4⟩), la_10⟩)⟩
set_option maxRecDepth 100000 in
theorem lr_wsX12_solutions_r1 : ∀ w ∈ wsX12_solutions_r1, lwIn w := (List.forall_mem_cons.mpr ⟨lm_432, (List.forall_mem_cons.mpr ⟨lm_1151, (List.forall_mem_cons.mpr ⟨lm_1150, (List.forall_mem_cons.mpr ⟨lm_1149, (List.forall_mem_cons.mpr ⟨lm_235, (List.forall_mem_cons.mpr ⟨lm_1148, (List.forall_mem_cons.mpr ⟨lm_327, (List.forall_mem_cons.mpr ⟨lm_325, (List.forall_mem_cons.mpr ⟨lm_341, (List.forall_mem_cons.mpr ⟨lm_1084, (List.forall_mem_cons.mpr ⟨lm_1107, (List.forall_mem_cons.mpr ⟨lm_1106, (List.forall_mem_cons.mpr ⟨lm_1105, (List.forall_mem_cons.mpr ⟨lm_339, (List.forall_mem_cons.mpr ⟨lm_380, (List.forall_mem_cons.mpr ⟨lm_379, (List.forall_mem_cons.mpr ⟨lm_378, (List.forall_mem_cons.mpr ⟨lm_1147, (List.forall_mem_cons.mpr ⟨lm_1146, (List.forall_mem_cons.mpr ⟨lm_1145, (List.forall_mem_cons.mpr ⟨lm_1144, (List.forall_mem_cons.mpr ⟨lm_946, (List.forall_mem_cons.mpr ⟨lm_945, (List.forall_mem_cons.mpr ⟨lm_944, (fun _ h => absurd h List.not_mem_nil)⟩)⟩)⟩)⟩)⟩)⟩)⟩)⟩)⟩)⟩)⟩)⟩)⟩)⟩)⟩)⟩)⟩)⟩)⟩)⟩)⟩)⟩)⟩)⟩)
set_option maxRecDepth 100000 in
theorem lr_wsX12_solutions_r2 : ∀ w ∈ wsX12_solutions_r2, lwIn w := (List.forall_mem_cons.mpr ⟨lm_943, (List.forall_mem_cons.mpr ⟨lm_344, (List.forall_mem_cons.mpr ⟨lm_343, (List.forall_mem_cons.mpr ⟨lm_389, (List.forall_mem_cons.mpr ⟨lm_388, (List.forall_mem_cons.mpr ⟨lm_1104, (List.forall_mem_cons.mpr ⟨lm_1103, (List.forall_mem_cons.mpr ⟨lm_1102, (List.forall_mem_cons.mpr ⟨lm_1101, (List.forall_mem_cons.mpr ⟨lm_1100, (List.forall_mem_cons.mpr ⟨lm_1099, (List.forall_mem_cons.mpr ⟨lm_1098, (List.forall_mem_cons.mpr ⟨lm_1097, (List.forall_mem_cons.mpr ⟨lm_1096, (List.forall_mem_cons.mpr ⟨lm_1095, (List.forall_mem_cons.mpr ⟨lm_1094, (List.forall_mem_cons.mpr ⟨lm_1093, (List.forall_mem_cons.mpr ⟨lm_402, (List.forall_mem_cons.mpr ⟨lm_401, (List.forall_mem_cons.mpr ⟨lm_400, (List.forall_mem_cons.mpr ⟨lm_1092, (List.forall_mem_cons.mpr ⟨lm_1091, (List.forall_mem_cons.mpr ⟨lm_1090, (List.forall_mem_cons.mpr ⟨lm_1089, (fun _ h => absurd h List.not_mem_nil)⟩)⟩)⟩)⟩)⟩)⟩)⟩)⟩)⟩)⟩)⟩)⟩)⟩)⟩)⟩)⟩)⟩)⟩)⟩)⟩)⟩)⟩)⟩)⟩)
set_option maxRecDepth 100000 in
theorem lr_wsX12_solutions_r3 : ∀ w ∈ wsX12_solutions_r3, lwIn w := (List.forall_mem_cons.mpr ⟨lm_1155, (List.forall_mem_cons.mpr ⟨lm_1154, (List.forall_mem_cons.mpr ⟨lm_1153, (List.forall_mem_cons.mpr ⟨lm_1152, (List.forall_mem_cons.mpr ⟨lm_326, (fun _ h => absurd h List.not_mem_nil)⟩)⟩)⟩)⟩)⟩)
set_option maxRecDepth 100000 in
theorem lr_wsX12_solutions : ∀ w ∈ wsX12_solutions, lwIn w := List.forall_mem_cons.mpr ⟨lm_1143, (List.forall_mem_append.mpr ⟨(List.forall_mem_append.mpr ⟨lr_wsX12_solutions_r1, (List.forall_mem_append.mpr ⟨lr_wsX12_solutions_r2, lr_wsX12_solutions_r3⟩)⟩), la_1⟩)⟩
set_option maxRecDepth 100000 in
theorem lr_wsX11_first_r1 : ∀ w ∈ wsX11_first_r1, lwIn w := (List.forall_mem_cons.mpr ⟨lm_438, (List.forall_mem_cons.mpr ⟨lm_196, (List.forall_mem_cons.mpr ⟨lm_973, (List.forall_mem_cons.mpr ⟨lm_130, (List.forall_mem_cons.mpr ⟨lm_244, (List.forall_mem_cons.mpr ⟨lm_276, (List.forall_mem_cons.mpr ⟨lm_249, (List.forall_mem_cons.mpr ⟨lm_665, (List.forall_mem_cons.mpr ⟨lm_1128, (List.forall_mem_cons.mpr ⟨lm_1160, (List.forall_mem_cons.mpr ⟨lm_919, (List.forall_mem_cons.mpr ⟨lm_918, (List.forall_mem_cons.mpr ⟨lm_917, (List.forall_mem_cons.mpr ⟨lm_238, (List.forall_mem_cons.mpr ⟨lm_916, (List.forall_mem_cons.mpr ⟨lm_451, (List.forall_mem_cons.mpr ⟨lm_1127, (List.forall_mem_cons.mpr ⟨lm_1126, (List.forall_mem_cons.mpr ⟨lm_1125, (List.forall_mem_cons.mpr ⟨lm_223, (List.forall_mem_cons.mpr ⟨lm_1124, (List.forall_mem_cons.mpr ⟨lm_302, (List.forall_mem_cons.mpr ⟨lm_322, (List.forall_mem_cons.mpr ⟨lm_301, (fun _ h => absurd h List.not_mem_nil)⟩)⟩)⟩)⟩)⟩)⟩)⟩)⟩)⟩)⟩)⟩)⟩)⟩)⟩)⟩)⟩)⟩)⟩)⟩)⟩)⟩)⟩)⟩)⟩)
set_option maxRecDepth 100000 in
theorem lr_wsX11_first_r2 : ∀ w ∈ wsX11_first_r2, lwIn w := (List.forall_mem_cons.mpr ⟨lm_300, (List.forall_mem_cons.mpr ⟨lm_299, (List.forall_mem_cons.mpr ⟨lm_1123, (List.forall_mem_cons.mpr ⟨lm_1122, (List.forall_mem_cons.mpr ⟨lm_1121, (List.forall_mem_cons.mpr ⟨lm_1120, (List.forall_mem_cons.mpr ⟨lm_1119, (List.forall_mem_cons.mpr ⟨lm_1118, (List.forall_mem_cons.mpr ⟨lm_1117, (List.forall_mem_cons.mpr ⟨lm_1116, (List.forall_mem_cons.mpr ⟨lm_1115, (List.forall_mem_cons.mpr ⟨lm_221, (List.forall_mem_cons.mpr ⟨lm_1133, (List.forall_mem_cons.mpr ⟨lm_296, (List.forall_mem_cons.mpr ⟨lm_1132, (List.forall_mem_cons.mpr ⟨lm_1131, (List.forall_mem_cons.mpr ⟨lm_1130, (List.forall_mem_cons.mpr ⟨lm_672, (List.forall_mem_cons.mpr ⟨lm_671, (List.forall_mem_cons.mpr ⟨lm_670, (List.forall_mem_cons.mpr ⟨lm_298, (List.forall_mem_cons.mpr ⟨lm_1129, (List.forall_mem_cons.mpr ⟨lm_674, (List.forall_mem_cons.mpr ⟨lm_719, (fun _ h => absurd h List.not_mem_nil)⟩)⟩)⟩)⟩)⟩)⟩)⟩)⟩)⟩)⟩)⟩)⟩)⟩)⟩)⟩)⟩)⟩)⟩)⟩)⟩)⟩)⟩)⟩)⟩)
set_option maxRecDepth 100000 in
theorem lr_wsX11_first_r3 : ∀ w ∈ wsX11_first_r3, lwIn w := (List.forall_mem_cons.mpr ⟨lm_718, (List.forall_mem_cons.mpr ⟨lm_177, (List.forall_mem_cons.mpr ⟨lm_717, (List.forall_mem_cons.mpr ⟨lm_716, (List.forall_mem_cons.mpr ⟨lm_715, (List.forall_mem_cons.mpr ⟨lm_714, (List.forall_mem_cons.mpr ⟨lm_713, (List.forall_mem_cons.mpr ⟨lm_712, (List.forall_mem_cons.mpr ⟨lm_661, (List.forall_mem_cons.mpr ⟨lm_216, (List.forall_mem_cons.mpr ⟨lm_660, (List.forall_mem_cons.mpr ⟨lm_307, (List.forall_mem_cons.mpr ⟨lm_711, (List.forall_mem_cons.mpr ⟨lm_710, (List.forall_mem_cons.mpr ⟨lm_183, (List.forall_mem_cons.mpr ⟨lm_709, (List.forall_mem_cons.mpr ⟨lm_708, (List.forall_mem_cons.mpr ⟨lm_707, (List.forall_mem_cons.mpr ⟨lm_706, (List.forall_mem_cons.mpr ⟨lm_705, (List.forall_mem_cons.mpr ⟨lm_704, (List.forall_mem_cons.mpr ⟨lm_175, (List.forall_mem_cons.mpr ⟨lm_703, (List.forall_mem_cons.mpr ⟨lm_702, (fun _ h => absurd h List.not_mem_nil)⟩)⟩)⟩)⟩)⟩)⟩)⟩)⟩)⟩)⟩)⟩)⟩)⟩)⟩)⟩)⟩)⟩)⟩)⟩)⟩)⟩)⟩)⟩)⟩)
set_option maxRecDepth 100000 in
theorem lr_wsX11_first_r4 : ∀ w ∈ wsX11_first_r4, lwIn w := (List.forall_mem_cons.mpr ⟨lm_701, (List.forall_mem_cons.mpr ⟨lm_700, (List.forall_mem_cons.mpr ⟨lm_699, (List.forall_mem_cons.mpr ⟨lm_698, (List.forall_mem_cons.mpr ⟨lm_181, (List.forall_mem_cons.mpr ⟨lm_697, (List.forall_mem_cons.mpr ⟨lm_740, (List.forall_mem_cons.mpr ⟨lm_739, (List.forall_mem_cons.mpr ⟨lm_738, (List.forall_mem_cons.mpr ⟨lm_737, (List.forall_mem_cons.mpr ⟨lm_736, (List.forall_mem_cons.mpr ⟨lm_735, (List.forall_mem_cons.mpr ⟨lm_588, (List.forall_mem_cons.mpr ⟨lm_587, (List.forall_mem_cons.mpr ⟨lm_734, (List.forall_mem_cons.mpr ⟨lm_733, (List.forall_mem_cons.mpr ⟨lm_174, (List.forall_mem_cons.mpr ⟨lm_732, (List.forall_mem_cons.mpr ⟨lm_731, (List.forall_mem_cons.mpr ⟨lm_730, (List.forall_mem_cons.mpr ⟨lm_729, (List.forall_mem_cons.mpr ⟨lm_728, (List.forall_mem_cons.mpr ⟨lm_691, (List.forall_mem_cons.mpr ⟨lm_176, (fun _ h => absurd h List.not_mem_nil)⟩)⟩)⟩)⟩)⟩)⟩)⟩)⟩)⟩)⟩)⟩)⟩)⟩)⟩)⟩)⟩)⟩)⟩)⟩)⟩)⟩)⟩)⟩)⟩)
set_option maxRecDepth 100000 in
theorem lr_wsX11_first_r5 : ∀ w ∈ wsX11_first_r5, lwIn w := (List.forall_mem_cons.mpr ⟨lm_690, (List.forall_mem_cons.mpr ⟨lm_689, (List.forall_mem_cons.mpr ⟨lm_688, (List.forall_mem_cons.mpr ⟨lm_687, (List.forall_mem_cons.mpr ⟨lm_727, (List.forall_mem_cons.mpr ⟨lm_651, (List.forall_mem_cons.mpr ⟨lm_650, (List.forall_mem_cons.mpr ⟨lm_696, (List.forall_mem_cons.mpr ⟨lm_695, (List.forall_mem_cons.mpr ⟨lm_694, (List.forall_mem_cons.mpr ⟨lm_693, (List.forall_mem_cons.mpr ⟨lm_692, (List.forall_mem_cons.mpr ⟨lm_726, (List.forall_mem_cons.mpr ⟨lm_725, (List.forall_mem_cons.mpr ⟨lm_225, (List.forall_mem_cons.mpr ⟨lm_724, (List.forall_mem_cons.mpr ⟨lm_314, (List.forall_mem_cons.mpr ⟨lm_723, (List.forall_mem_cons.mpr ⟨lm_722, (List.forall_mem_cons.mpr ⟨lm_721, (List.forall_mem_cons.mpr ⟨lm_720, (List.forall_mem_cons.mpr ⟨lm_179, (List.forall_mem_cons.mpr ⟨lm_764, (List.forall_mem_cons.mpr ⟨lm_621, (fun _ h => absurd h List.not_mem_nil)⟩)⟩)⟩)⟩)⟩)⟩)⟩)⟩)⟩)⟩)⟩)⟩)⟩)⟩)⟩)⟩)⟩)⟩)⟩)⟩)⟩)⟩)⟩)⟩)
set_option maxRecDepth 100000 in
theorem lr_wsX11_first_r6 : ∀ w ∈ wsX11_first_r6, lwIn w := (List.forall_mem_cons.mpr ⟨lm_763, (List.forall_mem_cons.mpr ⟨lm_762, (List.forall_mem_cons.mpr ⟨lm_761, (List.forall_mem_cons.mpr ⟨lm_620, (List.forall_mem_cons.mpr ⟨lm_760, (List.forall_mem_cons.mpr ⟨lm_619, (List.forall_mem_cons.mpr ⟨lm_618, (List.forall_mem_cons.mpr ⟨lm_759, (List.forall_mem_cons.mpr ⟨lm_758, (List.forall_mem_cons.mpr ⟨lm_757, (List.forall_mem_cons.mpr ⟨lm_756, (List.forall_mem_cons.mpr ⟨lm_755, (List.forall_mem_cons.mpr ⟨lm_574, (List.forall_mem_cons.mpr ⟨lm_573, (List.forall_mem_cons.mpr ⟨lm_611, (List.forall_mem_cons.mpr ⟨lm_754, (List.forall_mem_cons.mpr ⟨lm_1141, (List.forall_mem_cons.mpr ⟨lm_1140, (List.forall_mem_cons.mpr ⟨lm_1079, (List.forall_mem_cons.mpr ⟨lm_1078, (List.forall_mem_cons.mpr ⟨lm_678, (List.forall_mem_cons.mpr ⟨lm_1077, (List.forall_mem_cons.mpr ⟨lm_1076, (List.forall_mem_cons.mpr ⟨lm_1139, (fun _ h => absurd h List.not_mem_nil)⟩)⟩)⟩)⟩)⟩)⟩)⟩)⟩)⟩)⟩)⟩)⟩)⟩)⟩)⟩)⟩)⟩)⟩)⟩)⟩)⟩)⟩)⟩)⟩)
set_option maxRecDepth 100000 in
theorem lr_wsX11_first_r7 : ∀ w ∈ wsX11_first_r7, lwIn w := (List.forall_mem_cons.mpr ⟨lm_1138, (List.forall_mem_cons.mpr ⟨lm_1137, (List.forall_mem_cons.mpr ⟨lm_1136, (List.forall_mem_cons.mpr ⟨lm_1135, (List.forall_mem_cons.mpr ⟨lm_752, (List.forall_mem_cons.mpr ⟨lm_751, (List.forall_mem_cons.mpr ⟨lm_1134, (List.forall_mem_cons.mpr ⟨lm_685, (List.forall_mem_cons.mpr ⟨lm_684, (List.forall_mem_cons.mpr ⟨lm_591, (List.forall_mem_cons.mpr ⟨lm_590, (List.forall_mem_cons.mpr ⟨lm_683, (List.forall_mem_cons.mpr ⟨lm_565, (List.forall_mem_cons.mpr ⟨lm_564, (List.forall_mem_cons.mpr ⟨lm_1142, (List.forall_mem_cons.mpr ⟨lm_681, (List.forall_mem_cons.mpr ⟨lm_680, (List.forall_mem_cons.mpr ⟨lm_679, (List.forall_mem_cons.mpr ⟨lm_1052, (List.forall_mem_cons.mpr ⟨lm_1051, (List.forall_mem_cons.mpr ⟨lm_1050, (List.forall_mem_cons.mpr ⟨lm_1049, (fun _ h => absurd h List.not_mem_nil)⟩)⟩)⟩)⟩)⟩)⟩)⟩)⟩)⟩)⟩)⟩)⟩)⟩)⟩)⟩)⟩)⟩)⟩)⟩)⟩)⟩)⟩)
set_option maxRecDepth 100000 in
theorem lr_wsQ_first : ∀ w ∈ wsQ_first, lwIn w := List.forall_mem_cons.mpr ⟨lm_1159, (List.forall_mem_append.mpr ⟨(List.forall_mem_append.mpr ⟨(List.forall_mem_append.mpr ⟨(List.forall_mem_append.mpr ⟨(List.forall_mem_append.mpr ⟨(List.forall_mem_append.mpr ⟨(List.forall_mem_append.mpr ⟨(List.forall_mem_append.mpr ⟨(List.forall_mem_append.mpr ⟨(List.forall_mem_append.mpr ⟨lr_wsX11_first_r1, (List.forall_mem_append.mpr ⟨lr_wsX11_first_r2, (List.forall_mem_append.mpr ⟨lr_wsX11_first_r3, (List.forall_mem_append.mpr ⟨lr_wsX11_first_r4, (List.forall_mem_append.mpr ⟨lr_wsX11_first_r5, (List.forall_mem_append.mpr ⟨lr_wsX11_first_r6, lr_wsX11_first_r7⟩)⟩)⟩)⟩)⟩)⟩), la_0⟩), la_3⟩), la_5⟩), la_6⟩), la_8⟩), la_9⟩), la_4⟩), la_10⟩), la_12⟩)⟩
set_option maxRecDepth 100000 in
theorem lr_wsW_first : ∀ w ∈ wsW_first, lwIn w := List.forall_mem_cons.mpr ⟨lm_1156, (List.forall_mem_append.mpr ⟨(List.forall_mem_cons.mpr ⟨lm_198, (List.forall_mem_cons.mpr ⟨lm_132, (List.forall_mem_cons.mpr ⟨lm_70, (List.forall_mem_cons.mpr ⟨lm_1158, (List.forall_mem_cons.mpr ⟨lm_1157, (List.forall_mem_cons.mpr ⟨lm_238, (fun _ h => absurd h List.not_mem_nil)⟩)⟩)⟩)⟩)⟩)⟩), lr_wsQ_first⟩)⟩
set_option maxRecDepth 100000 in
theorem lr_wsX12_first_r1 : ∀ w ∈ wsX12_first_r1, lwIn w := (List.forall_mem_cons.mpr ⟨lm_432, (List.forall_mem_cons.mpr ⟨lm_326, (List.forall_mem_cons.mpr ⟨lm_924, (List.forall_mem_cons.mpr ⟨lm_923, (List.forall_mem_cons.mpr ⟨lm_922, (List.forall_mem_cons.mpr ⟨lm_235, (List.forall_mem_cons.mpr ⟨lm_921, (List.forall_mem_cons.mpr ⟨lm_341, (List.forall_mem_cons.mpr ⟨lm_402, (List.forall_mem_cons.mpr ⟨lm_401, (List.forall_mem_cons.mpr ⟨lm_400, (List.forall_mem_cons.mpr ⟨lm_430, (List.forall_mem_cons.mpr ⟨lm_429, (List.forall_mem_cons.mpr ⟨lm_428, (List.forall_mem_cons.mpr ⟨lm_427, (List.forall_mem_cons.mpr ⟨lm_1151, (List.forall_mem_cons.mpr ⟨lm_1150, (List.forall_mem_cons.mpr ⟨lm_1149, (List.forall_mem_cons.mpr ⟨lm_1148, (List.forall_mem_cons.mpr ⟨lm_327, (List.forall_mem_cons.mpr ⟨lm_325, (List.forall_mem_cons.mpr ⟨lm_1084, (List.forall_mem_cons.mpr ⟨lm_1107, (List.forall_mem_cons.mpr ⟨lm_1106, (fun _ h => absurd h List.not_mem_nil)⟩)⟩)⟩)⟩)⟩)⟩)⟩)⟩)⟩)⟩)⟩)⟩)⟩)⟩)⟩)⟩)⟩)⟩)⟩)⟩)⟩)⟩)⟩)⟩)
set_option maxRecDepth 100000 in
theorem lr_wsX12_first_r2 : ∀ w ∈ wsX12_first_r2, lwIn w := (List.forall_mem_cons.mpr ⟨lm_1105, (List.forall_mem_cons.mpr ⟨lm_339, (List.forall_mem_cons.mpr ⟨lm_380, (List.forall_mem_cons.mpr ⟨lm_379, (List.forall_mem_cons.mpr ⟨lm_378, (List.forall_mem_cons.mpr ⟨lm_1147, (List.forall_mem_cons.mpr ⟨lm_1146, (List.forall_mem_cons.mpr ⟨lm_1145, (List.forall_mem_cons.mpr ⟨lm_1144, (List.forall_mem_cons.mpr ⟨lm_946, (List.forall_mem_cons.mpr ⟨lm_945, (List.forall_mem_cons.mpr ⟨lm_944, (List.forall_mem_cons.mpr ⟨lm_943, (List.forall_mem_cons.mpr ⟨lm_344, (List.forall_mem_cons.mpr ⟨lm_343, (List.forall_mem_cons.mpr ⟨lm_389, (List.forall_mem_cons.mpr ⟨lm_388, (List.forall_mem_cons.mpr ⟨lm_1104, (List.forall_mem_cons.mpr ⟨lm_1103, (List.forall_mem_cons.mpr ⟨lm_1102, (List.forall_mem_cons.mpr ⟨lm_1101, (List.forall_mem_cons.mpr ⟨lm_1100, (List.forall_mem_cons.mpr ⟨lm_1099, (List.forall_mem_cons.mpr ⟨lm_1098, (fun _ h => absurd h List.not_mem_nil)⟩)⟩)⟩)⟩)⟩)⟩)⟩)⟩)⟩)⟩)⟩)⟩)⟩)⟩)⟩)⟩)⟩)⟩)⟩)⟩)⟩)⟩)⟩)⟩)
set_option maxRecDepth 100000 in
theorem lr_wsX12_first_r3 : ∀ w ∈ wsX12_first_r3, lwIn w := (List.forall_mem_cons.mpr ⟨lm_1097, (List.forall_mem_cons.mpr ⟨lm_1096, (List.forall_mem_cons.mpr ⟨lm_1095, (List.forall_mem_cons.mpr ⟨lm_1094, (List.forall_mem_cons.mpr ⟨lm_1093, (List.forall_mem_cons.mpr ⟨lm_1092, (List.forall_mem_cons.mpr ⟨lm_1091, (List.forall_mem_cons.mpr ⟨lm_1090, (List.forall_mem_cons.mpr ⟨lm_1089, (List.forall_mem_cons.mpr ⟨lm_1155, (List.forall_mem_cons.mpr ⟨lm_1154, (List.forall_mem_cons.mpr ⟨lm_1153, (List.forall_mem_cons.mpr ⟨lm_1152, (fun _ h => absurd h List.not_mem_nil)⟩)⟩)⟩)⟩)⟩)⟩)⟩)⟩)⟩)⟩)⟩)⟩)⟩)
set_option maxRecDepth 100000 in
theorem lr_wsX12_first : ∀ w ∈ wsX12_first, lwIn w := List.forall_mem_cons.mpr ⟨lm_1161, (List.forall_mem_append.mpr ⟨(List.forall_mem_append.mpr ⟨lr_wsX12_first_r1, (List.forall_mem_append.mpr ⟨lr_wsX12_first_r2, lr_wsX12_first_r3⟩)⟩), la_1⟩)⟩
set_option maxRecDepth 100000 in
theorem lr_wsX11_possible_r1 : ∀ w ∈ wsX11_possible_r1, lwIn w := (List.forall_mem_cons.mpr ⟨lm_438, (List.forall_mem_cons.mpr ⟨lm_196, (List.forall_mem_cons.mpr ⟨lm_244, (List.forall_mem_cons.mpr ⟨lm_276, (List.forall_mem_cons.mpr ⟨lm_249, (List.forall_mem_cons.mpr ⟨lm_665, (List.forall_mem_cons.mpr ⟨lm_1166, (List.forall_mem_cons.mpr ⟨lm_919, (List.forall_mem_cons.mpr ⟨lm_918, (List.forall_mem_cons.mpr ⟨lm_917, (List.forall_mem_cons.mpr ⟨lm_238, (List.forall_mem_cons.mpr ⟨lm_916, (List.forall_mem_cons.mpr ⟨lm_451, (List.forall_mem_cons.mpr ⟨lm_1127, (List.forall_mem_cons.mpr ⟨lm_1126, (List.forall_mem_cons.mpr ⟨lm_1125, (List.forall_mem_cons.mpr ⟨lm_223, (List.forall_mem_cons.mpr ⟨lm_1124, (List.forall_mem_cons.mpr ⟨lm_302, (List.forall_mem_cons.mpr ⟨lm_322, (List.forall_mem_cons.mpr ⟨lm_301, (List.forall_mem_cons.mpr ⟨lm_300, (List.forall_mem_cons.mpr ⟨lm_299, (List.forall_mem_cons.mpr ⟨lm_1123, (fun _ h => absurd h List.not_mem_nil)⟩)⟩)⟩)⟩)⟩)⟩)⟩)⟩)⟩)⟩)⟩)⟩)⟩)⟩)⟩)⟩)⟩)⟩)⟩)⟩)⟩)⟩)⟩)⟩)
set_option maxRecDepth 100000 in
theorem lr_wsX11_possible_r2 : ∀ w ∈ wsX11_possible_r2, lwIn w := (List.forall_mem_cons.mpr ⟨lm_1122, (List.forall_mem_cons.mpr ⟨lm_1121, (List.forall_mem_cons.mpr ⟨lm_1120, (List.forall_mem_cons.mpr ⟨lm_1119, (List.forall_mem_cons.mpr ⟨lm_1118, (List.forall_mem_cons.mpr ⟨lm_1117, (List.forall_mem_cons.mpr ⟨lm_1116, (List.forall_mem_cons.mpr ⟨lm_1115, (List.forall_mem_cons.mpr ⟨lm_221, (List.forall_mem_cons.mpr ⟨lm_1133, (List.forall_mem_cons.mpr ⟨lm_296, (List.forall_mem_cons.mpr ⟨lm_1132, (List.forall_mem_cons.mpr ⟨lm_1131, (List.forall_mem_cons.mpr ⟨lm_1130, (List.forall_mem_cons.mpr ⟨lm_672, (List.forall_mem_cons.mpr ⟨lm_671, (List.forall_mem_cons.mpr ⟨lm_670, (List.forall_mem_cons.mpr ⟨lm_298, (List.forall_mem_cons.mpr ⟨lm_1129, (List.forall_mem_cons.mpr ⟨lm_674, (List.forall_mem_cons.mpr ⟨lm_719, (List.forall_mem_cons.mpr ⟨lm_718, (List.forall_mem_cons.mpr ⟨lm_177, (List.forall_mem_cons.mpr ⟨lm_717, (fun _ h => absurd h List.not_mem_nil)⟩)⟩)⟩)⟩)⟩)⟩)⟩)⟩)⟩)⟩)⟩)⟩)⟩)⟩)⟩)⟩)⟩)⟩)⟩)⟩)⟩)⟩)⟩)⟩)
set_option maxRecDepth 100000 in
theorem lr_wsX11_possible_r3 : ∀ w ∈ wsX11_possible_r3, lwIn w := (List.forall_mem_cons.mpr ⟨lm_716, (List.forall_mem_cons.mpr ⟨lm_715, (List.forall_mem_cons.mpr ⟨lm_714, (List.forall_mem_cons.mpr ⟨lm_713, (List.forall_mem_cons.mpr ⟨lm_712, (List.forall_mem_cons.mpr ⟨lm_661, (List.forall_mem_cons.mpr ⟨lm_216, (List.forall_mem_cons.mpr ⟨lm_660, (List.forall_mem_cons.mpr ⟨lm_307, (List.forall_mem_cons.mpr ⟨lm_711, (List.forall_mem_cons.mpr ⟨lm_710, (List.forall_mem_cons.mpr ⟨lm_183, (List.forall_mem_cons.mpr ⟨lm_709, (List.forall_mem_cons.mpr ⟨lm_708, (List.forall_mem_cons.mpr ⟨lm_707, (List.forall_mem_cons.mpr ⟨lm_706, (List.forall_mem_cons.mpr ⟨lm_705, (List.forall_mem_cons.mpr ⟨lm_704, (List.forall_mem_cons.mpr ⟨lm_175, (List.forall_mem_cons.mpr ⟨lm_703, (List.forall_mem_cons.mpr ⟨lm_702, (List.forall_mem_cons.mpr ⟨lm_701, (List.forall_mem_cons.mpr ⟨lm_700, (List.forall_mem_cons.mpr ⟨lm_699, (fun _ h => absurd h List.not_mem_nil)⟩)⟩)⟩)⟩)⟩)⟩)⟩)⟩)⟩)⟩)⟩)⟩)⟩)⟩)⟩)⟩)⟩)⟩)⟩)⟩)⟩)⟩)⟩)⟩)
set_option maxRecDepth 100000 in
theorem lr_wsX11_possible_r4 : ∀ w ∈ wsX11_possible_r4, lwIn w := (List.forall_mem_cons.mpr ⟨lm_698, (List.forall_mem_cons.mpr ⟨lm_181, (List.forall_mem_cons.mpr ⟨lm_697, (List.forall_mem_cons.mpr ⟨lm_740, (List.forall_mem_cons.mpr ⟨lm_739, (List.forall_mem_cons.mpr ⟨lm_738, (List.forall_mem_cons.mpr ⟨lm_737, (List.forall_mem_cons.mpr ⟨lm_736, (List.forall_mem_cons.mpr ⟨lm_735, (List.forall_mem_cons.mpr ⟨lm_588, (List.forall_mem_cons.mpr ⟨lm_587, (List.forall_mem_cons.mpr ⟨lm_734, (List.forall_mem_cons.mpr ⟨lm_733, (List.forall_mem_cons.mpr ⟨lm_174, (List.forall_mem_cons.mpr ⟨lm_732, (List.forall_mem_cons.mpr ⟨lm_731, (List.forall_mem_cons.mpr ⟨lm_730, (List.forall_mem_cons.mpr ⟨lm_729, (List.forall_mem_cons.mpr ⟨lm_728, (List.forall_mem_cons.mpr ⟨lm_691, (List.forall_mem_cons.mpr ⟨lm_176, (List.forall_mem_cons.mpr ⟨lm_690, (List.forall_mem_cons.mpr ⟨lm_689, (List.forall_mem_cons.mpr ⟨lm_688, (fun _ h => absurd h List.not_mem_nil)⟩)⟩)⟩)⟩)⟩)⟩)⟩)⟩)⟩)⟩)⟩)⟩)⟩)⟩)⟩)⟩)⟩)⟩)⟩)⟩)⟩)⟩)⟩)⟩)
set_option maxRecDepth 100000 in
theorem lr_wsX11_possible_r5 : ∀ w ∈ wsX11_possible_r5, lwIn w := (List.forall_mem_cons.mpr ⟨lm_687, (List.forall_mem_cons.mpr ⟨lm_727, (List.forall_mem_cons.mpr ⟨lm_651, (List.forall_mem_cons.mpr ⟨lm_650, (List.forall_mem_cons.mpr ⟨lm_696, (List.forall_mem_cons.mpr ⟨lm_695, (List.forall_mem_cons.mpr ⟨lm_694, (List.forall_mem_cons.mpr ⟨lm_693, (List.forall_mem_cons.mpr ⟨lm_692, (List.forall_mem_cons.mpr ⟨lm_726, (List.forall_mem_cons.mpr ⟨lm_725, (List.forall_mem_cons.mpr ⟨lm_225, (List.forall_mem_cons.mpr ⟨lm_724, (List.forall_mem_cons.mpr ⟨lm_314, (List.forall_mem_cons.mpr ⟨lm_723, (List.forall_mem_cons.mpr ⟨lm_722, (List.forall_mem_cons.mpr ⟨lm_721, (List.forall_mem_cons.mpr ⟨lm_720, (List.forall_mem_cons.mpr ⟨lm_179, (List.forall_mem_cons.mpr ⟨lm_764, (List.forall_mem_cons.mpr ⟨lm_621, (List.forall_mem_cons.mpr ⟨lm_763, (List.forall_mem_cons.mpr ⟨lm_762, (List.forall_mem_cons.mpr ⟨lm_761, (fun _ h => absurd h List.not_mem_nil)⟩)⟩)⟩)⟩)⟩)⟩)⟩)⟩)⟩)⟩)⟩)⟩)⟩)⟩)⟩)⟩)⟩)⟩)⟩)⟩)⟩)⟩)⟩)⟩)
set_option maxRecDepth 100000 in
theorem lr_wsX11_possible_r6 : ∀ w ∈ wsX11_possible_r6, lwIn w := (List.forall_mem_cons.mpr ⟨lm_620, (List.forall_mem_cons.mpr ⟨lm_760, (List.forall_mem_cons.mpr ⟨lm_619, (List.forall_mem_cons.mpr ⟨lm_618, (List.forall_mem_cons.mpr ⟨lm_759, (List.forall_mem_cons.mpr ⟨lm_758, (List.forall_mem_cons.mpr ⟨lm_757, (List.forall_mem_cons.mpr ⟨lm_756, (List.forall_mem_cons.mpr ⟨lm_755, (List.forall_mem_cons.mpr ⟨lm_574, (List.forall_mem_cons.mpr ⟨lm_573, (List.forall_mem_cons.mpr ⟨lm_611, (List.forall_mem_cons.mpr ⟨lm_754, (List.forall_mem_cons.mpr ⟨lm_1141, (List.forall_mem_cons.mpr ⟨lm_1140, (List.forall_mem_cons.mpr ⟨lm_1079, (List.forall_mem_cons.mpr ⟨lm_1078, (List.forall_mem_cons.mpr ⟨lm_678, (List.forall_mem_cons.mpr ⟨lm_1077, (List.forall_mem_cons.mpr ⟨lm_1076, (List.forall_mem_cons.mpr ⟨lm_1139, (List.forall_mem_cons.mpr ⟨lm_1138, (List.forall_mem_cons.mpr ⟨lm_1137, (List.forall_mem_cons.mpr ⟨lm_1136, (fun _ h => absurd h List.not_mem_nil)⟩)⟩)⟩)⟩)⟩)⟩)⟩)⟩)⟩)⟩)⟩)⟩)⟩)⟩)⟩)⟩)⟩)⟩)⟩)⟩)⟩)⟩)⟩)⟩)
set_option maxRecDepth 100000 in
theorem lr_wsX11_possible_r7 : ∀ w ∈ wsX11_possible_r7, lwIn w := (List.forall_mem_cons.mpr ⟨lm_1135, (List.forall_mem_cons.mpr ⟨lm_752, (List.forall_mem_cons.mpr ⟨lm_751, (List.forall_mem_cons.mpr ⟨lm_1134, (List.forall_mem_cons.mpr ⟨lm_685, (List.forall_mem_cons.mpr ⟨lm_684, (List.forall_mem_cons.mpr ⟨lm_591, (List.forall_mem_cons.mpr ⟨lm_590, (List.forall_mem_cons.mpr ⟨lm_683, (List.forall_mem_cons.mpr ⟨lm_565, (List.forall_mem_cons.mpr ⟨lm_564, (List.forall_mem_cons.mpr ⟨lm_1142, (List.forall_mem_cons.mpr ⟨lm_681, (List.forall_mem_cons.mpr ⟨lm_680, (List.forall_mem_cons.mpr ⟨lm_679, (List.forall_mem_cons.mpr ⟨lm_898, (fun _ h => absurd h List.not_mem_nil)⟩)⟩)⟩)⟩)⟩)⟩)⟩)⟩)⟩)⟩)⟩)⟩)⟩)⟩)⟩)⟩)
set_option maxRecDepth 100000 in
theorem lr_wsX11_possible : ∀ w ∈ wsX11_possible, lwIn w := List.forall_mem_cons.mpr ⟨lm_1165, (List.forall_mem_append.mpr ⟨(List.forall_mem_append.mpr ⟨(List.forall_mem_append.mpr ⟨(List.forall_mem_append.mpr ⟨(List.forall_mem_append.mpr ⟨(List.forall_mem_append.mpr ⟨(List.forall_mem_append.mpr ⟨(List.forall_mem_append.mpr ⟨(List.forall_mem_append.mpr ⟨(List.forall_mem_append.mpr ⟨lr_wsX11_possible_r1, (List.forall_mem_append.mpr ⟨lr_wsX11_possible_r2, (List.forall_mem_append.mpr ⟨lr_wsX11_possible_r3, (List.forall_mem_append.mpr ⟨lr_wsX11_possible_r4, (List.forall_mem_append.mpr ⟨lr_wsX11_possible_r5, (List.forall_mem_append.mpr ⟨lr_wsX11_possible_r6, lr_wsX11_possible_r7⟩)⟩)⟩)⟩)⟩)⟩), la_0⟩), la_3⟩), la_5⟩), la_6⟩), la_8⟩), la_9⟩), la_4⟩), la_10⟩), la_12⟩)⟩
set_option maxRecDepth 100000 in
theorem lr_wsW_possible : ∀ w ∈ wsW_possible, lwIn w := List.forall_mem_cons.mpr ⟨lm_1162, (List.forall_mem_append.mpr ⟨(List.forall_mem_cons.mpr ⟨lm_198, (List.forall_mem_cons.mpr ⟨lm_64, (List.forall_mem_cons.mpr ⟨lm_1164, (List.forall_mem_cons.mpr ⟨lm_1163, (List.forall_mem_cons.mpr ⟨lm_238, (fun _ h => absurd h List.not_mem_nil)⟩)⟩)⟩)⟩)⟩), lr_wsX11_possible⟩)⟩
set_option maxRecDepth 100000 in
theorem lr_wsX12_possible_r1 : ∀ w ∈ wsX12_possible_r1, lwIn w := (List.forall_mem_cons.mpr ⟨lm_432, (List.forall_mem_cons.mpr ⟨lm_325, (List.forall_mem_cons.mpr ⟨lm_924, (List.forall_mem_cons.mpr ⟨lm_923, (List.forall_mem_cons.mpr ⟨lm_922, (List.forall_mem_cons.mpr ⟨lm_235, (List.forall_mem_cons.mpr ⟨lm_921, (List.forall_mem_cons.mpr ⟨lm_341, (List.forall_mem_cons.mpr ⟨lm_402, (List.forall_mem_cons.mpr ⟨lm_401, (List.forall_mem_cons.mpr ⟨lm_400, (List.forall_mem_cons.mpr ⟨lm_430, (List.forall_mem_cons.mpr ⟨lm_429, (List.forall_mem_cons.mpr ⟨lm_428, (List.forall_mem_cons.mpr ⟨lm_427, (List.forall_mem_cons.mpr ⟨lm_1151, (List.forall_mem_cons.mpr ⟨lm_1150, (List.forall_mem_cons.mpr ⟨lm_1149, (List.forall_mem_cons.mpr ⟨lm_1148, (List.forall_mem_cons.mpr ⟨lm_327, (List.forall_mem_cons.mpr ⟨lm_1084, (List.forall_mem_cons.mpr ⟨lm_1107, (List.forall_mem_cons.mpr ⟨lm_1106, (List.forall_mem_cons.mpr ⟨lm_1105, (fun _ h => absurd h List.not_mem_nil)⟩)⟩)⟩)⟩)⟩)⟩)⟩)⟩)⟩)⟩)⟩)⟩)⟩)⟩)⟩)⟩)⟩)⟩)⟩)⟩)⟩)⟩)⟩)⟩)
set_option maxRecDepth 100000 in
theorem lr_wsX12_possible_r2 : ∀ w ∈ wsX12_possible_r2, lwIn w := (List.forall_mem_cons.mpr ⟨lm_339, (List.forall_mem_cons.mpr ⟨lm_380, (List.forall_mem_cons.mpr ⟨lm_379, (List.forall_mem_cons.mpr ⟨lm_378, (List.forall_mem_cons.mpr ⟨lm_1147, (List.forall_mem_cons.mpr ⟨lm_1146, (List.forall_mem_cons.mpr ⟨lm_1145, (List.forall_mem_cons.mpr ⟨lm_1144, (List.forall_mem_cons.mpr ⟨lm_946, (List.forall_mem_cons.mpr ⟨lm_945, (List.forall_mem_cons.mpr ⟨lm_944, (List.forall_mem_cons.mpr ⟨lm_943, (List.forall_mem_cons.mpr ⟨lm_344, (List.forall_mem_cons.mpr ⟨lm_343, (List.forall_mem_cons.mpr ⟨lm_389, (List.forall_mem_cons.mpr ⟨lm_388, (List.forall_mem_cons.mpr ⟨lm_1104, (List.forall_mem_cons.mpr ⟨lm_1103, (List.forall_mem_cons.mpr ⟨lm_1102, (List.forall_mem_cons.mpr ⟨lm_1101, (List.forall_mem_cons.mpr ⟨lm_1100, (List.forall_mem_cons.mpr ⟨lm_1099, (List.forall_mem_cons.mpr ⟨lm_1098, (List.forall_mem_cons.mpr ⟨lm_1097, (fun _ h => absurd h List.not_mem_nil)⟩)⟩)⟩)⟩)⟩)⟩)⟩)⟩)⟩)⟩)⟩)⟩)⟩)⟩)⟩)⟩)⟩)⟩)⟩)⟩)⟩)⟩)⟩)⟩)
set_option maxRecDepth 100000 in
theorem lr_wsX12_possible_r3 : ∀ w ∈ wsX12_possible_r3, lwIn w := (List.forall_mem_cons.mpr ⟨lm_1096, (List.forall_mem_cons.mpr ⟨lm_1095, (List.forall_mem_cons.mpr ⟨lm_1094, (List.forall_mem_cons.mpr ⟨lm_1093, (List.forall_mem_cons.mpr ⟨lm_1092, (List.forall_mem_cons.mpr ⟨lm_1091, (List.forall_mem_cons.mpr ⟨lm_1090, (List.forall_mem_cons.mpr ⟨lm_1089, (List.forall_mem_cons.mpr ⟨lm_1155, (List.forall_mem_cons.mpr ⟨lm_1154, (List.forall_mem_cons.mpr ⟨lm_1153, (List.forall_mem_cons.mpr ⟨lm_1152, (List.forall_mem_cons.mpr ⟨lm_326, (fun _ h => absurd h List.not_mem_nil)⟩)⟩)⟩)⟩)⟩)⟩)⟩)⟩)⟩)⟩)⟩)⟩)⟩)
set_option maxRecDepth 100000 in
theorem lr_wsX12_possible : ∀ w ∈ wsX12_possible, lwIn w := List.forall_mem_cons.mpr ⟨lm_1167, (List.forall_mem_append.mpr ⟨(List.forall_mem_append.mpr ⟨lr_wsX12_possible_r1, (List.forall_mem_append.mpr ⟨lr_wsX12_possible_r2, lr_wsX12_possible_r3⟩)⟩), la_1⟩)⟩
set_option maxRecDepth 100000 in
theorem lr_wsX11_overlooked_r1 : ∀ w ∈ wsX11_overlooked_r1, lwIn w := (List.forall_mem_cons.mpr ⟨lm_244, (List.forall_mem_cons.mpr ⟨lm_276, (List.forall_mem_cons.mpr ⟨lm_249, (List.forall_mem_cons.mpr ⟨lm_665, (List.forall_mem_cons.mpr ⟨lm_1166, (List.forall_mem_cons.mpr ⟨lm_986, (List.forall_mem_cons.mpr ⟨lm_1127, (List.forall_mem_cons.mpr ⟨lm_1126, (List.forall_mem_cons.mpr ⟨lm_1125, (List.forall_mem_cons.mpr ⟨lm_223, (List.forall_mem_cons.mpr ⟨lm_1124, (List.forall_mem_cons.mpr ⟨lm_302, (List.forall_mem_cons.mpr ⟨lm_322, (List.forall_mem_cons.mpr ⟨lm_301, (List.forall_mem_cons.mpr ⟨lm_300, (List.forall_mem_cons.mpr ⟨lm_299, (List.forall_mem_cons.mpr ⟨lm_1123, (List.forall_mem_cons.mpr ⟨lm_1122, (List.forall_mem_cons.mpr ⟨lm_1121, (List.forall_mem_cons.mpr ⟨lm_1120, (List.forall_mem_cons.mpr ⟨lm_1119, (List.forall_mem_cons.mpr ⟨lm_1118, (List.forall_mem_cons.mpr ⟨lm_1117, (List.forall_mem_cons.mpr ⟨lm_1116, (fun _ h => absurd h List.not_mem_nil)⟩)⟩)⟩)⟩)⟩)⟩)⟩)⟩)⟩)⟩)⟩)⟩)⟩)⟩)⟩)⟩)⟩)⟩)⟩)⟩)⟩)⟩)⟩)⟩)
set_option maxRecDepth 100000 in
theorem lr_wsX11_overlooked_r2 : ∀ w ∈ wsX11_overlooked_r2, lwIn w := (List.forall_mem_cons.mpr ⟨lm_1115, (List.forall_mem_cons.mpr ⟨lm_221, (List.forall_mem_cons.mpr ⟨lm_1133, (List.forall_mem_cons.mpr ⟨lm_296, (List.forall_mem_cons.mpr ⟨lm_1132, (List.forall_mem_cons.mpr ⟨lm_1131, (List.forall_mem_cons.mpr ⟨lm_1130, (List.forall_mem_cons.mpr ⟨lm_672, (List.forall_mem_cons.mpr ⟨lm_671, (List.forall_mem_cons.mpr ⟨lm_670, (List.forall_mem_cons.mpr ⟨lm_298, (List.forall_mem_cons.mpr ⟨lm_1129, (List.forall_mem_cons.mpr ⟨lm_674, (List.forall_mem_cons.mpr ⟨lm_719, (List.forall_mem_cons.mpr ⟨lm_718, (List.forall_mem_cons.mpr ⟨lm_177, (List.forall_mem_cons.mpr ⟨lm_717, (List.forall_mem_cons.mpr ⟨lm_716, (List.forall_mem_cons.mpr ⟨lm_715, (List.forall_mem_cons.mpr ⟨lm_714, (List.forall_mem_cons.mpr ⟨lm_713, (List.forall_mem_cons.mpr ⟨lm_712, (List.forall_mem_cons.mpr ⟨lm_661, (List.forall_mem_cons.mpr ⟨lm_216, (fun _ h => absurd h List.not_mem_nil)⟩)⟩)⟩)⟩)⟩)⟩)⟩)⟩)⟩)⟩)⟩)⟩)⟩)⟩)⟩)⟩)⟩)⟩)⟩)⟩)⟩)⟩)⟩)⟩)
set_option maxRecDepth 100000 in
theorem lr_wsX11_overlooked_r3 : ∀ w ∈ wsX11_overlooked_r3, lwIn w := (List.forall_mem_cons.mpr ⟨lm_660, (List.forall_mem_cons.mpr ⟨lm_307, (List.forall_mem_cons.mpr ⟨lm_711, (List.forall_mem_cons.mpr ⟨lm_710, (List.forall_mem_cons.mpr ⟨lm_183, (List.forall_mem_cons.mpr ⟨lm_709, (List.forall_mem_cons.mpr ⟨lm_708, (List.forall_mem_cons.mpr ⟨lm_707, (List.forall_mem_cons.mpr ⟨lm_706, (List.forall_mem_cons.mpr ⟨lm_705, (List.forall_mem_cons.mpr ⟨lm_704, (List.forall_mem_cons.mpr ⟨lm_175, (List.forall_mem_cons.mpr ⟨lm_703, (List.forall_mem_cons.mpr ⟨lm_702, (List.forall_mem_cons.mpr ⟨lm_701, (List.forall_mem_cons.mpr ⟨lm_700, (List.forall_mem_cons.mpr ⟨lm_699, (List.forall_mem_cons.mpr ⟨lm_698, (List.forall_mem_cons.mpr ⟨lm_181, (List.forall_mem_cons.mpr ⟨lm_697, (List.forall_mem_cons.mpr ⟨lm_740, (List.forall_mem_cons.mpr ⟨lm_739, (List.forall_mem_cons.mpr ⟨lm_738, (List.forall_mem_cons.mpr ⟨lm_737, (fun _ h => absurd h List.not_mem_nil)⟩)⟩)⟩)⟩)⟩)⟩)⟩)⟩)⟩)⟩)⟩)⟩)⟩)⟩)⟩)⟩)⟩)⟩)⟩)⟩)⟩)⟩)⟩)⟩)
set_option maxRecDepth 100000 in
theorem lr_wsX11_overlooked_r4 : ∀ w ∈ wsX11_overlooked_r4, lwIn w := (List.forall_mem_cons.mpr ⟨lm_736, (List.forall_mem_cons.mpr ⟨lm_735, (List.forall_mem_cons.mpr ⟨lm_588, (List.forall_mem_cons.mpr ⟨lm_587, (List.forall_mem_cons.mpr ⟨lm_734, (List.forall_mem_cons.mpr ⟨lm_733, (List.forall_mem_cons.mpr ⟨lm_174, (List.forall_mem_cons.mpr ⟨lm_732, (List.forall_mem_cons.mpr ⟨lm_731, (List.forall_mem_cons.mpr ⟨lm_730, (List.forall_mem_cons.mpr ⟨lm_729, (List.forall_mem_cons.mpr ⟨lm_728, (List.forall_mem_cons.mpr ⟨lm_691, (List.forall_mem_cons.mpr ⟨lm_176, (List.forall_mem_cons.mpr ⟨lm_690, (List.forall_mem_cons.mpr ⟨lm_689, (List.forall_mem_cons.mpr ⟨lm_688, (List.forall_mem_cons.mpr ⟨lm_687, (List.forall_mem_cons.mpr ⟨lm_727, (List.forall_mem_cons.mpr ⟨lm_651, (List.forall_mem_cons.mpr ⟨lm_650, (List.forall_mem_cons.mpr ⟨lm_696, (List.forall_mem_cons.mpr ⟨lm_695, (List.forall_mem_cons.mpr ⟨lm_694, (fun _ h => absurd h List.not_mem_nil)⟩)⟩)⟩)⟩)⟩)⟩)⟩)⟩)⟩)⟩)⟩)⟩)⟩)⟩)⟩)⟩)⟩)⟩)⟩)⟩)⟩)⟩)⟩)⟩)
set_option maxRecDepth 100000 in
theorem lr_wsX11_overlooked_r5 : ∀ w ∈ wsX11_overlooked_r5, lwIn w := (List.forall_mem_cons.mpr ⟨lm_693, (List.forall_mem_cons.mpr ⟨lm_692, (List.forall_mem_cons.mpr ⟨lm_726, (List.forall_mem_cons.mpr ⟨lm_725, (List.forall_mem_cons.mpr ⟨lm_225, (List.forall_mem_cons.mpr ⟨lm_724, (List.forall_mem_cons.mpr ⟨lm_314, (List.forall_mem_cons.mpr ⟨lm_723, (List.forall_mem_cons.mpr ⟨lm_722, (List.forall_mem_cons.mpr ⟨lm_721, (List.forall_mem_cons.mpr ⟨lm_720, (List.forall_mem_cons.mpr ⟨lm_179, (List.forall_mem_cons.mpr ⟨lm_764, (List.forall_mem_cons.mpr ⟨lm_621, (List.forall_mem_cons.mpr ⟨lm_763, (List.forall_mem_cons.mpr ⟨lm_762, (List.forall_mem_cons.mpr ⟨lm_761, (List.forall_mem_cons.mpr ⟨lm_620, (List.forall_mem_cons.mpr ⟨lm_760, (List.forall_mem_cons.mpr ⟨lm_619, (List.forall_mem_cons.mpr ⟨lm_618, (List.forall_mem_cons.mpr ⟨lm_759, (List.forall_mem_cons.mpr ⟨lm_758, (List.forall_mem_cons.mpr ⟨lm_757, (fun _ h => absurd h List.not_mem_nil)⟩)⟩)⟩)⟩)⟩)⟩)⟩)⟩)⟩)⟩)⟩)⟩)⟩)⟩)⟩)⟩)⟩)⟩)⟩)⟩)⟩)⟩)⟩)⟩)
set_option maxRecDepth 100000 in
theorem lr_wsX11_overlooked_r6 : ∀ w ∈ wsX11_overlooked_r6, lwIn w := (List.forall_mem_cons.mpr ⟨lm_756, (List.forall_mem_cons.mpr ⟨lm_755, (List.forall_mem_cons.mpr ⟨lm_574, (List.forall_mem_cons.mpr ⟨lm_573, (List.forall_mem_cons.mpr ⟨lm_611, (List.forall_mem_cons.mpr ⟨lm_754, (List.forall_mem_cons.mpr ⟨lm_1141, (List.forall_mem_cons.mpr ⟨lm_1140, (List.forall_mem_cons.mpr ⟨lm_1079, (List.forall_mem_cons.mpr ⟨lm_1078, (List.forall_mem_cons.mpr ⟨lm_678, (List.forall_mem_cons.mpr ⟨lm_1077, (List.forall_mem_cons.mpr ⟨lm_1076, (List.forall_mem_cons.mpr ⟨lm_1139, (List.forall_mem_cons.mpr ⟨lm_1138, (List.forall_mem_cons.mpr ⟨lm_1137, (List.forall_mem_cons.mpr ⟨lm_1136, (List.forall_mem_cons.mpr ⟨lm_1135, (List.forall_mem_cons.mpr ⟨lm_752, (List.forall_mem_cons.mpr ⟨lm_751, (List.forall_mem_cons.mpr ⟨lm_1134, (List.forall_mem_cons.mpr ⟨lm_685, (List.forall_mem_cons.mpr ⟨lm_684, (List.forall_mem_cons.mpr ⟨lm_591, (fun _ h => absurd h List.not_mem_nil)⟩)⟩)⟩)⟩)⟩)⟩)⟩)⟩)⟩)⟩)⟩)⟩)⟩)⟩)⟩)⟩)⟩)⟩)⟩)⟩)⟩)⟩)⟩)⟩)
set_option maxRecDepth 100000 in
theorem lr_wsX11_overlooked_r7 : ∀ w ∈ wsX11_overlooked_r7, lwIn w := (List.forall_mem_cons.mpr ⟨lm_238, (List.forall_mem_cons.mpr ⟨lm_590, (List.forall_mem_cons.mpr ⟨lm_683, (List.forall_mem_cons.mpr ⟨lm_565, (List.forall_mem_cons.mpr ⟨lm_564, (List.forall_mem_cons.mpr ⟨lm_1142, (List.forall_mem_cons.mpr ⟨lm_681, (List.forall_mem_cons.mpr ⟨lm_680, (List.forall_mem_cons.mpr ⟨lm_679, (List.forall_mem_cons.mpr ⟨lm_997, (fun _ h => absurd h List.not_mem_nil)⟩)⟩)⟩)⟩)⟩)⟩)⟩)⟩)⟩)⟩)
set_option maxRecDepth 100000 in
theorem lr_wsX11_overlooked : ∀ w ∈ wsX11_overlooked, lwIn w := List.forall_mem_cons.mpr ⟨lm_1168, (List.forall_mem_append.mpr ⟨(List.forall_mem_append.mpr ⟨(List.forall_mem_append.mpr ⟨(List.forall_mem_append.mpr ⟨(List.forall_mem_append.mpr ⟨(List.forall_mem_append.mpr ⟨(List.forall_mem_append.mpr ⟨(List.forall_mem_append.mpr ⟨(List.forall_mem_append.mpr ⟨lr_wsX11_overlooked_r1, (List.forall_mem_append.mpr ⟨lr_wsX11_overlooked_r2, (List.forall_mem_append.mpr ⟨lr_wsX11_overlooked_r3, (List.forall_mem_append.mpr ⟨lr_wsX11_overlooked_r4, (List.forall_mem_append.mpr ⟨lr_wsX11_overlooked_r5, (List.forall_mem_append.mpr ⟨lr_wsX11_overlooked_r6, lr_wsX11_overlooked_r7⟩)⟩)⟩)⟩)⟩)⟩), la_0⟩), la_3⟩), la_5⟩), la_6⟩), la_8⟩), la_9⟩), la_4⟩), la_10⟩)⟩
set_option maxRecDepth 100000 in
theorem lr_wsX12_overlooked_r1 : ∀ w ∈ wsX12_overlooked_r1, lwIn w := (List.forall_mem_cons.mpr ⟨lm_432, (List.forall_mem_cons.mpr ⟨lm_341, (List.forall_mem_cons.mpr ⟨lm_339, (List.forall_mem_cons.mpr ⟨lm_325, (List.forall_mem_cons.mpr ⟨lm_1151, (List.forall_mem_cons.mpr ⟨lm_1150, (List.forall_mem_cons.mpr ⟨lm_1149, (List.forall_mem_cons.mpr ⟨lm_235, (List.forall_mem_cons.mpr ⟨lm_1148, (List.forall_mem_cons.mpr ⟨lm_327, (List.forall_mem_cons.mpr ⟨lm_1084, (List.forall_mem_cons.mpr ⟨lm_1107, (List.forall_mem_cons.mpr ⟨lm_1106, (List.forall_mem_cons.mpr ⟨lm_1105, (List.forall_mem_cons.mpr ⟨lm_380, (List.forall_mem_cons.mpr ⟨lm_379, (List.forall_mem_cons.mpr ⟨lm_378, (List.forall_mem_cons.mpr ⟨lm_1147, (List.forall_mem_cons.mpr ⟨lm_1146, (List.forall_mem_cons.mpr ⟨lm_1145, (List.forall_mem_cons.mpr ⟨lm_1144, (List.forall_mem_cons.mpr ⟨lm_946, (List.forall_mem_cons.mpr ⟨lm_945, (List.forall_mem_cons.mpr ⟨lm_944, (fun _ h => absurd h List.not_mem_nil)⟩)⟩)⟩)⟩)⟩)⟩)⟩)⟩)⟩)⟩)⟩)⟩)⟩)⟩)⟩)⟩)⟩)⟩)⟩)⟩)⟩)⟩)⟩)⟩)
set_option maxRecDepth 100000 in
theorem lr_wsX12_overlooked_r2 : ∀ w ∈ wsX12_overlooked_r2, lwIn w := (List.forall_mem_cons.mpr ⟨lm_943, (List.forall_mem_cons.mpr ⟨lm_344, (List.forall_mem_cons.mpr ⟨lm_343, (List.forall_mem_cons.mpr ⟨lm_389, (List.forall_mem_cons.mpr ⟨lm_388, (List.forall_mem_cons.mpr ⟨lm_1104, (List.forall_mem_cons.mpr ⟨lm_1103, (List.forall_mem_cons.mpr ⟨lm_1102, (List.forall_mem_cons.mpr ⟨lm_1101, (List.forall_mem_cons.mpr ⟨lm_1100, (List.forall_mem_cons.mpr ⟨lm_1099, (List.forall_mem_cons.mpr ⟨lm_1098, (List.forall_mem_cons.mpr ⟨lm_1097, (List.forall_mem_cons.mpr ⟨lm_1096, (List.forall_mem_cons.mpr ⟨lm_1095, (List.forall_mem_cons.mpr ⟨lm_1094, (List.forall_mem_cons.mpr ⟨lm_1093, (List.forall_mem_cons.mpr ⟨lm_402, (List.forall_mem_cons.mpr ⟨lm_401, (List.forall_mem_cons.mpr ⟨lm_400, (List.forall_mem_cons.mpr ⟨lm_1092, (List.forall_mem_cons.mpr ⟨lm_1091, (List.forall_mem_cons.mpr ⟨lm_1090, (List.forall_mem_cons.mpr ⟨lm_1089, (fun _ h => absurd h List.not_mem_nil)⟩)⟩)⟩)⟩)⟩)⟩)⟩)⟩)⟩)⟩)⟩)⟩)⟩)⟩)⟩)⟩)⟩)⟩)⟩)⟩)⟩)⟩)⟩)⟩)
set_option maxRecDepth 100000 in
theorem lr_wsX12_overlooked_r3 : ∀ w ∈ wsX12_overlooked_r3, lwIn w := (List.forall_mem_cons.mpr ⟨lm_1155, (List.forall_mem_cons.mpr ⟨lm_1154, (List.forall_mem_cons.mpr ⟨lm_1153, (List.forall_mem_cons.mpr ⟨lm_1152, (List.forall_mem_cons.mpr ⟨lm_326, (List.forall_mem_cons.mpr ⟨lm_405, (List.forall_mem_cons.mpr ⟨lm_404, (List.forall_mem_cons.mpr ⟨lm_403, (fun _ h => absurd h List.not_mem_nil)⟩)⟩)⟩)⟩)⟩)⟩)⟩)⟩)
set_option maxRecDepth 100000 in
theorem lr_wsX12_overlooked : ∀ w ∈ wsX12_overlooked, lwIn w := List.forall_mem_cons.mpr ⟨lm_1169, (List.forall_mem_append.mpr ⟨(List.forall_mem_append.mpr ⟨lr_wsX12_overlooked_r1, (List.forall_mem_append.mpr ⟨lr_wsX12_overlooked_r2, lr_wsX12_overlooked_r3⟩)⟩), la_1⟩)⟩
set_option maxRecDepth 100000 in
theorem lr_wsX11_forbid_r1 : ∀ w ∈ wsX11_forbid_r1, lwIn w := (List.forall_mem_cons.mpr ⟨lm_438, (List.forall_mem_cons.mpr ⟨lm_196, (List.forall_mem_cons.mpr ⟨lm_453, (List.forall_mem_cons.mpr ⟨lm_188, (List.forall_mem_cons.mpr ⟨lm_425, (List.forall_mem_cons.mpr ⟨lm_207, (List.forall_mem_cons.mpr ⟨lm_249, (List.forall_mem_cons.mpr ⟨lm_665, (List.forall_mem_cons.mpr ⟨lm_896, (List.forall_mem_cons.mpr ⟨lm_448, (List.forall_mem_cons.mpr ⟨lm_919, (List.forall_mem_cons.mpr ⟨lm_918, (List.forall_mem_cons.mpr ⟨lm_917, (List.forall_mem_cons.mpr ⟨lm_238, (List.forall_mem_cons.mpr ⟨lm_916, (List.forall_mem_cons.mpr ⟨lm_276, (List.forall_mem_cons.mpr ⟨lm_451, (List.forall_mem_cons.mpr ⟨lm_686, (List.forall_mem_cons.mpr ⟨lm_685, (List.forall_mem_cons.mpr ⟨lm_183, (List.forall_mem_cons.mpr ⟨lm_684, (List.forall_mem_cons.mpr ⟨lm_591, (List.forall_mem_cons.mpr ⟨lm_590, (List.forall_mem_cons.mpr ⟨lm_683, (fun _ h => absurd h List.not_mem_nil)⟩)⟩)⟩)⟩)⟩)⟩)⟩)⟩)⟩)⟩)⟩)⟩)⟩)⟩)⟩)⟩)⟩)⟩)⟩)⟩)⟩)⟩)⟩)⟩)
set_option maxRecDepth 100000 in
theorem lr_wsX11_forbid_r2 : ∀ w ∈ wsX11_forbid_r2, lwIn w := (List.forall_mem_cons.mpr ⟨lm_565, (List.forall_mem_cons.mpr ⟨lm_564, (List.forall_mem_cons.mpr ⟨lm_656, (List.forall_mem_cons.mpr ⟨lm_655, (List.forall_mem_cons.mpr ⟨lm_654, (List.forall_mem_cons.mpr ⟨lm_227, (List.forall_mem_cons.mpr ⟨lm_653, (List.forall_mem_cons.mpr ⟨lm_284, (List.forall_mem_cons.mpr ⟨lm_287, (List.forall_mem_cons.mpr ⟨lm_652, (List.forall_mem_cons.mpr ⟨lm_651, (List.forall_mem_cons.mpr ⟨lm_650, (List.forall_mem_cons.mpr ⟨lm_696, (List.forall_mem_cons.mpr ⟨lm_695, (List.forall_mem_cons.mpr ⟨lm_694, (List.forall_mem_cons.mpr ⟨lm_693, (List.forall_mem_cons.mpr ⟨lm_692, (List.forall_mem_cons.mpr ⟨lm_691, (List.forall_mem_cons.mpr ⟨lm_176, (List.forall_mem_cons.mpr ⟨lm_690, (List.forall_mem_cons.mpr ⟨lm_689, (List.forall_mem_cons.mpr ⟨lm_688, (List.forall_mem_cons.mpr ⟨lm_687, (List.forall_mem_cons.mpr ⟨lm_778, (fun _ h => absurd h List.not_mem_nil)⟩)⟩)⟩)⟩)⟩)⟩)⟩)⟩)⟩)⟩)⟩)⟩)⟩)⟩)⟩)⟩)⟩)⟩)⟩)⟩)⟩)⟩)⟩)⟩)
set_option maxRecDepth 100000 in
theorem lr_wsX11_forbid_r3 : ∀ w ∈ wsX11_forbid_r3, lwIn w := (List.forall_mem_cons.mpr ⟨lm_777, (List.forall_mem_cons.mpr ⟨lm_776, (List.forall_mem_cons.mpr ⟨lm_775, (List.forall_mem_cons.mpr ⟨lm_286, (List.forall_mem_cons.mpr ⟨lm_774, (List.forall_mem_cons.mpr ⟨lm_773, (List.forall_mem_cons.mpr ⟨lm_772, (List.forall_mem_cons.mpr ⟨lm_285, (List.forall_mem_cons.mpr ⟨lm_771, (List.forall_mem_cons.mpr ⟨lm_770, (List.forall_mem_cons.mpr ⟨lm_769, (List.forall_mem_cons.mpr ⟨lm_768, (List.forall_mem_cons.mpr ⟨lm_767, (List.forall_mem_cons.mpr ⟨lm_766, (List.forall_mem_cons.mpr ⟨lm_765, (List.forall_mem_cons.mpr ⟨lm_807, (List.forall_mem_cons.mpr ⟨lm_289, (List.forall_mem_cons.mpr ⟨lm_806, (List.forall_mem_cons.mpr ⟨lm_805, (List.forall_mem_cons.mpr ⟨lm_804, (List.forall_mem_cons.mpr ⟨lm_217, (List.forall_mem_cons.mpr ⟨lm_803, (List.forall_mem_cons.mpr ⟨lm_280, (List.forall_mem_cons.mpr ⟨lm_279, (fun _ h => absurd h List.not_mem_nil)⟩)⟩)⟩)⟩)⟩)⟩)⟩)⟩)⟩)⟩)⟩)⟩)⟩)⟩)⟩)⟩)⟩)⟩)⟩)⟩)⟩)⟩)⟩)⟩)
set_option maxRecDepth 100000 in
theorem lr_wsX11_forbid_r4 : ∀ w ∈ wsX11_forbid_r4, lwIn w := (List.forall_mem_cons.mpr ⟨lm_802, (List.forall_mem_cons.mpr ⟨lm_637, (List.forall_mem_cons.mpr ⟨lm_636, (List.forall_mem_cons.mpr ⟨lm_635, (List.forall_mem_cons.mpr ⟨lm_634, (List.forall_mem_cons.mpr ⟨lm_633, (List.forall_mem_cons.mpr ⟨lm_275, (List.forall_mem_cons.mpr ⟨lm_246, (List.forall_mem_cons.mpr ⟨lm_673, (List.forall_mem_cons.mpr ⟨lm_672, (List.forall_mem_cons.mpr ⟨lm_671, (List.forall_mem_cons.mpr ⟨lm_221, (List.forall_mem_cons.mpr ⟨lm_670, (List.forall_mem_cons.mpr ⟨lm_296, (List.forall_mem_cons.mpr ⟨lm_298, (List.forall_mem_cons.mpr ⟨lm_669, (List.forall_mem_cons.mpr ⟨lm_668, (List.forall_mem_cons.mpr ⟨lm_667, (List.forall_mem_cons.mpr ⟨lm_666, (List.forall_mem_cons.mpr ⟨lm_664, (List.forall_mem_cons.mpr ⟨lm_663, (List.forall_mem_cons.mpr ⟨lm_662, (List.forall_mem_cons.mpr ⟨lm_661, (List.forall_mem_cons.mpr ⟨lm_216, (fun _ h => absurd h List.not_mem_nil)⟩)⟩)⟩)⟩)⟩)⟩)⟩)⟩)⟩)⟩)⟩)⟩)⟩)⟩)⟩)⟩)⟩)⟩)⟩)⟩)⟩)⟩)⟩)⟩)
set_option maxRecDepth 100000 in
theorem lr_wsX11_forbid_r5 : ∀ w ∈ wsX11_forbid_r5, lwIn w := (List.forall_mem_cons.mpr ⟨lm_660, (List.forall_mem_cons.mpr ⟨lm_307, (List.forall_mem_cons.mpr ⟨lm_659, (List.forall_mem_cons.mpr ⟨lm_658, (List.forall_mem_cons.mpr ⟨lm_657, (List.forall_mem_cons.mpr ⟨lm_682, (List.forall_mem_cons.mpr ⟨lm_681, (List.forall_mem_cons.mpr ⟨lm_680, (List.forall_mem_cons.mpr ⟨lm_679, (List.forall_mem_cons.mpr ⟨lm_678, (List.forall_mem_cons.mpr ⟨lm_574, (List.forall_mem_cons.mpr ⟨lm_573, (List.forall_mem_cons.mpr ⟨lm_611, (List.forall_mem_cons.mpr ⟨lm_677, (List.forall_mem_cons.mpr ⟨lm_676, (List.forall_mem_cons.mpr ⟨lm_309, (List.forall_mem_cons.mpr ⟨lm_308, (List.forall_mem_cons.mpr ⟨lm_675, (List.forall_mem_cons.mpr ⟨lm_674, (List.forall_mem_cons.mpr ⟨lm_719, (List.forall_mem_cons.mpr ⟨lm_718, (List.forall_mem_cons.mpr ⟨lm_177, (List.forall_mem_cons.mpr ⟨lm_717, (List.forall_mem_cons.mpr ⟨lm_716, (fun _ h => absurd h List.not_mem_nil)⟩)⟩)⟩)⟩)⟩)⟩)⟩)⟩)⟩)⟩)⟩)⟩)⟩)⟩)⟩)⟩)⟩)⟩)⟩)⟩)⟩)⟩)⟩)⟩)
set_option maxRecDepth 100000 in
theorem lr_wsX11_forbid_r6 : ∀ w ∈ wsX11_forbid_r6, lwIn w := (List.forall_mem_cons.mpr ⟨lm_715, (List.forall_mem_cons.mpr ⟨lm_714, (List.forall_mem_cons.mpr ⟨lm_713, (List.forall_mem_cons.mpr ⟨lm_712, (List.forall_mem_cons.mpr ⟨lm_711, (List.forall_mem_cons.mpr ⟨lm_710, (List.forall_mem_cons.mpr ⟨lm_709, (List.forall_mem_cons.mpr ⟨lm_708, (List.forall_mem_cons.mpr ⟨lm_707, (List.forall_mem_cons.mpr ⟨lm_706, (List.forall_mem_cons.mpr ⟨lm_705, (List.forall_mem_cons.mpr ⟨lm_704, (List.forall_mem_cons.mpr ⟨lm_175, (List.forall_mem_cons.mpr ⟨lm_703, (List.forall_mem_cons.mpr ⟨lm_702, (List.forall_mem_cons.mpr ⟨lm_701, (List.forall_mem_cons.mpr ⟨lm_700, (List.forall_mem_cons.mpr ⟨lm_699, (List.forall_mem_cons.mpr ⟨lm_698, (List.forall_mem_cons.mpr ⟨lm_181, (List.forall_mem_cons.mpr ⟨lm_697, (List.forall_mem_cons.mpr ⟨lm_740, (List.forall_mem_cons.mpr ⟨lm_739, (List.forall_mem_cons.mpr ⟨lm_738, (fun _ h => absurd h List.not_mem_nil)⟩)⟩)⟩)⟩)⟩)⟩)⟩)⟩)⟩)⟩)⟩)⟩)⟩)⟩)⟩)⟩)⟩)⟩)⟩)⟩)⟩)⟩)⟩)⟩)
set_option maxRecDepth 100000 in
theorem lr_wsX11_forbid_r7 : ∀ w ∈ wsX11_forbid_r7, lwIn w := (List.forall_mem_cons.mpr ⟨lm_737, (List.forall_mem_cons.mpr ⟨lm_736, (List.forall_mem_cons.mpr ⟨lm_735, (List.forall_mem_cons.mpr ⟨lm_588, (List.forall_mem_cons.mpr ⟨lm_587, (List.forall_mem_cons.mpr ⟨lm_734, (List.forall_mem_cons.mpr ⟨lm_733, (List.forall_mem_cons.mpr ⟨lm_174, (List.forall_mem_cons.mpr ⟨lm_732, (List.forall_mem_cons.mpr ⟨lm_731, (List.forall_mem_cons.mpr ⟨lm_730, (List.forall_mem_cons.mpr ⟨lm_729, (List.forall_mem_cons.mpr ⟨lm_728, (List.forall_mem_cons.mpr ⟨lm_727, (List.forall_mem_cons.mpr ⟨lm_726, (List.forall_mem_cons.mpr ⟨lm_725, (List.forall_mem_cons.mpr ⟨lm_225, (List.forall_mem_cons.mpr ⟨lm_724, (List.forall_mem_cons.mpr ⟨lm_314, (List.forall_mem_cons.mpr ⟨lm_723, (List.forall_mem_cons.mpr ⟨lm_722, (List.forall_mem_cons.mpr ⟨lm_721, (List.forall_mem_cons.mpr ⟨lm_720, (List.forall_mem_cons.mpr ⟨lm_179, (fun _ h => absurd h List.not_mem_nil)⟩)⟩)⟩)⟩)⟩)⟩)⟩)⟩)⟩)⟩)⟩)⟩)⟩)⟩)⟩)⟩)⟩)⟩)⟩)⟩)⟩)⟩)⟩)⟩)
set_option maxRecDepth 100000 in
theorem lr_wsX11_forbid_r8 : ∀ w ∈ wsX11_forbid_r8, lwIn w := (List.forall_mem_cons.mpr ⟨lm_764, (List.forall_mem_cons.mpr ⟨lm_621, (List.forall_mem_cons.mpr ⟨lm_763, (List.forall_mem_cons.mpr ⟨lm_762, (List.forall_mem_cons.mpr ⟨lm_761, (List.forall_mem_cons.mpr ⟨lm_620, (List.forall_mem_cons.mpr ⟨lm_760, (List.forall_mem_cons.mpr ⟨lm_619, (List.forall_mem_cons.mpr ⟨lm_618, (List.forall_mem_cons.mpr ⟨lm_759, (List.forall_mem_cons.mpr ⟨lm_758, (List.forall_mem_cons.mpr ⟨lm_757, (List.forall_mem_cons.mpr ⟨lm_756, (List.forall_mem_cons.mpr ⟨lm_755, (List.forall_mem_cons.mpr ⟨lm_754, (List.forall_mem_cons.mpr ⟨lm_753, (List.forall_mem_cons.mpr ⟨lm_752, (List.forall_mem_cons.mpr ⟨lm_751, (List.forall_mem_cons.mpr ⟨lm_750, (List.forall_mem_cons.mpr ⟨lm_749, (List.forall_mem_cons.mpr ⟨lm_748, (List.forall_mem_cons.mpr ⟨lm_747, (List.forall_mem_cons.mpr ⟨lm_746, (List.forall_mem_cons.mpr ⟨lm_745, (fun _ h => absurd h List.not_mem_nil)⟩)⟩)⟩)⟩)⟩)⟩)⟩)⟩)⟩)⟩)⟩)⟩)⟩)⟩)⟩)⟩)⟩)⟩)⟩)⟩)⟩)⟩)⟩)⟩)
set_option maxRecDepth 100000 in
theorem lr_wsX11_forbid_r9 : ∀ w ∈ wsX11_forbid_r9, lwIn w := (List.forall_mem_cons.mpr ⟨lm_744, (List.forall_mem_cons.mpr ⟨lm_743, (List.forall_mem_cons.mpr ⟨lm_742, (List.forall_mem_cons.mpr ⟨lm_741, (List.forall_mem_cons.mpr ⟨lm_788, (List.forall_mem_cons.mpr ⟨lm_787, (List.forall_mem_cons.mpr ⟨lm_786, (List.forall_mem_cons.mpr ⟨lm_586, (List.forall_mem_cons.mpr ⟨lm_785, (List.forall_mem_cons.mpr ⟨lm_594, (List.forall_mem_cons.mpr ⟨lm_593, (List.forall_mem_cons.mpr ⟨lm_592, (List.forall_mem_cons.mpr ⟨lm_784, (List.forall_mem_cons.mpr ⟨lm_783, (List.forall_mem_cons.mpr ⟨lm_782, (List.forall_mem_cons.mpr ⟨lm_781, (List.forall_mem_cons.mpr ⟨lm_780, (List.forall_mem_cons.mpr ⟨lm_779, (List.forall_mem_cons.mpr ⟨lm_801, (List.forall_mem_cons.mpr ⟨lm_800, (List.forall_mem_cons.mpr ⟨lm_799, (List.forall_mem_cons.mpr ⟨lm_798, (List.forall_mem_cons.mpr ⟨lm_243, (List.forall_mem_cons.mpr ⟨lm_797, (fun _ h => absurd h List.not_mem_nil)⟩)⟩)⟩)⟩)⟩)⟩)⟩)⟩)⟩)⟩)⟩)⟩)⟩)⟩)⟩)⟩)⟩)⟩)⟩)⟩)⟩)⟩)⟩)⟩)
set_option maxRecDepth 100000 in
theorem lr_wsX11_forbid_r10 : ∀ w ∈ wsX11_forbid_r10, lwIn w := (List.forall_mem_cons.mpr ⟨lm_796, (List.forall_mem_cons.mpr ⟨lm_795, (List.forall_mem_cons.mpr ⟨lm_794, (List.forall_mem_cons.mpr ⟨lm_793, (List.forall_mem_cons.mpr ⟨lm_792, (List.forall_mem_cons.mpr ⟨lm_791, (List.forall_mem_cons.mpr ⟨lm_790, (List.forall_mem_cons.mpr ⟨lm_789, (List.forall_mem_cons.mpr ⟨lm_811, (List.forall_mem_cons.mpr ⟨lm_810, (List.forall_mem_cons.mpr ⟨lm_809, (List.forall_mem_cons.mpr ⟨lm_808, (List.forall_mem_cons.mpr ⟨lm_604, (List.forall_mem_cons.mpr ⟨lm_603, (List.forall_mem_cons.mpr ⟨lm_575, (fun _ h => absurd h List.not_mem_nil)⟩)⟩)⟩)⟩)⟩)⟩)⟩)⟩)⟩)⟩)⟩)⟩)⟩)⟩)⟩)
set_option maxRecDepth 100000 in
theorem lr_wsX11_forbid : ∀ w ∈ wsX11_forbid, lwIn w := List.forall_mem_cons.mpr ⟨lm_1173, (List.forall_mem_append.mpr ⟨(List.forall_mem_append.mpr ⟨(List.forall_mem_append.mpr ⟨(List.forall_mem_append.mpr ⟨(List.forall_mem_append.mpr ⟨(List.forall_mem_append.mpr ⟨(List.forall_mem_append.mpr ⟨(List.forall_mem_append.mpr ⟨(List.forall_mem_append.mpr ⟨(List.forall_mem_append.mpr ⟨(List.forall_mem_append.mpr ⟨(List.forall_mem_append.mpr ⟨lr_wsX11_forbid_r1, (List.forall_mem_append.mpr ⟨lr_wsX11_forbid_r2, (List.forall_mem_append.mpr ⟨lr_wsX11_forbid_r3, (List.forall_mem_append.mpr ⟨lr_wsX11_forbid_r4, (List.forall_mem_append.mpr ⟨lr_wsX11_forbid_r5, (List.forall_mem_append.mpr ⟨lr_wsX11_forbid_r6, (List.forall_mem_append.mpr ⟨lr_wsX11_forbid_r7, (List.forall_mem_append.mpr ⟨lr_wsX11_forbid_r8, (List.forall_mem_append.mpr ⟨lr_wsX11_forbid_r9, lr_wsX11_forbid_r10⟩)⟩)⟩)⟩)⟩)⟩)⟩)⟩)⟩), la_0⟩), la_3⟩), la_6⟩), la_7⟩), la_8⟩), la_9⟩), la_4⟩), la_10⟩), la_12⟩), la_13⟩), la_11⟩)⟩
set_option maxRecDepth 100000 in
theorem lr_wsW_forbid : ∀ w ∈ wsW_forbid, lwIn w := List.forall_mem_cons.mpr ⟨lm_1170, (List.forall_mem_append.mpr ⟨(List.forall_mem_cons.mpr ⟨lm_198, (List.forall_mem_cons.mpr ⟨lm_190, (List.forall_mem_cons.mpr ⟨lm_209, (List.forall_mem_cons.mpr ⟨lm_52, (List.forall_mem_cons.mpr ⟨lm_1172, (List.forall_mem_cons.mpr ⟨lm_1171, (List.forall_mem_cons.mpr ⟨lm_238, (fun _ h => absurd h List.not_mem_nil)⟩)⟩)⟩)⟩)⟩)⟩)⟩), lr_wsX11_forbid⟩)⟩
set_option maxRecDepth 100000 in
theorem lr_wsX12_forbid_r1 : ∀ w ∈ wsX12_forbid_r1, lwIn w := (List.forall_mem_cons.mpr ⟨lm_432, (List.forall_mem_cons.mpr ⟨lm_360, (List.forall_mem_cons.mpr ⟨lm_357, (List.forall_mem_cons.mpr ⟨lm_361, (List.forall_mem_cons.mpr ⟨lm_339, (List.forall_mem_cons.mpr ⟨lm_924, (List.forall_mem_cons.mpr ⟨lm_923, (List.forall_mem_cons.mpr ⟨lm_922, (List.forall_mem_cons.mpr ⟨lm_235, (List.forall_mem_cons.mpr ⟨lm_921, (List.forall_mem_cons.mpr ⟨lm_341, (List.forall_mem_cons.mpr ⟨lm_402, (List.forall_mem_cons.mpr ⟨lm_401, (List.forall_mem_cons.mpr ⟨lm_400, (List.forall_mem_cons.mpr ⟨lm_430, (List.forall_mem_cons.mpr ⟨lm_429, (List.forall_mem_cons.mpr ⟨lm_428, (List.forall_mem_cons.mpr ⟨lm_427, (List.forall_mem_cons.mpr ⟨lm_1178, (List.forall_mem_cons.mpr ⟨lm_1177, (List.forall_mem_cons.mpr ⟨lm_1176, (List.forall_mem_cons.mpr ⟨lm_1175, (List.forall_mem_cons.mpr ⟨lm_380, (List.forall_mem_cons.mpr ⟨lm_379, (fun _ h => absurd h List.not_mem_nil)⟩)⟩)⟩)⟩)⟩)⟩)⟩)⟩)⟩)⟩)⟩)⟩)⟩)⟩)⟩)⟩)⟩)⟩)⟩)⟩)⟩)⟩)⟩)⟩)
set_option maxRecDepth 100000 in
theorem lr_wsX12_forbid_r2 : ∀ w ∈ wsX12_forbid_r2, lwIn w := (List.forall_mem_cons.mpr ⟨lm_378, (List.forall_mem_cons.mpr ⟨lm_391, (List.forall_mem_cons.mpr ⟨lm_390, (List.forall_mem_cons.mpr ⟨lm_415, (List.forall_mem_cons.mpr ⟨lm_414, (List.forall_mem_cons.mpr ⟨lm_338, (List.forall_mem_cons.mpr ⟨lm_356, (List.forall_mem_cons.mpr ⟨lm_355, (List.forall_mem_cons.mpr ⟨lm_354, (List.forall_mem_cons.mpr ⟨lm_353, (List.forall_mem_cons.mpr ⟨lm_359, (List.forall_mem_cons.mpr ⟨lm_336, (List.forall_mem_cons.mpr ⟨lm_352, (List.forall_mem_cons.mpr ⟨lm_351, (List.forall_mem_cons.mpr ⟨lm_350, (List.forall_mem_cons.mpr ⟨lm_349, (List.forall_mem_cons.mpr ⟨lm_348, (List.forall_mem_cons.mpr ⟨lm_347, (List.forall_mem_cons.mpr ⟨lm_346, (List.forall_mem_cons.mpr ⟨lm_345, (List.forall_mem_cons.mpr ⟨lm_344, (List.forall_mem_cons.mpr ⟨lm_343, (List.forall_mem_cons.mpr ⟨lm_389, (List.forall_mem_cons.mpr ⟨lm_388, (fun _ h => absurd h List.not_mem_nil)⟩)⟩)⟩)⟩)⟩)⟩)⟩)⟩)⟩)⟩)⟩)⟩)⟩)⟩)⟩)⟩)⟩)⟩)⟩)⟩)⟩)⟩)⟩)⟩)
set_option maxRecDepth 100000 in
theorem lr_wsX12_forbid_r3 : ∀ w ∈ wsX12_forbid_r3, lwIn w := (List.forall_mem_cons.mpr ⟨lm_387, (List.forall_mem_cons.mpr ⟨lm_386, (List.forall_mem_cons.mpr ⟨lm_385, (List.forall_mem_cons.mpr ⟨lm_384, (List.forall_mem_cons.mpr ⟨lm_383, (List.forall_mem_cons.mpr ⟨lm_382, (List.forall_mem_cons.mpr ⟨lm_381, (List.forall_mem_cons.mpr ⟨lm_377, (List.forall_mem_cons.mpr ⟨lm_376, (List.forall_mem_cons.mpr ⟨lm_375, (List.forall_mem_cons.mpr ⟨lm_374, (List.forall_mem_cons.mpr ⟨lm_332, (List.forall_mem_cons.mpr ⟨lm_373, (List.forall_mem_cons.mpr ⟨lm_372, (List.forall_mem_cons.mpr ⟨lm_371, (List.forall_mem_cons.mpr ⟨lm_370, (List.forall_mem_cons.mpr ⟨lm_369, (List.forall_mem_cons.mpr ⟨lm_368, (List.forall_mem_cons.mpr ⟨lm_367, (List.forall_mem_cons.mpr ⟨lm_366, (List.forall_mem_cons.mpr ⟨lm_413, (List.forall_mem_cons.mpr ⟨lm_412, (List.forall_mem_cons.mpr ⟨lm_411, (List.forall_mem_cons.mpr ⟨lm_410, (fun _ h => absurd h List.not_mem_nil)⟩)⟩)⟩)⟩)⟩)⟩)⟩)⟩)⟩)⟩)⟩)⟩)⟩)⟩)⟩)⟩)⟩)⟩)⟩)⟩)⟩)⟩)⟩)⟩)
set_option maxRecDepth 100000 in
theorem lr_wsX12_forbid_r4 : ∀ w ∈ wsX12_forbid_r4, lwIn w := (List.forall_mem_cons.mpr ⟨lm_409, (List.forall_mem_cons.mpr ⟨lm_408, (List.forall_mem_cons.mpr ⟨lm_407, (List.forall_mem_cons.mpr ⟨lm_406, (List.forall_mem_cons.mpr ⟨lm_405, (List.forall_mem_cons.mpr ⟨lm_404, (List.forall_mem_cons.mpr ⟨lm_403, (List.forall_mem_cons.mpr ⟨lm_399, (List.forall_mem_cons.mpr ⟨lm_398, (List.forall_mem_cons.mpr ⟨lm_397, (List.forall_mem_cons.mpr ⟨lm_396, (List.forall_mem_cons.mpr ⟨lm_395, (List.forall_mem_cons.mpr ⟨lm_394, (List.forall_mem_cons.mpr ⟨lm_393, (List.forall_mem_cons.mpr ⟨lm_392, (List.forall_mem_cons.mpr ⟨lm_1182, (List.forall_mem_cons.mpr ⟨lm_1181, (List.forall_mem_cons.mpr ⟨lm_1180, (List.forall_mem_cons.mpr ⟨lm_1179, (fun _ h => absurd h List.not_mem_nil)⟩)⟩)⟩)⟩)⟩)⟩)⟩)⟩)⟩)⟩)⟩)⟩)⟩)⟩)⟩)⟩)⟩)⟩)⟩)
set_option maxRecDepth 100000 in
theorem lr_wsX12_forbid : ∀ w ∈ wsX12_forbid, lwIn w := List.forall_mem_cons.mpr ⟨lm_1174, (List.forall_mem_append.mpr ⟨(List.forall_mem_append.mpr ⟨lr_wsX12_forbid_r1, (List.forall_mem_append.mpr ⟨lr_wsX12_forbid_r2, (List.forall_mem_append.mpr ⟨lr_wsX12_forbid_r3, lr_wsX12_forbid_r4⟩)⟩)⟩), la_1⟩)⟩
set_option maxRecDepth 100000 in
theorem lr_wsX11_decide_r1 : ∀ w ∈ wsX11_decide_r1, lwIn w := (List.forall_mem_cons.mpr ⟨lm_438, (List.forall_mem_cons.mpr ⟨lm_196, (List.forall_mem_cons.mpr ⟨lm_453, (List.forall_mem_cons.mpr ⟨lm_188, (List.forall_mem_cons.mpr ⟨lm_425, (List.forall_mem_cons.mpr ⟨lm_207, (List.forall_mem_cons.mpr ⟨lm_249, (List.forall_mem_cons.mpr ⟨lm_665, (List.forall_mem_cons.mpr ⟨lm_448, (List.forall_mem_cons.mpr ⟨lm_919, (List.forall_mem_cons.mpr ⟨lm_918, (List.forall_mem_cons.mpr ⟨lm_917, (List.forall_mem_cons.mpr ⟨lm_238, (List.forall_mem_cons.mpr ⟨lm_916, (List.forall_mem_cons.mpr ⟨lm_276, (List.forall_mem_cons.mpr ⟨lm_451, (List.forall_mem_cons.mpr ⟨lm_686, (List.forall_mem_cons.mpr ⟨lm_685, (List.forall_mem_cons.mpr ⟨lm_183, (List.forall_mem_cons.mpr ⟨lm_684, (List.forall_mem_cons.mpr ⟨lm_591, (List.forall_mem_cons.mpr ⟨lm_590, (List.forall_mem_cons.mpr ⟨lm_683, (List.forall_mem_cons.mpr ⟨lm_565, (fun _ h => absurd h List.not_mem_nil)⟩)⟩)⟩)⟩)⟩)⟩)⟩)⟩)⟩)⟩)⟩)⟩)⟩)⟩)⟩)⟩)⟩)⟩)⟩)⟩)⟩)⟩)⟩)⟩)
set_option maxRecDepth 100000 in
theorem lr_wsX11_decide_r2 : ∀ w ∈ wsX11_decide_r2, lwIn w := (List.forall_mem_cons.mpr ⟨lm_564, (List.forall_mem_cons.mpr ⟨lm_902, (List.forall_mem_cons.mpr ⟨lm_901, (List.forall_mem_cons.mpr ⟨lm_900, (List.forall_mem_cons.mpr ⟨lm_899, (List.forall_mem_cons.mpr ⟨lm_898, (List.forall_mem_cons.mpr ⟨lm_710, (List.forall_mem_cons.mpr ⟨lm_709, (List.forall_mem_cons.mpr ⟨lm_897, (List.forall_mem_cons.mpr ⟨lm_704, (List.forall_mem_cons.mpr ⟨lm_175, (List.forall_mem_cons.mpr ⟨lm_703, (List.forall_mem_cons.mpr ⟨lm_702, (List.forall_mem_cons.mpr ⟨lm_701, (List.forall_mem_cons.mpr ⟨lm_700, (List.forall_mem_cons.mpr ⟨lm_656, (List.forall_mem_cons.mpr ⟨lm_655, (List.forall_mem_cons.mpr ⟨lm_654, (List.forall_mem_cons.mpr ⟨lm_227, (List.forall_mem_cons.mpr ⟨lm_653, (List.forall_mem_cons.mpr ⟨lm_284, (List.forall_mem_cons.mpr ⟨lm_287, (List.forall_mem_cons.mpr ⟨lm_652, (List.forall_mem_cons.mpr ⟨lm_651, (fun _ h => absurd h List.not_mem_nil)⟩)⟩)⟩)⟩)⟩)⟩)⟩)⟩)⟩)⟩)⟩)⟩)⟩)⟩)⟩)⟩)⟩)⟩)⟩)⟩)⟩)⟩)⟩)⟩)
set_option maxRecDepth 100000 in
theorem lr_wsX11_decide_r3 : ∀ w ∈ wsX11_decide_r3, lwIn w := (List.forall_mem_cons.mpr ⟨lm_650, (List.forall_mem_cons.mpr ⟨lm_696, (List.forall_mem_cons.mpr ⟨lm_695, (List.forall_mem_cons.mpr ⟨lm_694, (List.forall_mem_cons.mpr ⟨lm_693, (List.forall_mem_cons.mpr ⟨lm_692, (List.forall_mem_cons.mpr ⟨lm_691, (List.forall_mem_cons.mpr ⟨lm_176, (List.forall_mem_cons.mpr ⟨lm_690, (List.forall_mem_cons.mpr ⟨lm_689, (List.forall_mem_cons.mpr ⟨lm_688, (List.forall_mem_cons.mpr ⟨lm_687, (List.forall_mem_cons.mpr ⟨lm_1195, (List.forall_mem_cons.mpr ⟨lm_1194, (List.forall_mem_cons.mpr ⟨lm_1193, (List.forall_mem_cons.mpr ⟨lm_1192, (List.forall_mem_cons.mpr ⟨lm_274, (List.forall_mem_cons.mpr ⟨lm_1191, (List.forall_mem_cons.mpr ⟨lm_1190, (List.forall_mem_cons.mpr ⟨lm_1189, (List.forall_mem_cons.mpr ⟨lm_1188, (List.forall_mem_cons.mpr ⟨lm_285, (List.forall_mem_cons.mpr ⟨lm_288, (List.forall_mem_cons.mpr ⟨lm_1187, (fun _ h => absurd h List.not_mem_nil)⟩)⟩)⟩)⟩)⟩)⟩)⟩)⟩)⟩)⟩)⟩)⟩)⟩)⟩)⟩)⟩)⟩)⟩)⟩)⟩)⟩)⟩)⟩)⟩)
set_option maxRecDepth 100000 in
theorem lr_wsX11_decide_r4 : ∀ w ∈ wsX11_decide_r4, lwIn w := (List.forall_mem_cons.mpr ⟨lm_1197, (List.forall_mem_cons.mpr ⟨lm_1196, (List.forall_mem_cons.mpr ⟨lm_777, (List.forall_mem_cons.mpr ⟨lm_776, (List.forall_mem_cons.mpr ⟨lm_775, (List.forall_mem_cons.mpr ⟨lm_286, (List.forall_mem_cons.mpr ⟨lm_774, (List.forall_mem_cons.mpr ⟨lm_773, (List.forall_mem_cons.mpr ⟨lm_772, (List.forall_mem_cons.mpr ⟨lm_771, (List.forall_mem_cons.mpr ⟨lm_770, (List.forall_mem_cons.mpr ⟨lm_769, (List.forall_mem_cons.mpr ⟨lm_768, (List.forall_mem_cons.mpr ⟨lm_767, (List.forall_mem_cons.mpr ⟨lm_766, (List.forall_mem_cons.mpr ⟨lm_765, (List.forall_mem_cons.mpr ⟨lm_807, (List.forall_mem_cons.mpr ⟨lm_289, (List.forall_mem_cons.mpr ⟨lm_806, (List.forall_mem_cons.mpr ⟨lm_805, (List.forall_mem_cons.mpr ⟨lm_804, (List.forall_mem_cons.mpr ⟨lm_217, (List.forall_mem_cons.mpr ⟨lm_803, (List.forall_mem_cons.mpr ⟨lm_280, (fun _ h => absurd h List.not_mem_nil)⟩)⟩)⟩)⟩)⟩)⟩)⟩)⟩)⟩)⟩)⟩)⟩)⟩)⟩)⟩)⟩)⟩)⟩)⟩)⟩)⟩)⟩)⟩)⟩)
set_option maxRecDepth 100000 in
theorem lr_wsX11_decide_r5 : ∀ w ∈ wsX11_decide_r5, lwIn w := (List.forall_mem_cons.mpr ⟨lm_279, (List.forall_mem_cons.mpr ⟨lm_802, (List.forall_mem_cons.mpr ⟨lm_637, (List.forall_mem_cons.mpr ⟨lm_636, (List.forall_mem_cons.mpr ⟨lm_635, (List.forall_mem_cons.mpr ⟨lm_634, (List.forall_mem_cons.mpr ⟨lm_633, (List.forall_mem_cons.mpr ⟨lm_275, (List.forall_mem_cons.mpr ⟨lm_246, (List.forall_mem_cons.mpr ⟨lm_673, (List.forall_mem_cons.mpr ⟨lm_672, (List.forall_mem_cons.mpr ⟨lm_671, (List.forall_mem_cons.mpr ⟨lm_221, (List.forall_mem_cons.mpr ⟨lm_670, (List.forall_mem_cons.mpr ⟨lm_296, (List.forall_mem_cons.mpr ⟨lm_298, (List.forall_mem_cons.mpr ⟨lm_669, (List.forall_mem_cons.mpr ⟨lm_668, (List.forall_mem_cons.mpr ⟨lm_667, (List.forall_mem_cons.mpr ⟨lm_666, (List.forall_mem_cons.mpr ⟨lm_664, (List.forall_mem_cons.mpr ⟨lm_663, (List.forall_mem_cons.mpr ⟨lm_662, (List.forall_mem_cons.mpr ⟨lm_661, (fun _ h => absurd h List.not_mem_nil)⟩)⟩)⟩)⟩)⟩)⟩)⟩)⟩)⟩)⟩)⟩)⟩)⟩)⟩)⟩)⟩)⟩)⟩)⟩)⟩)⟩)⟩)⟩)⟩)
set_option maxRecDepth 100000 in
theorem lr_wsX11_decide_r6 : ∀ w ∈ wsX11_decide_r6, lwIn w := (List.forall_mem_cons.mpr ⟨lm_216, (List.forall_mem_cons.mpr ⟨lm_660, (List.forall_mem_cons.mpr ⟨lm_307, (List.forall_mem_cons.mpr ⟨lm_659, (List.forall_mem_cons.mpr ⟨lm_658, (List.forall_mem_cons.mpr ⟨lm_657, (List.forall_mem_cons.mpr ⟨lm_682, (List.forall_mem_cons.mpr ⟨lm_681, (List.forall_mem_cons.mpr ⟨lm_680, (List.forall_mem_cons.mpr ⟨lm_679, (List.forall_mem_cons.mpr ⟨lm_678, (List.forall_mem_cons.mpr ⟨lm_574, (List.forall_mem_cons.mpr ⟨lm_573, (List.forall_mem_cons.mpr ⟨lm_611, (List.forall_mem_cons.mpr ⟨lm_677, (List.forall_mem_cons.mpr ⟨lm_676, (List.forall_mem_cons.mpr ⟨lm_309, (List.forall_mem_cons.mpr ⟨lm_308, (List.forall_mem_cons.mpr ⟨lm_675, (List.forall_mem_cons.mpr ⟨lm_674, (List.forall_mem_cons.mpr ⟨lm_719, (List.forall_mem_cons.mpr ⟨lm_718, (List.forall_mem_cons.mpr ⟨lm_177, (List.forall_mem_cons.mpr ⟨lm_717, (fun _ h => absurd h List.not_mem_nil)⟩)⟩)⟩)⟩)⟩)⟩)⟩)⟩)⟩)⟩)⟩)⟩)⟩)⟩)⟩)⟩)⟩)⟩)⟩)⟩)⟩)⟩)⟩)⟩)
set_option maxRecDepth 100000 in
theorem lr_wsX11_decide_r7 : ∀ w ∈ wsX11_decide_r7, lwIn w := (List.forall_mem_cons.mpr ⟨lm_716, (List.forall_mem_cons.mpr ⟨lm_715, (List.forall_mem_cons.mpr ⟨lm_714, (List.forall_mem_cons.mpr ⟨lm_713, (List.forall_mem_cons.mpr ⟨lm_712, (List.forall_mem_cons.mpr ⟨lm_711, (List.forall_mem_cons.mpr ⟨lm_708, (List.forall_mem_cons.mpr ⟨lm_707, (List.forall_mem_cons.mpr ⟨lm_706, (List.forall_mem_cons.mpr ⟨lm_705, (List.forall_mem_cons.mpr ⟨lm_699, (List.forall_mem_cons.mpr ⟨lm_698, (List.forall_mem_cons.mpr ⟨lm_181, (List.forall_mem_cons.mpr ⟨lm_697, (List.forall_mem_cons.mpr ⟨lm_740, (List.forall_mem_cons.mpr ⟨lm_739, (List.forall_mem_cons.mpr ⟨lm_738, (List.forall_mem_cons.mpr ⟨lm_737, (List.forall_mem_cons.mpr ⟨lm_736, (List.forall_mem_cons.mpr ⟨lm_735, (List.forall_mem_cons.mpr ⟨lm_588, (List.forall_mem_cons.mpr ⟨lm_587, (List.forall_mem_cons.mpr ⟨lm_734, (List.forall_mem_cons.mpr ⟨lm_733, (fun _ h => absurd h List.not_mem_nil)⟩)⟩)⟩)⟩)⟩)⟩)⟩)⟩)⟩)⟩)⟩)⟩)⟩)⟩)⟩)⟩)⟩)⟩)⟩)⟩)⟩)⟩)⟩)⟩)
set_option maxRecDepth 100000 in
theorem lr_wsX11_decide_r8 : ∀ w ∈ wsX11_decide_r8, lwIn w := (List.forall_mem_cons.mpr ⟨lm_174, (List.forall_mem_cons.mpr ⟨lm_732, (List.forall_mem_cons.mpr ⟨lm_731, (List.forall_mem_cons.mpr ⟨lm_730, (List.forall_mem_cons.mpr ⟨lm_729, (List.forall_mem_cons.mpr ⟨lm_728, (List.forall_mem_cons.mpr ⟨lm_727, (List.forall_mem_cons.mpr ⟨lm_726, (List.forall_mem_cons.mpr ⟨lm_725, (List.forall_mem_cons.mpr ⟨lm_225, (List.forall_mem_cons.mpr ⟨lm_724, (List.forall_mem_cons.mpr ⟨lm_314, (List.forall_mem_cons.mpr ⟨lm_723, (List.forall_mem_cons.mpr ⟨lm_722, (List.forall_mem_cons.mpr ⟨lm_721, (List.forall_mem_cons.mpr ⟨lm_720, (List.forall_mem_cons.mpr ⟨lm_179, (List.forall_mem_cons.mpr ⟨lm_764, (List.forall_mem_cons.mpr ⟨lm_621, (List.forall_mem_cons.mpr ⟨lm_763, (List.forall_mem_cons.mpr ⟨lm_762, (List.forall_mem_cons.mpr ⟨lm_761, (List.forall_mem_cons.mpr ⟨lm_620, (List.forall_mem_cons.mpr ⟨lm_760, (fun _ h => absurd h List.not_mem_nil)⟩)⟩)⟩)⟩)⟩)⟩)⟩)⟩)⟩)⟩)⟩)⟩)⟩)⟩)⟩)⟩)⟩)⟩)⟩)⟩)⟩)⟩)⟩)⟩)
set_option maxRecDepth 100000 in
theorem lr_wsX11_decide_r9 : ∀ w ∈ wsX11_decide_r9, lwIn w := (List.forall_mem_cons.mpr ⟨lm_619, (List.forall_mem_cons.mpr ⟨lm_618, (List.forall_mem_cons.mpr ⟨lm_759, (List.forall_mem_cons.mpr ⟨lm_758, (List.forall_mem_cons.mpr ⟨lm_757, (List.forall_mem_cons.mpr ⟨lm_756, (List.forall_mem_cons.mpr ⟨lm_755, (List.forall_mem_cons.mpr ⟨lm_754, (List.forall_mem_cons.mpr ⟨lm_753, (List.forall_mem_cons.mpr ⟨lm_752, (List.forall_mem_cons.mpr ⟨lm_751, (List.forall_mem_cons.mpr ⟨lm_750, (List.forall_mem_cons.mpr ⟨lm_749, (List.forall_mem_cons.mpr ⟨lm_748, (List.forall_mem_cons.mpr ⟨lm_747, (List.forall_mem_cons.mpr ⟨lm_746, (List.forall_mem_cons.mpr ⟨lm_745, (List.forall_mem_cons.mpr ⟨lm_744, (List.forall_mem_cons.mpr ⟨lm_743, (List.forall_mem_cons.mpr ⟨lm_742, (List.forall_mem_cons.mpr ⟨lm_741, (List.forall_mem_cons.mpr ⟨lm_788, (List.forall_mem_cons.mpr ⟨lm_787, (List.forall_mem_cons.mpr ⟨lm_786, (fun _ h => absurd h List.not_mem_nil)⟩)⟩)⟩)⟩)⟩)⟩)⟩)⟩)⟩)⟩)⟩)⟩)⟩)⟩)⟩)⟩)⟩)⟩)⟩)⟩)⟩)⟩)⟩)⟩)
set_option maxRecDepth 100000 in
theorem lr_wsX11_decide_r10 : ∀ w ∈ wsX11_decide_r10, lwIn w := (List.forall_mem_cons.mpr ⟨lm_586, (List.forall_mem_cons.mpr ⟨lm_785, (List.forall_mem_cons.mpr ⟨lm_594, (List.forall_mem_cons.mpr ⟨lm_593, (List.forall_mem_cons.mpr ⟨lm_592, (List.forall_mem_cons.mpr ⟨lm_784, (List.forall_mem_cons.mpr ⟨lm_783, (List.forall_mem_cons.mpr ⟨lm_782, (List.forall_mem_cons.mpr ⟨lm_781, (List.forall_mem_cons.mpr ⟨lm_780, (List.forall_mem_cons.mpr ⟨lm_779, (List.forall_mem_cons.mpr ⟨lm_778, (List.forall_mem_cons.mpr ⟨lm_801, (List.forall_mem_cons.mpr ⟨lm_800, (List.forall_mem_cons.mpr ⟨lm_799, (List.forall_mem_cons.mpr ⟨lm_798, (List.forall_mem_cons.mpr ⟨lm_243, (List.forall_mem_cons.mpr ⟨lm_797, (List.forall_mem_cons.mpr ⟨lm_796, (List.forall_mem_cons.mpr ⟨lm_795, (List.forall_mem_cons.mpr ⟨lm_794, (List.forall_mem_cons.mpr ⟨lm_793, (List.forall_mem_cons.mpr ⟨lm_792, (List.forall_mem_cons.mpr ⟨lm_791, (fun _ h => absurd h List.not_mem_nil)⟩)⟩)⟩)⟩)⟩)⟩)⟩)⟩)⟩)⟩)⟩)⟩)⟩)⟩)⟩)⟩)⟩)⟩)⟩)⟩)⟩)⟩)⟩)⟩)
set_option maxRecDepth 100000 in
theorem lr_wsX11_decide_r11 : ∀ w ∈ wsX11_decide_r11, lwIn w := (List.forall_mem_cons.mpr ⟨lm_790, (List.forall_mem_cons.mpr ⟨lm_789, (List.forall_mem_cons.mpr ⟨lm_811, (List.forall_mem_cons.mpr ⟨lm_810, (List.forall_mem_cons.mpr ⟨lm_809, (List.forall_mem_cons.mpr ⟨lm_808, (List.forall_mem_cons.mpr ⟨lm_604, (List.forall_mem_cons.mpr ⟨lm_603, (List.forall_mem_cons.mpr ⟨lm_575, (fun _ h => absurd h List.not_mem_nil)⟩)⟩)⟩)⟩)⟩)⟩)⟩)⟩)⟩)
set_option maxRecDepth 100000 in
theorem lr_wsX11_decide : ∀ w ∈ wsX11_decide, lwIn w := List.forall_mem_cons.mpr ⟨lm_1186, (List.forall_mem_append.mpr ⟨(List.forall_mem_append.mpr ⟨(List.forall_mem_append.mpr ⟨(List.forall_mem_append.mpr ⟨(List.forall_mem_append.mpr ⟨(List.forall_mem_append.mpr ⟨(List.forall_mem_append.mpr ⟨(List.forall_mem_append.mpr ⟨(List.forall_mem_append.mpr ⟨(List.forall_mem_append.mpr ⟨(List.forall_mem_append.mpr ⟨(List.forall_mem_append.mpr ⟨lr_wsX11_decide_r1, (List.forall_mem_append.mpr ⟨lr_wsX11_decide_r2, (List.forall_mem_append.mpr ⟨lr_wsX11_decide_r3, (List.forall_mem_append.mpr ⟨lr_wsX11_decide_r4, (List.forall_mem_append.mpr ⟨lr_wsX11_decide_r5, (List.forall_mem_append.mpr ⟨lr_wsX11_decide_r6, (List.forall_mem_append.mpr ⟨lr_wsX11_decide_r7, (List.forall_mem_append.mpr ⟨lr_wsX11_decide_r8, (List.forall_mem_append.mpr ⟨lr_wsX11_decide_r9, (List.forall_mem_append.mpr ⟨lr_wsX11_decide_r10, lr_wsX11_decide_r11⟩)⟩)⟩)⟩)⟩)⟩)⟩)⟩)⟩)⟩), la_0⟩), la_3⟩), la_6⟩), la_7⟩), la_8⟩), la_9⟩), la_4⟩), la_10⟩), la_12⟩), la_13⟩), la_11⟩)⟩
set_option maxRecDepth 100000 in
theorem lr_wsW_decide : ∀ w ∈ wsW_decide, lwIn w := List.forall_mem_cons.mpr ⟨lm_1183, (List.forall_mem_append.mpr ⟨(List.forall_mem_cons.mpr ⟨lm_198, (List.forall_mem_cons.mpr ⟨lm_190, (List.forall_mem_cons.mpr ⟨lm_209, (List.forall_mem_cons.mpr ⟨lm_46, (List.forall_mem_cons.mpr ⟨lm_1185, (List.forall_mem_cons.mpr ⟨lm_1184, (List.forall_mem_cons.mpr ⟨lm_238, (fun _ h => absurd h List.not_mem_nil)⟩)⟩)⟩)⟩)⟩)⟩)⟩), lr_wsX11_decide⟩)⟩
set_option maxRecDepth 100000 in
theorem lr_wsX12_decide_r1 : ∀ w ∈ wsX12_decide_r1, lwIn w := (List.forall_mem_cons.mpr ⟨lm_432, (List.forall_mem_cons.mpr ⟨lm_358, (List.forall_mem_cons.mpr ⟨lm_1202, (List.forall_mem_cons.mpr ⟨lm_1201, (List.forall_mem_cons.mpr ⟨lm_1200, (List.forall_mem_cons.mpr ⟨lm_235, (List.forall_mem_cons.mpr ⟨lm_1199, (List.forall_mem_cons.mpr ⟨lm_339, (List.forall_mem_cons.mpr ⟨lm_357, (List.forall_mem_cons.mpr ⟨lm_924, (List.forall_mem_cons.mpr ⟨lm_923, (List.forall_mem_cons.mpr ⟨lm_922, (List.forall_mem_cons.mpr ⟨lm_921, (List.forall_mem_cons.mpr ⟨lm_341, (List.forall_mem_cons.mpr ⟨lm_402, (List.forall_mem_cons.mpr ⟨lm_401, (List.forall_mem_cons.mpr ⟨lm_400, (List.forall_mem_cons.mpr ⟨lm_430, (List.forall_mem_cons.mpr ⟨lm_429, (List.forall_mem_cons.mpr ⟨lm_428, (List.forall_mem_cons.mpr ⟨lm_427, (List.forall_mem_cons.mpr ⟨lm_1178, (List.forall_mem_cons.mpr ⟨lm_1177, (List.forall_mem_cons.mpr ⟨lm_1176, (fun _ h => absurd h List.not_mem_nil)⟩)⟩)⟩)⟩)⟩)⟩)⟩)⟩)⟩)⟩)⟩)⟩)⟩)⟩)⟩)⟩)⟩)⟩)⟩)⟩)⟩)⟩)⟩)⟩)
set_option maxRecDepth 100000 in
theorem lr_wsX12_decide_r2 : ∀ w ∈ wsX12_decide_r2, lwIn w := (List.forall_mem_cons.mpr ⟨lm_1175, (List.forall_mem_cons.mpr ⟨lm_380, (List.forall_mem_cons.mpr ⟨lm_379, (List.forall_mem_cons.mpr ⟨lm_378, (List.forall_mem_cons.mpr ⟨lm_405, (List.forall_mem_cons.mpr ⟨lm_404, (List.forall_mem_cons.mpr ⟨lm_403, (List.forall_mem_cons.mpr ⟨lm_1206, (List.forall_mem_cons.mpr ⟨lm_1205, (List.forall_mem_cons.mpr ⟨lm_1204, (List.forall_mem_cons.mpr ⟨lm_1203, (List.forall_mem_cons.mpr ⟨lm_361, (List.forall_mem_cons.mpr ⟨lm_337, (List.forall_mem_cons.mpr ⟨lm_360, (List.forall_mem_cons.mpr ⟨lm_391, (List.forall_mem_cons.mpr ⟨lm_390, (List.forall_mem_cons.mpr ⟨lm_415, (List.forall_mem_cons.mpr ⟨lm_414, (List.forall_mem_cons.mpr ⟨lm_338, (List.forall_mem_cons.mpr ⟨lm_356, (List.forall_mem_cons.mpr ⟨lm_355, (List.forall_mem_cons.mpr ⟨lm_354, (List.forall_mem_cons.mpr ⟨lm_353, (List.forall_mem_cons.mpr ⟨lm_359, (fun _ h => absurd h List.not_mem_nil)⟩)⟩)⟩)⟩)⟩)⟩)⟩)⟩)⟩)⟩)⟩)⟩)⟩)⟩)⟩)⟩)⟩)⟩)⟩)⟩)⟩)⟩)⟩)⟩)
set_option maxRecDepth 100000 in
theorem lr_wsX12_decide_r3 : ∀ w ∈ wsX12_decide_r3, lwIn w := (List.forall_mem_cons.mpr ⟨lm_336, (List.forall_mem_cons.mpr ⟨lm_352, (List.forall_mem_cons.mpr ⟨lm_351, (List.forall_mem_cons.mpr ⟨lm_350, (List.forall_mem_cons.mpr ⟨lm_349, (List.forall_mem_cons.mpr ⟨lm_348, (List.forall_mem_cons.mpr ⟨lm_347, (List.forall_mem_cons.mpr ⟨lm_346, (List.forall_mem_cons.mpr ⟨lm_345, (List.forall_mem_cons.mpr ⟨lm_344, (List.forall_mem_cons.mpr ⟨lm_343, (List.forall_mem_cons.mpr ⟨lm_389, (List.forall_mem_cons.mpr ⟨lm_388, (List.forall_mem_cons.mpr ⟨lm_387, (List.forall_mem_cons.mpr ⟨lm_386, (List.forall_mem_cons.mpr ⟨lm_385, (List.forall_mem_cons.mpr ⟨lm_384, (List.forall_mem_cons.mpr ⟨lm_383, (List.forall_mem_cons.mpr ⟨lm_382, (List.forall_mem_cons.mpr ⟨lm_381, (List.forall_mem_cons.mpr ⟨lm_377, (List.forall_mem_cons.mpr ⟨lm_376, (List.forall_mem_cons.mpr ⟨lm_375, (List.forall_mem_cons.mpr ⟨lm_374, (fun _ h => absurd h List.not_mem_nil)⟩)⟩)⟩)⟩)⟩)⟩)⟩)⟩)⟩)⟩)⟩)⟩)⟩)⟩)⟩)⟩)⟩)⟩)⟩)⟩)⟩)⟩)⟩)⟩)
set_option maxRecDepth 100000 in
theorem lr_wsX12_decide_r4 : ∀ w ∈ wsX12_decide_r4, lwIn w := (List.forall_mem_cons.mpr ⟨lm_332, (List.forall_mem_cons.mpr ⟨lm_373, (List.forall_mem_cons.mpr ⟨lm_372, (List.forall_mem_cons.mpr ⟨lm_371, (List.forall_mem_cons.mpr ⟨lm_370, (List.forall_mem_cons.mpr ⟨lm_369, (List.forall_mem_cons.mpr ⟨lm_368, (List.forall_mem_cons.mpr ⟨lm_367, (List.forall_mem_cons.mpr ⟨lm_366, (List.forall_mem_cons.mpr ⟨lm_413, (List.forall_mem_cons.mpr ⟨lm_412, (List.forall_mem_cons.mpr ⟨lm_411, (List.forall_mem_cons.mpr ⟨lm_410, (List.forall_mem_cons.mpr ⟨lm_409, (List.forall_mem_cons.mpr ⟨lm_408, (List.forall_mem_cons.mpr ⟨lm_407, (List.forall_mem_cons.mpr ⟨lm_406, (List.forall_mem_cons.mpr ⟨lm_399, (List.forall_mem_cons.mpr ⟨lm_398, (List.forall_mem_cons.mpr ⟨lm_397, (List.forall_mem_cons.mpr ⟨lm_396, (List.forall_mem_cons.mpr ⟨lm_395, (List.forall_mem_cons.mpr ⟨lm_394, (List.forall_mem_cons.mpr ⟨lm_393, (fun _ h => absurd h List.not_mem_nil)⟩)⟩)⟩)⟩)⟩)⟩)⟩)⟩)⟩)⟩)⟩)⟩)⟩)⟩)⟩)⟩)⟩)⟩)⟩)⟩)⟩)⟩)⟩)⟩)
set_option maxRecDepth 100000 in
theorem lr_wsX12_decide_r5 : ∀ w ∈ wsX12_decide_r5, lwIn w := (List.forall_mem_cons.mpr ⟨lm_392, (List.forall_mem_cons.mpr ⟨lm_1182, (List.forall_mem_cons.mpr ⟨lm_1181, (List.forall_mem_cons.mpr ⟨lm_1180, (List.forall_mem_cons.mpr ⟨lm_1179, (fun _ h => absurd h List.not_mem_nil)⟩)⟩)⟩)⟩)⟩)
set_option maxRecDepth 100000 in
theorem lr_wsX12_decide : ∀ w ∈ wsX12_decide, lwIn w := List.forall_mem_cons.mpr ⟨lm_1198, (List.forall_mem_append.mpr ⟨(List.forall_mem_append.mpr ⟨lr_wsX12_decide_r1, (List.forall_mem_append.mpr ⟨lr_wsX12_decide_r2, (List.forall_mem_append.mpr ⟨lr_wsX12_decide_r3, (List.forall_mem_append.mpr ⟨lr_wsX12_decide_r4, lr_wsX12_decide_r5⟩)⟩)⟩)⟩), la_1⟩)⟩
set_option maxRecDepth 100000 in
theorem lr_wsX11_back_r1 : ∀ w ∈ wsX11_back_r1, lwIn w := (List.forall_mem_cons.mpr ⟨lm_425, (List.forall_mem_cons.mpr ⟨lm_207, (List.forall_mem_cons.mpr ⟨lm_249, (List.forall_mem_cons.mpr ⟨lm_896, (List.forall_mem_cons.mpr ⟨lm_1214, (List.forall_mem_cons.mpr ⟨lm_1213, (List.forall_mem_cons.mpr ⟨lm_1212, (List.forall_mem_cons.mpr ⟨lm_227, (List.forall_mem_cons.mpr ⟨lm_1211, (List.forall_mem_cons.mpr ⟨lm_286, (List.forall_mem_cons.mpr ⟨lm_771, (List.forall_mem_cons.mpr ⟨lm_285, (List.forall_mem_cons.mpr ⟨lm_284, (List.forall_mem_cons.mpr ⟨lm_767, (List.forall_mem_cons.mpr ⟨lm_766, (List.forall_mem_cons.mpr ⟨lm_765, (List.forall_mem_cons.mpr ⟨lm_807, (List.forall_mem_cons.mpr ⟨lm_289, (List.forall_mem_cons.mpr ⟨lm_806, (List.forall_mem_cons.mpr ⟨lm_805, (List.forall_mem_cons.mpr ⟨lm_804, (List.forall_mem_cons.mpr ⟨lm_217, (List.forall_mem_cons.mpr ⟨lm_803, (List.forall_mem_cons.mpr ⟨lm_280, (fun _ h => absurd h List.not_mem_nil)⟩)⟩)⟩)⟩)⟩)⟩)⟩)⟩)⟩)⟩)⟩)⟩)⟩)⟩)⟩)⟩)⟩)⟩)⟩)⟩)⟩)⟩)⟩)⟩)
set_option maxRecDepth 100000 in
theorem lr_wsX11_back_r2 : ∀ w ∈ wsX11_back_r2, lwIn w := (List.forall_mem_cons.mpr ⟨lm_279, (List.forall_mem_cons.mpr ⟨lm_802, (List.forall_mem_cons.mpr ⟨lm_565, (List.forall_mem_cons.mpr ⟨lm_183, (List.forall_mem_cons.mpr ⟨lm_564, (fun _ h => absurd h List.not_mem_nil)⟩)⟩)⟩)⟩)⟩)
set_option maxRecDepth 100000 in
theorem lr_wsX11_back : ∀ w ∈ wsX11_back, lwIn w := List.forall_mem_cons.mpr ⟨lm_1210, (List.forall_mem_append.mpr ⟨(List.forall_mem_append.mpr ⟨(List.forall_mem_append.mpr ⟨(List.forall_mem_append.mpr ⟨(List.forall_mem_append.mpr ⟨lr_wsX11_back_r1, lr_wsX11_back_r2⟩), la_0⟩), la_3⟩), la_7⟩), la_11⟩)⟩
set_option maxRecDepth 100000 in
theorem lr_wsW_back : ∀ w ∈ wsW_back, lwIn w := List.forall_mem_cons.mpr ⟨lm_1207, (List.forall_mem_append.mpr ⟨(List.forall_mem_cons.mpr ⟨lm_209, (List.forall_mem_cons.mpr ⟨lm_40, (List.forall_mem_cons.mpr ⟨lm_1209, (List.forall_mem_cons.mpr ⟨lm_1208, (List.forall_mem_cons.mpr ⟨lm_238, (fun _ h => absurd h List.not_mem_nil)⟩)⟩)⟩)⟩)⟩), lr_wsX11_back⟩)⟩
set_option maxRecDepth 100000 in
theorem lr_wsX12_back : ∀ w ∈ wsX12_back, lwIn w := List.forall_mem_cons.mpr ⟨lm_1215, (List.forall_mem_append.mpr ⟨(List.forall_mem_cons.mpr ⟨lm_432, (List.forall_mem_cons.mpr ⟨lm_360, (List.forall_mem_cons.mpr ⟨lm_430, (List.forall_mem_cons.mpr ⟨lm_429, (List.forall_mem_cons.mpr ⟨lm_428, (List.forall_mem_cons.mpr ⟨lm_235, (List.forall_mem_cons.mpr ⟨lm_427, (List.forall_mem_cons.mpr ⟨lm_1219, (List.forall_mem_cons.mpr ⟨lm_1218, (List.forall_mem_cons.mpr ⟨lm_1217, (List.forall_mem_cons.mpr ⟨lm_1216, (List.forall_mem_cons.mpr ⟨lm_361, (List.forall_mem_cons.mpr ⟨lm_338, (List.forall_mem_cons.mpr ⟨lm_339, (List.forall_mem_cons.mpr ⟨lm_357, (fun _ h => absurd h List.not_mem_nil)⟩)⟩)⟩)⟩)⟩)⟩)⟩)⟩)⟩)⟩)⟩)⟩)⟩)⟩)⟩), la_1⟩)⟩
set_option maxRecDepth 100000 in
theorem lr_wsX11_decision : ∀ w ∈ wsX11_decision, lwIn w := List.forall_mem_cons.mpr ⟨lm_1223, (List.forall_mem_append.mpr ⟨(List.forall_mem_append.mpr ⟨(List.forall_mem_append.mpr ⟨(List.forall_mem_cons.mpr ⟨lm_438, (List.forall_mem_cons.mpr ⟨lm_196, (List.forall_mem_cons.mpr ⟨lm_249, (List.forall_mem_cons.mpr ⟨lm_896, (List.forall_mem_cons.mpr ⟨lm_1230, (List.forall_mem_cons.mpr ⟨lm_1229, (List.forall_mem_cons.mpr ⟨lm_1228, (List.forall_mem_cons.mpr ⟨lm_227, (List.forall_mem_cons.mpr ⟨lm_1227, (List.forall_mem_cons.mpr ⟨lm_285, (List.forall_mem_cons.mpr ⟨lm_288, (List.forall_mem_cons.mpr ⟨lm_1226, (List.forall_mem_cons.mpr ⟨lm_1225, (List.forall_mem_cons.mpr ⟨lm_183, (List.forall_mem_cons.mpr ⟨lm_1224, (fun _ h => absurd h List.not_mem_nil)⟩)⟩)⟩)⟩)⟩)⟩)⟩)⟩)⟩)⟩)⟩)⟩)⟩)⟩)⟩), la_0⟩), la_3⟩), la_12⟩)⟩
set_option maxRecDepth 100000 in
theorem lr_wsW_decision : ∀ w ∈ wsW_decision, lwIn w := List.forall_mem_cons.mpr ⟨lm_1220, (List.forall_mem_append.mpr ⟨(List.forall_mem_cons.mpr ⟨lm_198, (List.forall_mem_cons.mpr ⟨lm_34, (List.forall_mem_cons.mpr ⟨lm_1222, (List.forall_mem_cons.mpr ⟨lm_1221, (List.forall_mem_cons.mpr ⟨lm_238, (fun _ h => absurd h List.not_mem_nil)⟩)⟩)⟩)⟩)⟩), lr_wsX11_decision⟩)⟩
set_option maxRecDepth 100000 in
theorem lr_wsX12_decision : ∀ w ∈ wsX12_decision, lwIn w := List.forall_mem_cons.mpr ⟨lm_1231, (List.forall_mem_append.mpr ⟨(List.forall_mem_cons.mpr ⟨lm_432, (List.forall_mem_cons.mpr ⟨lm_360, (List.forall_mem_cons.mpr ⟨lm_337, (List.forall_mem_cons.mpr ⟨lm_402, (List.forall_mem_cons.mpr ⟨lm_401, (List.forall_mem_cons.mpr ⟨lm_235, (List.forall_mem_cons.mpr ⟨lm_400, (List.forall_mem_cons.mpr ⟨lm_430, (List.forall_mem_cons.mpr ⟨lm_429, (List.forall_mem_cons.mpr ⟨lm_428, (List.forall_mem_cons.mpr ⟨lm_427, (fun _ h => absurd h List.not_mem_nil)⟩)⟩)⟩)⟩)⟩)⟩)⟩)⟩)⟩)⟩)⟩), la_1⟩)⟩
set_option maxRecDepth 100000 in
theorem lr_wsX11_probe_r1 : ∀ w ∈ wsX11_probe_r1, lwIn w := (List.forall_mem_cons.mpr ⟨lm_438, (List.forall_mem_cons.mpr ⟨lm_196, (List.forall_mem_cons.mpr ⟨lm_453, (List.forall_mem_cons.mpr ⟨lm_188, (List.forall_mem_cons.mpr ⟨lm_425, (List.forall_mem_cons.mpr ⟨lm_207, (List.forall_mem_cons.mpr ⟨lm_249, (List.forall_mem_cons.mpr ⟨lm_665, (List.forall_mem_cons.mpr ⟨lm_248, (List.forall_mem_cons.mpr ⟨lm_276, (List.forall_mem_cons.mpr ⟨lm_451, (List.forall_mem_cons.mpr ⟨lm_448, (List.forall_mem_cons.mpr ⟨lm_919, (List.forall_mem_cons.mpr ⟨lm_918, (List.forall_mem_cons.mpr ⟨lm_917, (List.forall_mem_cons.mpr ⟨lm_238, (List.forall_mem_cons.mpr ⟨lm_916, (List.forall_mem_cons.mpr ⟨lm_686, (List.forall_mem_cons.mpr ⟨lm_685, (List.forall_mem_cons.mpr ⟨lm_183, (List.forall_mem_cons.mpr ⟨lm_684, (List.forall_mem_cons.mpr ⟨lm_591, (List.forall_mem_cons.mpr ⟨lm_590, (List.forall_mem_cons.mpr ⟨lm_683, (fun _ h => absurd h List.not_mem_nil)⟩)⟩)⟩)⟩)⟩)⟩)⟩)⟩)⟩)⟩)⟩)⟩)⟩)⟩)⟩)⟩)⟩)⟩)⟩)⟩)⟩)⟩)⟩)⟩)
set_option maxRecDepth 100000 in
theorem lr_wsX11_probe_r2 : ∀ w ∈ wsX11_probe_r2, lwIn w := (List.forall_mem_cons.mpr ⟨lm_565, (List.forall_mem_cons.mpr ⟨lm_564, (List.forall_mem_cons.mpr ⟨lm_902, (List.forall_mem_cons.mpr ⟨lm_901, (List.forall_mem_cons.mpr ⟨lm_900, (List.forall_mem_cons.mpr ⟨lm_899, (List.forall_mem_cons.mpr ⟨lm_898, (List.forall_mem_cons.mpr ⟨lm_710, (List.forall_mem_cons.mpr ⟨lm_709, (List.forall_mem_cons.mpr ⟨lm_897, (List.forall_mem_cons.mpr ⟨lm_704, (List.forall_mem_cons.mpr ⟨lm_175, (List.forall_mem_cons.mpr ⟨lm_703, (List.forall_mem_cons.mpr ⟨lm_702, (List.forall_mem_cons.mpr ⟨lm_701, (List.forall_mem_cons.mpr ⟨lm_700, (List.forall_mem_cons.mpr ⟨lm_656, (List.forall_mem_cons.mpr ⟨lm_655, (List.forall_mem_cons.mpr ⟨lm_654, (List.forall_mem_cons.mpr ⟨lm_227, (List.forall_mem_cons.mpr ⟨lm_653, (List.forall_mem_cons.mpr ⟨lm_284, (List.forall_mem_cons.mpr ⟨lm_287, (List.forall_mem_cons.mpr ⟨lm_652, (fun _ h => absurd h List.not_mem_nil)⟩)⟩)⟩)⟩)⟩)⟩)⟩)⟩)⟩)⟩)⟩)⟩)⟩)⟩)⟩)⟩)⟩)⟩)⟩)⟩)⟩)⟩)⟩)⟩)
set_option maxRecDepth 100000 in
theorem lr_wsX11_probe_r3 : ∀ w ∈ wsX11_probe_r3, lwIn w := (List.forall_mem_cons.mpr ⟨lm_651, (List.forall_mem_cons.mpr ⟨lm_650, (List.forall_mem_cons.mpr ⟨lm_696, (List.forall_mem_cons.mpr ⟨lm_695, (List.forall_mem_cons.mpr ⟨lm_694, (List.forall_mem_cons.mpr ⟨lm_693, (List.forall_mem_cons.mpr ⟨lm_692, (List.forall_mem_cons.mpr ⟨lm_691, (List.forall_mem_cons.mpr ⟨lm_176, (List.forall_mem_cons.mpr ⟨lm_690, (List.forall_mem_cons.mpr ⟨lm_689, (List.forall_mem_cons.mpr ⟨lm_688, (List.forall_mem_cons.mpr ⟨lm_687, (List.forall_mem_cons.mpr ⟨lm_641, (List.forall_mem_cons.mpr ⟨lm_640, (List.forall_mem_cons.mpr ⟨lm_639, (List.forall_mem_cons.mpr ⟨lm_638, (List.forall_mem_cons.mpr ⟨lm_286, (List.forall_mem_cons.mpr ⟨lm_285, (List.forall_mem_cons.mpr ⟨lm_1191, (List.forall_mem_cons.mpr ⟨lm_1190, (List.forall_mem_cons.mpr ⟨lm_1189, (List.forall_mem_cons.mpr ⟨lm_1188, (List.forall_mem_cons.mpr ⟨lm_288, (fun _ h => absurd h List.not_mem_nil)⟩)⟩)⟩)⟩)⟩)⟩)⟩)⟩)⟩)⟩)⟩)⟩)⟩)⟩)⟩)⟩)⟩)⟩)⟩)⟩)⟩)⟩)⟩)⟩)
set_option maxRecDepth 100000 in
theorem lr_wsX11_probe_r4 : ∀ w ∈ wsX11_probe_r4, lwIn w := (List.forall_mem_cons.mpr ⟨lm_1187, (List.forall_mem_cons.mpr ⟨lm_1197, (List.forall_mem_cons.mpr ⟨lm_1196, (List.forall_mem_cons.mpr ⟨lm_777, (List.forall_mem_cons.mpr ⟨lm_776, (List.forall_mem_cons.mpr ⟨lm_775, (List.forall_mem_cons.mpr ⟨lm_774, (List.forall_mem_cons.mpr ⟨lm_773, (List.forall_mem_cons.mpr ⟨lm_772, (List.forall_mem_cons.mpr ⟨lm_771, (List.forall_mem_cons.mpr ⟨lm_770, (List.forall_mem_cons.mpr ⟨lm_769, (List.forall_mem_cons.mpr ⟨lm_768, (List.forall_mem_cons.mpr ⟨lm_767, (List.forall_mem_cons.mpr ⟨lm_766, (List.forall_mem_cons.mpr ⟨lm_765, (List.forall_mem_cons.mpr ⟨lm_807, (List.forall_mem_cons.mpr ⟨lm_289, (List.forall_mem_cons.mpr ⟨lm_806, (List.forall_mem_cons.mpr ⟨lm_805, (List.forall_mem_cons.mpr ⟨lm_804, (List.forall_mem_cons.mpr ⟨lm_217, (List.forall_mem_cons.mpr ⟨lm_803, (List.forall_mem_cons.mpr ⟨lm_280, (fun _ h => absurd h List.not_mem_nil)⟩)⟩)⟩)⟩)⟩)⟩)⟩)⟩)⟩)⟩)⟩)⟩)⟩)⟩)⟩)⟩)⟩)⟩)⟩)⟩)⟩)⟩)⟩)⟩)
set_option maxRecDepth 100000 in
theorem lr_wsX11_probe_r5 : ∀ w ∈ wsX11_probe_r5, lwIn w := (List.forall_mem_cons.mpr ⟨lm_279, (List.forall_mem_cons.mpr ⟨lm_802, (List.forall_mem_cons.mpr ⟨lm_637, (List.forall_mem_cons.mpr ⟨lm_636, (List.forall_mem_cons.mpr ⟨lm_635, (List.forall_mem_cons.mpr ⟨lm_634, (List.forall_mem_cons.mpr ⟨lm_633, (List.forall_mem_cons.mpr ⟨lm_275, (List.forall_mem_cons.mpr ⟨lm_246, (List.forall_mem_cons.mpr ⟨lm_673, (List.forall_mem_cons.mpr ⟨lm_672, (List.forall_mem_cons.mpr ⟨lm_671, (List.forall_mem_cons.mpr ⟨lm_221, (List.forall_mem_cons.mpr ⟨lm_670, (List.forall_mem_cons.mpr ⟨lm_296, (List.forall_mem_cons.mpr ⟨lm_298, (List.forall_mem_cons.mpr ⟨lm_669, (List.forall_mem_cons.mpr ⟨lm_668, (List.forall_mem_cons.mpr ⟨lm_667, (List.forall_mem_cons.mpr ⟨lm_666, (List.forall_mem_cons.mpr ⟨lm_664, (List.forall_mem_cons.mpr ⟨lm_663, (List.forall_mem_cons.mpr ⟨lm_662, (List.forall_mem_cons.mpr ⟨lm_661, (fun _ h => absurd h List.not_mem_nil)⟩)⟩)⟩)⟩)⟩)⟩)⟩)⟩)⟩)⟩)⟩)⟩)⟩)⟩)⟩)⟩)⟩)⟩)⟩)⟩)⟩)⟩)⟩)⟩)
set_option maxRecDepth 100000 in
theorem lr_wsX11_probe_r6 : ∀ w ∈ wsX11_probe_r6, lwIn w := (List.forall_mem_cons.mpr ⟨lm_216, (List.forall_mem_cons.mpr ⟨lm_660, (List.forall_mem_cons.mpr ⟨lm_307, (List.forall_mem_cons.mpr ⟨lm_659, (List.forall_mem_cons.mpr ⟨lm_658, (List.forall_mem_cons.mpr ⟨lm_657, (List.forall_mem_cons.mpr ⟨lm_682, (List.forall_mem_cons.mpr ⟨lm_681, (List.forall_mem_cons.mpr ⟨lm_680, (List.forall_mem_cons.mpr ⟨lm_679, (List.forall_mem_cons.mpr ⟨lm_678, (List.forall_mem_cons.mpr ⟨lm_574, (List.forall_mem_cons.mpr ⟨lm_573, (List.forall_mem_cons.mpr ⟨lm_611, (List.forall_mem_cons.mpr ⟨lm_677, (List.forall_mem_cons.mpr ⟨lm_676, (List.forall_mem_cons.mpr ⟨lm_309, (List.forall_mem_cons.mpr ⟨lm_308, (List.forall_mem_cons.mpr ⟨lm_675, (List.forall_mem_cons.mpr ⟨lm_674, (List.forall_mem_cons.mpr ⟨lm_719, (List.forall_mem_cons.mpr ⟨lm_718, (List.forall_mem_cons.mpr ⟨lm_177, (List.forall_mem_cons.mpr ⟨lm_717, (fun _ h => absurd h List.not_mem_nil)⟩)⟩)⟩)⟩)⟩)⟩)⟩)⟩)⟩)⟩)⟩)⟩)⟩)⟩)⟩)⟩)⟩)⟩)⟩)⟩)⟩)⟩)⟩)⟩)
set_option maxRecDepth 100000 in
theorem lr_wsX11_probe_r7 : ∀ w ∈ wsX11_probe_r7, lwIn w := (List.forall_mem_cons.mpr ⟨lm_716, (List.forall_mem_cons.mpr ⟨lm_715, (List.forall_mem_cons.mpr ⟨lm_714, (List.forall_mem_cons.mpr ⟨lm_713, (List.forall_mem_cons.mpr ⟨lm_712, (List.forall_mem_cons.mpr ⟨lm_711, (List.forall_mem_cons.mpr ⟨lm_708, (List.forall_mem_cons.mpr ⟨lm_707, (List.forall_mem_cons.mpr ⟨lm_706, (List.forall_mem_cons.mpr ⟨lm_705, (List.forall_mem_cons.mpr ⟨lm_699, (List.forall_mem_cons.mpr ⟨lm_698, (List.forall_mem_cons.mpr ⟨lm_181, (List.forall_mem_cons.mpr ⟨lm_697, (List.forall_mem_cons.mpr ⟨lm_740, (List.forall_mem_cons.mpr ⟨lm_739, (List.forall_mem_cons.mpr ⟨lm_738, (List.forall_mem_cons.mpr ⟨lm_737, (List.forall_mem_cons.mpr ⟨lm_736, (List.forall_mem_cons.mpr ⟨lm_735, (List.forall_mem_cons.mpr ⟨lm_588, (List.forall_mem_cons.mpr ⟨lm_587, (List.forall_mem_cons.mpr ⟨lm_734, (List.forall_mem_cons.mpr ⟨lm_733, (fun _ h => absurd h List.not_mem_nil)⟩)⟩)⟩)⟩)⟩)⟩)⟩)⟩)⟩)⟩)⟩)⟩)⟩)⟩)⟩)⟩)⟩)⟩)⟩)⟩)⟩)⟩)⟩)⟩)
set_option maxRecDepth 100000 in
theorem lr_wsX11_probe_r8 : ∀ w ∈ wsX11_probe_r8, lwIn w := (List.forall_mem_cons.mpr ⟨lm_174, (List.forall_mem_cons.mpr ⟨lm_732, (List.forall_mem_cons.mpr ⟨lm_731, (List.forall_mem_cons.mpr ⟨lm_730, (List.forall_mem_cons.mpr ⟨lm_729, (List.forall_mem_cons.mpr ⟨lm_728, (List.forall_mem_cons.mpr ⟨lm_727, (List.forall_mem_cons.mpr ⟨lm_726, (List.forall_mem_cons.mpr ⟨lm_725, (List.forall_mem_cons.mpr ⟨lm_225, (List.forall_mem_cons.mpr ⟨lm_724, (List.forall_mem_cons.mpr ⟨lm_314, (List.forall_mem_cons.mpr ⟨lm_723, (List.forall_mem_cons.mpr ⟨lm_722, (List.forall_mem_cons.mpr ⟨lm_721, (List.forall_mem_cons.mpr ⟨lm_720, (List.forall_mem_cons.mpr ⟨lm_179, (List.forall_mem_cons.mpr ⟨lm_764, (List.forall_mem_cons.mpr ⟨lm_621, (List.forall_mem_cons.mpr ⟨lm_763, (List.forall_mem_cons.mpr ⟨lm_762, (List.forall_mem_cons.mpr ⟨lm_761, (List.forall_mem_cons.mpr ⟨lm_620, (List.forall_mem_cons.mpr ⟨lm_760, (fun _ h => absurd h List.not_mem_nil)⟩)⟩)⟩)⟩)⟩)⟩)⟩)⟩)⟩)⟩)⟩)⟩)⟩)⟩)⟩)⟩)⟩)⟩)⟩)⟩)⟩)⟩)⟩)⟩)
set_option maxRecDepth 100000 in
theorem lr_wsX11_probe_r9 : ∀ w ∈ wsX11_probe_r9, lwIn w := (List.forall_mem_cons.mpr ⟨lm_619, (List.forall_mem_cons.mpr ⟨lm_618, (List.forall_mem_cons.mpr ⟨lm_759, (List.forall_mem_cons.mpr ⟨lm_758, (List.forall_mem_cons.mpr ⟨lm_757, (List.forall_mem_cons.mpr ⟨lm_756, (List.forall_mem_cons.mpr ⟨lm_755, (List.forall_mem_cons.mpr ⟨lm_754, (List.forall_mem_cons.mpr ⟨lm_753, (List.forall_mem_cons.mpr ⟨lm_752, (List.forall_mem_cons.mpr ⟨lm_751, (List.forall_mem_cons.mpr ⟨lm_750, (List.forall_mem_cons.mpr ⟨lm_749, (List.forall_mem_cons.mpr ⟨lm_748, (List.forall_mem_cons.mpr ⟨lm_747, (List.forall_mem_cons.mpr ⟨lm_746, (List.forall_mem_cons.mpr ⟨lm_745, (List.forall_mem_cons.mpr ⟨lm_744, (List.forall_mem_cons.mpr ⟨lm_743, (List.forall_mem_cons.mpr ⟨lm_742, (List.forall_mem_cons.mpr ⟨lm_741, (List.forall_mem_cons.mpr ⟨lm_788, (List.forall_mem_cons.mpr ⟨lm_787, (List.forall_mem_cons.mpr ⟨lm_786, (fun _ h => absurd h List.not_mem_nil)⟩)⟩)⟩)⟩)⟩)⟩)⟩)⟩)⟩)⟩)⟩)⟩)⟩)⟩)⟩)⟩)⟩)⟩)⟩)⟩)⟩)⟩)⟩)⟩)
set_option maxRecDepth 100000 in
theorem lr_wsX11_probe_r10 : ∀ w ∈ wsX11_probe_r10, lwIn w := (List.forall_mem_cons.mpr ⟨lm_586, (List.forall_mem_cons.mpr ⟨lm_785, (List.forall_mem_cons.mpr ⟨lm_594, (List.forall_mem_cons.mpr ⟨lm_593, (List.forall_mem_cons.mpr ⟨lm_592, (List.forall_mem_cons.mpr ⟨lm_784, (List.forall_mem_cons.mpr ⟨lm_783, (List.forall_mem_cons.mpr ⟨lm_782, (List.forall_mem_cons.mpr ⟨lm_781, (List.forall_mem_cons.mpr ⟨lm_780, (List.forall_mem_cons.mpr ⟨lm_779, (List.forall_mem_cons.mpr ⟨lm_778, (List.forall_mem_cons.mpr ⟨lm_801, (List.forall_mem_cons.mpr ⟨lm_800, (List.forall_mem_cons.mpr ⟨lm_799, (List.forall_mem_cons.mpr ⟨lm_798, (List.forall_mem_cons.mpr ⟨lm_243, (List.forall_mem_cons.mpr ⟨lm_797, (List.forall_mem_cons.mpr ⟨lm_796, (List.forall_mem_cons.mpr ⟨lm_795, (List.forall_mem_cons.mpr ⟨lm_794, (List.forall_mem_cons.mpr ⟨lm_793, (List.forall_mem_cons.mpr ⟨lm_792, (List.forall_mem_cons.mpr ⟨lm_791, (fun _ h => absurd h List.not_mem_nil)⟩)⟩)⟩)⟩)⟩)⟩)⟩)⟩)⟩)⟩)⟩)⟩)⟩)⟩)⟩)⟩)⟩)⟩)⟩)⟩)⟩)⟩)⟩)⟩)
set_option maxRecDepth 100000 in
theorem lr_wsX11_probe_r11 : ∀ w ∈ wsX11_probe_r11, lwIn w := (List.forall_mem_cons.mpr ⟨lm_790, (List.forall_mem_cons.mpr ⟨lm_789, (List.forall_mem_cons.mpr ⟨lm_811, (List.forall_mem_cons.mpr ⟨lm_810, (List.forall_mem_cons.mpr ⟨lm_809, (List.forall_mem_cons.mpr ⟨lm_808, (List.forall_mem_cons.mpr ⟨lm_604, (List.forall_mem_cons.mpr ⟨lm_603, (List.forall_mem_cons.mpr ⟨lm_575, (fun _ h => absurd h List.not_mem_nil)⟩)⟩)⟩)⟩)⟩)⟩)⟩)⟩)⟩)
set_option maxRecDepth 100000 in
theorem lr_wsX11_probe : ∀ w ∈ wsX11_probe, lwIn w := List.forall_mem_cons.mpr ⟨lm_1235, (List.forall_mem_append.mpr ⟨(List.forall_mem_append.mpr ⟨(List.forall_mem_append.mpr ⟨(List.forall_mem_append.mpr ⟨(List.forall_mem_append.mpr ⟨(List.forall_mem_append.mpr ⟨(List.forall_mem_append.mpr ⟨(List.forall_mem_append.mpr ⟨(List.forall_mem_append.mpr ⟨(List.forall_mem_append.mpr ⟨(List.forall_mem_append.mpr ⟨(List.forall_mem_append.mpr ⟨lr_wsX11_probe_r1, (List.forall_mem_append.mpr ⟨lr_wsX11_probe_r2, (List.forall_mem_append.mpr ⟨lr_wsX11_probe_r3, (List.forall_mem_append.mpr ⟨lr_wsX11_probe_r4, (List.forall_mem_append.mpr ⟨lr_wsX11_probe_r5, (List.forall_mem_append.mpr ⟨lr_wsX11_probe_r6, (List.forall_mem_append.mpr ⟨lr_wsX11_probe_r7, (List.forall_mem_append.mpr ⟨lr_wsX11_probe_r8, (List.forall_mem_append.mpr ⟨lr_wsX11_probe_r9, (List.forall_mem_append.mpr ⟨lr_wsX11_probe_r10, lr_wsX11_probe_r11⟩)⟩)⟩)⟩)⟩)⟩)⟩)⟩)⟩)⟩), la_0⟩), la_3⟩), la_6⟩), la_7⟩), la_8⟩), la_9⟩), la_4⟩), la_10⟩), la_12⟩), la_13⟩), la_11⟩)⟩
set_option maxRecDepth 100000 in
theorem lr_wsW_probe : ∀ w ∈ wsW_probe, lwIn w := List.forall_mem_cons.mpr ⟨lm_1232, (List.forall_mem_append.mpr ⟨(List.forall_mem_cons.mpr ⟨lm_198, (List.forall_mem_cons.mpr ⟨lm_190, (List.forall_mem_cons.mpr ⟨lm_209, (List.forall_mem_cons.mpr ⟨lm_28, (List.forall_mem_cons.mpr ⟨lm_1234, (List.forall_mem_cons.mpr ⟨lm_1233, (List.forall_mem_cons.mpr ⟨lm_238, (fun _ h => absurd h List.not_mem_nil)⟩)⟩)⟩)⟩)⟩)⟩)⟩), lr_wsX11_probe⟩)⟩
set_option maxRecDepth 100000 in
theorem lr_wsX12_probe_r1 : ∀ w ∈ wsX12_probe_r1, lwIn w := (List.forall_mem_cons.mpr ⟨lm_432, (List.forall_mem_cons.mpr ⟨lm_357, (List.forall_mem_cons.mpr ⟨lm_1202, (List.forall_mem_cons.mpr ⟨lm_1201, (List.forall_mem_cons.mpr ⟨lm_1200, (List.forall_mem_cons.mpr ⟨lm_235, (List.forall_mem_cons.mpr ⟨lm_1199, (List.forall_mem_cons.mpr ⟨lm_339, (List.forall_mem_cons.mpr ⟨lm_924, (List.forall_mem_cons.mpr ⟨lm_923, (List.forall_mem_cons.mpr ⟨lm_922, (List.forall_mem_cons.mpr ⟨lm_921, (List.forall_mem_cons.mpr ⟨lm_341, (List.forall_mem_cons.mpr ⟨lm_402, (List.forall_mem_cons.mpr ⟨lm_401, (List.forall_mem_cons.mpr ⟨lm_400, (List.forall_mem_cons.mpr ⟨lm_430, (List.forall_mem_cons.mpr ⟨lm_429, (List.forall_mem_cons.mpr ⟨lm_428, (List.forall_mem_cons.mpr ⟨lm_427, (List.forall_mem_cons.mpr ⟨lm_1178, (List.forall_mem_cons.mpr ⟨lm_1177, (List.forall_mem_cons.mpr ⟨lm_1176, (List.forall_mem_cons.mpr ⟨lm_1175, (fun _ h => absurd h List.not_mem_nil)⟩)⟩)⟩)⟩)⟩)⟩)⟩)⟩)⟩)⟩)⟩)⟩)⟩)⟩)⟩)⟩)⟩)⟩)⟩)⟩)⟩)⟩)⟩)⟩)
set_option maxRecDepth 100000 in
theorem lr_wsX12_probe_r2 : ∀ w ∈ wsX12_probe_r2, lwIn w := (List.forall_mem_cons.mpr ⟨lm_380, (List.forall_mem_cons.mpr ⟨lm_379, (List.forall_mem_cons.mpr ⟨lm_378, (List.forall_mem_cons.mpr ⟨lm_405, (List.forall_mem_cons.mpr ⟨lm_404, (List.forall_mem_cons.mpr ⟨lm_403, (List.forall_mem_cons.mpr ⟨lm_1206, (List.forall_mem_cons.mpr ⟨lm_1205, (List.forall_mem_cons.mpr ⟨lm_1204, (List.forall_mem_cons.mpr ⟨lm_1203, (List.forall_mem_cons.mpr ⟨lm_361, (List.forall_mem_cons.mpr ⟨lm_337, (List.forall_mem_cons.mpr ⟨lm_360, (List.forall_mem_cons.mpr ⟨lm_391, (List.forall_mem_cons.mpr ⟨lm_390, (List.forall_mem_cons.mpr ⟨lm_415, (List.forall_mem_cons.mpr ⟨lm_414, (List.forall_mem_cons.mpr ⟨lm_338, (List.forall_mem_cons.mpr ⟨lm_356, (List.forall_mem_cons.mpr ⟨lm_355, (List.forall_mem_cons.mpr ⟨lm_354, (List.forall_mem_cons.mpr ⟨lm_353, (List.forall_mem_cons.mpr ⟨lm_359, (List.forall_mem_cons.mpr ⟨lm_336, (fun _ h => absurd h List.not_mem_nil)⟩)⟩)⟩)⟩)⟩)⟩)⟩)⟩)⟩)⟩)⟩)⟩)⟩)⟩)⟩)⟩)⟩)⟩)⟩)⟩)⟩)⟩)⟩)⟩)
set_option maxRecDepth 100000 in
theorem lr_wsX12_probe_r3 : ∀ w ∈ wsX12_probe_r3, lwIn w := (List.forall_mem_cons.mpr ⟨lm_352, (List.forall_mem_cons.mpr ⟨lm_351, (List.forall_mem_cons.mpr ⟨lm_350, (List.forall_mem_cons.mpr ⟨lm_349, (List.forall_mem_cons.mpr ⟨lm_348, (List.forall_mem_cons.mpr ⟨lm_347, (List.forall_mem_cons.mpr ⟨lm_346, (List.forall_mem_cons.mpr ⟨lm_345, (List.forall_mem_cons.mpr ⟨lm_344, (List.forall_mem_cons.mpr ⟨lm_343, (List.forall_mem_cons.mpr ⟨lm_389, (List.forall_mem_cons.mpr ⟨lm_388, (List.forall_mem_cons.mpr ⟨lm_387, (List.forall_mem_cons.mpr ⟨lm_386, (List.forall_mem_cons.mpr ⟨lm_385, (List.forall_mem_cons.mpr ⟨lm_384, (List.forall_mem_cons.mpr ⟨lm_383, (List.forall_mem_cons.mpr ⟨lm_382, (List.forall_mem_cons.mpr ⟨lm_381, (List.forall_mem_cons.mpr ⟨lm_377, (List.forall_mem_cons.mpr ⟨lm_376, (List.forall_mem_cons.mpr ⟨lm_375, (List.forall_mem_cons.mpr ⟨lm_374, (List.forall_mem_cons.mpr ⟨lm_332, (fun _ h => absurd h List.not_mem_nil)⟩)⟩)⟩)⟩)⟩)⟩)⟩)⟩)⟩)⟩)⟩)⟩)⟩)⟩)⟩)⟩)⟩)⟩)⟩)⟩)⟩)⟩)⟩)⟩)
set_option maxRecDepth 100000 in
theorem lr_wsX12_probe_r4 : ∀ w ∈ wsX12_probe_r4, lwIn w := (List.forall_mem_cons.mpr ⟨lm_373, (List.forall_mem_cons.mpr ⟨lm_372, (List.forall_mem_cons.mpr ⟨lm_371, (List.forall_mem_cons.mpr ⟨lm_370, (List.forall_mem_cons.mpr ⟨lm_369, (List.forall_mem_cons.mpr ⟨lm_368, (List.forall_mem_cons.mpr ⟨lm_367, (List.forall_mem_cons.mpr ⟨lm_366, (List.forall_mem_cons.mpr ⟨lm_413, (List.forall_mem_cons.mpr ⟨lm_412, (List.forall_mem_cons.mpr ⟨lm_411, (List.forall_mem_cons.mpr ⟨lm_410, (List.forall_mem_cons.mpr ⟨lm_409, (List.forall_mem_cons.mpr ⟨lm_408, (List.forall_mem_cons.mpr ⟨lm_407, (List.forall_mem_cons.mpr ⟨lm_406, (List.forall_mem_cons.mpr ⟨lm_399, (List.forall_mem_cons.mpr ⟨lm_398, (List.forall_mem_cons.mpr ⟨lm_397, (List.forall_mem_cons.mpr ⟨lm_396, (List.forall_mem_cons.mpr ⟨lm_395, (List.forall_mem_cons.mpr ⟨lm_394, (List.forall_mem_cons.mpr ⟨lm_393, (List.forall_mem_cons.mpr ⟨lm_392, (fun _ h => absurd h List.not_mem_nil)⟩)⟩)⟩)⟩)⟩)⟩)⟩)⟩)⟩)⟩)⟩)⟩)⟩)⟩)⟩)⟩)⟩)⟩)⟩)⟩)⟩)⟩)⟩)⟩)
set_option maxRecDepth 100000 in
theorem lr_wsX12_probe_r5 : ∀ w ∈ wsX12_probe_r5, lwIn w := (List.forall_mem_cons.mpr ⟨lm_1182, (List.forall_mem_cons.mpr ⟨lm_1181, (List.forall_mem_cons.mpr ⟨lm_1180, (List.forall_mem_cons.mpr ⟨lm_1179, (List.forall_mem_cons.mpr ⟨lm_1219, (List.forall_mem_cons.mpr ⟨lm_1218, (List.forall_mem_cons.mpr ⟨lm_1217, (List.forall_mem_cons.mpr ⟨lm_1216, (fun _ h => absurd h List.not_mem_nil)⟩)⟩)⟩)⟩)⟩)⟩)⟩)⟩)
set_option maxRecDepth 100000 in
theorem lr_wsX12_probe : ∀ w ∈ wsX12_probe, lwIn w := List.forall_mem_cons.mpr ⟨lm_1236, (List.forall_mem_append.mpr ⟨(List.forall_mem_append.mpr ⟨lr_wsX12_probe_r1, (List.forall_mem_append.mpr ⟨lr_wsX12_probe_r2, (List.forall_mem_append.mpr ⟨lr_wsX12_probe_r3, (List.forall_mem_append.mpr ⟨lr_wsX12_probe_r4, lr_wsX12_probe_r5⟩)⟩)⟩)⟩), la_1⟩)⟩
set_option maxRecDepth 100000 in
theorem lr_wsX11_learn_r1 : ∀ w ∈ wsX11_learn_r1, lwIn w := (List.forall_mem_cons.mpr ⟨lm_425, (List.forall_mem_cons.mpr ⟨lm_207, (List.forall_mem_cons.mpr ⟨lm_249, (List.forall_mem_cons.mpr ⟨lm_896, (List.forall_mem_cons.mpr ⟨lm_656, (List.forall_mem_cons.mpr ⟨lm_655, (List.forall_mem_cons.mpr ⟨lm_654, (List.forall_mem_cons.mpr ⟨lm_227, (List.forall_mem_cons.mpr ⟨lm_653, (List.forall_mem_cons.mpr ⟨lm_284, (List.forall_mem_cons.mpr ⟨lm_287, (List.forall_mem_cons.mpr ⟨lm_652, (List.forall_mem_cons.mpr ⟨lm_651, (List.forall_mem_cons.mpr ⟨lm_183, (List.forall_mem_cons.mpr ⟨lm_650, (List.forall_mem_cons.mpr ⟨lm_696, (List.forall_mem_cons.mpr ⟨lm_695, (List.forall_mem_cons.mpr ⟨lm_694, (List.forall_mem_cons.mpr ⟨lm_693, (List.forall_mem_cons.mpr ⟨lm_692, (List.forall_mem_cons.mpr ⟨lm_691, (List.forall_mem_cons.mpr ⟨lm_176, (List.forall_mem_cons.mpr ⟨lm_690, (List.forall_mem_cons.mpr ⟨lm_689, (fun _ h => absurd h List.not_mem_nil)⟩)⟩)⟩)⟩)⟩)⟩)⟩)⟩)⟩)⟩)⟩)⟩)⟩)⟩)⟩)⟩)⟩)⟩)⟩)⟩)⟩)⟩)⟩)⟩)
set_option maxRecDepth 100000 in
theorem lr_wsX11_learn_r2 : ∀ w ∈ wsX11_learn_r2, lwIn w := (List.forall_mem_cons.mpr ⟨lm_688, (List.forall_mem_cons.mpr ⟨lm_687, (List.forall_mem_cons.mpr ⟨lm_1248, (List.forall_mem_cons.mpr ⟨lm_1247, (List.forall_mem_cons.mpr ⟨lm_1246, (List.forall_mem_cons.mpr ⟨lm_238, (List.forall_mem_cons.mpr ⟨lm_1245, (List.forall_mem_cons.mpr ⟨lm_276, (List.forall_mem_cons.mpr ⟨lm_450, (List.forall_mem_cons.mpr ⟨lm_986, (List.forall_mem_cons.mpr ⟨lm_248, (List.forall_mem_cons.mpr ⟨lm_451, (List.forall_mem_cons.mpr ⟨lm_1230, (List.forall_mem_cons.mpr ⟨lm_1229, (List.forall_mem_cons.mpr ⟨lm_1228, (List.forall_mem_cons.mpr ⟨lm_1227, (List.forall_mem_cons.mpr ⟨lm_285, (List.forall_mem_cons.mpr ⟨lm_288, (List.forall_mem_cons.mpr ⟨lm_1244, (List.forall_mem_cons.mpr ⟨lm_1243, (List.forall_mem_cons.mpr ⟨lm_1242, (List.forall_mem_cons.mpr ⟨lm_1241, (List.forall_mem_cons.mpr ⟨lm_286, (List.forall_mem_cons.mpr ⟨lm_771, (fun _ h => absurd h List.not_mem_nil)⟩)⟩)⟩)⟩)⟩)⟩)⟩)⟩)⟩)⟩)⟩)⟩)⟩)⟩)⟩)⟩)⟩)⟩)⟩)⟩)⟩)⟩)⟩)⟩)
set_option maxRecDepth 100000 in
theorem lr_wsX11_learn_r3 : ∀ w ∈ wsX11_learn_r3, lwIn w := (List.forall_mem_cons.mpr ⟨lm_769, (List.forall_mem_cons.mpr ⟨lm_767, (List.forall_mem_cons.mpr ⟨lm_766, (List.forall_mem_cons.mpr ⟨lm_765, (List.forall_mem_cons.mpr ⟨lm_807, (List.forall_mem_cons.mpr ⟨lm_289, (List.forall_mem_cons.mpr ⟨lm_806, (List.forall_mem_cons.mpr ⟨lm_805, (List.forall_mem_cons.mpr ⟨lm_804, (List.forall_mem_cons.mpr ⟨lm_217, (List.forall_mem_cons.mpr ⟨lm_803, (List.forall_mem_cons.mpr ⟨lm_280, (List.forall_mem_cons.mpr ⟨lm_279, (List.forall_mem_cons.mpr ⟨lm_802, (List.forall_mem_cons.mpr ⟨lm_565, (List.forall_mem_cons.mpr ⟨lm_564, (List.forall_mem_cons.mpr ⟨lm_1251, (List.forall_mem_cons.mpr ⟨lm_1250, (List.forall_mem_cons.mpr ⟨lm_1249, (List.forall_mem_cons.mpr ⟨lm_611, (List.forall_mem_cons.mpr ⟨lm_679, (List.forall_mem_cons.mpr ⟨lm_641, (List.forall_mem_cons.mpr ⟨lm_640, (List.forall_mem_cons.mpr ⟨lm_639, (fun _ h => absurd h List.not_mem_nil)⟩)⟩)⟩)⟩)⟩)⟩)⟩)⟩)⟩)⟩)⟩)⟩)⟩)⟩)⟩)⟩)⟩)⟩)⟩)⟩)⟩)⟩)⟩)⟩)
set_option maxRecDepth 100000 in
theorem lr_wsX11_learn_r4 : ∀ w ∈ wsX11_learn_r4, lwIn w := (List.forall_mem_cons.mpr ⟨lm_638, (List.forall_mem_cons.mpr ⟨lm_637, (List.forall_mem_cons.mpr ⟨lm_636, (List.forall_mem_cons.mpr ⟨lm_635, (List.forall_mem_cons.mpr ⟨lm_634, (List.forall_mem_cons.mpr ⟨lm_448, (List.forall_mem_cons.mpr ⟨lm_633, (List.forall_mem_cons.mpr ⟨lm_275, (List.forall_mem_cons.mpr ⟨lm_246, (List.forall_mem_cons.mpr ⟨lm_673, (List.forall_mem_cons.mpr ⟨lm_672, (List.forall_mem_cons.mpr ⟨lm_671, (List.forall_mem_cons.mpr ⟨lm_221, (List.forall_mem_cons.mpr ⟨lm_670, (List.forall_mem_cons.mpr ⟨lm_296, (List.forall_mem_cons.mpr ⟨lm_298, (List.forall_mem_cons.mpr ⟨lm_669, (List.forall_mem_cons.mpr ⟨lm_668, (List.forall_mem_cons.mpr ⟨lm_667, (List.forall_mem_cons.mpr ⟨lm_666, (List.forall_mem_cons.mpr ⟨lm_665, (List.forall_mem_cons.mpr ⟨lm_664, (List.forall_mem_cons.mpr ⟨lm_663, (List.forall_mem_cons.mpr ⟨lm_662, (fun _ h => absurd h List.not_mem_nil)⟩)⟩)⟩)⟩)⟩)⟩)⟩)⟩)⟩)⟩)⟩)⟩)⟩)⟩)⟩)⟩)⟩)⟩)⟩)⟩)⟩)⟩)⟩)⟩)
set_option maxRecDepth 100000 in
theorem lr_wsX11_learn_r5 : ∀ w ∈ wsX11_learn_r5, lwIn w := (List.forall_mem_cons.mpr ⟨lm_661, (List.forall_mem_cons.mpr ⟨lm_216, (List.forall_mem_cons.mpr ⟨lm_660, (List.forall_mem_cons.mpr ⟨lm_307, (List.forall_mem_cons.mpr ⟨lm_659, (List.forall_mem_cons.mpr ⟨lm_658, (List.forall_mem_cons.mpr ⟨lm_657, (List.forall_mem_cons.mpr ⟨lm_686, (List.forall_mem_cons.mpr ⟨lm_685, (List.forall_mem_cons.mpr ⟨lm_684, (List.forall_mem_cons.mpr ⟨lm_591, (List.forall_mem_cons.mpr ⟨lm_590, (List.forall_mem_cons.mpr ⟨lm_683, (List.forall_mem_cons.mpr ⟨lm_682, (List.forall_mem_cons.mpr ⟨lm_681, (List.forall_mem_cons.mpr ⟨lm_680, (List.forall_mem_cons.mpr ⟨lm_678, (List.forall_mem_cons.mpr ⟨lm_574, (List.forall_mem_cons.mpr ⟨lm_573, (List.forall_mem_cons.mpr ⟨lm_677, (List.forall_mem_cons.mpr ⟨lm_676, (List.forall_mem_cons.mpr ⟨lm_309, (List.forall_mem_cons.mpr ⟨lm_308, (List.forall_mem_cons.mpr ⟨lm_675, (fun _ h => absurd h List.not_mem_nil)⟩)⟩)⟩)⟩)⟩)⟩)⟩)⟩)⟩)⟩)⟩)⟩)⟩)⟩)⟩)⟩)⟩)⟩)⟩)⟩)⟩)⟩)⟩)⟩)
set_option maxRecDepth 100000 in
theorem lr_wsX11_learn_r6 : ∀ w ∈ wsX11_learn_r6, lwIn w := (List.forall_mem_cons.mpr ⟨lm_674, (List.forall_mem_cons.mpr ⟨lm_719, (List.forall_mem_cons.mpr ⟨lm_718, (List.forall_mem_cons.mpr ⟨lm_177, (List.forall_mem_cons.mpr ⟨lm_717, (List.forall_mem_cons.mpr ⟨lm_716, (List.forall_mem_cons.mpr ⟨lm_715, (List.forall_mem_cons.mpr ⟨lm_714, (List.forall_mem_cons.mpr ⟨lm_713, (List.forall_mem_cons.mpr ⟨lm_712, (List.forall_mem_cons.mpr ⟨lm_711, (List.forall_mem_cons.mpr ⟨lm_710, (List.forall_mem_cons.mpr ⟨lm_709, (List.forall_mem_cons.mpr ⟨lm_708, (List.forall_mem_cons.mpr ⟨lm_707, (List.forall_mem_cons.mpr ⟨lm_706, (List.forall_mem_cons.mpr ⟨lm_705, (List.forall_mem_cons.mpr ⟨lm_704, (List.forall_mem_cons.mpr ⟨lm_175, (List.forall_mem_cons.mpr ⟨lm_703, (List.forall_mem_cons.mpr ⟨lm_702, (List.forall_mem_cons.mpr ⟨lm_701, (List.forall_mem_cons.mpr ⟨lm_700, (List.forall_mem_cons.mpr ⟨lm_699, (fun _ h => absurd h List.not_mem_nil)⟩)⟩)⟩)⟩)⟩)⟩)⟩)⟩)⟩)⟩)⟩)⟩)⟩)⟩)⟩)⟩)⟩)⟩)⟩)⟩)⟩)⟩)⟩)⟩)
set_option maxRecDepth 100000 in
theorem lr_wsX11_learn_r7 : ∀ w ∈ wsX11_learn_r7, lwIn w := (List.forall_mem_cons.mpr ⟨lm_698, (List.forall_mem_cons.mpr ⟨lm_181, (List.forall_mem_cons.mpr ⟨lm_697, (List.forall_mem_cons.mpr ⟨lm_740, (List.forall_mem_cons.mpr ⟨lm_739, (List.forall_mem_cons.mpr ⟨lm_738, (List.forall_mem_cons.mpr ⟨lm_737, (List.forall_mem_cons.mpr ⟨lm_736, (List.forall_mem_cons.mpr ⟨lm_735, (List.forall_mem_cons.mpr ⟨lm_588, (List.forall_mem_cons.mpr ⟨lm_587, (List.forall_mem_cons.mpr ⟨lm_734, (List.forall_mem_cons.mpr ⟨lm_733, (List.forall_mem_cons.mpr ⟨lm_174, (List.forall_mem_cons.mpr ⟨lm_732, (List.forall_mem_cons.mpr ⟨lm_731, (List.forall_mem_cons.mpr ⟨lm_730, (List.forall_mem_cons.mpr ⟨lm_729, (List.forall_mem_cons.mpr ⟨lm_728, (List.forall_mem_cons.mpr ⟨lm_727, (List.forall_mem_cons.mpr ⟨lm_726, (List.forall_mem_cons.mpr ⟨lm_725, (List.forall_mem_cons.mpr ⟨lm_225, (List.forall_mem_cons.mpr ⟨lm_724, (fun _ h => absurd h List.not_mem_nil)⟩)⟩)⟩)⟩)⟩)⟩)⟩)⟩)⟩)⟩)⟩)⟩)⟩)⟩)⟩)⟩)⟩)⟩)⟩)⟩)⟩)⟩)⟩)⟩)
set_option maxRecDepth 100000 in
theorem lr_wsX11_learn_r8 : ∀ w ∈ wsX11_learn_r8, lwIn w := (List.forall_mem_cons.mpr ⟨lm_314, (List.forall_mem_cons.mpr ⟨lm_723, (List.forall_mem_cons.mpr ⟨lm_722, (List.forall_mem_cons.mpr ⟨lm_721, (List.forall_mem_cons.mpr ⟨lm_720, (List.forall_mem_cons.mpr ⟨lm_179, (List.forall_mem_cons.mpr ⟨lm_764, (List.forall_mem_cons.mpr ⟨lm_621, (List.forall_mem_cons.mpr ⟨lm_763, (List.forall_mem_cons.mpr ⟨lm_762, (List.forall_mem_cons.mpr ⟨lm_761, (List.forall_mem_cons.mpr ⟨lm_620, (List.forall_mem_cons.mpr ⟨lm_760, (List.forall_mem_cons.mpr ⟨lm_619, (List.forall_mem_cons.mpr ⟨lm_618, (List.forall_mem_cons.mpr ⟨lm_759, (List.forall_mem_cons.mpr ⟨lm_758, (List.forall_mem_cons.mpr ⟨lm_757, (List.forall_mem_cons.mpr ⟨lm_756, (List.forall_mem_cons.mpr ⟨lm_755, (List.forall_mem_cons.mpr ⟨lm_754, (List.forall_mem_cons.mpr ⟨lm_753, (List.forall_mem_cons.mpr ⟨lm_752, (List.forall_mem_cons.mpr ⟨lm_751, (fun _ h => absurd h List.not_mem_nil)⟩)⟩)⟩)⟩)⟩)⟩)⟩)⟩)⟩)⟩)⟩)⟩)⟩)⟩)⟩)⟩)⟩)⟩)⟩)⟩)⟩)⟩)⟩)⟩)
set_option maxRecDepth 100000 in
theorem lr_wsX11_learn_r9 : ∀ w ∈ wsX11_learn_r9, lwIn w := (List.forall_mem_cons.mpr ⟨lm_750, (List.forall_mem_cons.mpr ⟨lm_749, (List.forall_mem_cons.mpr ⟨lm_748, (List.forall_mem_cons.mpr ⟨lm_747, (List.forall_mem_cons.mpr ⟨lm_746, (List.forall_mem_cons.mpr ⟨lm_745, (List.forall_mem_cons.mpr ⟨lm_744, (List.forall_mem_cons.mpr ⟨lm_743, (List.forall_mem_cons.mpr ⟨lm_742, (List.forall_mem_cons.mpr ⟨lm_741, (List.forall_mem_cons.mpr ⟨lm_788, (List.forall_mem_cons.mpr ⟨lm_787, (List.forall_mem_cons.mpr ⟨lm_786, (List.forall_mem_cons.mpr ⟨lm_586, (List.forall_mem_cons.mpr ⟨lm_785, (List.forall_mem_cons.mpr ⟨lm_594, (List.forall_mem_cons.mpr ⟨lm_593, (List.forall_mem_cons.mpr ⟨lm_592, (List.forall_mem_cons.mpr ⟨lm_784, (List.forall_mem_cons.mpr ⟨lm_783, (List.forall_mem_cons.mpr ⟨lm_782, (List.forall_mem_cons.mpr ⟨lm_781, (List.forall_mem_cons.mpr ⟨lm_780, (List.forall_mem_cons.mpr ⟨lm_779, (fun _ h => absurd h List.not_mem_nil)⟩)⟩)⟩)⟩)⟩)⟩)⟩)⟩)⟩)⟩)⟩)⟩)⟩)⟩)⟩)⟩)⟩)⟩)⟩)⟩)⟩)⟩)⟩)⟩)
set_option maxRecDepth 100000 in
theorem lr_wsX11_learn_r10 : ∀ w ∈ wsX11_learn_r10, lwIn w := (List.forall_mem_cons.mpr ⟨lm_778, (List.forall_mem_cons.mpr ⟨lm_777, (List.forall_mem_cons.mpr ⟨lm_776, (List.forall_mem_cons.mpr ⟨lm_775, (List.forall_mem_cons.mpr ⟨lm_774, (List.forall_mem_cons.mpr ⟨lm_773, (List.forall_mem_cons.mpr ⟨lm_772, (List.forall_mem_cons.mpr ⟨lm_770, (List.forall_mem_cons.mpr ⟨lm_768, (List.forall_mem_cons.mpr ⟨lm_801, (List.forall_mem_cons.mpr ⟨lm_800, (List.forall_mem_cons.mpr ⟨lm_799, (List.forall_mem_cons.mpr ⟨lm_798, (List.forall_mem_cons.mpr ⟨lm_243, (List.forall_mem_cons.mpr ⟨lm_797, (List.forall_mem_cons.mpr ⟨lm_796, (List.forall_mem_cons.mpr ⟨lm_795, (List.forall_mem_cons.mpr ⟨lm_794, (List.forall_mem_cons.mpr ⟨lm_793, (List.forall_mem_cons.mpr ⟨lm_792, (List.forall_mem_cons.mpr ⟨lm_791, (List.forall_mem_cons.mpr ⟨lm_790, (List.forall_mem_cons.mpr ⟨lm_789, (List.forall_mem_cons.mpr ⟨lm_811, (fun _ h => absurd h List.not_mem_nil)⟩)⟩)⟩)⟩)⟩)⟩)⟩)⟩)⟩)⟩)⟩)⟩)⟩)⟩)⟩)⟩)⟩)⟩)⟩)⟩)⟩)⟩)⟩)⟩)
set_option maxRecDepth 100000 in
theorem lr_wsX11_learn_r11 : ∀ w ∈ wsX11_learn_r11, lwIn w := (List.forall_mem_cons.mpr ⟨lm_810, (List.forall_mem_cons.mpr ⟨lm_809, (List.forall_mem_cons.mpr ⟨lm_808, (List.forall_mem_cons.mpr ⟨lm_604, (List.forall_mem_cons.mpr ⟨lm_603, (List.forall_mem_cons.mpr ⟨lm_575, (List.forall_mem_cons.mpr ⟨lm_1258, (List.forall_mem_cons.mpr ⟨lm_1257, (List.forall_mem_cons.mpr ⟨lm_1256, (List.forall_mem_cons.mpr ⟨lm_1255, (List.forall_mem_cons.mpr ⟨lm_1254, (List.forall_mem_cons.mpr ⟨lm_1253, (List.forall_mem_cons.mpr ⟨lm_1252, (List.forall_mem_cons.mpr ⟨lm_21, (List.forall_mem_cons.mpr ⟨lm_1214, (List.forall_mem_cons.mpr ⟨lm_1213, (List.forall_mem_cons.mpr ⟨lm_1212, (List.forall_mem_cons.mpr ⟨lm_1211, (List.forall_mem_cons.mpr ⟨lm_997, (fun _ h => absurd h List.not_mem_nil)⟩)⟩)⟩)⟩)⟩)⟩)⟩)⟩)⟩)⟩)⟩)⟩)⟩)⟩)⟩)⟩)⟩)⟩)⟩)
set_option maxRecDepth 100000 in
theorem lr_wsX11_learn : ∀ w ∈ wsX11_learn, lwIn w := List.forall_mem_cons.mpr ⟨lm_1240, (List.forall_mem_append.mpr ⟨(List.forall_mem_append.mpr ⟨(List.forall_mem_append.mpr ⟨(List.forall_mem_append.mpr ⟨(List.forall_mem_append.mpr ⟨(List.forall_mem_append.mpr ⟨(List.forall_mem_append.mpr ⟨(List.forall_mem_append.mpr ⟨(List.forall_mem_append.mpr ⟨(List.forall_mem_append.mpr ⟨lr_wsX11_learn_r1, (List.forall_mem_append.mpr ⟨lr_wsX11_learn_r2, (List.forall_mem_append.mpr ⟨lr_wsX11_learn_r3, (List.forall_mem_append.mpr ⟨lr_wsX11_learn_r4, (List.forall_mem_append.mpr ⟨lr_wsX11_learn_r5, (List.forall_mem_append.mpr ⟨lr_wsX11_learn_r6, (List.forall_mem_append.mpr ⟨lr_wsX11_learn_r7, (List.forall_mem_append.mpr ⟨lr_wsX11_learn_r8, (List.forall_mem_append.mpr ⟨lr_wsX11_learn_r9, (List.forall_mem_append.mpr ⟨lr_wsX11_learn_r10, lr_wsX11_learn_r11⟩)⟩)⟩)⟩)⟩)⟩)⟩)⟩)⟩)⟩), la_0⟩), la_3⟩), la_6⟩), la_7⟩), la_8⟩), la_9⟩), la_4⟩), la_10⟩), la_11⟩)⟩
set_option maxRecDepth 100000 in
theorem lr_wsW_learn : ∀ w ∈ wsW_learn, lwIn w := List.forall_mem_cons.mpr ⟨lm_1237, (List.forall_mem_append.mpr ⟨(List.forall_mem_cons.mpr ⟨lm_209, (List.forall_mem_cons.mpr ⟨lm_22, (List.forall_mem_cons.mpr ⟨lm_1239, (List.forall_mem_cons.mpr ⟨lm_1238, (List.forall_mem_cons.mpr ⟨lm_238, (fun _ h => absurd h List.not_mem_nil)⟩)⟩)⟩)⟩)⟩), lr_wsX11_learn⟩)⟩
set_option maxRecDepth 100000 in
theorem lr_wsX12_learn_r1 : ∀ w ∈ wsX12_learn_r1, lwIn w := (List.forall_mem_cons.mpr ⟨lm_432, (List.forall_mem_cons.mpr ⟨lm_357, (List.forall_mem_cons.mpr ⟨lm_360, (List.forall_mem_cons.mpr ⟨lm_430, (List.forall_mem_cons.mpr ⟨lm_429, (List.forall_mem_cons.mpr ⟨lm_428, (List.forall_mem_cons.mpr ⟨lm_235, (List.forall_mem_cons.mpr ⟨lm_427, (List.forall_mem_cons.mpr ⟨lm_1267, (List.forall_mem_cons.mpr ⟨lm_1266, (List.forall_mem_cons.mpr ⟨lm_1265, (List.forall_mem_cons.mpr ⟨lm_1264, (List.forall_mem_cons.mpr ⟨lm_337, (List.forall_mem_cons.mpr ⟨lm_359, (List.forall_mem_cons.mpr ⟨lm_336, (List.forall_mem_cons.mpr ⟨lm_339, (List.forall_mem_cons.mpr ⟨lm_1263, (List.forall_mem_cons.mpr ⟨lm_1262, (List.forall_mem_cons.mpr ⟨lm_1261, (List.forall_mem_cons.mpr ⟨lm_1260, (List.forall_mem_cons.mpr ⟨lm_324, (List.forall_mem_cons.mpr ⟨lm_341, (List.forall_mem_cons.mpr ⟨lm_361, (List.forall_mem_cons.mpr ⟨lm_338, (fun _ h => absurd h List.not_mem_nil)⟩)⟩)⟩)⟩)⟩)⟩)⟩)⟩)⟩)⟩)⟩)⟩)⟩)⟩)⟩)⟩)⟩)⟩)⟩)⟩)⟩)⟩)⟩)⟩)
set_option maxRecDepth 100000 in
theorem lr_wsX12_learn_r2 : ∀ w ∈ wsX12_learn_r2, lwIn w := (List.forall_mem_cons.mpr ⟨lm_380, (List.forall_mem_cons.mpr ⟨lm_379, (List.forall_mem_cons.mpr ⟨lm_378, (List.forall_mem_cons.mpr ⟨lm_356, (List.forall_mem_cons.mpr ⟨lm_355, (List.forall_mem_cons.mpr ⟨lm_354, (List.forall_mem_cons.mpr ⟨lm_353, (List.forall_mem_cons.mpr ⟨lm_352, (List.forall_mem_cons.mpr ⟨lm_351, (List.forall_mem_cons.mpr ⟨lm_350, (List.forall_mem_cons.mpr ⟨lm_349, (List.forall_mem_cons.mpr ⟨lm_348, (List.forall_mem_cons.mpr ⟨lm_347, (List.forall_mem_cons.mpr ⟨lm_346, (List.forall_mem_cons.mpr ⟨lm_345, (List.forall_mem_cons.mpr ⟨lm_344, (List.forall_mem_cons.mpr ⟨lm_343, (List.forall_mem_cons.mpr ⟨lm_389, (List.forall_mem_cons.mpr ⟨lm_388, (List.forall_mem_cons.mpr ⟨lm_387, (List.forall_mem_cons.mpr ⟨lm_386, (List.forall_mem_cons.mpr ⟨lm_385, (List.forall_mem_cons.mpr ⟨lm_384, (List.forall_mem_cons.mpr ⟨lm_383, (fun _ h => absurd h List.not_mem_nil)⟩)⟩)⟩)⟩)⟩)⟩)⟩)⟩)⟩)⟩)⟩)⟩)⟩)⟩)⟩)⟩)⟩)⟩)⟩)⟩)⟩)⟩)⟩)⟩)
set_option maxRecDepth 100000 in
theorem lr_wsX12_learn_r3 : ∀ w ∈ wsX12_learn_r3, lwIn w := (List.forall_mem_cons.mpr ⟨lm_382, (List.forall_mem_cons.mpr ⟨lm_381, (List.forall_mem_cons.mpr ⟨lm_377, (List.forall_mem_cons.mpr ⟨lm_376, (List.forall_mem_cons.mpr ⟨lm_375, (List.forall_mem_cons.mpr ⟨lm_374, (List.forall_mem_cons.mpr ⟨lm_332, (List.forall_mem_cons.mpr ⟨lm_373, (List.forall_mem_cons.mpr ⟨lm_372, (List.forall_mem_cons.mpr ⟨lm_371, (List.forall_mem_cons.mpr ⟨lm_370, (List.forall_mem_cons.mpr ⟨lm_369, (List.forall_mem_cons.mpr ⟨lm_368, (List.forall_mem_cons.mpr ⟨lm_367, (List.forall_mem_cons.mpr ⟨lm_366, (List.forall_mem_cons.mpr ⟨lm_413, (List.forall_mem_cons.mpr ⟨lm_412, (List.forall_mem_cons.mpr ⟨lm_411, (List.forall_mem_cons.mpr ⟨lm_410, (List.forall_mem_cons.mpr ⟨lm_409, (List.forall_mem_cons.mpr ⟨lm_408, (List.forall_mem_cons.mpr ⟨lm_407, (List.forall_mem_cons.mpr ⟨lm_406, (List.forall_mem_cons.mpr ⟨lm_405, (fun _ h => absurd h List.not_mem_nil)⟩)⟩)⟩)⟩)⟩)⟩)⟩)⟩)⟩)⟩)⟩)⟩)⟩)⟩)⟩)⟩)⟩)⟩)⟩)⟩)⟩)⟩)⟩)⟩)
set_option maxRecDepth 100000 in
theorem lr_wsX12_learn_r4 : ∀ w ∈ wsX12_learn_r4, lwIn w := (List.forall_mem_cons.mpr ⟨lm_404, (List.forall_mem_cons.mpr ⟨lm_403, (List.forall_mem_cons.mpr ⟨lm_402, (List.forall_mem_cons.mpr ⟨lm_401, (List.forall_mem_cons.mpr ⟨lm_400, (List.forall_mem_cons.mpr ⟨lm_399, (List.forall_mem_cons.mpr ⟨lm_398, (List.forall_mem_cons.mpr ⟨lm_397, (List.forall_mem_cons.mpr ⟨lm_396, (List.forall_mem_cons.mpr ⟨lm_395, (List.forall_mem_cons.mpr ⟨lm_394, (List.forall_mem_cons.mpr ⟨lm_393, (List.forall_mem_cons.mpr ⟨lm_392, (List.forall_mem_cons.mpr ⟨lm_391, (List.forall_mem_cons.mpr ⟨lm_390, (List.forall_mem_cons.mpr ⟨lm_415, (List.forall_mem_cons.mpr ⟨lm_414, (List.forall_mem_cons.mpr ⟨lm_1219, (List.forall_mem_cons.mpr ⟨lm_1218, (List.forall_mem_cons.mpr ⟨lm_1217, (List.forall_mem_cons.mpr ⟨lm_1216, (fun _ h => absurd h List.not_mem_nil)⟩)⟩)⟩)⟩)⟩)⟩)⟩)⟩)⟩)⟩)⟩)⟩)⟩)⟩)⟩)⟩)⟩)⟩)⟩)⟩)⟩)
set_option maxRecDepth 100000 in
theorem lr_wsX12_learn : ∀ w ∈ wsX12_learn, lwIn w := List.forall_mem_cons.mpr ⟨lm_1259, (List.forall_mem_append.mpr ⟨(List.forall_mem_append.mpr ⟨lr_wsX12_learn_r1, (List.forall_mem_append.mpr ⟨lr_wsX12_learn_r2, (List.forall_mem_append.mpr ⟨lr_wsX12_learn_r3, lr_wsX12_learn_r4⟩)⟩)⟩), la_1⟩)⟩
set_option maxRecDepth 100000 in
theorem lr_wsX11_learnt : ∀ w ∈ wsX11_learnt, lwIn w := List.forall_mem_cons.mpr ⟨lm_1271, (List.forall_mem_append.mpr ⟨(List.forall_mem_append.mpr ⟨(List.forall_mem_cons.mpr ⟨lm_438, (List.forall_mem_cons.mpr ⟨lm_196, (List.forall_mem_cons.mpr ⟨lm_275, (List.forall_mem_cons.mpr ⟨lm_801, (List.forall_mem_cons.mpr ⟨lm_800, (List.forall_mem_cons.mpr ⟨lm_799, (List.forall_mem_cons.mpr ⟨lm_238, (List.forall_mem_cons.mpr ⟨lm_798, (List.forall_mem_cons.mpr ⟨lm_243, (List.forall_mem_cons.mpr ⟨lm_997, (List.forall_mem_cons.mpr ⟨lm_691, (List.forall_mem_cons.mpr ⟨lm_176, (List.forall_mem_cons.mpr ⟨lm_690, (List.forall_mem_cons.mpr ⟨lm_689, (List.forall_mem_cons.mpr ⟨lm_688, (List.forall_mem_cons.mpr ⟨lm_687, (List.forall_mem_cons.mpr ⟨lm_1226, (List.forall_mem_cons.mpr ⟨lm_1225, (List.forall_mem_cons.mpr ⟨lm_183, (List.forall_mem_cons.mpr ⟨lm_1224, (fun _ h => absurd h List.not_mem_nil)⟩)⟩)⟩)⟩)⟩)⟩)⟩)⟩)⟩)⟩)⟩)⟩)⟩)⟩)⟩)⟩)⟩)⟩)⟩)⟩), la_0⟩), la_12⟩)⟩
set_option maxRecDepth 100000 in
theorem lr_wsW_learnt : ∀ w ∈ wsW_learnt, lwIn w := List.forall_mem_cons.mpr ⟨lm_1268, (List.forall_mem_append.mpr ⟨(List.forall_mem_cons.mpr ⟨lm_198, (List.forall_mem_cons.mpr ⟨lm_15, (List.forall_mem_cons.mpr ⟨lm_1270, (List.forall_mem_cons.mpr ⟨lm_1269, (List.forall_mem_cons.mpr ⟨lm_238, (fun _ h => absurd h List.not_mem_nil)⟩)⟩)⟩)⟩)⟩), lr_wsX11_learnt⟩)⟩
set_option maxRecDepth 100000 in
theorem lr_wsX12_learnt_r1 : ∀ w ∈ wsX12_learnt_r1, lwIn w := (List.forall_mem_cons.mpr ⟨lm_432, (List.forall_mem_cons.mpr ⟨lm_359, (List.forall_mem_cons.mpr ⟨lm_336, (List.forall_mem_cons.mpr ⟨lm_402, (List.forall_mem_cons.mpr ⟨lm_401, (List.forall_mem_cons.mpr ⟨lm_235, (List.forall_mem_cons.mpr ⟨lm_400, (List.forall_mem_cons.mpr ⟨lm_430, (List.forall_mem_cons.mpr ⟨lm_429, (List.forall_mem_cons.mpr ⟨lm_428, (List.forall_mem_cons.mpr ⟨lm_427, (List.forall_mem_cons.mpr ⟨lm_348, (List.forall_mem_cons.mpr ⟨lm_347, (List.forall_mem_cons.mpr ⟨lm_346, (List.forall_mem_cons.mpr ⟨lm_345, (List.forall_mem_cons.mpr ⟨lm_344, (List.forall_mem_cons.mpr ⟨lm_343, (List.forall_mem_cons.mpr ⟨lm_389, (List.forall_mem_cons.mpr ⟨lm_388, (List.forall_mem_cons.mpr ⟨lm_341, (List.forall_mem_cons.mpr ⟨lm_387, (List.forall_mem_cons.mpr ⟨lm_386, (List.forall_mem_cons.mpr ⟨lm_385, (List.forall_mem_cons.mpr ⟨lm_384, (fun _ h => absurd h List.not_mem_nil)⟩)⟩)⟩)⟩)⟩)⟩)⟩)⟩)⟩)⟩)⟩)⟩)⟩)⟩)⟩)⟩)⟩)⟩)⟩)⟩)⟩)⟩)⟩)⟩)
set_option maxRecDepth 100000 in
theorem lr_wsX12_learnt_r2 : ∀ w ∈ wsX12_learnt_r2, lwIn w := (List.forall_mem_cons.mpr ⟨lm_383, (List.forall_mem_cons.mpr ⟨lm_382, (List.forall_mem_cons.mpr ⟨lm_381, (fun _ h => absurd h List.not_mem_nil)⟩)⟩)⟩)
set_option maxRecDepth 100000 in
theorem lr_wsX12_learnt : ∀ w ∈ wsX12_learnt, lwIn w := List.forall_mem_cons.mpr ⟨lm_1272, (List.forall_mem_append.mpr ⟨(List.forall_mem_append.mpr ⟨lr_wsX12_learnt_r1, lr_wsX12_learnt_r2⟩), la_1⟩)⟩
set_option maxRecDepth 100000 in
theorem lr_wsX11_search_r1 : ∀ w ∈ wsX11_search_r1, lwIn w := (List.forall_mem_cons.mpr ⟨lm_453, (List.forall_mem_cons.mpr ⟨lm_188, (List.forall_mem_cons.mpr ⟨lm_249, (List.forall_mem_cons.mpr ⟨lm_896, (List.forall_mem_cons.mpr ⟨lm_665, (List.forall_mem_cons.mpr ⟨lm_656, (List.forall_mem_cons.mpr ⟨lm_655, (List.forall_mem_cons.mpr ⟨lm_654, (List.forall_mem_cons.mpr ⟨lm_227, (List.forall_mem_cons.mpr ⟨lm_653, (List.forall_mem_cons.mpr ⟨lm_284, (List.forall_mem_cons.mpr ⟨lm_287, (List.forall_mem_cons.mpr ⟨lm_652, (List.forall_mem_cons.mpr ⟨lm_651, (List.forall_mem_cons.mpr ⟨lm_183, (List.forall_mem_cons.mpr ⟨lm_650, (List.forall_mem_cons.mpr ⟨lm_696, (List.forall_mem_cons.mpr ⟨lm_695, (List.forall_mem_cons.mpr ⟨lm_694, (List.forall_mem_cons.mpr ⟨lm_693, (List.forall_mem_cons.mpr ⟨lm_692, (List.forall_mem_cons.mpr ⟨lm_691, (List.forall_mem_cons.mpr ⟨lm_176, (List.forall_mem_cons.mpr ⟨lm_690, (fun _ h => absurd h List.not_mem_nil)⟩)⟩)⟩)⟩)⟩)⟩)⟩)⟩)⟩)⟩)⟩)⟩)⟩)⟩)⟩)⟩)⟩)⟩)⟩)⟩)⟩)⟩)⟩)⟩)
set_option maxRecDepth 100000 in
theorem lr_wsX11_search_r2 : ∀ w ∈ wsX11_search_r2, lwIn w := (List.forall_mem_cons.mpr ⟨lm_689, (List.forall_mem_cons.mpr ⟨lm_688, (List.forall_mem_cons.mpr ⟨lm_687, (List.forall_mem_cons.mpr ⟨lm_1248, (List.forall_mem_cons.mpr ⟨lm_1247, (List.forall_mem_cons.mpr ⟨lm_1246, (List.forall_mem_cons.mpr ⟨lm_238, (List.forall_mem_cons.mpr ⟨lm_1245, (List.forall_mem_cons.mpr ⟨lm_276, (List.forall_mem_cons.mpr ⟨lm_450, (List.forall_mem_cons.mpr ⟨lm_986, (List.forall_mem_cons.mpr ⟨lm_248, (List.forall_mem_cons.mpr ⟨lm_451, (List.forall_mem_cons.mpr ⟨lm_1230, (List.forall_mem_cons.mpr ⟨lm_1229, (List.forall_mem_cons.mpr ⟨lm_1228, (List.forall_mem_cons.mpr ⟨lm_1227, (List.forall_mem_cons.mpr ⟨lm_285, (List.forall_mem_cons.mpr ⟨lm_288, (List.forall_mem_cons.mpr ⟨lm_1244, (List.forall_mem_cons.mpr ⟨lm_1243, (List.forall_mem_cons.mpr ⟨lm_1242, (List.forall_mem_cons.mpr ⟨lm_1241, (List.forall_mem_cons.mpr ⟨lm_286, (fun _ h => absurd h List.not_mem_nil)⟩)⟩)⟩)⟩)⟩)⟩)⟩)⟩)⟩)⟩)⟩)⟩)⟩)⟩)⟩)⟩)⟩)⟩)⟩)⟩)⟩)⟩)⟩)⟩)
set_option maxRecDepth 100000 in
theorem lr_wsX11_search_r3 : ∀ w ∈ wsX11_search_r3, lwIn w := (List.forall_mem_cons.mpr ⟨lm_771, (List.forall_mem_cons.mpr ⟨lm_769, (List.forall_mem_cons.mpr ⟨lm_767, (List.forall_mem_cons.mpr ⟨lm_766, (List.forall_mem_cons.mpr ⟨lm_765, (List.forall_mem_cons.mpr ⟨lm_807, (List.forall_mem_cons.mpr ⟨lm_289, (List.forall_mem_cons.mpr ⟨lm_806, (List.forall_mem_cons.mpr ⟨lm_805, (List.forall_mem_cons.mpr ⟨lm_804, (List.forall_mem_cons.mpr ⟨lm_217, (List.forall_mem_cons.mpr ⟨lm_803, (List.forall_mem_cons.mpr ⟨lm_280, (List.forall_mem_cons.mpr ⟨lm_279, (List.forall_mem_cons.mpr ⟨lm_802, (List.forall_mem_cons.mpr ⟨lm_565, (List.forall_mem_cons.mpr ⟨lm_564, (List.forall_mem_cons.mpr ⟨lm_1251, (List.forall_mem_cons.mpr ⟨lm_1250, (List.forall_mem_cons.mpr ⟨lm_1249, (List.forall_mem_cons.mpr ⟨lm_611, (List.forall_mem_cons.mpr ⟨lm_679, (List.forall_mem_cons.mpr ⟨lm_641, (List.forall_mem_cons.mpr ⟨lm_640, (fun _ h => absurd h List.not_mem_nil)⟩)⟩)⟩)⟩)⟩)⟩)⟩)⟩)⟩)⟩)⟩)⟩)⟩)⟩)⟩)⟩)⟩)⟩)⟩)⟩)⟩)⟩)⟩)⟩)
set_option maxRecDepth 100000 in
theorem lr_wsX11_search_r4 : ∀ w ∈ wsX11_search_r4, lwIn w := (List.forall_mem_cons.mpr ⟨lm_639, (List.forall_mem_cons.mpr ⟨lm_638, (List.forall_mem_cons.mpr ⟨lm_637, (List.forall_mem_cons.mpr ⟨lm_636, (List.forall_mem_cons.mpr ⟨lm_635, (List.forall_mem_cons.mpr ⟨lm_634, (List.forall_mem_cons.mpr ⟨lm_448, (List.forall_mem_cons.mpr ⟨lm_633, (List.forall_mem_cons.mpr ⟨lm_275, (List.forall_mem_cons.mpr ⟨lm_246, (List.forall_mem_cons.mpr ⟨lm_673, (List.forall_mem_cons.mpr ⟨lm_672, (List.forall_mem_cons.mpr ⟨lm_671, (List.forall_mem_cons.mpr ⟨lm_221, (List.forall_mem_cons.mpr ⟨lm_670, (List.forall_mem_cons.mpr ⟨lm_296, (List.forall_mem_cons.mpr ⟨lm_298, (List.forall_mem_cons.mpr ⟨lm_669, (List.forall_mem_cons.mpr ⟨lm_668, (List.forall_mem_cons.mpr ⟨lm_667, (List.forall_mem_cons.mpr ⟨lm_666, (List.forall_mem_cons.mpr ⟨lm_664, (List.forall_mem_cons.mpr ⟨lm_663, (List.forall_mem_cons.mpr ⟨lm_662, (fun _ h => absurd h List.not_mem_nil)⟩)⟩)⟩)⟩)⟩)⟩)⟩)⟩)⟩)⟩)⟩)⟩)⟩)⟩)⟩)⟩)⟩)⟩)⟩)⟩)⟩)⟩)⟩)⟩)
set_option maxRecDepth 100000 in
theorem lr_wsX11_search_r5 : ∀ w ∈ wsX11_search_r5, lwIn w := (List.forall_mem_cons.mpr ⟨lm_661, (List.forall_mem_cons.mpr ⟨lm_216, (List.forall_mem_cons.mpr ⟨lm_660, (List.forall_mem_cons.mpr ⟨lm_307, (List.forall_mem_cons.mpr ⟨lm_659, (List.forall_mem_cons.mpr ⟨lm_658, (List.forall_mem_cons.mpr ⟨lm_657, (List.forall_mem_cons.mpr ⟨lm_686, (List.forall_mem_cons.mpr ⟨lm_685, (List.forall_mem_cons.mpr ⟨lm_684, (List.forall_mem_cons.mpr ⟨lm_591, (List.forall_mem_cons.mpr ⟨lm_590, (List.forall_mem_cons.mpr ⟨lm_683, (List.forall_mem_cons.mpr ⟨lm_682, (List.forall_mem_cons.mpr ⟨lm_681, (List.forall_mem_cons.mpr ⟨lm_680, (List.forall_mem_cons.mpr ⟨lm_678, (List.forall_mem_cons.mpr ⟨lm_574, (List.forall_mem_cons.mpr ⟨lm_573, (List.forall_mem_cons.mpr ⟨lm_677, (List.forall_mem_cons.mpr ⟨lm_676, (List.forall_mem_cons.mpr ⟨lm_309, (List.forall_mem_cons.mpr ⟨lm_308, (List.forall_mem_cons.mpr ⟨lm_675, (fun _ h => absurd h List.not_mem_nil)⟩)⟩)⟩)⟩)⟩)⟩)⟩)⟩)⟩)⟩)⟩)⟩)⟩)⟩)⟩)⟩)⟩)⟩)⟩)⟩)⟩)⟩)⟩)⟩)
set_option maxRecDepth 100000 in
theorem lr_wsX11_search_r6 : ∀ w ∈ wsX11_search_r6, lwIn w := (List.forall_mem_cons.mpr ⟨lm_674, (List.forall_mem_cons.mpr ⟨lm_719, (List.forall_mem_cons.mpr ⟨lm_718, (List.forall_mem_cons.mpr ⟨lm_177, (List.forall_mem_cons.mpr ⟨lm_717, (List.forall_mem_cons.mpr ⟨lm_716, (List.forall_mem_cons.mpr ⟨lm_715, (List.forall_mem_cons.mpr ⟨lm_714, (List.forall_mem_cons.mpr ⟨lm_713, (List.forall_mem_cons.mpr ⟨lm_712, (List.forall_mem_cons.mpr ⟨lm_711, (List.forall_mem_cons.mpr ⟨lm_710, (List.forall_mem_cons.mpr ⟨lm_709, (List.forall_mem_cons.mpr ⟨lm_708, (List.forall_mem_cons.mpr ⟨lm_707, (List.forall_mem_cons.mpr ⟨lm_706, (List.forall_mem_cons.mpr ⟨lm_705, (List.forall_mem_cons.mpr ⟨lm_704, (List.forall_mem_cons.mpr ⟨lm_175, (List.forall_mem_cons.mpr ⟨lm_703, (List.forall_mem_cons.mpr ⟨lm_702, (List.forall_mem_cons.mpr ⟨lm_701, (List.forall_mem_cons.mpr ⟨lm_700, (List.forall_mem_cons.mpr ⟨lm_699, (fun _ h => absurd h List.not_mem_nil)⟩)⟩)⟩)⟩)⟩)⟩)⟩)⟩)⟩)⟩)⟩)⟩)⟩)⟩)⟩)⟩)⟩)⟩)⟩)⟩)⟩)⟩)⟩)⟩)
set_option maxRecDepth 100000 in
theorem lr_wsX11_search_r7 : ∀ w ∈ wsX11_search_r7, lwIn w := (List.forall_mem_cons.mpr ⟨lm_698, (List.forall_mem_cons.mpr ⟨lm_181, (List.forall_mem_cons.mpr ⟨lm_697, (List.forall_mem_cons.mpr ⟨lm_740, (List.forall_mem_cons.mpr ⟨lm_739, (List.forall_mem_cons.mpr ⟨lm_738, (List.forall_mem_cons.mpr ⟨lm_737, (List.forall_mem_cons.mpr ⟨lm_736, (List.forall_mem_cons.mpr ⟨lm_735, (List.forall_mem_cons.mpr ⟨lm_588, (List.forall_mem_cons.mpr ⟨lm_587, (List.forall_mem_cons.mpr ⟨lm_734, (List.forall_mem_cons.mpr ⟨lm_733, (List.forall_mem_cons.mpr ⟨lm_174, (List.forall_mem_cons.mpr ⟨lm_732, (List.forall_mem_cons.mpr ⟨lm_731, (List.forall_mem_cons.mpr ⟨lm_730, (List.forall_mem_cons.mpr ⟨lm_729, (List.forall_mem_cons.mpr ⟨lm_728, (List.forall_mem_cons.mpr ⟨lm_727, (List.forall_mem_cons.mpr ⟨lm_726, (List.forall_mem_cons.mpr ⟨lm_725, (List.forall_mem_cons.mpr ⟨lm_225, (List.forall_mem_cons.mpr ⟨lm_724, (fun _ h => absurd h List.not_mem_nil)⟩)⟩)⟩)⟩)⟩)⟩)⟩)⟩)⟩)⟩)⟩)⟩)⟩)⟩)⟩)⟩)⟩)⟩)⟩)⟩)⟩)⟩)⟩)⟩)
set_option maxRecDepth 100000 in
theorem lr_wsX11_search_r8 : ∀ w ∈ wsX11_search_r8, lwIn w := (List.forall_mem_cons.mpr ⟨lm_314, (List.forall_mem_cons.mpr ⟨lm_723, (List.forall_mem_cons.mpr ⟨lm_722, (List.forall_mem_cons.mpr ⟨lm_721, (List.forall_mem_cons.mpr ⟨lm_720, (List.forall_mem_cons.mpr ⟨lm_179, (List.forall_mem_cons.mpr ⟨lm_764, (List.forall_mem_cons.mpr ⟨lm_621, (List.forall_mem_cons.mpr ⟨lm_763, (List.forall_mem_cons.mpr ⟨lm_762, (List.forall_mem_cons.mpr ⟨lm_761, (List.forall_mem_cons.mpr ⟨lm_620, (List.forall_mem_cons.mpr ⟨lm_760, (List.forall_mem_cons.mpr ⟨lm_619, (List.forall_mem_cons.mpr ⟨lm_618, (List.forall_mem_cons.mpr ⟨lm_759, (List.forall_mem_cons.mpr ⟨lm_758, (List.forall_mem_cons.mpr ⟨lm_757, (List.forall_mem_cons.mpr ⟨lm_756, (List.forall_mem_cons.mpr ⟨lm_755, (List.forall_mem_cons.mpr ⟨lm_754, (List.forall_mem_cons.mpr ⟨lm_753, (List.forall_mem_cons.mpr ⟨lm_752, (List.forall_mem_cons.mpr ⟨lm_751, (fun _ h => absurd h List.not_mem_nil)⟩)⟩)⟩)⟩)⟩)⟩)⟩)⟩)⟩)⟩)⟩)⟩)⟩)⟩)⟩)⟩)⟩)⟩)⟩)⟩)⟩)⟩)⟩)⟩)
set_option maxRecDepth 100000 in
theorem lr_wsX11_search_r9 : ∀ w ∈ wsX11_search_r9, lwIn w := (List.forall_mem_cons.mpr ⟨lm_750, (List.forall_mem_cons.mpr ⟨lm_749, (List.forall_mem_cons.mpr ⟨lm_748, (List.forall_mem_cons.mpr ⟨lm_747, (List.forall_mem_cons.mpr ⟨lm_746, (List.forall_mem_cons.mpr ⟨lm_745, (List.forall_mem_cons.mpr ⟨lm_744, (List.forall_mem_cons.mpr ⟨lm_743, (List.forall_mem_cons.mpr ⟨lm_742, (List.forall_mem_cons.mpr ⟨lm_741, (List.forall_mem_cons.mpr ⟨lm_788, (List.forall_mem_cons.mpr ⟨lm_787, (List.forall_mem_cons.mpr ⟨lm_786, (List.forall_mem_cons.mpr ⟨lm_586, (List.forall_mem_cons.mpr ⟨lm_785, (List.forall_mem_cons.mpr ⟨lm_594, (List.forall_mem_cons.mpr ⟨lm_593, (List.forall_mem_cons.mpr ⟨lm_592, (List.forall_mem_cons.mpr ⟨lm_784, (List.forall_mem_cons.mpr ⟨lm_783, (List.forall_mem_cons.mpr ⟨lm_782, (List.forall_mem_cons.mpr ⟨lm_781, (List.forall_mem_cons.mpr ⟨lm_780, (List.forall_mem_cons.mpr ⟨lm_779, (fun _ h => absurd h List.not_mem_nil)⟩)⟩)⟩)⟩)⟩)⟩)⟩)⟩)⟩)⟩)⟩)⟩)⟩)⟩)⟩)⟩)⟩)⟩)⟩)⟩)⟩)⟩)⟩)⟩)
set_option maxRecDepth 100000 in
theorem lr_wsX11_search_r10 : ∀ w ∈ wsX11_search_r10, lwIn w := (List.forall_mem_cons.mpr ⟨lm_778, (List.forall_mem_cons.mpr ⟨lm_777, (List.forall_mem_cons.mpr ⟨lm_776, (List.forall_mem_cons.mpr ⟨lm_775, (List.forall_mem_cons.mpr ⟨lm_774, (List.forall_mem_cons.mpr ⟨lm_773, (List.forall_mem_cons.mpr ⟨lm_772, (List.forall_mem_cons.mpr ⟨lm_770, (List.forall_mem_cons.mpr ⟨lm_768, (List.forall_mem_cons.mpr ⟨lm_801, (List.forall_mem_cons.mpr ⟨lm_800, (List.forall_mem_cons.mpr ⟨lm_799, (List.forall_mem_cons.mpr ⟨lm_798, (List.forall_mem_cons.mpr ⟨lm_243, (List.forall_mem_cons.mpr ⟨lm_797, (List.forall_mem_cons.mpr ⟨lm_796, (List.forall_mem_cons.mpr ⟨lm_795, (List.forall_mem_cons.mpr ⟨lm_794, (List.forall_mem_cons.mpr ⟨lm_793, (List.forall_mem_cons.mpr ⟨lm_792, (List.forall_mem_cons.mpr ⟨lm_791, (List.forall_mem_cons.mpr ⟨lm_790, (List.forall_mem_cons.mpr ⟨lm_789, (List.forall_mem_cons.mpr ⟨lm_811, (fun _ h => absurd h List.not_mem_nil)⟩)⟩)⟩)⟩)⟩)⟩)⟩)⟩)⟩)⟩)⟩)⟩)⟩)⟩)⟩)⟩)⟩)⟩)⟩)⟩)⟩)⟩)⟩)⟩)
set_option maxRecDepth 100000 in
theorem lr_wsX11_search_r11 : ∀ w ∈ wsX11_search_r11, lwIn w := (List.forall_mem_cons.mpr ⟨lm_810, (List.forall_mem_cons.mpr ⟨lm_809, (List.forall_mem_cons.mpr ⟨lm_808, (List.forall_mem_cons.mpr ⟨lm_604, (List.forall_mem_cons.mpr ⟨lm_603, (List.forall_mem_cons.mpr ⟨lm_575, (List.forall_mem_cons.mpr ⟨lm_1258, (List.forall_mem_cons.mpr ⟨lm_1257, (List.forall_mem_cons.mpr ⟨lm_1256, (List.forall_mem_cons.mpr ⟨lm_1255, (List.forall_mem_cons.mpr ⟨lm_1254, (List.forall_mem_cons.mpr ⟨lm_1253, (List.forall_mem_cons.mpr ⟨lm_1252, (List.forall_mem_cons.mpr ⟨lm_21, (List.forall_mem_cons.mpr ⟨lm_1214, (List.forall_mem_cons.mpr ⟨lm_1213, (List.forall_mem_cons.mpr ⟨lm_1212, (List.forall_mem_cons.mpr ⟨lm_1211, (List.forall_mem_cons.mpr ⟨lm_997, (List.forall_mem_cons.mpr ⟨lm_1280, (List.forall_mem_cons.mpr ⟨lm_1279, (List.forall_mem_cons.mpr ⟨lm_1278, (List.forall_mem_cons.mpr ⟨lm_1277, (List.forall_mem_cons.mpr ⟨lm_898, (fun _ h => absurd h List.not_mem_nil)⟩)⟩)⟩)⟩)⟩)⟩)⟩)⟩)⟩)⟩)⟩)⟩)⟩)⟩)⟩)⟩)⟩)⟩)⟩)⟩)⟩)⟩)⟩)⟩)
set_option maxRecDepth 100000 in
theorem lr_wsX11_search_r12 : ∀ w ∈ wsX11_search_r12, lwIn w := (List.forall_mem_cons.mpr ⟨lm_897, (List.forall_mem_cons.mpr ⟨lm_1052, (List.forall_mem_cons.mpr ⟨lm_1051, (List.forall_mem_cons.mpr ⟨lm_1050, (List.forall_mem_cons.mpr ⟨lm_1049, (List.forall_mem_cons.mpr ⟨lm_1195, (List.forall_mem_cons.mpr ⟨lm_1194, (List.forall_mem_cons.mpr ⟨lm_1193, (List.forall_mem_cons.mpr ⟨lm_1192, (List.forall_mem_cons.mpr ⟨lm_274, (List.forall_mem_cons.mpr ⟨lm_1191, (List.forall_mem_cons.mpr ⟨lm_1190, (List.forall_mem_cons.mpr ⟨lm_1189, (List.forall_mem_cons.mpr ⟨lm_1188, (List.forall_mem_cons.mpr ⟨lm_1187, (List.forall_mem_cons.mpr ⟨lm_1197, (List.forall_mem_cons.mpr ⟨lm_1196, (fun _ h => absurd h List.not_mem_nil)⟩)⟩)⟩)⟩)⟩)⟩)⟩)⟩)⟩)⟩)⟩)⟩)⟩)⟩)⟩)⟩)⟩)
set_option maxRecDepth 100000 in
theorem lr_wsX11_search : ∀ w ∈ wsX11_search, lwIn w := List.forall_mem_cons.mpr ⟨lm_1276, (List.forall_mem_append.mpr ⟨(List.forall_mem_append.mpr ⟨(List.forall_mem_append.mpr ⟨(List.forall_mem_append.mpr ⟨(List.forall_mem_append.mpr ⟨(List.forall_mem_append.mpr ⟨(List.forall_mem_append.mpr ⟨(List.forall_mem_append.mpr ⟨(List.forall_mem_append.mpr ⟨(List.forall_mem_append.mpr ⟨lr_wsX11_search_r1, (List.forall_mem_append.mpr ⟨lr_wsX11_search_r2, (List.forall_mem_append.mpr ⟨lr_wsX11_search_r3, (List.forall_mem_append.mpr ⟨lr_wsX11_search_r4, (List.forall_mem_append.mpr ⟨lr_wsX11_search_r5, (List.forall_mem_append.mpr ⟨lr_wsX11_search_r6, (List.forall_mem_append.mpr ⟨lr_wsX11_search_r7, (List.forall_mem_append.mpr ⟨lr_wsX11_search_r8, (List.forall_mem_append.mpr ⟨lr_wsX11_search_r9, (List.forall_mem_append.mpr ⟨lr_wsX11_search_r10, (List.forall_mem_append.mpr ⟨lr_wsX11_search_r11, lr_wsX11_search_r12⟩)⟩)⟩)⟩)⟩)⟩)⟩)⟩)⟩)⟩)⟩), la_0⟩), la_3⟩), la_6⟩), la_7⟩), la_8⟩), la_9⟩), la_4⟩), la_10⟩), la_13⟩)⟩
set_option maxRecDepth 100000 in
theorem lr_wsW_search : ∀ w ∈ wsW_search, lwIn w := List.forall_mem_cons.mpr ⟨lm_1273, (List.forall_mem_append.mpr ⟨(List.forall_mem_cons.mpr ⟨lm_190, (List.forall_mem_cons.mpr ⟨lm_9, (List.forall_mem_cons.mpr ⟨lm_1275, (List.forall_mem_cons.mpr ⟨lm_1274, (List.forall_mem_cons.mpr ⟨lm_238, (fun _ h => absurd h List.not_mem_nil)⟩)⟩)⟩)⟩)⟩), lr_wsX11_search⟩)⟩
set_option maxRecDepth 100000 in
theorem lr_wsX12_search_r1 : ∀ w ∈ wsX12_search_r1, lwIn w := (List.forall_mem_cons.mpr ⟨lm_432, (List.forall_mem_cons.mpr ⟨lm_357, (List.forall_mem_cons.mpr ⟨lm_360, (List.forall_mem_cons.mpr ⟨lm_358, (List.forall_mem_cons.mpr ⟨lm_339, (List.forall_mem_cons.mpr ⟨lm_402, (List.forall_mem_cons.mpr ⟨lm_401, (List.forall_mem_cons.mpr ⟨lm_235, (List.forall_mem_cons.mpr ⟨lm_400, (List.forall_mem_cons.mpr ⟨lm_430, (List.forall_mem_cons.mpr ⟨lm_429, (List.forall_mem_cons.mpr ⟨lm_428, (List.forall_mem_cons.mpr ⟨lm_427, (List.forall_mem_cons.mpr ⟨lm_1267, (List.forall_mem_cons.mpr ⟨lm_1266, (List.forall_mem_cons.mpr ⟨lm_1265, (List.forall_mem_cons.mpr ⟨lm_1264, (List.forall_mem_cons.mpr ⟨lm_337, (List.forall_mem_cons.mpr ⟨lm_359, (List.forall_mem_cons.mpr ⟨lm_336, (List.forall_mem_cons.mpr ⟨lm_1263, (List.forall_mem_cons.mpr ⟨lm_1262, (List.forall_mem_cons.mpr ⟨lm_1261, (List.forall_mem_cons.mpr ⟨lm_1260, (fun _ h => absurd h List.not_mem_nil)⟩)⟩)⟩)⟩)⟩)⟩)⟩)⟩)⟩)⟩)⟩)⟩)⟩)⟩)⟩)⟩)⟩)⟩)⟩)⟩)⟩)⟩)⟩)⟩)
set_option maxRecDepth 100000 in
theorem lr_wsX12_search_r2 : ∀ w ∈ wsX12_search_r2, lwIn w := (List.forall_mem_cons.mpr ⟨lm_324, (List.forall_mem_cons.mpr ⟨lm_341, (List.forall_mem_cons.mpr ⟨lm_361, (List.forall_mem_cons.mpr ⟨lm_338, (List.forall_mem_cons.mpr ⟨lm_380, (List.forall_mem_cons.mpr ⟨lm_379, (List.forall_mem_cons.mpr ⟨lm_378, (List.forall_mem_cons.mpr ⟨lm_356, (List.forall_mem_cons.mpr ⟨lm_355, (List.forall_mem_cons.mpr ⟨lm_354, (List.forall_mem_cons.mpr ⟨lm_353, (List.forall_mem_cons.mpr ⟨lm_352, (List.forall_mem_cons.mpr ⟨lm_351, (List.forall_mem_cons.mpr ⟨lm_350, (List.forall_mem_cons.mpr ⟨lm_349, (List.forall_mem_cons.mpr ⟨lm_348, (List.forall_mem_cons.mpr ⟨lm_347, (List.forall_mem_cons.mpr ⟨lm_346, (List.forall_mem_cons.mpr ⟨lm_345, (List.forall_mem_cons.mpr ⟨lm_344, (List.forall_mem_cons.mpr ⟨lm_343, (List.forall_mem_cons.mpr ⟨lm_389, (List.forall_mem_cons.mpr ⟨lm_388, (List.forall_mem_cons.mpr ⟨lm_387, (fun _ h => absurd h List.not_mem_nil)⟩)⟩)⟩)⟩)⟩)⟩)⟩)⟩)⟩)⟩)⟩)⟩)⟩)⟩)⟩)⟩)⟩)⟩)⟩)⟩)⟩)⟩)⟩)⟩)
set_option maxRecDepth 100000 in
theorem lr_wsX12_search_r3 : ∀ w ∈ wsX12_search_r3, lwIn w := (List.forall_mem_cons.mpr ⟨lm_386, (List.forall_mem_cons.mpr ⟨lm_385, (List.forall_mem_cons.mpr ⟨lm_384, (List.forall_mem_cons.mpr ⟨lm_383, (List.forall_mem_cons.mpr ⟨lm_382, (List.forall_mem_cons.mpr ⟨lm_381, (List.forall_mem_cons.mpr ⟨lm_377, (List.forall_mem_cons.mpr ⟨lm_376, (List.forall_mem_cons.mpr ⟨lm_375, (List.forall_mem_cons.mpr ⟨lm_374, (List.forall_mem_cons.mpr ⟨lm_332, (List.forall_mem_cons.mpr ⟨lm_373, (List.forall_mem_cons.mpr ⟨lm_372, (List.forall_mem_cons.mpr ⟨lm_371, (List.forall_mem_cons.mpr ⟨lm_370, (List.forall_mem_cons.mpr ⟨lm_369, (List.forall_mem_cons.mpr ⟨lm_368, (List.forall_mem_cons.mpr ⟨lm_367, (List.forall_mem_cons.mpr ⟨lm_366, (List.forall_mem_cons.mpr ⟨lm_413, (List.forall_mem_cons.mpr ⟨lm_412, (List.forall_mem_cons.mpr ⟨lm_411, (List.forall_mem_cons.mpr ⟨lm_410, (List.forall_mem_cons.mpr ⟨lm_409, (fun _ h => absurd h List.not_mem_nil)⟩)⟩)⟩)⟩)⟩)⟩)⟩)⟩)⟩)⟩)⟩)⟩)⟩)⟩)⟩)⟩)⟩)⟩)⟩)⟩)⟩)⟩)⟩)⟩)
set_option maxRecDepth 100000 in
theorem lr_wsX12_search_r4 : ∀ w ∈ wsX12_search_r4, lwIn w := (List.forall_mem_cons.mpr ⟨lm_408, (List.forall_mem_cons.mpr ⟨lm_407, (List.forall_mem_cons.mpr ⟨lm_406, (List.forall_mem_cons.mpr ⟨lm_405, (List.forall_mem_cons.mpr ⟨lm_404, (List.forall_mem_cons.mpr ⟨lm_403, (List.forall_mem_cons.mpr ⟨lm_399, (List.forall_mem_cons.mpr ⟨lm_398, (List.forall_mem_cons.mpr ⟨lm_397, (List.forall_mem_cons.mpr ⟨lm_396, (List.forall_mem_cons.mpr ⟨lm_395, (List.forall_mem_cons.mpr ⟨lm_394, (List.forall_mem_cons.mpr ⟨lm_393, (List.forall_mem_cons.mpr ⟨lm_392, (List.forall_mem_cons.mpr ⟨lm_391, (List.forall_mem_cons.mpr ⟨lm_390, (List.forall_mem_cons.mpr ⟨lm_415, (List.forall_mem_cons.mpr ⟨lm_414, (List.forall_mem_cons.mpr ⟨lm_1219, (List.forall_mem_cons.mpr ⟨lm_1218, (List.forall_mem_cons.mpr ⟨lm_1217, (List.forall_mem_cons.mpr ⟨lm_1216, (List.forall_mem_cons.mpr ⟨lm_1283, (List.forall_mem_cons.mpr ⟨lm_1282, (fun _ h => absurd h List.not_mem_nil)⟩)⟩)⟩)⟩)⟩)⟩)⟩)⟩)⟩)⟩)⟩)⟩)⟩)⟩)⟩)⟩)⟩)⟩)⟩)⟩)⟩)⟩)⟩)⟩)
set_option maxRecDepth 100000 in
theorem lr_wsX12_search_r5 : ∀ w ∈ wsX12_search_r5, lwIn w := (List.forall_mem_cons.mpr ⟨lm_1285, (List.forall_mem_cons.mpr ⟨lm_1284, (List.forall_mem_cons.mpr ⟨lm_1056, (List.forall_mem_cons.mpr ⟨lm_1055, (List.forall_mem_cons.mpr ⟨lm_1054, (List.forall_mem_cons.mpr ⟨lm_1206, (List.forall_mem_cons.mpr ⟨lm_1205, (List.forall_mem_cons.mpr ⟨lm_1204, (List.forall_mem_cons.mpr ⟨lm_1203, (List.forall_mem_cons.mpr ⟨lm_1182, (List.forall_mem_cons.mpr ⟨lm_1181, (List.forall_mem_cons.mpr ⟨lm_1180, (List.forall_mem_cons.mpr ⟨lm_1179, (fun _ h => absurd h List.not_mem_nil)⟩)⟩)⟩)⟩)⟩)⟩)⟩)⟩)⟩)⟩)⟩)⟩)⟩)
set_option maxRecDepth 100000 in
theorem lr_wsX12_search : ∀ w ∈ wsX12_search, lwIn w := List.forall_mem_cons.mpr ⟨lm_1281, (List.forall_mem_append.mpr ⟨(List.forall_mem_append.mpr ⟨lr_wsX12_search_r1, (List.forall_mem_append.mpr ⟨lr_wsX12_search_r2, (List.forall_mem_append.mpr ⟨lr_wsX12_search_r3, (List.forall_mem_append.mpr ⟨lr_wsX12_search_r4, lr_wsX12_search_r5⟩)⟩)⟩)⟩), la_1⟩)⟩
set_option maxRecDepth 100000 in
theorem lr_wsX11_restart_r1 : ∀ w ∈ wsX11_restart_r1, lwIn w := (List.forall_mem_cons.mpr ⟨lm_249, (List.forall_mem_cons.mpr ⟨lm_896, (List.forall_mem_cons.mpr ⟨lm_275, (List.forall_mem_cons.mpr ⟨lm_1214, (List.forall_mem_cons.mpr ⟨lm_1213, (List.forall_mem_cons.mpr ⟨lm_1212, (List.forall_mem_cons.mpr ⟨lm_227, (List.forall_mem_cons.mpr ⟨lm_1211, (List.forall_mem_cons.mpr ⟨lm_286, (List.forall_mem_cons.mpr ⟨lm_771, (List.forall_mem_cons.mpr ⟨lm_285, (List.forall_mem_cons.mpr ⟨lm_284, (List.forall_mem_cons.mpr ⟨lm_767, (List.forall_mem_cons.mpr ⟨lm_766, (List.forall_mem_cons.mpr ⟨lm_765, (List.forall_mem_cons.mpr ⟨lm_807, (List.forall_mem_cons.mpr ⟨lm_289, (List.forall_mem_cons.mpr ⟨lm_806, (List.forall_mem_cons.mpr ⟨lm_805, (List.forall_mem_cons.mpr ⟨lm_804, (List.forall_mem_cons.mpr ⟨lm_217, (List.forall_mem_cons.mpr ⟨lm_803, (List.forall_mem_cons.mpr ⟨lm_280, (List.forall_mem_cons.mpr ⟨lm_279, (fun _ h => absurd h List.not_mem_nil)⟩)⟩)⟩)⟩)⟩)⟩)⟩)⟩)⟩)⟩)⟩)⟩)⟩)⟩)⟩)⟩)⟩)⟩)⟩)⟩)⟩)⟩)⟩)⟩)
set_option maxRecDepth 100000 in
theorem lr_wsX11_restart_r2 : ∀ w ∈ wsX11_restart_r2, lwIn w := (List.forall_mem_cons.mpr ⟨lm_802, (List.forall_mem_cons.mpr ⟨lm_565, (List.forall_mem_cons.mpr ⟨lm_183, (List.forall_mem_cons.mpr ⟨lm_564, (fun _ h => absurd h List.not_mem_nil)⟩)⟩)⟩)⟩)
set_option maxRecDepth 100000 in
theorem lr_wsX11_restart : ∀ w ∈ wsX11_restart, lwIn w := List.forall_mem_cons.mpr ⟨lm_1286, (List.forall_mem_append.mpr ⟨(List.forall_mem_append.mpr ⟨(List.forall_mem_append.mpr ⟨(List.forall_mem_append.mpr ⟨lr_wsX11_restart_r1, lr_wsX11_restart_r2⟩), la_0⟩), la_3⟩), la_7⟩)⟩
set_option maxRecDepth 100000 in
theorem lr_wsX12_restart : ∀ w ∈ wsX12_restart, lwIn w := List.forall_mem_cons.mpr ⟨lm_1287, (List.forall_mem_append.mpr ⟨(List.forall_mem_cons.mpr ⟨lm_432, (List.forall_mem_cons.mpr ⟨lm_360, (List.forall_mem_cons.mpr ⟨lm_359, (List.forall_mem_cons.mpr ⟨lm_1219, (List.forall_mem_cons.mpr ⟨lm_1218, (List.forall_mem_cons.mpr ⟨lm_1217, (List.forall_mem_cons.mpr ⟨lm_235, (List.forall_mem_cons.mpr ⟨lm_1216, (List.forall_mem_cons.mpr ⟨lm_361, (List.forall_mem_cons.mpr ⟨lm_338, (List.forall_mem_cons.mpr ⟨lm_339, (List.forall_mem_cons.mpr ⟨lm_357, (fun _ h => absurd h List.not_mem_nil)⟩)⟩)⟩)⟩)⟩)⟩)⟩)⟩)⟩)⟩)⟩)⟩), la_1⟩)⟩
set_option maxRecDepth 100000 in
theorem lr_head : ∀ w ∈ lwHead, lwIn w := (List.forall_mem_cons.mpr ⟨lm_240, (List.forall_mem_cons.mpr ⟨lm_239, (List.forall_mem_cons.mpr ⟨lm_238, (List.forall_mem_cons.mpr ⟨lm_237, (List.forall_mem_cons.mpr ⟨lm_236, (List.forall_mem_cons.mpr ⟨lm_235, (List.forall_mem_cons.mpr ⟨lm_234, (List.forall_mem_cons.mpr ⟨lm_233, (List.forall_mem_cons.mpr ⟨lm_232, (List.forall_mem_cons.mpr ⟨lm_231, (List.forall_mem_cons.mpr ⟨lm_230, (List.forall_mem_cons.mpr ⟨lm_229, (List.forall_mem_cons.mpr ⟨lm_228, (List.forall_mem_cons.mpr ⟨lm_227, (List.forall_mem_cons.mpr ⟨lm_226, (List.forall_mem_cons.mpr ⟨lm_225, (List.forall_mem_cons.mpr ⟨lm_224, (List.forall_mem_cons.mpr ⟨lm_223, (List.forall_mem_cons.mpr ⟨lm_222, (List.forall_mem_cons.mpr ⟨lm_221, (List.forall_mem_cons.mpr ⟨lm_220, (List.forall_mem_cons.mpr ⟨lm_219, (List.forall_mem_cons.mpr ⟨lm_218, (List.forall_mem_cons.mpr ⟨lm_217, (List.forall_mem_cons.mpr ⟨lm_216, (List.forall_mem_cons.mpr ⟨lm_215, (List.forall_mem_cons.mpr ⟨lm_214, (List.forall_mem_cons.mpr ⟨lm_213, (List.forall_mem_cons.mpr ⟨lm_212, (List.forall_mem_cons.mpr ⟨lm_211, (List.forall_mem_cons.mpr ⟨lm_210, (List.forall_mem_cons.mpr ⟨lm_209, (List.forall_mem_cons.mpr ⟨lm_208, (List.forall_mem_cons.mpr ⟨lm_207, (List.forall_mem_cons.mpr ⟨lm_206, (List.forall_mem_cons.mpr ⟨lm_205, (List.forall_mem_cons.mpr ⟨lm_204, (List.forall_mem_cons.mpr ⟨lm_203, (List.forall_mem_cons.mpr ⟨lm_202, (List.forall_mem_cons.mpr ⟨lm_201, (List.forall_mem_cons.mpr ⟨lm_200, (List.forall_mem_cons.mpr ⟨lm_199, (List.forall_mem_cons.mpr ⟨lm_198, (List.forall_mem_cons.mpr ⟨lm_197, (List.forall_mem_cons.mpr ⟨lm_196, (List.forall_mem_cons.mpr ⟨lm_195, (List.forall_mem_cons.mpr ⟨lm_194, (List.forall_mem_cons.mpr ⟨lm_193, (List.forall_mem_cons.mpr ⟨lm_192, (List.forall_mem_cons.mpr ⟨lm_191, (List.forall_mem_cons.mpr ⟨lm_190, (List.forall_mem_cons.mpr ⟨lm_189, (List.forall_mem_cons.mpr ⟨lm_188, (List.forall_mem_cons.mpr ⟨lm_187, (List.forall_mem_cons.mpr ⟨lm_186, (List.forall_mem_cons.mpr ⟨lm_185, (List.forall_mem_cons.mpr ⟨lm_184, (List.forall_mem_cons.mpr ⟨lm_183, (List.forall_mem_cons.mpr ⟨lm_182, (List.forall_mem_cons.mpr ⟨lm_181, (List.forall_mem_cons.mpr ⟨lm_180, (List.forall_mem_cons.mpr ⟨lm_179, (List.forall_mem_cons.mpr ⟨lm_178, (List.forall_mem_cons.mpr ⟨lm_177, (List.forall_mem_cons.mpr ⟨lm_176, (List.forall_mem_cons.mpr ⟨lm_175, (List.forall_mem_cons.mpr ⟨lm_174, (List.forall_mem_cons.mpr ⟨lm_173, (List.forall_mem_cons.mpr ⟨lm_172, (List.forall_mem_cons.mpr ⟨lm_171, (List.forall_mem_cons.mpr ⟨lm_170, (List.forall_mem_cons.mpr ⟨lm_169, (List.forall_mem_cons.mpr ⟨lm_168, (List.forall_mem_cons.mpr ⟨lm_167, (List.forall_mem_cons.mpr ⟨lm_166, (List.forall_mem_cons.mpr ⟨lm_165, (List.forall_mem_cons.mpr ⟨lm_164, (List.forall_mem_cons.mpr ⟨lm_163, (List.forall_mem_cons.mpr ⟨lm_162, (List.forall_mem_cons.mpr ⟨lm_161, (List.forall_mem_cons.mpr ⟨lm_160, (List.forall_mem_cons.mpr ⟨lm_159, (List.forall_mem_cons.mpr ⟨lm_158, (List.forall_mem_cons.mpr ⟨lm_157, (List.forall_mem_cons.mpr ⟨lm_156, (List.forall_mem_cons.mpr ⟨lm_155, (List.forall_mem_cons.mpr ⟨lm_154, (List.forall_mem_cons.mpr ⟨lm_153, (List.forall_mem_cons.mpr ⟨lm_152, (List.forall_mem_cons.mpr ⟨lm_151, (List.forall_mem_cons.mpr ⟨lm_150, (List.forall_mem_cons.mpr ⟨lm_149, (List.forall_mem_cons.mpr ⟨lm_148, (List.forall_mem_cons.mpr ⟨lm_147, (List.forall_mem_cons.mpr ⟨lm_146, (List.forall_mem_cons.mpr ⟨lm_145, (List.forall_mem_cons.mpr ⟨lm_144, (List.forall_mem_cons.mpr ⟨lm_143, (List.forall_mem_cons.mpr ⟨lm_142, (List.forall_mem_cons.mpr ⟨lm_141, (List.forall_mem_cons.mpr ⟨lm_140, (List.forall_mem_cons.mpr ⟨lm_139, (List.forall_mem_cons.mpr ⟨lm_138, (List.forall_mem_cons.mpr ⟨lm_137, (List.forall_mem_cons.mpr ⟨lm_136, (List.forall_mem_cons.mpr ⟨lm_135, (List.forall_mem_cons.mpr ⟨lm_134, (List.forall_mem_cons.mpr ⟨lm_133, (List.forall_mem_cons.mpr ⟨lm_132, (List.forall_mem_cons.mpr ⟨lm_131, (List.forall_mem_cons.mpr ⟨lm_130, (List.forall_mem_cons.mpr ⟨lm_129, (List.forall_mem_cons.mpr ⟨lm_128, (List.forall_mem_cons.mpr ⟨lm_127, (List.forall_mem_cons.mpr ⟨lm_126, (List.forall_mem_cons.mpr ⟨lm_125, (List.forall_mem_cons.mpr ⟨lm_124, (List.forall_mem_cons.mpr ⟨lm_123, (List.forall_mem_cons.mpr ⟨lm_122, (List.forall_mem_cons.mpr ⟨lm_121, (List.forall_mem_cons.mpr ⟨lm_120, (List.forall_mem_cons.mpr ⟨lm_119, (List.forall_mem_cons.mpr ⟨lm_118, (List.forall_mem_cons.mpr ⟨lm_117, (List.forall_mem_cons.mpr ⟨lm_116, (List.forall_mem_cons.mpr ⟨lm_115, (List.forall_mem_cons.mpr ⟨lm_114, (List.forall_mem_cons.mpr ⟨lm_113, (List.forall_mem_cons.mpr ⟨lm_112, (List.forall_mem_cons.mpr ⟨lm_111, (List.forall_mem_cons.mpr ⟨lm_110, (List.forall_mem_cons.mpr ⟨lm_109, (List.forall_mem_cons.mpr ⟨lm_108, (List.forall_mem_cons.mpr ⟨lm_107, (List.forall_mem_cons.mpr ⟨lm_106, (List.forall_mem_cons.mpr ⟨lm_105, (List.forall_mem_cons.mpr ⟨lm_104, (List.forall_mem_cons.mpr ⟨lm_103, (List.forall_mem_cons.mpr ⟨lm_102, (List.forall_mem_cons.mpr ⟨lm_101, (List.forall_mem_cons.mpr ⟨lm_100, (List.forall_mem_cons.mpr ⟨lm_99, (List.forall_mem_cons.mpr ⟨lm_98, (List.forall_mem_cons.mpr ⟨lm_97, (List.forall_mem_cons.mpr ⟨lm_96, (List.forall_mem_cons.mpr ⟨lm_95, (List.forall_mem_cons.mpr ⟨lm_94, (List.forall_mem_cons.mpr ⟨lm_93, (List.forall_mem_cons.mpr ⟨lm_92, (List.forall_mem_cons.mpr ⟨lm_91, (List.forall_mem_cons.mpr ⟨lm_90, (List.forall_mem_cons.mpr ⟨lm_89, (List.forall_mem_cons.mpr ⟨lm_88, (List.forall_mem_cons.mpr ⟨lm_87, (List.forall_mem_cons.mpr ⟨lm_86, (List.forall_mem_cons.mpr ⟨lm_85, (List.forall_mem_cons.mpr ⟨lm_84, (List.forall_mem_cons.mpr ⟨lm_83, (List.forall_mem_cons.mpr ⟨lm_82, (List.forall_mem_cons.mpr ⟨lm_81, (List.forall_mem_cons.mpr ⟨lm_80, (List.forall_mem_cons.mpr ⟨lm_79, (List.forall_mem_cons.mpr ⟨lm_78, (List.forall_mem_cons.mpr ⟨lm_77, (List.forall_mem_cons.mpr ⟨lm_76, (List.forall_mem_cons.mpr ⟨lm_75, (List.forall_mem_cons.mpr ⟨lm_74, (List.forall_mem_cons.mpr ⟨lm_73, (List.forall_mem_cons.mpr ⟨lm_72, (List.forall_mem_cons.mpr ⟨lm_71, (List.forall_mem_cons.mpr ⟨lm_70, (List.forall_mem_cons.mpr ⟨lm_69, (List.forall_mem_cons.mpr ⟨lm_68, (List.forall_mem_cons.mpr ⟨lm_67, (List.forall_mem_cons.mpr ⟨lm_66, (List.forall_mem_cons.mpr ⟨lm_65, (List.forall_mem_cons.mpr ⟨lm_64, (List.forall_mem_cons.mpr ⟨lm_63, (List.forall_mem_cons.mpr ⟨lm_62, (List.forall_mem_cons.mpr ⟨lm_61, (List.forall_mem_cons.mpr ⟨lm_60, (List.forall_mem_cons.mpr ⟨lm_59, (List.forall_mem_cons.mpr ⟨lm_58, (List.forall_mem_cons.mpr ⟨lm_57, (List.forall_mem_cons.mpr ⟨lm_56, (List.forall_mem_cons.mpr ⟨lm_55, (List.forall_mem_cons.mpr ⟨lm_54, (List.forall_mem_cons.mpr ⟨lm_53, (List.forall_mem_cons.mpr ⟨lm_52, (List.forall_mem_cons.mpr ⟨lm_51, (List.forall_mem_cons.mpr ⟨lm_50, (List.forall_mem_cons.mpr ⟨lm_49, (List.forall_mem_cons.mpr ⟨lm_48, (List.forall_mem_cons.mpr ⟨lm_47, (List.forall_mem_cons.mpr ⟨lm_46, (List.forall_mem_cons.mpr ⟨lm_45, (List.forall_mem_cons.mpr ⟨lm_44, (List.forall_mem_cons.mpr ⟨lm_43, (List.forall_mem_cons.mpr ⟨lm_42, (List.forall_mem_cons.mpr ⟨lm_41, (List.forall_mem_cons.mpr ⟨lm_40, (List.forall_mem_cons.mpr ⟨lm_39, (List.forall_mem_cons.mpr ⟨lm_38, (List.forall_mem_cons.mpr ⟨lm_37, (List.forall_mem_cons.mpr ⟨lm_36, (List.forall_mem_cons.mpr ⟨lm_35, (List.forall_mem_cons.mpr ⟨lm_34, (List.forall_mem_cons.mpr ⟨lm_33, (List.forall_mem_cons.mpr ⟨lm_32, (List.forall_mem_cons.mpr ⟨lm_31, (List.forall_mem_cons.mpr ⟨lm_30, (List.forall_mem_cons.mpr ⟨lm_29, (List.forall_mem_cons.mpr ⟨lm_28, (List.forall_mem_cons.mpr ⟨lm_27, (List.forall_mem_cons.mpr ⟨lm_26, (List.forall_mem_cons.mpr ⟨lm_25, (List.forall_mem_cons.mpr ⟨lm_24, (List.forall_mem_cons.mpr ⟨lm_23, (List.forall_mem_cons.mpr ⟨lm_22, (List.forall_mem_cons.mpr ⟨lm_21, (List.forall_mem_cons.mpr ⟨lm_20, (List.forall_mem_cons.mpr ⟨lm_19, (List.forall_mem_cons.mpr ⟨lm_18, (List.forall_mem_cons.mpr ⟨lm_17, (List.forall_mem_cons.mpr ⟨lm_16, (List.forall_mem_cons.mpr ⟨lm_15, (List.forall_mem_cons.mpr ⟨lm_14, (List.forall_mem_cons.mpr ⟨lm_13, (List.forall_mem_cons.mpr ⟨lm_12, (List.forall_mem_cons.mpr ⟨lm_11, (List.forall_mem_cons.mpr ⟨lm_10, (List.forall_mem_cons.mpr ⟨lm_9, (List.forall_mem_cons.mpr ⟨lm_8, (List.forall_mem_cons.mpr ⟨lm_7, (List.forall_mem_cons.mpr ⟨lm_6, (List.forall_mem_cons.mpr ⟨lm_5, (List.forall_mem_cons.mpr ⟨lm_4, (List.forall_mem_cons.mpr ⟨lm_3, (List.forall_mem_cons.mpr ⟨lm_2, (List.forall_mem_cons.mpr ⟨lm_1, (List.forall_mem_cons.mpr ⟨lm_0, (fun _ h => absurd h List.not_mem_nil)⟩)⟩)⟩)⟩)⟩)⟩)⟩)⟩)⟩)⟩)⟩)⟩)⟩)⟩)⟩)⟩)⟩)⟩)⟩)⟩)⟩)⟩)⟩)⟩)⟩)⟩)⟩)⟩)⟩)⟩)⟩)⟩)⟩)⟩)⟩)⟩)⟩)⟩)⟩)⟩)⟩)⟩)⟩)⟩)⟩)⟩)⟩)⟩)⟩)⟩)⟩)⟩)⟩)⟩)⟩)⟩)⟩)⟩)⟩)⟩)⟩)⟩)⟩)⟩)⟩)⟩)⟩)⟩)⟩)⟩)⟩)⟩)⟩)⟩)⟩)⟩)⟩)⟩)⟩)⟩)⟩)⟩)⟩)⟩)⟩)⟩)⟩)⟩)⟩)⟩)⟩)⟩)⟩)⟩)⟩)⟩)⟩)⟩)⟩)⟩)⟩)⟩)⟩)⟩)⟩)⟩)⟩)⟩)⟩)⟩)⟩)⟩)⟩)⟩)⟩)⟩)⟩)⟩)⟩)⟩)⟩)⟩)⟩)⟩)⟩)⟩)⟩)⟩)⟩)⟩)⟩)⟩)⟩)⟩)⟩)⟩)⟩)⟩)⟩)⟩)⟩)⟩)⟩)⟩)⟩)⟩)⟩)⟩)⟩)⟩)⟩)⟩)⟩)⟩)⟩)⟩)⟩)⟩)⟩)⟩)⟩)⟩)⟩)⟩)⟩)⟩)⟩)⟩)⟩)⟩)⟩)⟩)⟩)⟩)⟩)⟩)⟩)⟩)⟩)⟩)⟩)⟩)⟩)⟩)⟩)⟩)⟩)⟩)⟩)⟩)⟩)⟩)⟩)⟩)⟩)⟩)⟩)⟩)⟩)⟩)⟩)⟩)⟩)⟩)⟩)⟩)⟩)⟩)⟩)⟩)⟩)⟩)⟩)⟩)⟩)⟩)⟩)⟩)⟩)⟩)⟩)⟩)⟩)⟩)⟩)⟩)⟩)⟩)⟩)⟩)⟩)⟩)⟩)⟩)⟩)⟩)⟩)⟩)⟩)⟩)⟩)
set_option maxRecDepth 100000 in
theorem ts_law : ∀ w ∈ TsLaw, w ∈ lw_tbl := List.forall_mem_append.mpr ⟨lr_head, (List.forall_mem_append.mpr ⟨la_0, (List.forall_mem_append.mpr ⟨la_1, (List.forall_mem_append.mpr ⟨lr_wsX11_init, (List.forall_mem_append.mpr ⟨lr_wsX12_init, (List.forall_mem_append.mpr ⟨lr_wsW_append, (List.forall_mem_append.mpr ⟨lr_wsX12_append, (List.forall_mem_append.mpr ⟨lr_wsX12_thrown, (List.forall_mem_append.mpr ⟨lr_wsW_truncate, (List.forall_mem_append.mpr ⟨lr_wsX12_truncate, (List.forall_mem_append.mpr ⟨lr_wsW_load, (List.forall_mem_append.mpr ⟨lr_wsX12_load, (List.forall_mem_append.mpr ⟨lr_wsX11_errorCode, (List.forall_mem_append.mpr ⟨lr_wsX12_errorCode, (List.forall_mem_append.mpr ⟨lr_wsX11_errorPosition, (List.forall_mem_append.mpr ⟨lr_wsX12_errorPosition, (List.forall_mem_append.mpr ⟨lr_wsW_report, (List.forall_mem_append.mpr ⟨lr_wsX12_report, (List.forall_mem_append.mpr ⟨lr_wsW_domain, (List.forall_mem_append.mpr ⟨lr_wsX12_domain, (List.forall_mem_append.mpr ⟨lr_wsW_constraint, (List.forall_mem_append.mpr ⟨lr_wsX12_constraint_, (List.forall_mem_append.mpr ⟨lr_wsW_fact, (List.forall_mem_append.mpr ⟨lr_wsX12_fact, (List.forall_mem_append.mpr ⟨lr_wsW_factOf, (List.forall_mem_append.mpr ⟨lr_wsX12_factOf, (List.forall_mem_append.mpr ⟨lr_wsW_explanationSize, (List.forall_mem_append.mpr ⟨lr_wsX12_explanationSize, (List.forall_mem_append.mpr ⟨lr_wsW_explained, (List.forall_mem_append.mpr ⟨lr_wsX12_explained, (List.forall_mem_append.mpr ⟨lr_wsW_depth, (List.forall_mem_append.mpr ⟨lr_wsX12_depth, (List.forall_mem_append.mpr ⟨lr_wsW_isSupported, (List.forall_mem_append.mpr ⟨lr_wsX12_isSupported, (List.forall_mem_append.mpr ⟨lr_wsW_support, (List.forall_mem_append.mpr ⟨lr_wsX12_support, (List.forall_mem_append.mpr ⟨lr_wsW_watchers, (List.forall_mem_append.mpr ⟨lr_wsX12_watchers, (List.forall_mem_append.mpr ⟨lr_wsW_tuples, (List.forall_mem_append.mpr ⟨lr_wsX12_tuples, (List.forall_mem_append.mpr ⟨lr_wsW_tightness, (List.forall_mem_append.mpr ⟨lr_wsX12_tightness, (List.forall_mem_append.mpr ⟨lr_wsX11_solutions, (List.forall_mem_append.mpr ⟨lr_wsX12_solutions, (List.forall_mem_append.mpr ⟨lr_wsW_first, (List.forall_mem_append.mpr ⟨lr_wsX12_first, (List.forall_mem_append.mpr ⟨lr_wsW_possible, (List.forall_mem_append.mpr ⟨lr_wsX12_possible, (List.forall_mem_append.mpr ⟨lr_wsX11_overlooked, (List.forall_mem_append.mpr ⟨lr_wsX12_overlooked, (List.forall_mem_append.mpr ⟨lr_wsW_forbid, (List.forall_mem_append.mpr ⟨lr_wsX12_forbid, (List.forall_mem_append.mpr ⟨lr_wsW_decide, (List.forall_mem_append.mpr ⟨lr_wsX12_decide, (List.forall_mem_append.mpr ⟨lr_wsW_back, (List.forall_mem_append.mpr ⟨lr_wsX12_back, (List.forall_mem_append.mpr ⟨lr_wsW_decision, (List.forall_mem_append.mpr ⟨lr_wsX12_decision, (List.forall_mem_append.mpr ⟨lr_wsW_probe, (List.forall_mem_append.mpr ⟨lr_wsX12_probe, (List.forall_mem_append.mpr ⟨lr_wsW_learn, (List.forall_mem_append.mpr ⟨lr_wsX12_learn, (List.forall_mem_append.mpr ⟨lr_wsW_learnt, (List.forall_mem_append.mpr ⟨lr_wsX12_learnt, (List.forall_mem_append.mpr ⟨lr_wsW_search, (List.forall_mem_append.mpr ⟨lr_wsX12_search, (List.forall_mem_append.mpr ⟨lr_wsX11_restart, lr_wsX12_restart⟩)⟩)⟩)⟩)⟩)⟩)⟩)⟩)⟩)⟩)⟩)⟩)⟩)⟩)⟩)⟩)⟩)⟩)⟩)⟩)⟩)⟩)⟩)⟩)⟩)⟩)⟩)⟩)⟩)⟩)⟩)⟩)⟩)⟩)⟩)⟩)⟩)⟩)⟩)⟩)⟩)⟩)⟩)⟩)⟩)⟩)⟩)⟩)⟩)⟩)⟩)⟩)⟩)⟩)⟩)⟩)⟩)⟩)⟩)⟩)⟩)⟩)⟩)⟩)⟩)⟩)⟩
set_option maxRecDepth 100000 in
theorem lwX_11 : ∀ w ∈ wsX110, w ∈ lw_tbl := la_0
set_option maxRecDepth 100000 in
theorem lwX_12 : ∀ w ∈ wsX120, w ∈ lw_tbl := la_1
set_option maxRecDepth 100000 in
theorem lwX_8 : ∀ w ∈ wsX80, w ∈ lw_tbl := la_2
set_option maxRecDepth 100000 in
theorem lwX_9 : ∀ w ∈ wsX90, w ∈ lw_tbl := la_3
set_option maxRecDepth 100000 in
theorem lwX_4 : ∀ w ∈ wsX40, w ∈ lw_tbl := la_4
set_option maxRecDepth 100000 in
theorem lwX_7 : ∀ w ∈ wsX70, w ∈ lw_tbl := la_5
set_option maxRecDepth 100000 in
theorem lwX_6 : ∀ w ∈ wsX60, w ∈ lw_tbl := la_6
set_option maxRecDepth 100000 in
theorem lwX_3 : ∀ w ∈ wsX30, w ∈ lw_tbl := la_7
set_option maxRecDepth 100000 in
theorem lwX_0 : ∀ w ∈ wsX00, w ∈ lw_tbl := la_8
set_option maxRecDepth 100000 in
theorem lwX_2 : ∀ w ∈ wsX20, w ∈ lw_tbl := la_9
set_option maxRecDepth 100000 in
theorem lwX_10 : ∀ w ∈ wsX100, w ∈ lw_tbl := la_10
