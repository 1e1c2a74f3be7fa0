def zLK (C : Nat) : List (Nat × Nat × Nat × Bool) := match C with
  | 0 => [(27, 329, 1178, false), (41, 4, 3023, false), (37, 5, 3027, false)]
  | 1 => [(11, 35, 1215, true), (75, 10, 3044, false), (91, 36, 3048, true), (98, 13, 3053, false), (127, 14, 3057, false), (102, 15, 3062, false), (142, 18, 3066, false), (145, 19, 3070, false), (148, 20, 3074, false), (151, 16, 3078, false), (155, 17, 3082, false), (81, 11, 3086, false), (105, 12, 3090, false), (109, 37, 3094, true), (85, 321, 3101, false)]
  | 2 => [(9, 66, 2039, true), (18, 0, 2041, true)]
  | 3 => [(15, 329, 3052, false), (33, 38, 4073, false)]
  | 4 => [(22, 67, 2125, true), (33, 56, 2130, false), (175, 57, 2134, false), (39, 44, 2141, false), (46, 45, 2145, false), (82, 52, 2150, false), (51, 55, 2154, false), (165, 322, 2158, false), (171, 323, 2168, false), (73, 51, 2206, false), (88, 54, 2211, false), (55, 46, 2219, false), (60, 47, 2225, false), (65, 48, 2231, false), (142, 49, 2238, false), (70, 50, 3004, false), (77, 53, 3008, false)]
  | 5 => [(23, 329, 2062, false), (32, 60, 5111, false), (29, 328, 5133, false)]
  | 6 => [(67, 329, 2129, false), (79, 69, 3156, false)]
  | 7 => [(9, 41, 1028, true), (18, 66, 1063, true), (28, 0, 1174, true), (35, 7, 1209, true), (51, 34, 2034, true), (54, 58, 2056, true), (67, 42, 2109, true), (71, 43, 2121, true), (78, 68, 3012, true), (81, 3, 3019, true), (84, 145, 3031, false), (253, 8, 3035, true), (259, 9, 3040, true), (93, 72, 3116, true), (106, 70, 3124, true), (112, 73, 3132, true), (130, 74, 3144, true), (136, 71, 3152, true), (145, 19, 3168, true), (149, 20, 3173, true), (153, 21, 3178, true), (156, 23, 3186, true), (159, 24, 3194, true), (162, 25, 3202, true), (165, 26, 3210, true), (168, 28, 3218, true), (171, 18, 3226, true), (180, 75, 3235, true), (183, 321, 3239, false), (188, 29, 4004, true), (191, 30, 4012, true), (194, 69, 4020, true), (198, 31, 4021, true), (202, 32, 4029, true), (205, 33, 4037, true), (208, 27, 4045, true), (211, 22, 4061, true), (218, 40, 4069, true), (223, 39, 4081, true), (226, 148, 4089, false), (229, 147, 4093, false), (232, 146, 4105, false), (235, 150, 4112, false), (296, 149, 4116, false), (387, 151, 4120, false), (390, 36, 4124, true), (238, 153, 4133, false), (241, 154, 4145, false), (247, 155, 4153, false), (250, 152, 4161, false), (266, 156, 4173, false), (353, 59, 4177, true), (360, 60, 4180, true), (403, 64, 4184, true), (407, 157, 4188, false), (411, 159, 4192, false), (414, 158, 4196, false), (269, 160, 4204, false), (272, 161, 4208, false), (275, 162, 4221, false), (422, 163, 4225, false), (278, 164, 4233, false), (287, 165, 5005, false), (292, 170, 5010, false), (442, 171, 5013, false), (300, 166, 5021, false), (304, 167, 5033, false), (309, 168, 5037, false), (428, 10, 5041, true), (433, 169, 5043, false), (438, 11, 5046, true), (316, 1, 5055, true), (320, 2, 5067, true), (323, 172, 5079, false), (326, 173, 5083, false), (329, 174, 5091, false), (341, 65, 5107, true), (346, 6, 5116, true), (356, 61, 5129, true), (373, 62, 5140, true), (377, 63, 5147, true)]
  | 8 => [(91, 176, 6044, false), (159, 195, 6067, false), (112, 194, 6071, false), (143, 196, 6081, false), (236, 212, 6085, false), (230, 205, 6089, false), (169, 200, 6094, false), (162, 199, 6098, false), (155, 198, 6102, false), (146, 322, 6106, false), (151, 323, 6107, false), (165, 197, 6108, false), (180, 202, 6113, false), (173, 201, 6117, false), (233, 211, 6124, false), (216, 210, 6132, false), (219, 206, 6136, false), (190, 204, 6140, false), (224, 207, 6146, false), (227, 209, 6154, false), (205, 208, 6158, false), (202, 178, 6162, false), (254, 214, 6169, false), (251, 190, 6173, false), (257, 188, 6177, false), (261, 185, 6185, false), (265, 186, 6193, false), (270, 187, 6206, false), (273, 191, 6210, false), (314, 230, 6218, false), (308, 229, 6222, false), (95, 181, 6226, false), (305, 228, 6230, false), (99, 182, 6234, false), (279, 189, 6238, false), (285, 222, 7002, false), (276, 221, 7006, false), (299, 227, 7010, false), (292, 225, 7014, false), (295, 226, 7018, false), (302, 224, 7022, false), (282, 223, 7026, false), (288, 215, 7030, false), (311, 183, 7034, false), (317, 236, 7050, false), (320, 231, 7058, false), (323, 238, 7062, false), (326, 232, 7086, false), (329, 246, 7098, false), (335, 249, 7106, false), (332, 177, 7122, false), (345, 261, 7154, false), (342, 260, 7159, false), (348, 262, 7163, false), (357, 267, 7174, false), (354, 265, 7178, false), (351, 266, 7182, false), (360, 272, 7198, false), (363, 271, 7202, false), (372, 276, 7214, false), (369, 275, 7218, false), (366, 247, 7222, false), (382, 284, 8010, false), (375, 316, 8014, false), (378, 283, 8017, false), (388, 286, 8025, false), (395, 289, 8043, false), (398, 291, 8048, false), (401, 292, 8052, false), (412, 294, 8060, false), (415, 296, 8063, false), (408, 295, 8066, false), (419, 298, 8076, false), (438, 302, 8088, false), (433, 184, 8092, false), (443, 301, 8098, false), (447, 305, 8110, false), (462, 311, 8130, false), (465, 310, 8134, false), (473, 317, 8165, false)]
  | 9 => [(9, 76, 1020, false), (13, 77, 2105, false), (18, 78, 2113, false), (23, 79, 2117, false), (28, 80, 3108, false), (32, 81, 3112, false), (37, 82, 3120, false), (41, 83, 3128, false), (45, 84, 3136, false), (49, 85, 3140, false), (53, 86, 3148, false), (57, 87, 3160, false), (61, 88, 3164, false), (65, 89, 3169, false), (69, 90, 3174, false), (73, 91, 3182, false), (77, 92, 3190, false), (81, 93, 3198, false), (85, 94, 3206, false), (89, 95, 3214, false), (93, 96, 3222, false), (97, 97, 3227, false), (101, 98, 3231, false), (105, 99, 4000, false), (109, 100, 4008, false), (113, 101, 4016, false), (117, 102, 4025, false), (121, 103, 4033, false), (125, 104, 4041, false), (129, 105, 4049, false), (133, 106, 4053, false), (137, 107, 4057, false), (141, 108, 4065, false), (145, 109, 4077, false), (149, 110, 4085, false), (153, 111, 4097, false), (157, 112, 4101, false), (161, 113, 4108, false), (165, 114, 4125, false), (169, 115, 4129, false), (173, 116, 4137, false), (177, 117, 4141, false), (181, 118, 4149, false), (185, 119, 4157, false), (189, 120, 4165, false), (193, 121, 4169, false), (197, 122, 4200, false), (201, 123, 4213, false), (205, 124, 4217, false), (209, 125, 4229, false), (213, 126, 4237, false), (217, 127, 5001, false), (221, 128, 5017, false), (225, 129, 5025, false), (230, 130, 5029, false), (235, 131, 5047, false), (240, 132, 5051, false), (245, 133, 5059, false), (249, 134, 5063, false), (253, 135, 5071, false), (257, 136, 5075, false), (261, 137, 5095, false), (265, 138, 5099, false), (269, 139, 5103, false), (273, 140, 5112, false), (277, 141, 5121, false), (281, 142, 5125, false), (287, 143, 5136, false), (292, 144, 5143, false), (12, 175, 5154, false), (276, 179, 6039, false), (280, 180, 6047, false), (17, 192, 6051, false), (22, 193, 6055, false), (31, 203, 6059, false), (27, 213, 6063, false), (36, 216, 6165, false), (40, 217, 6181, false), (44, 218, 6189, false), (48, 219, 6198, false), (52, 220, 6202, false), (56, 233, 6214, false), (60, 234, 7038, false), (64, 235, 7042, false), (68, 237, 7046, false), (72, 239, 7054, false), (76, 240, 7066, false), (80, 241, 7070, false), (84, 242, 7074, false), (88, 243, 7078, false), (92, 244, 7082, false), (96, 245, 7090, false), (100, 248, 7094, false), (104, 250, 7102, false), (108, 251, 7110, false), (112, 252, 7114, false), (116, 253, 7118, false), (120, 254, 7126, false), (124, 255, 7130, false), (128, 256, 7134, false), (132, 257, 7138, false), (136, 258, 7142, false), (140, 259, 7146, false), (144, 263, 7150, false), (148, 264, 7166, false), (152, 268, 7170, false), (156, 269, 7186, false), (160, 270, 7190, false), (164, 273, 7194, false), (168, 274, 7206, false), (172, 277, 7210, false), (176, 278, 7226, false), (180, 279, 7230, false), (184, 280, 7234, false), (188, 281, 7238, false), (192, 282, 8002, false), (196, 285, 8006, false), (200, 287, 8021, false), (204, 288, 8029, false), (208, 289, 8033, false), (212, 290, 8039, false), (216, 293, 8044, false), (220, 297, 8056, false), (224, 299, 8072, false), (229, 300, 8080, false), (234, 303, 8084, false), (239, 304, 8102, false), (244, 306, 8106, false), (248, 307, 8114, false), (252, 308, 8118, false), (256, 309, 8122, false), (260, 312, 8126, false), (264, 313, 8143, false), (268, 314, 8148, false), (272, 315, 8153, false), (284, 318, 8157, false), (291, 319, 8161, false), (295, 320, 8168, false)]
  | 11 => [(335, 324, 2162, false), (492, 325, 2172, false), (495, 327, 2176, false), (1059, 330, 2184, false)]
  | 12 => [(9, 326, 2179, false)]
  | _ => []
def zPK (C : Nat) : List (Nat × Nat × Nat) := match C with
  | 0 => [(47, 3, 5120)]
  | 1 => [(51, 3, 3039), (130, 0, 3061), (113, 1, 3098)]
  | 4 => [(180, 0, 2138)]
  | 6 => [(73, 3, 3016)]
  | 7 => [(417, 1, 4212), (381, 3, 5151)]
  | 8 => [(134, 0, 6080), (338, 1, 7125), (404, 2, 8069)]
  | _ => []
def zOK (C : Nat) : List (Nat × Nat) := match C with
  | 0 => [(3, 1177)]
  | 1 => [(3, 1212)]
  | 2 => [(1, 2037)]
  | 3 => [(3, 1218)]
  | 4 => [(3, 1031)]
  | 5 => [(3, 2059)]
  | 6 => [(3, 1066)]
  | 7 => [(1, 1023)]
  | 8 => [(3, 5157)]
  | _ => []
def zFK (C : Nat) : List (Nat × Nat × Nat × Nat × Bool) := match C with
  | 0 => [(33, 0, 0, 1181, false), (44, 0, 1, 1184, false), (9, 0, 2, 1186, false), (15, 0, 3, 1187, false), (18, 0, 4, 1188, false), (21, 0, 5, 1189, false), (24, 0, 6, 1190, false)]
  | 1 => [(159, 6, 0, 1069, true), (78, 6, 1, 1072, true), (60, 6, 2, 1076, true), (95, 6, 7, 1093, true), (136, 6, 8, 1097, true), (133, 6, 11, 1111, true), (46, 6, 12, 1113, true), (57, 6, 13, 1117, true), (121, 6, 15, 1124, true), (124, 6, 16, 1128, true), (139, 6, 17, 1132, true), (66, 0, 1, 1183, true), (118, 0, 6, 1191, true), (38, 1, 0, 1223, false), (42, 1, 1, 1225, false), (12, 1, 2, 1226, false), (18, 1, 3, 1228, false), (22, 1, 4, 1230, false), (25, 1, 5, 1232, false), (28, 1, 6, 1234, false), (31, 1, 7, 1236, false), (63, 1, 8, 1238, false), (71, 1, 9, 2000, false), (72, 1, 10, 2002, false), (34, 1, 11, 2004, false)]
  | 2 => [(10, 2, 1, 2043, false), (19, 2, 2, 2045, false)]
  | 3 => [(21, 6, 5, 1085, true), (27, 6, 9, 1101, true), (30, 6, 10, 1105, true), (9, 3, 0, 1219, false)]
  | 4 => [(11, 4, 0, 1032, false), (19, 4, 1, 1034, false), (27, 4, 2, 1035, false), (15, 4, 3, 1037, false), (36, 4, 4, 1039, false), (159, 4, 5, 1040, false), (30, 4, 6, 1041, false), (162, 4, 7, 1042, false), (92, 6, 0, 1068, true), (96, 6, 1, 1073, true), (100, 6, 2, 1077, true), (104, 6, 3, 1080, true), (43, 6, 4, 1083, true), (106, 6, 5, 1087, true), (117, 6, 6, 1090, true), (125, 6, 7, 1094, true), (153, 6, 8, 1098, true), (111, 6, 9, 1102, true), (114, 6, 10, 1106, true), (122, 6, 11, 1110, true), (130, 6, 12, 1114, true), (135, 6, 13, 1118, true), (140, 6, 14, 1122, true), (146, 6, 15, 1126, true), (151, 6, 16, 1129, true), (156, 6, 17, 1134, true)]
  | 5 => [(11, 5, 0, 2063, false), (15, 5, 1, 2065, false), (20, 5, 2, 2067, false)]
  | 6 => [(39, 6, 0, 1067, false), (43, 6, 1, 1071, false), (46, 6, 2, 1075, false), (49, 6, 3, 1079, false), (52, 6, 4, 1082, false), (55, 6, 5, 1086, false), (58, 6, 6, 1089, false), (61, 6, 7, 1092, false), (64, 6, 8, 1096, false), (9, 6, 9, 1100, false), (15, 6, 10, 1104, false), (18, 6, 11, 1108, false), (21, 6, 12, 1112, false), (24, 6, 13, 1116, false), (27, 6, 14, 1120, false), (30, 6, 15, 1123, false), (33, 6, 16, 1127, false), (36, 6, 17, 1131, false)]
  | 7 => [(63, 4, 1, 1033, true), (75, 4, 2, 1036, true), (90, 4, 3, 1038, true), (244, 6, 0, 1070, true), (177, 6, 1, 1074, true), (332, 6, 2, 1078, true), (335, 6, 3, 1081, true), (87, 6, 4, 1084, true), (262, 6, 5, 1088, true), (338, 6, 6, 1091, true), (281, 6, 7, 1095, true), (284, 6, 8, 1099, true), (97, 6, 9, 1103, true), (100, 6, 10, 1107, true), (109, 6, 11, 1109, true), (115, 6, 12, 1115, true), (118, 6, 13, 1119, true), (121, 6, 14, 1121, true), (124, 6, 15, 1125, true), (127, 6, 16, 1130, true), (133, 6, 17, 1133, true), (313, 0, 0, 1182, true), (103, 0, 1, 1185, true), (437, 1, 0, 1224, true), (214, 1, 2, 1227, true), (400, 1, 3, 1229, true), (397, 1, 4, 1231, true), (139, 1, 5, 1233, true), (142, 1, 6, 1235, true), (174, 1, 7, 1237, true), (394, 1, 8, 1239, true), (265, 1, 9, 2001, true), (425, 1, 10, 2003, true), (256, 1, 11, 2005, true), (349, 2, 0, 2042, true), (344, 2, 1, 2044, true), (345, 2, 2, 2046, true), (370, 5, 0, 2064, true), (363, 5, 1, 2066, true), (366, 5, 2, 2068, true), (10, 7, 0, 2077, false), (19, 7, 1, 2078, false), (23, 7, 2, 2079, false), (29, 7, 3, 2080, false), (38, 7, 4, 2081, false), (42, 7, 5, 2082, false), (47, 7, 6, 2083, false), (55, 7, 7, 2084, false), (59, 7, 8, 2085, false)]
  | 8 => [(9, 8, 1, 5158, false), (13, 8, 2, 5159, false), (16, 8, 3, 5160, false), (20, 8, 4, 5161, false), (103, 8, 5, 5162, false), (24, 8, 6, 5163, false), (106, 8, 7, 5164, false), (109, 8, 8, 5165, false), (116, 8, 9, 5166, false), (119, 8, 10, 5167, false), (130, 8, 11, 5168, false), (140, 8, 12, 5169, false), (27, 8, 13, 5170, false), (31, 8, 14, 5171, false), (239, 8, 15, 5172, false), (242, 8, 16, 5173, false), (245, 8, 17, 5174, false), (248, 8, 18, 5175, false), (34, 8, 19, 5176, false), (37, 8, 20, 5177, false), (40, 8, 21, 5178, false), (43, 8, 22, 5179, false), (46, 8, 23, 5180, false), (49, 8, 24, 5181, false), (52, 8, 25, 5182, false), (55, 8, 26, 5183, false), (58, 8, 27, 5184, false), (61, 8, 28, 5185, false), (64, 8, 29, 5186, false), (67, 8, 30, 5187, false), (70, 8, 31, 5188, false), (385, 8, 32, 5189, false), (423, 8, 33, 5190, false), (427, 8, 34, 5191, false), (430, 8, 35, 5192, false), (73, 8, 36, 5193, false), (76, 8, 37, 5194, false), (79, 8, 38, 5195, false), (83, 8, 39, 5196, false)]
  | _ => []
def zXK (C : Nat) : List (Nat × Nat × Nat) := match C with
  | 11 => [(9, 0, 8173), (15, 1, 8174)]
  | _ => []
def zGK (C : Nat) : List (Nat × Nat × Nat) := match C with
  | 11 => [(38, 0, 2166), (1053, 1, 2182)]
  | _ => []
def zCK (C : Nat) : List (Nat × Int × Nat) := match C with
  | 4 => [(179, 1000000, 2137)]
  | 7 => [(446, 2000000000, 5082)]
  | 8 => [(133, 99999, 6079), (341, 1000000000, 7158)]
  | 10 => [(265, 1431655765, 3104), (266, 858993459, 3105), (267, 252645135, 3106)]
  | _ => []
def zJK (C : Nat) : List (Nat × Int × Nat) := match C with
  | 7 => [(290, 6, 5009), (307, -2, 5016), (431, 10, 5042), (447, 1103515245, 5087), (449, 12345, 5088), (451, 2147483648, 5089), (453, 65536, 5090)]
  | 8 => [(89, 2, 6043), (122, 97, 6075), (124, 122, 6076), (126, 48, 6077), (128, 57, 6078), (268, 3, 6197), (391, 9, 8037), (393, 8, 8038), (436, 7, 8096), (441, -2, 8097), (460, 2000000000, 8133), (450, 1103515245, 8138), (452, 12345, 8139), (454, 2147483648, 8140), (456, 65536, 8141), (458, 10, 8142), (469, 20, 8147), (471, 59, 8152)]
  | 9 => [(285, 4294967295, 8172)]
  | _ => []
def zSK (C : Nat) : List (Nat × Nat × Nat) := match C with
  | 4 => [(80, 0, 2149), (86, 1, 2210), (94, 2, 2215), (98, 3, 2216), (102, 4, 2217), (49, 5, 2218), (109, 6, 2223), (58, 7, 2224), (120, 8, 2229), (63, 9, 2230), (128, 10, 2235), (133, 11, 2236), (138, 12, 2237), (149, 13, 3002), (68, 14, 3003)]
  | 8 => [(176, 15, 6093), (178, 16, 6112), (184, 17, 6121), (186, 18, 6122), (188, 19, 6123), (208, 20, 6128), (210, 21, 6129), (212, 22, 6130), (214, 23, 6131), (193, 24, 6144), (222, 25, 6145), (195, 26, 6150), (196, 27, 6151), (198, 28, 6152), (200, 29, 6153)]
  | _ => []
def zST : List (String × Nat × String) := [(RX4, 80, "state"), (RX4, 86, "corners"), (RX4, 94, "steps"), (RX4, 98, "law"), (RX4, 102, "odds"), (RX4, 49, "street"), (RX4, 109, "to"), (RX4, 58, "well"), (RX4, 120, "feeds"), (RX4, 63, "name"), (RX4, 128, "at"), (RX4, 133, "ink"), (RX4, 138, "loops"), (RX4, 149, "walks"), (RX4, 68, "contract"), (RX8, 176, "state"), (RX8, 178, "corners"), (RX8, 184, "steps"), (RX8, 186, "law"), (RX8, 188, "odds"), (RX8, 208, "street"), (RX8, 210, "well"), (RX8, 212, "name"), (RX8, 214, "contract"), (RX8, 193, "to"), (RX8, 222, "feeds"), (RX8, 195, "at"), (RX8, 196, "ink"), (RX8, 198, "loops"), (RX8, 200, "walks")]
def zBY : List (List Int32) := [[115, 116, 97, 116, 101], [99, 111, 114, 110, 101, 114, 115], [115, 116, 101, 112, 115], [108, 97, 119], [111, 100, 100, 115], [115, 116, 114, 101, 101, 116], [116, 111], [119, 101, 108, 108], [102, 101, 101, 100, 115], [110, 97, 109, 101], [97, 116], [105, 110, 107], [108, 111, 111, 112, 115], [119, 97, 108, 107, 115], [99, 111, 110, 116, 114, 97, 99, 116], [115, 116, 97, 116, 101], [99, 111, 114, 110, 101, 114, 115], [115, 116, 101, 112, 115], [108, 97, 119], [111, 100, 100, 115], [115, 116, 114, 101, 101, 116], [119, 101, 108, 108], [110, 97, 109, 101], [99, 111, 110, 116, 114, 97, 99, 116], [116, 111], [102, 101, 101, 100, 115], [97, 116], [105, 110, 107], [108, 111, 111, 112, 115], [119, 97, 108, 107, 115]]
def zKK (C : Nat) : List (Nat × Nat × Nat) := match C with
  | 1 => [(9, 3, 1213)]
  | 2 => [(7, 6, 2038), (16, 0, 2040)]
  | 7 => [(7, 4, 1026), (16, 6, 1061), (26, 0, 1172), (33, 1, 1207), (45, 2, 2031), (52, 5, 2054)]
  | 9 => [(7, 7, 1018), (10, 8, 5152)]
  | _ => []
def zK2 (C : Nat) : List (Nat × Nat) := match C with
  | 5 => [(18, 2060)]
  | _ => []
def zCh : List Nat := [0, 1, 2, 3, 4, 5, 6, 7, 8, 9, 10, 11, 12, 13, 14]
set_option maxRecDepth 100000 in
theorem zLK_ok_0 : ((zLK 0).all (fun e => (if e.2.2.2 = true then zatN e.2.2.1 (.methodLinkNest (zRNi 0) e.1 (zy e.2.1) "LeashedNames") else zat e.2.2.1 (.methodLink (zRNi 0) e.1 (zy e.2.1))) && decide (e.2.1 < 331))) = true := by decide +kernel
set_option maxRecDepth 100000 in
theorem zLK_ok_1 : ((zLK 1).all (fun e => (if e.2.2.2 = true then zatN e.2.2.1 (.methodLinkNest (zRNi 1) e.1 (zy e.2.1) "LeashedNames") else zat e.2.2.1 (.methodLink (zRNi 1) e.1 (zy e.2.1))) && decide (e.2.1 < 331))) = true := by decide +kernel
set_option maxRecDepth 100000 in
theorem zLK_ok_2 : ((zLK 2).all (fun e => (if e.2.2.2 = true then zatN e.2.2.1 (.methodLinkNest (zRNi 2) e.1 (zy e.2.1) "LeashedNames") else zat e.2.2.1 (.methodLink (zRNi 2) e.1 (zy e.2.1))) && decide (e.2.1 < 331))) = true := by decide +kernel
set_option maxRecDepth 100000 in
theorem zLK_ok_3 : ((zLK 3).all (fun e => (if e.2.2.2 = true then zatN e.2.2.1 (.methodLinkNest (zRNi 3) e.1 (zy e.2.1) "LeashedNames") else zat e.2.2.1 (.methodLink (zRNi 3) e.1 (zy e.2.1))) && decide (e.2.1 < 331))) = true := by decide +kernel
set_option maxRecDepth 100000 in
theorem zLK_ok_4 : ((zLK 4).all (fun e => (if e.2.2.2 = true then zatN e.2.2.1 (.methodLinkNest (zRNi 4) e.1 (zy e.2.1) "LeashedNames") else zat e.2.2.1 (.methodLink (zRNi 4) e.1 (zy e.2.1))) && decide (e.2.1 < 331))) = true := by decide +kernel
set_option maxRecDepth 100000 in
theorem zLK_ok_5 : ((zLK 5).all (fun e => (if e.2.2.2 = true then zatN e.2.2.1 (.methodLinkNest (zRNi 5) e.1 (zy e.2.1) "LeashedNames") else zat e.2.2.1 (.methodLink (zRNi 5) e.1 (zy e.2.1))) && decide (e.2.1 < 331))) = true := by decide +kernel
set_option maxRecDepth 100000 in
theorem zLK_ok_6 : ((zLK 6).all (fun e => (if e.2.2.2 = true then zatN e.2.2.1 (.methodLinkNest (zRNi 6) e.1 (zy e.2.1) "LeashedNames") else zat e.2.2.1 (.methodLink (zRNi 6) e.1 (zy e.2.1))) && decide (e.2.1 < 331))) = true := by decide +kernel
set_option maxRecDepth 100000 in
theorem zLK_ok_7 : ((zLK 7).all (fun e => (if e.2.2.2 = true then zatN e.2.2.1 (.methodLinkNest (zRNi 7) e.1 (zy e.2.1) "LeashedNames") else zat e.2.2.1 (.methodLink (zRNi 7) e.1 (zy e.2.1))) && decide (e.2.1 < 331))) = true := by decide +kernel
set_option maxRecDepth 100000 in
theorem zLK_ok_8 : ((zLK 8).all (fun e => (if e.2.2.2 = true then zatN e.2.2.1 (.methodLinkNest (zRNi 8) e.1 (zy e.2.1) "LeashedNames") else zat e.2.2.1 (.methodLink (zRNi 8) e.1 (zy e.2.1))) && decide (e.2.1 < 331))) = true := by decide +kernel
set_option maxRecDepth 100000 in
theorem zLK_ok_9 : ((zLK 9).all (fun e => (if e.2.2.2 = true then zatN e.2.2.1 (.methodLinkNest (zRNi 9) e.1 (zy e.2.1) "LeashedNames") else zat e.2.2.1 (.methodLink (zRNi 9) e.1 (zy e.2.1))) && decide (e.2.1 < 331))) = true := by decide +kernel
set_option maxRecDepth 100000 in
theorem zLK_ok_10 : ((zLK 10).all (fun e => (if e.2.2.2 = true then zatN e.2.2.1 (.methodLinkNest (zRNi 10) e.1 (zy e.2.1) "LeashedNames") else zat e.2.2.1 (.methodLink (zRNi 10) e.1 (zy e.2.1))) && decide (e.2.1 < 331))) = true := by decide +kernel
set_option maxRecDepth 100000 in
theorem zLK_ok_11 : ((zLK 11).all (fun e => (if e.2.2.2 = true then zatN e.2.2.1 (.methodLinkNest (zRNi 11) e.1 (zy e.2.1) "LeashedNames") else zat e.2.2.1 (.methodLink (zRNi 11) e.1 (zy e.2.1))) && decide (e.2.1 < 331))) = true := by decide +kernel
set_option maxRecDepth 100000 in
theorem zLK_ok_12 : ((zLK 12).all (fun e => (if e.2.2.2 = true then zatN e.2.2.1 (.methodLinkNest (zRNi 12) e.1 (zy e.2.1) "LeashedNames") else zat e.2.2.1 (.methodLink (zRNi 12) e.1 (zy e.2.1))) && decide (e.2.1 < 331))) = true := by decide +kernel
set_option maxRecDepth 100000 in
theorem zLK_ok_13 : ((zLK 13).all (fun e => (if e.2.2.2 = true then zatN e.2.2.1 (.methodLinkNest (zRNi 13) e.1 (zy e.2.1) "LeashedNames") else zat e.2.2.1 (.methodLink (zRNi 13) e.1 (zy e.2.1))) && decide (e.2.1 < 331))) = true := by decide +kernel
set_option maxRecDepth 100000 in
theorem zLK_ok_14 : ((zLK 14).all (fun e => (if e.2.2.2 = true then zatN e.2.2.1 (.methodLinkNest (zRNi 14) e.1 (zy e.2.1) "LeashedNames") else zat e.2.2.1 (.methodLink (zRNi 14) e.1 (zy e.2.1))) && decide (e.2.1 < 331))) = true := by decide +kernel
theorem zLK_ok : ∀ C, ((zLK C).all (fun e => (if e.2.2.2 = true then zatN e.2.2.1 (.methodLinkNest (zRNi C) e.1 (zy e.2.1) "LeashedNames") else zat e.2.2.1 (.methodLink (zRNi C) e.1 (zy e.2.1))) && decide (e.2.1 < 331))) = true := fun C => match C with
  | 0 => zLK_ok_0
  | 1 => zLK_ok_1
  | 2 => zLK_ok_2
  | 3 => zLK_ok_3
  | 4 => zLK_ok_4
  | 5 => zLK_ok_5
  | 6 => zLK_ok_6
  | 7 => zLK_ok_7
  | 8 => zLK_ok_8
  | 9 => zLK_ok_9
  | 10 => zLK_ok_10
  | 11 => zLK_ok_11
  | 12 => zLK_ok_12
  | 13 => zLK_ok_13
  | 14 => zLK_ok_14
  | _ + 15 => rfl
def zPN (t : Nat) : MethodName := match t with | 0 => Lib.Math.min.name | 1 => Lib.Math.max.name | 2 => Lib.MathLoose.abs_long.x | _ => arraycopyName
set_option maxRecDepth 100000 in
theorem zPK_ok_0 : ((zPK 0).all (fun e => zat e.2.2 (.methodLink (zRNi 0) e.1 (zPN e.2.1)))) = true := by decide +kernel
set_option maxRecDepth 100000 in
theorem zPK_ok_1 : ((zPK 1).all (fun e => zat e.2.2 (.methodLink (zRNi 1) e.1 (zPN e.2.1)))) = true := by decide +kernel
set_option maxRecDepth 100000 in
theorem zPK_ok_2 : ((zPK 2).all (fun e => zat e.2.2 (.methodLink (zRNi 2) e.1 (zPN e.2.1)))) = true := by decide +kernel
set_option maxRecDepth 100000 in
theorem zPK_ok_3 : ((zPK 3).all (fun e => zat e.2.2 (.methodLink (zRNi 3) e.1 (zPN e.2.1)))) = true := by decide +kernel
set_option maxRecDepth 100000 in
theorem zPK_ok_4 : ((zPK 4).all (fun e => zat e.2.2 (.methodLink (zRNi 4) e.1 (zPN e.2.1)))) = true := by decide +kernel
set_option maxRecDepth 100000 in
theorem zPK_ok_5 : ((zPK 5).all (fun e => zat e.2.2 (.methodLink (zRNi 5) e.1 (zPN e.2.1)))) = true := by decide +kernel
set_option maxRecDepth 100000 in
theorem zPK_ok_6 : ((zPK 6).all (fun e => zat e.2.2 (.methodLink (zRNi 6) e.1 (zPN e.2.1)))) = true := by decide +kernel
set_option maxRecDepth 100000 in
theorem zPK_ok_7 : ((zPK 7).all (fun e => zat e.2.2 (.methodLink (zRNi 7) e.1 (zPN e.2.1)))) = true := by decide +kernel
set_option maxRecDepth 100000 in
theorem zPK_ok_8 : ((zPK 8).all (fun e => zat e.2.2 (.methodLink (zRNi 8) e.1 (zPN e.2.1)))) = true := by decide +kernel
set_option maxRecDepth 100000 in
theorem zPK_ok_9 : ((zPK 9).all (fun e => zat e.2.2 (.methodLink (zRNi 9) e.1 (zPN e.2.1)))) = true := by decide +kernel
set_option maxRecDepth 100000 in
theorem zPK_ok_10 : ((zPK 10).all (fun e => zat e.2.2 (.methodLink (zRNi 10) e.1 (zPN e.2.1)))) = true := by decide +kernel
set_option maxRecDepth 100000 in
theorem zPK_ok_11 : ((zPK 11).all (fun e => zat e.2.2 (.methodLink (zRNi 11) e.1 (zPN e.2.1)))) = true := by decide +kernel
set_option maxRecDepth 100000 in
theorem zPK_ok_12 : ((zPK 12).all (fun e => zat e.2.2 (.methodLink (zRNi 12) e.1 (zPN e.2.1)))) = true := by decide +kernel
set_option maxRecDepth 100000 in
theorem zPK_ok_13 : ((zPK 13).all (fun e => zat e.2.2 (.methodLink (zRNi 13) e.1 (zPN e.2.1)))) = true := by decide +kernel
set_option maxRecDepth 100000 in
theorem zPK_ok_14 : ((zPK 14).all (fun e => zat e.2.2 (.methodLink (zRNi 14) e.1 (zPN e.2.1)))) = true := by decide +kernel
theorem zPK_ok : ∀ C, ((zPK C).all (fun e => zat e.2.2 (.methodLink (zRNi C) e.1 (zPN e.2.1)))) = true := fun C => match C with
  | 0 => zPK_ok_0
  | 1 => zPK_ok_1
  | 2 => zPK_ok_2
  | 3 => zPK_ok_3
  | 4 => zPK_ok_4
  | 5 => zPK_ok_5
  | 6 => zPK_ok_6
  | 7 => zPK_ok_7
  | 8 => zPK_ok_8
  | 9 => zPK_ok_9
  | 10 => zPK_ok_10
  | 11 => zPK_ok_11
  | 12 => zPK_ok_12
  | 13 => zPK_ok_13
  | 14 => zPK_ok_14
  | _ + 15 => rfl
set_option maxRecDepth 100000 in
theorem zOK_ok_0 : ((zOK 0).all (fun e => zat e.2 (.methodLink (zRNi 0) e.1 Lib.objectInit))) = true := by decide +kernel
set_option maxRecDepth 100000 in
theorem zOK_ok_1 : ((zOK 1).all (fun e => zat e.2 (.methodLink (zRNi 1) e.1 Lib.objectInit))) = true := by decide +kernel
set_option maxRecDepth 100000 in
theorem zOK_ok_2 : ((zOK 2).all (fun e => zat e.2 (.methodLink (zRNi 2) e.1 Lib.objectInit))) = true := by decide +kernel
set_option maxRecDepth 100000 in
theorem zOK_ok_3 : ((zOK 3).all (fun e => zat e.2 (.methodLink (zRNi 3) e.1 Lib.objectInit))) = true := by decide +kernel
set_option maxRecDepth 100000 in
theorem zOK_ok_4 : ((zOK 4).all (fun e => zat e.2 (.methodLink (zRNi 4) e.1 Lib.objectInit))) = true := by decide +kernel
set_option maxRecDepth 100000 in
theorem zOK_ok_5 : ((zOK 5).all (fun e => zat e.2 (.methodLink (zRNi 5) e.1 Lib.objectInit))) = true := by decide +kernel
set_option maxRecDepth 100000 in
theorem zOK_ok_6 : ((zOK 6).all (fun e => zat e.2 (.methodLink (zRNi 6) e.1 Lib.objectInit))) = true := by decide +kernel
set_option maxRecDepth 100000 in
theorem zOK_ok_7 : ((zOK 7).all (fun e => zat e.2 (.methodLink (zRNi 7) e.1 Lib.objectInit))) = true := by decide +kernel
set_option maxRecDepth 100000 in
theorem zOK_ok_8 : ((zOK 8).all (fun e => zat e.2 (.methodLink (zRNi 8) e.1 Lib.objectInit))) = true := by decide +kernel
set_option maxRecDepth 100000 in
theorem zOK_ok_9 : ((zOK 9).all (fun e => zat e.2 (.methodLink (zRNi 9) e.1 Lib.objectInit))) = true := by decide +kernel
set_option maxRecDepth 100000 in
theorem zOK_ok_10 : ((zOK 10).all (fun e => zat e.2 (.methodLink (zRNi 10) e.1 Lib.objectInit))) = true := by decide +kernel
set_option maxRecDepth 100000 in
theorem zOK_ok_11 : ((zOK 11).all (fun e => zat e.2 (.methodLink (zRNi 11) e.1 Lib.objectInit))) = true := by decide +kernel
set_option maxRecDepth 100000 in
theorem zOK_ok_12 : ((zOK 12).all (fun e => zat e.2 (.methodLink (zRNi 12) e.1 Lib.objectInit))) = true := by decide +kernel
set_option maxRecDepth 100000 in
theorem zOK_ok_13 : ((zOK 13).all (fun e => zat e.2 (.methodLink (zRNi 13) e.1 Lib.objectInit))) = true := by decide +kernel
set_option maxRecDepth 100000 in
theorem zOK_ok_14 : ((zOK 14).all (fun e => zat e.2 (.methodLink (zRNi 14) e.1 Lib.objectInit))) = true := by decide +kernel
theorem zOK_ok : ∀ C, ((zOK C).all (fun e => zat e.2 (.methodLink (zRNi C) e.1 Lib.objectInit))) = true := fun C => match C with
  | 0 => zOK_ok_0
  | 1 => zOK_ok_1
  | 2 => zOK_ok_2
  | 3 => zOK_ok_3
  | 4 => zOK_ok_4
  | 5 => zOK_ok_5
  | 6 => zOK_ok_6
  | 7 => zOK_ok_7
  | 8 => zOK_ok_8
  | 9 => zOK_ok_9
  | 10 => zOK_ok_10
  | 11 => zOK_ok_11
  | 12 => zOK_ok_12
  | 13 => zOK_ok_13
  | 14 => zOK_ok_14
  | _ + 15 => rfl
def zTX (ci : Nat) : u_T := match ci with | 0 => TX0 | 1 => TX1 | 2 => TX2 | 3 => TX3 | 4 => TX4 | 5 => TX5 | 6 => TX6 | 7 => TX7 | _ => TX8
def zNF (ci : Nat) : Nat := match ci with | 0 => 7 | 1 => 12 | 2 => 3 | 3 => 1 | 4 => 8 | 5 => 3 | 6 => 18 | 7 => 9 | _ => 40
set_option maxRecDepth 100000 in
theorem zFK_ok_0 : ((zFK 0).all (fun e => (if e.2.2.2.2 = true then zatN e.2.2.2.1 (.fieldLinkNest (zRNi 0) e.1 (zRNi e.2.1) (zTX e.2.1 e.2.2.1).2.1 (zTX e.2.1 e.2.2.1).2.2.1 "LeashedNames") else zat e.2.2.2.1 (.fieldLink (zRNi 0) e.1 (zRNi e.2.1) (zTX e.2.1 e.2.2.1).2.1 (zTX e.2.1 e.2.2.1).2.2.1)) && decide (e.2.1 < 9 ∧ e.2.2.1 < zNF e.2.1 ∧ (zTX e.2.1 e.2.2.1).1 = zRNi e.2.1))) = true := by decide +kernel
set_option maxRecDepth 100000 in
theorem zFK_ok_1 : ((zFK 1).all (fun e => (if e.2.2.2.2 = true then zatN e.2.2.2.1 (.fieldLinkNest (zRNi 1) e.1 (zRNi e.2.1) (zTX e.2.1 e.2.2.1).2.1 (zTX e.2.1 e.2.2.1).2.2.1 "LeashedNames") else zat e.2.2.2.1 (.fieldLink (zRNi 1) e.1 (zRNi e.2.1) (zTX e.2.1 e.2.2.1).2.1 (zTX e.2.1 e.2.2.1).2.2.1)) && decide (e.2.1 < 9 ∧ e.2.2.1 < zNF e.2.1 ∧ (zTX e.2.1 e.2.2.1).1 = zRNi e.2.1))) = true := by decide +kernel
set_option maxRecDepth 100000 in
theorem zFK_ok_2 : ((zFK 2).all (fun e => (if e.2.2.2.2 = true then zatN e.2.2.2.1 (.fieldLinkNest (zRNi 2) e.1 (zRNi e.2.1) (zTX e.2.1 e.2.2.1).2.1 (zTX e.2.1 e.2.2.1).2.2.1 "LeashedNames") else zat e.2.2.2.1 (.fieldLink (zRNi 2) e.1 (zRNi e.2.1) (zTX e.2.1 e.2.2.1).2.1 (zTX e.2.1 e.2.2.1).2.2.1)) && decide (e.2.1 < 9 ∧ e.2.2.1 < zNF e.2.1 ∧ (zTX e.2.1 e.2.2.1).1 = zRNi e.2.1))) = true := by decide +kernel
set_option maxRecDepth 100000 in
theorem zFK_ok_3 : ((zFK 3).all (fun e => (if e.2.2.2.2 = true then zatN e.2.2.2.1 (.fieldLinkNest (zRNi 3) e.1 (zRNi e.2.1) (zTX e.2.1 e.2.2.1).2.1 (zTX e.2.1 e.2.2.1).2.2.1 "LeashedNames") else zat e.2.2.2.1 (.fieldLink (zRNi 3) e.1 (zRNi e.2.1) (zTX e.2.1 e.2.2.1).2.1 (zTX e.2.1 e.2.2.1).2.2.1)) && decide (e.2.1 < 9 ∧ e.2.2.1 < zNF e.2.1 ∧ (zTX e.2.1 e.2.2.1).1 = zRNi e.2.1))) = true := by decide +kernel
set_option maxRecDepth 100000 in
theorem zFK_ok_4 : ((zFK 4).all (fun e => (if e.2.2.2.2 = true then zatN e.2.2.2.1 (.fieldLinkNest (zRNi 4) e.1 (zRNi e.2.1) (zTX e.2.1 e.2.2.1).2.1 (zTX e.2.1 e.2.2.1).2.2.1 "LeashedNames") else zat e.2.2.2.1 (.fieldLink (zRNi 4) e.1 (zRNi e.2.1) (zTX e.2.1 e.2.2.1).2.1 (zTX e.2.1 e.2.2.1).2.2.1)) && decide (e.2.1 < 9 ∧ e.2.2.1 < zNF e.2.1 ∧ (zTX e.2.1 e.2.2.1).1 = zRNi e.2.1))) = true := by decide +kernel
set_option maxRecDepth 100000 in
theorem zFK_ok_5 : ((zFK 5).all (fun e => (if e.2.2.2.2 = true then zatN e.2.2.2.1 (.fieldLinkNest (zRNi 5) e.1 (zRNi e.2.1) (zTX e.2.1 e.2.2.1).2.1 (zTX e.2.1 e.2.2.1).2.2.1 "LeashedNames") else zat e.2.2.2.1 (.fieldLink (zRNi 5) e.1 (zRNi e.2.1) (zTX e.2.1 e.2.2.1).2.1 (zTX e.2.1 e.2.2.1).2.2.1)) && decide (e.2.1 < 9 ∧ e.2.2.1 < zNF e.2.1 ∧ (zTX e.2.1 e.2.2.1).1 = zRNi e.2.1))) = true := by decide +kernel
set_option maxRecDepth 100000 in
theorem zFK_ok_6 : ((zFK 6).all (fun e => (if e.2.2.2.2 = true then zatN e.2.2.2.1 (.fieldLinkNest (zRNi 6) e.1 (zRNi e.2.1) (zTX e.2.1 e.2.2.1).2.1 (zTX e.2.1 e.2.2.1).2.2.1 "LeashedNames") else zat e.2.2.2.1 (.fieldLink (zRNi 6) e.1 (zRNi e.2.1) (zTX e.2.1 e.2.2.1).2.1 (zTX e.2.1 e.2.2.1).2.2.1)) && decide (e.2.1 < 9 ∧ e.2.2.1 < zNF e.2.1 ∧ (zTX e.2.1 e.2.2.1).1 = zRNi e.2.1))) = true := by decide +kernel
set_option maxRecDepth 100000 in
theorem zFK_ok_7 : ((zFK 7).all (fun e => (if e.2.2.2.2 = true then zatN e.2.2.2.1 (.fieldLinkNest (zRNi 7) e.1 (zRNi e.2.1) (zTX e.2.1 e.2.2.1).2.1 (zTX e.2.1 e.2.2.1).2.2.1 "LeashedNames") else zat e.2.2.2.1 (.fieldLink (zRNi 7) e.1 (zRNi e.2.1) (zTX e.2.1 e.2.2.1).2.1 (zTX e.2.1 e.2.2.1).2.2.1)) && decide (e.2.1 < 9 ∧ e.2.2.1 < zNF e.2.1 ∧ (zTX e.2.1 e.2.2.1).1 = zRNi e.2.1))) = true := by decide +kernel
set_option maxRecDepth 100000 in
theorem zFK_ok_8 : ((zFK 8).all (fun e => (if e.2.2.2.2 = true then zatN e.2.2.2.1 (.fieldLinkNest (zRNi 8) e.1 (zRNi e.2.1) (zTX e.2.1 e.2.2.1).2.1 (zTX e.2.1 e.2.2.1).2.2.1 "LeashedNames") else zat e.2.2.2.1 (.fieldLink (zRNi 8) e.1 (zRNi e.2.1) (zTX e.2.1 e.2.2.1).2.1 (zTX e.2.1 e.2.2.1).2.2.1)) && decide (e.2.1 < 9 ∧ e.2.2.1 < zNF e.2.1 ∧ (zTX e.2.1 e.2.2.1).1 = zRNi e.2.1))) = true := by decide +kernel
set_option maxRecDepth 100000 in
theorem zFK_ok_9 : ((zFK 9).all (fun e => (if e.2.2.2.2 = true then zatN e.2.2.2.1 (.fieldLinkNest (zRNi 9) e.1 (zRNi e.2.1) (zTX e.2.1 e.2.2.1).2.1 (zTX e.2.1 e.2.2.1).2.2.1 "LeashedNames") else zat e.2.2.2.1 (.fieldLink (zRNi 9) e.1 (zRNi e.2.1) (zTX e.2.1 e.2.2.1).2.1 (zTX e.2.1 e.2.2.1).2.2.1)) && decide (e.2.1 < 9 ∧ e.2.2.1 < zNF e.2.1 ∧ (zTX e.2.1 e.2.2.1).1 = zRNi e.2.1))) = true := by decide +kernel
set_option maxRecDepth 100000 in
theorem zFK_ok_10 : ((zFK 10).all (fun e => (if e.2.2.2.2 = true then zatN e.2.2.2.1 (.fieldLinkNest (zRNi 10) e.1 (zRNi e.2.1) (zTX e.2.1 e.2.2.1).2.1 (zTX e.2.1 e.2.2.1).2.2.1 "LeashedNames") else zat e.2.2.2.1 (.fieldLink (zRNi 10) e.1 (zRNi e.2.1) (zTX e.2.1 e.2.2.1).2.1 (zTX e.2.1 e.2.2.1).2.2.1)) && decide (e.2.1 < 9 ∧ e.2.2.1 < zNF e.2.1 ∧ (zTX e.2.1 e.2.2.1).1 = zRNi e.2.1))) = true := by decide +kernel
set_option maxRecDepth 100000 in
theorem zFK_ok_11 : ((zFK 11).all (fun e => (if e.2.2.2.2 = true then zatN e.2.2.2.1 (.fieldLinkNest (zRNi 11) e.1 (zRNi e.2.1) (zTX e.2.1 e.2.2.1).2.1 (zTX e.2.1 e.2.2.1).2.2.1 "LeashedNames") else zat e.2.2.2.1 (.fieldLink (zRNi 11) e.1 (zRNi e.2.1) (zTX e.2.1 e.2.2.1).2.1 (zTX e.2.1 e.2.2.1).2.2.1)) && decide (e.2.1 < 9 ∧ e.2.2.1 < zNF e.2.1 ∧ (zTX e.2.1 e.2.2.1).1 = zRNi e.2.1))) = true := by decide +kernel
set_option maxRecDepth 100000 in
theorem zFK_ok_12 : ((zFK 12).all (fun e => (if e.2.2.2.2 = true then zatN e.2.2.2.1 (.fieldLinkNest (zRNi 12) e.1 (zRNi e.2.1) (zTX e.2.1 e.2.2.1).2.1 (zTX e.2.1 e.2.2.1).2.2.1 "LeashedNames") else zat e.2.2.2.1 (.fieldLink (zRNi 12) e.1 (zRNi e.2.1) (zTX e.2.1 e.2.2.1).2.1 (zTX e.2.1 e.2.2.1).2.2.1)) && decide (e.2.1 < 9 ∧ e.2.2.1 < zNF e.2.1 ∧ (zTX e.2.1 e.2.2.1).1 = zRNi e.2.1))) = true := by decide +kernel
set_option maxRecDepth 100000 in
theorem zFK_ok_13 : ((zFK 13).all (fun e => (if e.2.2.2.2 = true then zatN e.2.2.2.1 (.fieldLinkNest (zRNi 13) e.1 (zRNi e.2.1) (zTX e.2.1 e.2.2.1).2.1 (zTX e.2.1 e.2.2.1).2.2.1 "LeashedNames") else zat e.2.2.2.1 (.fieldLink (zRNi 13) e.1 (zRNi e.2.1) (zTX e.2.1 e.2.2.1).2.1 (zTX e.2.1 e.2.2.1).2.2.1)) && decide (e.2.1 < 9 ∧ e.2.2.1 < zNF e.2.1 ∧ (zTX e.2.1 e.2.2.1).1 = zRNi e.2.1))) = true := by decide +kernel
set_option maxRecDepth 100000 in
theorem zFK_ok_14 : ((zFK 14).all (fun e => (if e.2.2.2.2 = true then zatN e.2.2.2.1 (.fieldLinkNest (zRNi 14) e.1 (zRNi e.2.1) (zTX e.2.1 e.2.2.1).2.1 (zTX e.2.1 e.2.2.1).2.2.1 "LeashedNames") else zat e.2.2.2.1 (.fieldLink (zRNi 14) e.1 (zRNi e.2.1) (zTX e.2.1 e.2.2.1).2.1 (zTX e.2.1 e.2.2.1).2.2.1)) && decide (e.2.1 < 9 ∧ e.2.2.1 < zNF e.2.1 ∧ (zTX e.2.1 e.2.2.1).1 = zRNi e.2.1))) = true := by decide +kernel
theorem zFK_ok : ∀ C, ((zFK C).all (fun e => (if e.2.2.2.2 = true then zatN e.2.2.2.1 (.fieldLinkNest (zRNi C) e.1 (zRNi e.2.1) (zTX e.2.1 e.2.2.1).2.1 (zTX e.2.1 e.2.2.1).2.2.1 "LeashedNames") else zat e.2.2.2.1 (.fieldLink (zRNi C) e.1 (zRNi e.2.1) (zTX e.2.1 e.2.2.1).2.1 (zTX e.2.1 e.2.2.1).2.2.1)) && decide (e.2.1 < 9 ∧ e.2.2.1 < zNF e.2.1 ∧ (zTX e.2.1 e.2.2.1).1 = zRNi e.2.1))) = true := fun C => match C with
  | 0 => zFK_ok_0
  | 1 => zFK_ok_1
  | 2 => zFK_ok_2
  | 3 => zFK_ok_3
  | 4 => zFK_ok_4
  | 5 => zFK_ok_5
  | 6 => zFK_ok_6
  | 7 => zFK_ok_7
  | 8 => zFK_ok_8
  | 9 => zFK_ok_9
  | 10 => zFK_ok_10
  | 11 => zFK_ok_11
  | 12 => zFK_ok_12
  | 13 => zFK_ok_13
  | 14 => zFK_ok_14
  | _ + 15 => rfl
set_option maxRecDepth 100000 in
theorem zXK_ok_0 : ((zXK 0).all (fun e => zat e.2.2 (if e.2.1 = 0 then .fieldLink (zRNi 0) e.1 "java/lang/String" "value" "[B" else .fieldLink (zRNi 0) e.1 "java/lang/String" "coder" "B"))) = true := by decide +kernel
set_option maxRecDepth 100000 in
theorem zXK_ok_1 : ((zXK 1).all (fun e => zat e.2.2 (if e.2.1 = 0 then .fieldLink (zRNi 1) e.1 "java/lang/String" "value" "[B" else .fieldLink (zRNi 1) e.1 "java/lang/String" "coder" "B"))) = true := by decide +kernel
set_option maxRecDepth 100000 in
theorem zXK_ok_2 : ((zXK 2).all (fun e => zat e.2.2 (if e.2.1 = 0 then .fieldLink (zRNi 2) e.1 "java/lang/String" "value" "[B" else .fieldLink (zRNi 2) e.1 "java/lang/String" "coder" "B"))) = true := by decide +kernel
set_option maxRecDepth 100000 in
theorem zXK_ok_3 : ((zXK 3).all (fun e => zat e.2.2 (if e.2.1 = 0 then .fieldLink (zRNi 3) e.1 "java/lang/String" "value" "[B" else .fieldLink (zRNi 3) e.1 "java/lang/String" "coder" "B"))) = true := by decide +kernel
set_option maxRecDepth 100000 in
theorem zXK_ok_4 : ((zXK 4).all (fun e => zat e.2.2 (if e.2.1 = 0 then .fieldLink (zRNi 4) e.1 "java/lang/String" "value" "[B" else .fieldLink (zRNi 4) e.1 "java/lang/String" "coder" "B"))) = true := by decide +kernel
set_option maxRecDepth 100000 in
theorem zXK_ok_5 : ((zXK 5).all (fun e => zat e.2.2 (if e.2.1 = 0 then .fieldLink (zRNi 5) e.1 "java/lang/String" "value" "[B" else .fieldLink (zRNi 5) e.1 "java/lang/String" "coder" "B"))) = true := by decide +kernel
set_option maxRecDepth 100000 in
theorem zXK_ok_6 : ((zXK 6).all (fun e => zat e.2.2 (if e.2.1 = 0 then .fieldLink (zRNi 6) e.1 "java/lang/String" "value" "[B" else .fieldLink (zRNi 6) e.1 "java/lang/String" "coder" "B"))) = true := by decide +kernel
set_option maxRecDepth 100000 in
theorem zXK_ok_7 : ((zXK 7).all (fun e => zat e.2.2 (if e.2.1 = 0 then .fieldLink (zRNi 7) e.1 "java/lang/String" "value" "[B" else .fieldLink (zRNi 7) e.1 "java/lang/String" "coder" "B"))) = true := by decide +kernel
set_option maxRecDepth 100000 in
theorem zXK_ok_8 : ((zXK 8).all (fun e => zat e.2.2 (if e.2.1 = 0 then .fieldLink (zRNi 8) e.1 "java/lang/String" "value" "[B" else .fieldLink (zRNi 8) e.1 "java/lang/String" "coder" "B"))) = true := by decide +kernel
set_option maxRecDepth 100000 in
theorem zXK_ok_9 : ((zXK 9).all (fun e => zat e.2.2 (if e.2.1 = 0 then .fieldLink (zRNi 9) e.1 "java/lang/String" "value" "[B" else .fieldLink (zRNi 9) e.1 "java/lang/String" "coder" "B"))) = true := by decide +kernel
set_option maxRecDepth 100000 in
theorem zXK_ok_10 : ((zXK 10).all (fun e => zat e.2.2 (if e.2.1 = 0 then .fieldLink (zRNi 10) e.1 "java/lang/String" "value" "[B" else .fieldLink (zRNi 10) e.1 "java/lang/String" "coder" "B"))) = true := by decide +kernel
set_option maxRecDepth 100000 in
theorem zXK_ok_11 : ((zXK 11).all (fun e => zat e.2.2 (if e.2.1 = 0 then .fieldLink (zRNi 11) e.1 "java/lang/String" "value" "[B" else .fieldLink (zRNi 11) e.1 "java/lang/String" "coder" "B"))) = true := by decide +kernel
set_option maxRecDepth 100000 in
theorem zXK_ok_12 : ((zXK 12).all (fun e => zat e.2.2 (if e.2.1 = 0 then .fieldLink (zRNi 12) e.1 "java/lang/String" "value" "[B" else .fieldLink (zRNi 12) e.1 "java/lang/String" "coder" "B"))) = true := by decide +kernel
set_option maxRecDepth 100000 in
theorem zXK_ok_13 : ((zXK 13).all (fun e => zat e.2.2 (if e.2.1 = 0 then .fieldLink (zRNi 13) e.1 "java/lang/String" "value" "[B" else .fieldLink (zRNi 13) e.1 "java/lang/String" "coder" "B"))) = true := by decide +kernel
set_option maxRecDepth 100000 in
theorem zXK_ok_14 : ((zXK 14).all (fun e => zat e.2.2 (if e.2.1 = 0 then .fieldLink (zRNi 14) e.1 "java/lang/String" "value" "[B" else .fieldLink (zRNi 14) e.1 "java/lang/String" "coder" "B"))) = true := by decide +kernel
theorem zXK_ok : ∀ C, ((zXK C).all (fun e => zat e.2.2 (if e.2.1 = 0 then .fieldLink (zRNi C) e.1 "java/lang/String" "value" "[B" else .fieldLink (zRNi C) e.1 "java/lang/String" "coder" "B"))) = true := fun C => match C with
  | 0 => zXK_ok_0
  | 1 => zXK_ok_1
  | 2 => zXK_ok_2
  | 3 => zXK_ok_3
  | 4 => zXK_ok_4
  | 5 => zXK_ok_5
  | 6 => zXK_ok_6
  | 7 => zXK_ok_7
  | 8 => zXK_ok_8
  | 9 => zXK_ok_9
  | 10 => zXK_ok_10
  | 11 => zXK_ok_11
  | 12 => zXK_ok_12
  | 13 => zXK_ok_13
  | 14 => zXK_ok_14
  | _ + 15 => rfl
set_option maxRecDepth 100000 in
theorem zGK_ok_0 : ((zGK 0).all (fun e => zat e.2.2 (if e.2.1 = 0 then .fieldLink (zRNi 0) e.1 "java/lang/String" "COMPACT_STRINGS" "Z" else .fieldLink (zRNi 0) e.1 "jdk/internal/util/Preconditions" "SIOOBE_FORMATTER" "Ljava/util/function/BiFunction;"))) = true := by decide +kernel
set_option maxRecDepth 100000 in
theorem zGK_ok_1 : ((zGK 1).all (fun e => zat e.2.2 (if e.2.1 = 0 then .fieldLink (zRNi 1) e.1 "java/lang/String" "COMPACT_STRINGS" "Z" else .fieldLink (zRNi 1) e.1 "jdk/internal/util/Preconditions" "SIOOBE_FORMATTER" "Ljava/util/function/BiFunction;"))) = true := by decide +kernel
set_option maxRecDepth 100000 in
theorem zGK_ok_2 : ((zGK 2).all (fun e => zat e.2.2 (if e.2.1 = 0 then .fieldLink (zRNi 2) e.1 "java/lang/String" "COMPACT_STRINGS" "Z" else .fieldLink (zRNi 2) e.1 "jdk/internal/util/Preconditions" "SIOOBE_FORMATTER" "Ljava/util/function/BiFunction;"))) = true := by decide +kernel
set_option maxRecDepth 100000 in
theorem zGK_ok_3 : ((zGK 3).all (fun e => zat e.2.2 (if e.2.1 = 0 then .fieldLink (zRNi 3) e.1 "java/lang/String" "COMPACT_STRINGS" "Z" else .fieldLink (zRNi 3) e.1 "jdk/internal/util/Preconditions" "SIOOBE_FORMATTER" "Ljava/util/function/BiFunction;"))) = true := by decide +kernel
set_option maxRecDepth 100000 in
theorem zGK_ok_4 : ((zGK 4).all (fun e => zat e.2.2 (if e.2.1 = 0 then .fieldLink (zRNi 4) e.1 "java/lang/String" "COMPACT_STRINGS" "Z" else .fieldLink (zRNi 4) e.1 "jdk/internal/util/Preconditions" "SIOOBE_FORMATTER" "Ljava/util/function/BiFunction;"))) = true := by decide +kernel
set_option maxRecDepth 100000 in
theorem zGK_ok_5 : ((zGK 5).all (fun e => zat e.2.2 (if e.2.1 = 0 then .fieldLink (zRNi 5) e.1 "java/lang/String" "COMPACT_STRINGS" "Z" else .fieldLink (zRNi 5) e.1 "jdk/internal/util/Preconditions" "SIOOBE_FORMATTER" "Ljava/util/function/BiFunction;"))) = true := by decide +kernel
set_option maxRecDepth 100000 in
theorem zGK_ok_6 : ((zGK 6).all (fun e => zat e.2.2 (if e.2.1 = 0 then .fieldLink (zRNi 6) e.1 "java/lang/String" "COMPACT_STRINGS" "Z" else .fieldLink (zRNi 6) e.1 "jdk/internal/util/Preconditions" "SIOOBE_FORMATTER" "Ljava/util/function/BiFunction;"))) = true := by decide +kernel
set_option maxRecDepth 100000 in
theorem zGK_ok_7 : ((zGK 7).all (fun e => zat e.2.2 (if e.2.1 = 0 then .fieldLink (zRNi 7) e.1 "java/lang/String" "COMPACT_STRINGS" "Z" else .fieldLink (zRNi 7) e.1 "jdk/internal/util/Preconditions" "SIOOBE_FORMATTER" "Ljava/util/function/BiFunction;"))) = true := by decide +kernel
set_option maxRecDepth 100000 in
theorem zGK_ok_8 : ((zGK 8).all (fun e => zat e.2.2 (if e.2.1 = 0 then .fieldLink (zRNi 8) e.1 "java/lang/String" "COMPACT_STRINGS" "Z" else .fieldLink (zRNi 8) e.1 "jdk/internal/util/Preconditions" "SIOOBE_FORMATTER" "Ljava/util/function/BiFunction;"))) = true := by decide +kernel
set_option maxRecDepth 100000 in
theorem zGK_ok_9 : ((zGK 9).all (fun e => zat e.2.2 (if e.2.1 = 0 then .fieldLink (zRNi 9) e.1 "java/lang/String" "COMPACT_STRINGS" "Z" else .fieldLink (zRNi 9) e.1 "jdk/internal/util/Preconditions" "SIOOBE_FORMATTER" "Ljava/util/function/BiFunction;"))) = true := by decide +kernel
set_option maxRecDepth 100000 in
theorem zGK_ok_10 : ((zGK 10).all (fun e => zat e.2.2 (if e.2.1 = 0 then .fieldLink (zRNi 10) e.1 "java/lang/String" "COMPACT_STRINGS" "Z" else .fieldLink (zRNi 10) e.1 "jdk/internal/util/Preconditions" "SIOOBE_FORMATTER" "Ljava/util/function/BiFunction;"))) = true := by decide +kernel
set_option maxRecDepth 100000 in
theorem zGK_ok_11 : ((zGK 11).all (fun e => zat e.2.2 (if e.2.1 = 0 then .fieldLink (zRNi 11) e.1 "java/lang/String" "COMPACT_STRINGS" "Z" else .fieldLink (zRNi 11) e.1 "jdk/internal/util/Preconditions" "SIOOBE_FORMATTER" "Ljava/util/function/BiFunction;"))) = true := by decide +kernel
set_option maxRecDepth 100000 in
theorem zGK_ok_12 : ((zGK 12).all (fun e => zat e.2.2 (if e.2.1 = 0 then .fieldLink (zRNi 12) e.1 "java/lang/String" "COMPACT_STRINGS" "Z" else .fieldLink (zRNi 12) e.1 "jdk/internal/util/Preconditions" "SIOOBE_FORMATTER" "Ljava/util/function/BiFunction;"))) = true := by decide +kernel
set_option maxRecDepth 100000 in
theorem zGK_ok_13 : ((zGK 13).all (fun e => zat e.2.2 (if e.2.1 = 0 then .fieldLink (zRNi 13) e.1 "java/lang/String" "COMPACT_STRINGS" "Z" else .fieldLink (zRNi 13) e.1 "jdk/internal/util/Preconditions" "SIOOBE_FORMATTER" "Ljava/util/function/BiFunction;"))) = true := by decide +kernel
set_option maxRecDepth 100000 in
theorem zGK_ok_14 : ((zGK 14).all (fun e => zat e.2.2 (if e.2.1 = 0 then .fieldLink (zRNi 14) e.1 "java/lang/String" "COMPACT_STRINGS" "Z" else .fieldLink (zRNi 14) e.1 "jdk/internal/util/Preconditions" "SIOOBE_FORMATTER" "Ljava/util/function/BiFunction;"))) = true := by decide +kernel
theorem zGK_ok : ∀ C, ((zGK C).all (fun e => zat e.2.2 (if e.2.1 = 0 then .fieldLink (zRNi C) e.1 "java/lang/String" "COMPACT_STRINGS" "Z" else .fieldLink (zRNi C) e.1 "jdk/internal/util/Preconditions" "SIOOBE_FORMATTER" "Ljava/util/function/BiFunction;"))) = true := fun C => match C with
  | 0 => zGK_ok_0
  | 1 => zGK_ok_1
  | 2 => zGK_ok_2
  | 3 => zGK_ok_3
  | 4 => zGK_ok_4
  | 5 => zGK_ok_5
  | 6 => zGK_ok_6
  | 7 => zGK_ok_7
  | 8 => zGK_ok_8
  | 9 => zGK_ok_9
  | 10 => zGK_ok_10
  | 11 => zGK_ok_11
  | 12 => zGK_ok_12
  | 13 => zGK_ok_13
  | 14 => zGK_ok_14
  | _ + 15 => rfl
set_option maxRecDepth 100000 in
theorem zCK_ok_0 : ((zCK 0).all (fun e => zat e.2.2 (.constant (zRNi 0) e.1 (Int32.ofInt e.2.1)))) = true := by decide +kernel
set_option maxRecDepth 100000 in
theorem zCK_ok_1 : ((zCK 1).all (fun e => zat e.2.2 (.constant (zRNi 1) e.1 (Int32.ofInt e.2.1)))) = true := by decide +kernel
set_option maxRecDepth 100000 in
theorem zCK_ok_2 : ((zCK 2).all (fun e => zat e.2.2 (.constant (zRNi 2) e.1 (Int32.ofInt e.2.1)))) = true := by decide +kernel
set_option maxRecDepth 100000 in
theorem zCK_ok_3 : ((zCK 3).all (fun e => zat e.2.2 (.constant (zRNi 3) e.1 (Int32.ofInt e.2.1)))) = true := by decide +kernel
set_option maxRecDepth 100000 in
theorem zCK_ok_4 : ((zCK 4).all (fun e => zat e.2.2 (.constant (zRNi 4) e.1 (Int32.ofInt e.2.1)))) = true := by decide +kernel
set_option maxRecDepth 100000 in
theorem zCK_ok_5 : ((zCK 5).all (fun e => zat e.2.2 (.constant (zRNi 5) e.1 (Int32.ofInt e.2.1)))) = true := by decide +kernel
set_option maxRecDepth 100000 in
theorem zCK_ok_6 : ((zCK 6).all (fun e => zat e.2.2 (.constant (zRNi 6) e.1 (Int32.ofInt e.2.1)))) = true := by decide +kernel
set_option maxRecDepth 100000 in
theorem zCK_ok_7 : ((zCK 7).all (fun e => zat e.2.2 (.constant (zRNi 7) e.1 (Int32.ofInt e.2.1)))) = true := by decide +kernel
set_option maxRecDepth 100000 in
theorem zCK_ok_8 : ((zCK 8).all (fun e => zat e.2.2 (.constant (zRNi 8) e.1 (Int32.ofInt e.2.1)))) = true := by decide +kernel
set_option maxRecDepth 100000 in
theorem zCK_ok_9 : ((zCK 9).all (fun e => zat e.2.2 (.constant (zRNi 9) e.1 (Int32.ofInt e.2.1)))) = true := by decide +kernel
set_option maxRecDepth 100000 in
theorem zCK_ok_10 : ((zCK 10).all (fun e => zat e.2.2 (.constant (zRNi 10) e.1 (Int32.ofInt e.2.1)))) = true := by decide +kernel
set_option maxRecDepth 100000 in
theorem zCK_ok_11 : ((zCK 11).all (fun e => zat e.2.2 (.constant (zRNi 11) e.1 (Int32.ofInt e.2.1)))) = true := by decide +kernel
set_option maxRecDepth 100000 in
theorem zCK_ok_12 : ((zCK 12).all (fun e => zat e.2.2 (.constant (zRNi 12) e.1 (Int32.ofInt e.2.1)))) = true := by decide +kernel
set_option maxRecDepth 100000 in
theorem zCK_ok_13 : ((zCK 13).all (fun e => zat e.2.2 (.constant (zRNi 13) e.1 (Int32.ofInt e.2.1)))) = true := by decide +kernel
set_option maxRecDepth 100000 in
theorem zCK_ok_14 : ((zCK 14).all (fun e => zat e.2.2 (.constant (zRNi 14) e.1 (Int32.ofInt e.2.1)))) = true := by decide +kernel
theorem zCK_ok : ∀ C, ((zCK C).all (fun e => zat e.2.2 (.constant (zRNi C) e.1 (Int32.ofInt e.2.1)))) = true := fun C => match C with
  | 0 => zCK_ok_0
  | 1 => zCK_ok_1
  | 2 => zCK_ok_2
  | 3 => zCK_ok_3
  | 4 => zCK_ok_4
  | 5 => zCK_ok_5
  | 6 => zCK_ok_6
  | 7 => zCK_ok_7
  | 8 => zCK_ok_8
  | 9 => zCK_ok_9
  | 10 => zCK_ok_10
  | 11 => zCK_ok_11
  | 12 => zCK_ok_12
  | 13 => zCK_ok_13
  | 14 => zCK_ok_14
  | _ + 15 => rfl
set_option maxRecDepth 100000 in
theorem zJK_ok_0 : ((zJK 0).all (fun e => zat e.2.2 (.constantLong (zRNi 0) e.1 (Int64.ofInt e.2.1)))) = true := by decide +kernel
set_option maxRecDepth 100000 in
theorem zJK_ok_1 : ((zJK 1).all (fun e => zat e.2.2 (.constantLong (zRNi 1) e.1 (Int64.ofInt e.2.1)))) = true := by decide +kernel
set_option maxRecDepth 100000 in
theorem zJK_ok_2 : ((zJK 2).all (fun e => zat e.2.2 (.constantLong (zRNi 2) e.1 (Int64.ofInt e.2.1)))) = true := by decide +kernel
set_option maxRecDepth 100000 in
theorem zJK_ok_3 : ((zJK 3).all (fun e => zat e.2.2 (.constantLong (zRNi 3) e.1 (Int64.ofInt e.2.1)))) = true := by decide +kernel
set_option maxRecDepth 100000 in
theorem zJK_ok_4 : ((zJK 4).all (fun e => zat e.2.2 (.constantLong (zRNi 4) e.1 (Int64.ofInt e.2.1)))) = true := by decide +kernel
set_option maxRecDepth 100000 in
theorem zJK_ok_5 : ((zJK 5).all (fun e => zat e.2.2 (.constantLong (zRNi 5) e.1 (Int64.ofInt e.2.1)))) = true := by decide +kernel
set_option maxRecDepth 100000 in
theorem zJK_ok_6 : ((zJK 6).all (fun e => zat e.2.2 (.constantLong (zRNi 6) e.1 (Int64.ofInt e.2.1)))) = true := by decide +kernel
set_option maxRecDepth 100000 in
theorem zJK_ok_7 : ((zJK 7).all (fun e => zat e.2.2 (.constantLong (zRNi 7) e.1 (Int64.ofInt e.2.1)))) = true := by decide +kernel
set_option maxRecDepth 100000 in
theorem zJK_ok_8 : ((zJK 8).all (fun e => zat e.2.2 (.constantLong (zRNi 8) e.1 (Int64.ofInt e.2.1)))) = true := by decide +kernel
set_option maxRecDepth 100000 in
theorem zJK_ok_9 : ((zJK 9).all (fun e => zat e.2.2 (.constantLong (zRNi 9) e.1 (Int64.ofInt e.2.1)))) = true := by decide +kernel
set_option maxRecDepth 100000 in
theorem zJK_ok_10 : ((zJK 10).all (fun e => zat e.2.2 (.constantLong (zRNi 10) e.1 (Int64.ofInt e.2.1)))) = true := by decide +kernel
set_option maxRecDepth 100000 in
theorem zJK_ok_11 : ((zJK 11).all (fun e => zat e.2.2 (.constantLong (zRNi 11) e.1 (Int64.ofInt e.2.1)))) = true := by decide +kernel
set_option maxRecDepth 100000 in
theorem zJK_ok_12 : ((zJK 12).all (fun e => zat e.2.2 (.constantLong (zRNi 12) e.1 (Int64.ofInt e.2.1)))) = true := by decide +kernel
set_option maxRecDepth 100000 in
theorem zJK_ok_13 : ((zJK 13).all (fun e => zat e.2.2 (.constantLong (zRNi 13) e.1 (Int64.ofInt e.2.1)))) = true := by decide +kernel
set_option maxRecDepth 100000 in
theorem zJK_ok_14 : ((zJK 14).all (fun e => zat e.2.2 (.constantLong (zRNi 14) e.1 (Int64.ofInt e.2.1)))) = true := by decide +kernel
theorem zJK_ok : ∀ C, ((zJK C).all (fun e => zat e.2.2 (.constantLong (zRNi C) e.1 (Int64.ofInt e.2.1)))) = true := fun C => match C with
  | 0 => zJK_ok_0
  | 1 => zJK_ok_1
  | 2 => zJK_ok_2
  | 3 => zJK_ok_3
  | 4 => zJK_ok_4
  | 5 => zJK_ok_5
  | 6 => zJK_ok_6
  | 7 => zJK_ok_7
  | 8 => zJK_ok_8
  | 9 => zJK_ok_9
  | 10 => zJK_ok_10
  | 11 => zJK_ok_11
  | 12 => zJK_ok_12
  | 13 => zJK_ok_13
  | 14 => zJK_ok_14
  | _ + 15 => rfl
set_option maxRecDepth 100000 in
theorem zSK_ok_0 : ((zSK 0).all (fun e => decide (zST[e.2.1]? = some (zRNi 0, e.1, (zST.getD e.2.1 ("", 0, "")).2.2)))) = true := by decide +kernel
set_option maxRecDepth 100000 in
theorem zSK_ok_1 : ((zSK 1).all (fun e => decide (zST[e.2.1]? = some (zRNi 1, e.1, (zST.getD e.2.1 ("", 0, "")).2.2)))) = true := by decide +kernel
set_option maxRecDepth 100000 in
theorem zSK_ok_2 : ((zSK 2).all (fun e => decide (zST[e.2.1]? = some (zRNi 2, e.1, (zST.getD e.2.1 ("", 0, "")).2.2)))) = true := by decide +kernel
set_option maxRecDepth 100000 in
theorem zSK_ok_3 : ((zSK 3).all (fun e => decide (zST[e.2.1]? = some (zRNi 3, e.1, (zST.getD e.2.1 ("", 0, "")).2.2)))) = true := by decide +kernel
set_option maxRecDepth 100000 in
theorem zSK_ok_4 : ((zSK 4).all (fun e => decide (zST[e.2.1]? = some (zRNi 4, e.1, (zST.getD e.2.1 ("", 0, "")).2.2)))) = true := by decide +kernel
set_option maxRecDepth 100000 in
theorem zSK_ok_5 : ((zSK 5).all (fun e => decide (zST[e.2.1]? = some (zRNi 5, e.1, (zST.getD e.2.1 ("", 0, "")).2.2)))) = true := by decide +kernel
set_option maxRecDepth 100000 in
theorem zSK_ok_6 : ((zSK 6).all (fun e => decide (zST[e.2.1]? = some (zRNi 6, e.1, (zST.getD e.2.1 ("", 0, "")).2.2)))) = true := by decide +kernel
set_option maxRecDepth 100000 in
theorem zSK_ok_7 : ((zSK 7).all (fun e => decide (zST[e.2.1]? = some (zRNi 7, e.1, (zST.getD e.2.1 ("", 0, "")).2.2)))) = true := by decide +kernel
set_option maxRecDepth 100000 in
theorem zSK_ok_8 : ((zSK 8).all (fun e => decide (zST[e.2.1]? = some (zRNi 8, e.1, (zST.getD e.2.1 ("", 0, "")).2.2)))) = true := by decide +kernel
set_option maxRecDepth 100000 in
theorem zSK_ok_9 : ((zSK 9).all (fun e => decide (zST[e.2.1]? = some (zRNi 9, e.1, (zST.getD e.2.1 ("", 0, "")).2.2)))) = true := by decide +kernel
set_option maxRecDepth 100000 in
theorem zSK_ok_10 : ((zSK 10).all (fun e => decide (zST[e.2.1]? = some (zRNi 10, e.1, (zST.getD e.2.1 ("", 0, "")).2.2)))) = true := by decide +kernel
set_option maxRecDepth 100000 in
theorem zSK_ok_11 : ((zSK 11).all (fun e => decide (zST[e.2.1]? = some (zRNi 11, e.1, (zST.getD e.2.1 ("", 0, "")).2.2)))) = true := by decide +kernel
set_option maxRecDepth 100000 in
theorem zSK_ok_12 : ((zSK 12).all (fun e => decide (zST[e.2.1]? = some (zRNi 12, e.1, (zST.getD e.2.1 ("", 0, "")).2.2)))) = true := by decide +kernel
set_option maxRecDepth 100000 in
theorem zSK_ok_13 : ((zSK 13).all (fun e => decide (zST[e.2.1]? = some (zRNi 13, e.1, (zST.getD e.2.1 ("", 0, "")).2.2)))) = true := by decide +kernel
set_option maxRecDepth 100000 in
theorem zSK_ok_14 : ((zSK 14).all (fun e => decide (zST[e.2.1]? = some (zRNi 14, e.1, (zST.getD e.2.1 ("", 0, "")).2.2)))) = true := by decide +kernel
theorem zSK_ok : ∀ C, ((zSK C).all (fun e => decide (zST[e.2.1]? = some (zRNi C, e.1, (zST.getD e.2.1 ("", 0, "")).2.2)))) = true := fun C => match C with
  | 0 => zSK_ok_0
  | 1 => zSK_ok_1
  | 2 => zSK_ok_2
  | 3 => zSK_ok_3
  | 4 => zSK_ok_4
  | 5 => zSK_ok_5
  | 6 => zSK_ok_6
  | 7 => zSK_ok_7
  | 8 => zSK_ok_8
  | 9 => zSK_ok_9
  | 10 => zSK_ok_10
  | 11 => zSK_ok_11
  | 12 => zSK_ok_12
  | 13 => zSK_ok_13
  | 14 => zSK_ok_14
  | _ + 15 => rfl
set_option maxRecDepth 100000 in
theorem zKK_ok_0 : ((zKK 0).all (fun e => zat e.2.2 (.classLink (zRNi 0) e.1 (zRNi e.2.1)) && decide (e.2.1 < 9))) = true := by decide +kernel
set_option maxRecDepth 100000 in
theorem zKK_ok_1 : ((zKK 1).all (fun e => zat e.2.2 (.classLink (zRNi 1) e.1 (zRNi e.2.1)) && decide (e.2.1 < 9))) = true := by decide +kernel
set_option maxRecDepth 100000 in
theorem zKK_ok_2 : ((zKK 2).all (fun e => zat e.2.2 (.classLink (zRNi 2) e.1 (zRNi e.2.1)) && decide (e.2.1 < 9))) = true := by decide +kernel
set_option maxRecDepth 100000 in
theorem zKK_ok_3 : ((zKK 3).all (fun e => zat e.2.2 (.classLink (zRNi 3) e.1 (zRNi e.2.1)) && decide (e.2.1 < 9))) = true := by decide +kernel
set_option maxRecDepth 100000 in
theorem zKK_ok_4 : ((zKK 4).all (fun e => zat e.2.2 (.classLink (zRNi 4) e.1 (zRNi e.2.1)) && decide (e.2.1 < 9))) = true := by decide +kernel
set_option maxRecDepth 100000 in
theorem zKK_ok_5 : ((zKK 5).all (fun e => zat e.2.2 (.classLink (zRNi 5) e.1 (zRNi e.2.1)) && decide (e.2.1 < 9))) = true := by decide +kernel
set_option maxRecDepth 100000 in
theorem zKK_ok_6 : ((zKK 6).all (fun e => zat e.2.2 (.classLink (zRNi 6) e.1 (zRNi e.2.1)) && decide (e.2.1 < 9))) = true := by decide +kernel
set_option maxRecDepth 100000 in
theorem zKK_ok_7 : ((zKK 7).all (fun e => zat e.2.2 (.classLink (zRNi 7) e.1 (zRNi e.2.1)) && decide (e.2.1 < 9))) = true := by decide +kernel
set_option maxRecDepth 100000 in
theorem zKK_ok_8 : ((zKK 8).all (fun e => zat e.2.2 (.classLink (zRNi 8) e.1 (zRNi e.2.1)) && decide (e.2.1 < 9))) = true := by decide +kernel
set_option maxRecDepth 100000 in
theorem zKK_ok_9 : ((zKK 9).all (fun e => zat e.2.2 (.classLink (zRNi 9) e.1 (zRNi e.2.1)) && decide (e.2.1 < 9))) = true := by decide +kernel
set_option maxRecDepth 100000 in
theorem zKK_ok_10 : ((zKK 10).all (fun e => zat e.2.2 (.classLink (zRNi 10) e.1 (zRNi e.2.1)) && decide (e.2.1 < 9))) = true := by decide +kernel
set_option maxRecDepth 100000 in
theorem zKK_ok_11 : ((zKK 11).all (fun e => zat e.2.2 (.classLink (zRNi 11) e.1 (zRNi e.2.1)) && decide (e.2.1 < 9))) = true := by decide +kernel
set_option maxRecDepth 100000 in
theorem zKK_ok_12 : ((zKK 12).all (fun e => zat e.2.2 (.classLink (zRNi 12) e.1 (zRNi e.2.1)) && decide (e.2.1 < 9))) = true := by decide +kernel
set_option maxRecDepth 100000 in
theorem zKK_ok_13 : ((zKK 13).all (fun e => zat e.2.2 (.classLink (zRNi 13) e.1 (zRNi e.2.1)) && decide (e.2.1 < 9))) = true := by decide +kernel
set_option maxRecDepth 100000 in
theorem zKK_ok_14 : ((zKK 14).all (fun e => zat e.2.2 (.classLink (zRNi 14) e.1 (zRNi e.2.1)) && decide (e.2.1 < 9))) = true := by decide +kernel
theorem zKK_ok : ∀ C, ((zKK C).all (fun e => zat e.2.2 (.classLink (zRNi C) e.1 (zRNi e.2.1)) && decide (e.2.1 < 9))) = true := fun C => match C with
  | 0 => zKK_ok_0
  | 1 => zKK_ok_1
  | 2 => zKK_ok_2
  | 3 => zKK_ok_3
  | 4 => zKK_ok_4
  | 5 => zKK_ok_5
  | 6 => zKK_ok_6
  | 7 => zKK_ok_7
  | 8 => zKK_ok_8
  | 9 => zKK_ok_9
  | 10 => zKK_ok_10
  | 11 => zKK_ok_11
  | 12 => zKK_ok_12
  | 13 => zKK_ok_13
  | 14 => zKK_ok_14
  | _ + 15 => rfl
set_option maxRecDepth 100000 in
theorem zK2_ok_0 : ((zK2 0).all (fun e => zat e.2 (.classLink (zRNi 0) e.1 "[[J"))) = true := by decide +kernel
set_option maxRecDepth 100000 in
theorem zK2_ok_1 : ((zK2 1).all (fun e => zat e.2 (.classLink (zRNi 1) e.1 "[[J"))) = true := by decide +kernel
set_option maxRecDepth 100000 in
theorem zK2_ok_2 : ((zK2 2).all (fun e => zat e.2 (.classLink (zRNi 2) e.1 "[[J"))) = true := by decide +kernel
set_option maxRecDepth 100000 in
theorem zK2_ok_3 : ((zK2 3).all (fun e => zat e.2 (.classLink (zRNi 3) e.1 "[[J"))) = true := by decide +kernel
set_option maxRecDepth 100000 in
theorem zK2_ok_4 : ((zK2 4).all (fun e => zat e.2 (.classLink (zRNi 4) e.1 "[[J"))) = true := by decide +kernel
set_option maxRecDepth 100000 in
theorem zK2_ok_5 : ((zK2 5).all (fun e => zat e.2 (.classLink (zRNi 5) e.1 "[[J"))) = true := by decide +kernel
set_option maxRecDepth 100000 in
theorem zK2_ok_6 : ((zK2 6).all (fun e => zat e.2 (.classLink (zRNi 6) e.1 "[[J"))) = true := by decide +kernel
set_option maxRecDepth 100000 in
theorem zK2_ok_7 : ((zK2 7).all (fun e => zat e.2 (.classLink (zRNi 7) e.1 "[[J"))) = true := by decide +kernel
set_option maxRecDepth 100000 in
theorem zK2_ok_8 : ((zK2 8).all (fun e => zat e.2 (.classLink (zRNi 8) e.1 "[[J"))) = true := by decide +kernel
set_option maxRecDepth 100000 in
theorem zK2_ok_9 : ((zK2 9).all (fun e => zat e.2 (.classLink (zRNi 9) e.1 "[[J"))) = true := by decide +kernel
set_option maxRecDepth 100000 in
theorem zK2_ok_10 : ((zK2 10).all (fun e => zat e.2 (.classLink (zRNi 10) e.1 "[[J"))) = true := by decide +kernel
set_option maxRecDepth 100000 in
theorem zK2_ok_11 : ((zK2 11).all (fun e => zat e.2 (.classLink (zRNi 11) e.1 "[[J"))) = true := by decide +kernel
set_option maxRecDepth 100000 in
theorem zK2_ok_12 : ((zK2 12).all (fun e => zat e.2 (.classLink (zRNi 12) e.1 "[[J"))) = true := by decide +kernel
set_option maxRecDepth 100000 in
theorem zK2_ok_13 : ((zK2 13).all (fun e => zat e.2 (.classLink (zRNi 13) e.1 "[[J"))) = true := by decide +kernel
set_option maxRecDepth 100000 in
theorem zK2_ok_14 : ((zK2 14).all (fun e => zat e.2 (.classLink (zRNi 14) e.1 "[[J"))) = true := by decide +kernel
theorem zK2_ok : ∀ C, ((zK2 C).all (fun e => zat e.2 (.classLink (zRNi C) e.1 "[[J"))) = true := fun C => match C with
  | 0 => zK2_ok_0
  | 1 => zK2_ok_1
  | 2 => zK2_ok_2
  | 3 => zK2_ok_3
  | 4 => zK2_ok_4
  | 5 => zK2_ok_5
  | 6 => zK2_ok_6
  | 7 => zK2_ok_7
  | 8 => zK2_ok_8
  | 9 => zK2_ok_9
  | 10 => zK2_ok_10
  | 11 => zK2_ok_11
  | 12 => zK2_ok_12
  | 13 => zK2_ok_13
  | 14 => zK2_ok_14
  | _ + 15 => rfl
def zIP : List Nat := [1173, 1208, 2033, 1214, 1027, 2055, 1062, 1019, 5153]
def zIQ : List Nat := [1004, 1006, 1008, 1007, 1002, 1009, 1003, 1001, 1010]
set_option maxRecDepth 100000 in
theorem zI_ok : (List.range 9).all (fun ci => zat (zIP.getD ci 0) (.instantiable (zRNi ci) (zNF ci)) && zat (zIQ.getD ci 0) (.initialized (zRNi ci))) = true := by decide +kernel
set_option maxRecDepth 100000 in
theorem zPR_ok : (zat 2139 (.static Lib.Math.min.name) && zat 2140 (.code Lib.Math.min.name Lib.Math.min.code 2 (some .int)) && zat 3099 (.static Lib.Math.max.name) && zat 3100 (.code Lib.Math.max.name Lib.Math.max.code 2 (some .int)) && zat 8070 (.static Lib.MathLoose.abs_long.x) && zat 8071 (.code Lib.MathLoose.abs_long.x Lib.MathLoose.abs_long.code 2 (some .long)) && zat 1011 (.initialized "java/lang/Math")) = true := by decide +kernel
set_option maxRecDepth 100000 in
theorem zPS_ok : (zat 3018 (.native arraycopyName) && zat 3017 (.static arraycopyName) && zat 1016 (.initialized "java/lang/System") && zat 1024 (.instanceMethod Lib.objectInit) && zat 1025 (.code Lib.objectInit ⟨#[0xb1]⟩ 1 none)) = true := by decide +kernel
set_option maxRecDepth 100000 in
theorem zAC_ok : (zat 1060 (.arrayClass .int) && zat 3107 (.arrayClass .byte) && zat 2076 (.arrayClass .long) && zat 6038 (.arrayClass .boolean)) = true := by decide +kernel
def zAOi : Nat := 2032
def zAOl : Nat := 2061
theorem zAO_ok : ((zTb (zAOi / 1000))[zAOi % 1000]? = some (.arrayOver (.object "LeashedNames$Image"))) ∧ ((zTb (zAOl / 1000))[zAOl % 1000]? = some (.arrayOver (.array .long))) := ⟨by decide +kernel, by decide +kernel⟩
def zYP : List (List Nat) := [[1192, 1194, 1196, 1198, 1200, 1202, 1204], [2006, 2008, 2010, 2012, 2014, 2016, 2018, 2020, 2022, 2024, 2026, 2028], [2047, 2049, 2051], [1220], [1043, 1045, 1047, 1049, 1051, 1053, 1055, 1057], [2069, 2071, 2073], [1135, 1137, 1139, 1141, 1143, 1145, 1147, 1149, 1151, 1153, 1155, 1157, 1159, 1161, 1163, 1165, 1167, 1169], [2086, 2088, 2090, 2092, 2094, 2096, 2098, 2100, 2102], [5197, 5199, 5201, 5203, 5205, 5207, 5209, 5211, 5213, 5215, 5217, 5219, 5221, 5223, 5225, 5227, 5229, 5231, 5233, 5235, 5237, 5239, 6001, 6003, 6005, 6007, 6009, 6011, 6013, 6015, 6017, 6019, 6021, 6023, 6025, 6027, 6029, 6031, 6033, 6035]]
set_option maxRecDepth 100000 in
theorem zY_ok : (List.range 9).all (fun ci => (List.range (zNF ci)).all (fun k => zat ((zYP.getD ci []).getD k 0) (u_lay (zRNi ci) (zTX ci) k))) = true := by decide +kernel
def zKF : List (List Nat) := [[0, 0, 2, 2, 2, 2, 2], [2, 2, 2, 2, 2, 2, 2, 2, 0, 0, 0, 0], [3, 2, 2], [2], [2, 0, 0, 0, 0, 0, 0, 0], [2, 2, 2], [0, 0, 0, 0, 0, 0, 0, 0, 0, 2, 2, 2, 2, 2, 2, 2, 2, 2], [2, 2, 2, 2, 2, 2, 2, 2, 2], [0, 2, 2, 2, 2, 0, 2, 0, 0, 0, 0, 0, 0, 0, 2, 0, 0, 0, 0, 2, 2, 2, 2, 2, 2, 2, 2, 2, 2, 2, 2, 2, 0, 1, 1, 1, 2, 2, 2, 2]]
def zTY (ci : Nat) : Nat → FieldType := match ci with | 0 => tyX0 | 1 => tyX1 | 2 => tyX2 | 3 => tyX3 | 4 => tyX4 | 5 => tyX5 | 6 => tyX6 | 7 => tyX7 | _ => tyX8
def zKT (k : Nat) (t : FieldType) : Bool := match k, t with | 0, .int => true | 1, .long => true | 3, .boolean => true | 2, .object _ => true | 2, .array _ => true | _, _ => false
theorem zKT_ok : (List.range 9).all (fun ci => (List.range (zNF ci)).all (fun k => zKT ((zKF.getD ci []).getD k 2) (zTY ci k))) = true := by decide +kernel
theorem zPT_ok : ∀ ci, ci < 9 → ∀ k, k < zNF ci → parseFieldDescriptor (zTX ci k).2.2.1 = some (zTY ci k) := fun ci h => match ci, h with | 0, _ => tyX0_ok | 1, _ => tyX1_ok | 2, _ => tyX2_ok | 3, _ => tyX3_ok | 4, _ => tyX4_ok | 5, _ => tyX5_ok | 6, _ => tyX6_ok | 7, _ => tyX7_ok | 8, _ => tyX8_ok
theorem zNM_ok : ∀ ci, ci < 9 → ∀ a, a < zNF ci → ∀ b, b < zNF ci → a ≠ b → (zTX ci a).2.1 ≠ (zTX ci b).2.1 := fun ci h => match ci, h with | 0, _ => nmX0 | 1, _ => nmX1 | 2, _ => nmX2 | 3, _ => nmX3 | 4, _ => nmX4 | 5, _ => nmX5 | 6, _ => nmX6 | 7, _ => nmX7 | 8, _ => nmX8
theorem zVW_ok : ∀ ci, ci < 9 → vwCl[ci]? = some (zRNi ci, zTX ci, zNF ci) := fun ci h => match ci, h with | 0, _ => rfl | 1, _ => rfl | 2, _ => rfl | 3, _ => rfl | 4, _ => rfl | 5, _ => rfl | 6, _ => rfl | 7, _ => rfl | 8, _ => rfl
