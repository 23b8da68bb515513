set_option maxRecDepth 20000 in
theorem gTT_X8_init : GoodIn lw_tbl wsX8_init := goodIn_r _ [83, 84, 85, 86, 87, 88, 63, 253, 254, 255, 256, 173, 174, 66, 257, 203, 204, 67, 258, 216, 217, 68, 259, 243, 244, 69, 260, 263, 264, 90, 91, 92, 120, 121, 93, 94, 64, 122, 127, 130, 133, 136, 140, 95, 96, 97, 98, 99, 100, 65, 101, 102, 103, 104, 176, 177, 178, 202, 179, 205, 206, 207, 208, 209, 210, 219, 220, 221, 222, 223, 224, 246, 247, 248, 249, 150, 152, 154, 156, 158, 160, 162, 164, 166, 168, 170, 268, 270, 272, 274, 276, 278, 280, 282, 284, 286, 288, 290, 292, 294, 296, 189, 191, 193, 195, 197, 199, 211, 213, 230, 232, 234, 236, 238, 240, 250, 111, 113, 115, 117] rfl (by decide +kernel)
theorem gT_X8_init : GoodIn lw_tbl (wsX8_init) := gTT_X8_init
set_option maxRecDepth 20000 in
theorem gTT_X9_init : GoodIn lw_tbl wsX9_init := goodIn_r _ [912, 913, 85, 86, 120, 917, 918, 975, 919, 920, 922, 923, 924, 925, 926, 927, 928, 934, 935, 914, 915, 70, 916, 936, 938, 940, 942, 944, 946, 948, 950, 952, 954, 956, 958, 960, 962, 964, 966, 968, 970, 972] rfl (by decide +kernel)
theorem gT_X9_init : GoodIn lw_tbl (wsX9_init) := gTT_X9_init
set_option maxRecDepth 20000 in
theorem gTT_X8_inn : GoodIn lw_tbl wsX8_inn := goodIn_r _ [302, 253, 303, 304, 62, 305, 306, 307, 308, 309, 311, 0, 312, 265, 313, 314, 315, 63, 316, 138, 140, 143, 145, 148, 122, 127, 130, 133, 136, 317, 318, 319, 320, 121, 321, 322, 323, 64, 324, 105, 268, 270, 272, 274, 276, 278, 280, 282, 284, 286, 288, 290, 292, 294, 296, 150, 152, 154, 156, 158, 160, 162, 164, 166, 168, 170, 111, 113, 115, 117] rfl (by decide +kernel)
set_option maxRecDepth 20000 in
theorem gT_X8_inn : GoodIn lw_tbl (wsV RL 13 RX8 yX8_inn wsX8_inn) := goodIn_app (goodIn_r _ [299, 300, 301, 62] rfl (by decide +kernel)) gTT_X8_inn
set_option maxRecDepth 20000 in
theorem gTT_X9_inn : GoodIn lw_tbl wsX9_inn := goodIn_r _ [979, 987, 917, 980, 981, 70, 982, 983, 984, 985, 986, 988, 990, 30, 991, 920, 992, 994, 31, 995, 914, 915, 916, 936, 938, 940, 942, 944, 946, 948, 950, 952, 954, 956, 958, 960, 962, 964, 966, 968, 970, 972] rfl (by decide +kernel)
set_option maxRecDepth 20000 in
theorem gT_X9_inn : GoodIn lw_tbl (wsV RL 17 RX9 yX9_inn wsX9_inn) := goodIn_app (goodIn_r _ [976, 977, 978, 70] rfl (by decide +kernel)) gTT_X9_inn
set_option maxRecDepth 20000 in
theorem gTT_X8_landlord : GoodIn lw_tbl wsX8_landlord := goodIn_r _ [328, 253, 303, 304, 62, 305, 306, 307, 308, 309, 311, 0, 312, 265, 329, 322, 323, 64, 324, 105, 268, 270, 272, 274, 276, 278, 280, 282, 284, 286, 288, 290, 292, 294, 296, 150, 152, 154, 156, 158, 160, 162, 164, 166, 168, 170, 111, 113, 115, 117] rfl (by decide +kernel)
set_option maxRecDepth 20000 in
theorem gT_X8_landlord : GoodIn lw_tbl (wsV RL 18 RX8 yX8_landlord wsX8_landlord) := goodIn_app (goodIn_r _ [325, 326, 327, 62] rfl (by decide +kernel)) gTT_X8_landlord
set_option maxRecDepth 20000 in
theorem gTT_X9_landlord : GoodIn lw_tbl wsX9_landlord := goodIn_r _ [999, 917, 980, 981, 70, 982, 983, 984, 985, 986, 988, 990, 30, 991, 920, 936, 938, 940, 942, 944, 946, 948, 950, 952, 954, 956, 958, 960, 962, 964, 966, 968, 970, 972] rfl (by decide +kernel)
set_option maxRecDepth 20000 in
theorem gT_X9_landlord : GoodIn lw_tbl (wsV RL 22 RX9 yX9_landlord wsX9_landlord) := goodIn_app (goodIn_r _ [996, 997, 998, 70] rfl (by decide +kernel)) gTT_X9_landlord
set_option maxRecDepth 20000 in
theorem gTT_X8_wet : GoodIn lw_tbl wsX8_wet := goodIn_r _ [333, 253, 306, 307, 62, 308, 309, 311, 0, 312, 265, 334, 335, 336, 63, 337, 121, 338, 318, 319, 320, 329, 322, 323, 64, 324, 105, 268, 270, 272, 274, 276, 278, 280, 282, 284, 286, 288, 290, 292, 294, 296, 150, 152, 154, 156, 158, 160, 162, 164, 166, 168, 170, 111, 113, 115, 117] rfl (by decide +kernel)
set_option maxRecDepth 20000 in
theorem gT_X8_wet : GoodIn lw_tbl (wsV RL 23 RX8 yX8_wet wsX8_wet) := goodIn_app (goodIn_r _ [330, 331, 332, 62] rfl (by decide +kernel)) gTT_X8_wet
set_option maxRecDepth 20000 in
theorem gTT_X9_wet : GoodIn lw_tbl wsX9_wet := goodIn_r _ [1003, 983, 917, 984, 985, 70, 986, 1004, 1005, 1006, 1007, 988, 990, 30, 991, 920, 936, 938, 940, 942, 944, 946, 948, 950, 952, 954, 956, 958, 960, 962, 964, 966, 968, 970, 972] rfl (by decide +kernel)
set_option maxRecDepth 20000 in
theorem gT_X9_wet : GoodIn lw_tbl (wsV RL 26 RX9 yX9_wet wsX9_wet) := goodIn_app (goodIn_r _ [1000, 1001, 1002, 70] rfl (by decide +kernel)) gTT_X9_wet
set_option maxRecDepth 20000 in
theorem gTT_X8_one : GoodIn lw_tbl wsX8_one := goodIn_r _ [342, 253, 303, 304, 62, 305, 306, 307, 308, 343, 344, 345, 309, 311, 0, 312, 265, 346, 347, 348, 64, 349, 105, 103, 350, 352, 1, 353, 267, 329, 322, 323, 324, 354, 355, 356, 63, 357, 122, 358, 359, 360, 361, 102, 362, 363, 364, 365, 366, 104, 367, 268, 270, 272, 274, 276, 278, 280, 282, 284, 286, 288, 290, 292, 294, 296, 150, 152, 154, 156, 158, 160, 162, 164, 166, 168, 170, 111, 113, 115, 117] rfl (by decide +kernel)
set_option maxRecDepth 20000 in
theorem gT_X8_one : GoodIn lw_tbl (wsV RL 27 RX8 yX8_one wsX8_one) := goodIn_app (goodIn_r _ [339, 340, 341, 62] rfl (by decide +kernel)) gTT_X8_one
set_option maxRecDepth 20000 in
theorem gTT_X9_one : GoodIn lw_tbl wsX9_one := goodIn_r _ [1011, 917, 980, 981, 70, 982, 983, 984, 985, 986, 1012, 1013, 1014, 1015, 988, 990, 30, 991, 920, 992, 994, 31, 995, 1016, 1018, 32, 1019, 1020, 1021, 1022, 936, 938, 940, 942, 944, 946, 948, 950, 952, 954, 956, 958, 960, 962, 964, 966, 968, 970, 972] rfl (by decide +kernel)
set_option maxRecDepth 20000 in
theorem gT_X9_one : GoodIn lw_tbl (wsV RL 30 RX9 yX9_one wsX9_one) := goodIn_app (goodIn_r _ [1008, 1009, 1010, 70] rfl (by decide +kernel)) gTT_X9_one
set_option maxRecDepth 20000 in
theorem gTT_X8_type : GoodIn lw_tbl wsX8_type := goodIn_r _ [371, 257, 306, 307, 62, 308, 309, 311, 0, 312, 265, 372, 373, 374, 66, 375, 180, 350, 352, 1, 353, 267, 376, 377, 378, 379, 179, 268, 270, 272, 274, 276, 278, 280, 282, 284, 286, 288, 290, 292, 294, 296, 189, 191, 193, 195, 197, 199] rfl (by decide +kernel)
set_option maxRecDepth 20000 in
theorem gT_X8_type : GoodIn lw_tbl (wsV RL 31 RX8 yX8_type wsX8_type) := goodIn_app (goodIn_r _ [368, 369, 370, 62] rfl (by decide +kernel)) gTT_X8_type
set_option maxRecDepth 20000 in
theorem gTT_X9_type : GoodIn lw_tbl wsX9_type := goodIn_r _ [1232, 1233, 929, 928, 984, 985, 70, 986, 988, 990, 30, 991, 920, 1016, 1018, 32, 1019, 936, 938, 940, 942, 944, 946, 948, 950, 952, 954, 956, 958, 960, 962, 964, 966, 968, 970, 972] rfl (by decide +kernel)
set_option maxRecDepth 20000 in
theorem gT_X9_type : GoodIn lw_tbl (wsV RL 34 RX9 yX9_type wsX9_type) := goodIn_app (goodIn_r _ [1229, 1230, 1231, 70] rfl (by decide +kernel)) gTT_X9_type
set_option maxRecDepth 20000 in
theorem gTT_X8_clear : GoodIn lw_tbl wsX8_clear := goodIn_r _ [383, 257, 268, 270, 272, 274, 276, 278, 280, 282, 284, 286, 288, 290, 292, 294, 296, 189, 191, 193, 195, 197, 199] rfl (by decide +kernel)
set_option maxRecDepth 20000 in
theorem gT_X8_clear : GoodIn lw_tbl (wsV RL 35 RX8 yX8_clear wsX8_clear) := goodIn_app (goodIn_r _ [380, 381, 382, 62] rfl (by decide +kernel)) gTT_X8_clear
set_option maxRecDepth 20000 in
theorem gTT_X9_clear : GoodIn lw_tbl wsX9_clear := goodIn_r _ [1237, 929, 936, 938, 940, 942, 944, 946, 948, 950, 952, 954, 956, 958, 960, 962, 964, 966, 968, 970, 972] rfl (by decide +kernel)
set_option maxRecDepth 20000 in
theorem gT_X9_clear : GoodIn lw_tbl (wsV RL 39 RX9 yX9_clear wsX9_clear) := goodIn_app (goodIn_r _ [1234, 1235, 1236, 70] rfl (by decide +kernel)) gTT_X9_clear
set_option maxRecDepth 20000 in
theorem gTT_X8_read : GoodIn lw_tbl wsX8_read := goodIn_r _ [387, 258, 253, 254, 388, 389, 390, 67, 391, 209, 392, 393, 394, 66, 395, 182, 396, 398, 2, 399, 210, 400, 401, 402, 403, 180, 184, 186, 404, 406, 3, 407, 179, 408, 409, 410, 411, 413, 4, 414, 188, 416, 417, 418, 419, 420, 421, 422, 71, 423, 1334, 424, 425, 426, 427, 428, 1335, 430, 431, 432, 433, 434, 435, 436, 437, 438, 439, 72, 440, 441, 442, 443, 444, 446, 447, 73, 448, 449, 450, 74, 451, 452, 453, 454, 455, 456, 457, 458, 459, 460, 461, 462, 464, 466, 468, 470, 5, 471, 472, 474, 6, 475, 307, 62, 308, 477, 314, 315, 63, 316, 138, 140, 143, 145, 148, 122, 127, 130, 133, 136, 317, 318, 319, 320, 121, 321, 322, 323, 64, 324, 105, 478, 480, 7, 481, 483, 485, 8, 486, 487, 489, 491, 9, 492, 493, 347, 348, 349, 103, 494, 355, 356, 357, 358, 359, 360, 361, 102, 362, 363, 364, 365, 366, 104, 367, 496, 498, 10, 499, 500, 501, 502, 503, 504, 505, 506, 507, 508, 509, 510, 511, 540, 541, 65, 542, 512, 513, 514, 515, 516, 335, 336, 337, 517, 518, 519, 520, 521, 522, 523, 524, 525, 526, 527, 528, 529, 530, 531, 532, 533, 534, 535, 75, 536, 537, 538, 539, 544, 546, 11, 547, 548, 549, 550, 551, 553, 555, 12, 556, 557, 559, 561, 13, 562, 563, 564, 565, 566, 567, 568, 569, 570, 571, 572, 573, 574, 575, 577, 576, 76, 268, 270, 272, 274, 276, 278, 280, 282, 284, 286, 288, 290, 292, 294, 296, 211, 213, 189, 191, 193, 195, 197, 199, 150, 152, 154, 156, 158, 160, 162, 164, 166, 168, 170, 111, 113, 115, 117] rfl (by decide +kernel)
set_option maxRecDepth 20000 in
theorem gT_X8_read : GoodIn lw_tbl (wsV RL 40 RX8 yX8_read wsX8_read) := goodIn_app (goodIn_r _ [384, 385, 386, 62] rfl (by decide +kernel)) gTT_X8_read
set_option maxRecDepth 20000 in
theorem gTT_X9_read : GoodIn lw_tbl wsX9_read := goodIn_r _ [1241, 930, 932, 934, 935, 917, 1242, 1244, 47, 70, 1245, 929, 928, 931, 933, 1246, 1247, 1248, 1249, 1250, 984, 985, 986, 1251, 1252, 1253, 1254, 1255, 1256, 1258, 48, 1259, 1260, 1262, 49, 1263, 1264, 1266, 50, 1267, 914, 915, 916, 1268, 1270, 51, 1271, 1272, 1274, 52, 1275, 1276, 1278, 53, 1279, 1020, 1021, 1022, 1280, 1282, 54, 1283, 1284, 1286, 55, 1287, 1031, 1032, 1033, 1042, 1043, 1044, 1045, 1046, 1047, 1048, 1049, 1050, 1051, 1052, 1053, 1054, 1055, 1056, 1057, 1058, 1059, 1060, 1061, 1062, 1063, 1064, 1065, 1066, 1067, 1068, 1069, 1070, 1071, 1288, 1290, 56, 1291, 1292, 1294, 57, 1295, 1296, 1298, 58, 1299, 1085, 1086, 1087, 936, 938, 940, 942, 944, 946, 948, 950, 952, 954, 956, 958, 960, 962, 964, 966, 968, 970, 972] rfl (by decide +kernel)
set_option maxRecDepth 20000 in
theorem gT_X9_read : GoodIn lw_tbl (wsV RL 43 RX9 yX9_read wsX9_read) := goodIn_app (goodIn_r _ [1238, 1239, 1240, 70] rfl (by decide +kernel)) gTT_X9_read
set_option maxRecDepth 20000 in
theorem gTT_X8_comes : GoodIn lw_tbl wsX8_comes := goodIn_r _ [581, 253, 582, 583, 584, 63, 585, 122, 307, 62, 308, 309, 311, 0, 312, 265, 587, 501, 502, 503, 504, 505, 506, 64, 507, 105, 102, 104, 588, 590, 14, 591, 266, 592, 593, 594, 595, 136, 143, 145, 148, 596, 347, 348, 349, 103, 597, 598, 599, 600, 575, 577, 576, 76, 358, 359, 360, 361, 362, 363, 364, 365, 366, 367, 601, 602, 603, 604, 509, 510, 511, 540, 541, 65, 542, 512, 513, 514, 515, 516, 335, 336, 337, 121, 517, 518, 519, 520, 138, 521, 522, 523, 524, 140, 525, 526, 527, 528, 529, 530, 531, 532, 533, 534, 535, 75, 536, 537, 538, 539, 268, 270, 272, 274, 276, 278, 280, 282, 284, 286, 288, 290, 292, 294, 296, 150, 152, 154, 156, 158, 160, 162, 164, 166, 168, 170, 111, 113, 115, 117] rfl (by decide +kernel)
set_option maxRecDepth 20000 in
theorem gT_X8_comes : GoodIn lw_tbl (wsV RL 44 RX8 yX8_comes wsX8_comes) := goodIn_app (goodIn_r _ [578, 579, 580, 62] rfl (by decide +kernel)) gTT_X8_comes
set_option maxRecDepth 20000 in
theorem gTT_X9_comes : GoodIn lw_tbl wsX9_comes := goodIn_r _ [1026, 917, 1027, 1029, 33, 70, 1030, 992, 994, 31, 995, 984, 985, 986, 988, 990, 30, 991, 920, 1031, 1032, 1033, 1034, 1036, 34, 1037, 1038, 1040, 35, 1041, 1042, 1043, 1044, 1045, 1046, 1047, 1048, 1049, 1050, 1051, 1052, 1053, 1054, 1055, 1056, 1057, 1058, 1059, 1060, 1061, 1062, 1063, 1064, 1065, 1066, 1067, 1068, 1069, 1070, 1071, 936, 938, 940, 942, 944, 946, 948, 950, 952, 954, 956, 958, 960, 962, 964, 966, 968, 970, 972] rfl (by decide +kernel)
set_option maxRecDepth 20000 in
theorem gT_X9_comes : GoodIn lw_tbl (wsV RL 47 RX9 yX9_comes wsX9_comes) := goodIn_app (goodIn_r _ [1023, 1024, 1025, 70] rfl (by decide +kernel)) gTT_X9_comes
set_option maxRecDepth 20000 in
theorem gTT_X8_goes : GoodIn lw_tbl wsX8_goes := goodIn_r _ [608, 253, 582, 583, 584, 63, 585, 122, 307, 62, 308, 309, 311, 0, 312, 265, 587, 501, 502, 503, 504, 505, 506, 64, 507, 105, 102, 104, 588, 590, 14, 591, 266, 592, 593, 594, 595, 136, 143, 145, 148, 596, 347, 348, 349, 103, 597, 598, 599, 600, 575, 577, 576, 76, 358, 359, 360, 361, 362, 363, 364, 365, 366, 367, 601, 602, 603, 609, 549, 550, 551, 610, 611, 612, 613, 525, 526, 527, 528, 529, 268, 270, 272, 274, 276, 278, 280, 282, 284, 286, 288, 290, 292, 294, 296, 150, 152, 154, 156, 158, 160, 162, 164, 166, 168, 170, 111, 113, 115, 117] rfl (by decide +kernel)
set_option maxRecDepth 20000 in
theorem gT_X8_goes : GoodIn lw_tbl (wsV RL 48 RX8 yX8_goes wsX8_goes) := goodIn_app (goodIn_r _ [605, 606, 607, 62] rfl (by decide +kernel)) gTT_X8_goes
set_option maxRecDepth 20000 in
theorem gTT_X9_goes : GoodIn lw_tbl wsX9_goes := goodIn_r _ [1075, 917, 1027, 1029, 33, 70, 1030, 992, 994, 31, 995, 984, 985, 986, 988, 990, 30, 991, 920, 1031, 1032, 1033, 1034, 1036, 34, 1037, 1038, 1040, 35, 1041, 1051, 1052, 1053, 936, 938, 940, 942, 944, 946, 948, 950, 952, 954, 956, 958, 960, 962, 964, 966, 968, 970, 972] rfl (by decide +kernel)
set_option maxRecDepth 20000 in
theorem gT_X9_goes : GoodIn lw_tbl (wsV RL 51 RX9 yX9_goes wsX9_goes) := goodIn_app (goodIn_r _ [1072, 1073, 1074, 70] rfl (by decide +kernel)) gTT_X9_goes
set_option maxRecDepth 20000 in
theorem gTT_X8_letter : GoodIn lw_tbl wsX8_letter := goodIn_r _ [617, 253, 582, 583, 584, 63, 585, 122, 307, 62, 308, 343, 344, 345, 306, 309, 311, 0, 312, 265, 618, 505, 506, 64, 507, 105, 102, 104, 588, 590, 14, 591, 266, 592, 593, 594, 595, 136, 143, 145, 148, 596, 347, 348, 349, 103, 597, 598, 599, 600, 575, 577, 576, 76, 358, 359, 360, 361, 362, 363, 364, 365, 366, 367, 601, 602, 603, 504, 619, 268, 270, 272, 274, 276, 278, 280, 282, 284, 286, 288, 290, 292, 294, 296, 150, 152, 154, 156, 158, 160, 162, 164, 166, 168, 170, 111, 113, 115, 117] rfl (by decide +kernel)
set_option maxRecDepth 20000 in
theorem gT_X8_letter : GoodIn lw_tbl (wsV RL 52 RX8 yX8_letter wsX8_letter) := goodIn_app (goodIn_r _ [614, 615, 616, 62] rfl (by decide +kernel)) gTT_X8_letter
set_option maxRecDepth 20000 in
theorem gTT_X9_letter : GoodIn lw_tbl wsX9_letter := goodIn_r _ [1079, 917, 1027, 1029, 33, 70, 1030, 992, 994, 31, 995, 984, 985, 986, 1012, 1013, 1014, 1015, 988, 990, 30, 991, 920, 1034, 1036, 34, 1037, 1038, 1040, 35, 1041, 936, 938, 940, 942, 944, 946, 948, 950, 952, 954, 956, 958, 960, 962, 964, 966, 968, 970, 972] rfl (by decide +kernel)
set_option maxRecDepth 20000 in
theorem gT_X9_letter : GoodIn lw_tbl (wsV RL 55 RX9 yX9_letter wsX9_letter) := goodIn_app (goodIn_r _ [1076, 1077, 1078, 70] rfl (by decide +kernel)) gTT_X9_letter
set_option maxRecDepth 20000 in
theorem gTT_X8_nights : GoodIn lw_tbl wsX8_nights := goodIn_r _ [623, 253, 306, 307, 62, 308, 309, 311, 0, 312, 265, 592, 593, 594, 63, 595, 136, 143, 145, 148, 122, 596, 347, 348, 64, 349, 105, 103, 597, 598, 599, 600, 104, 102, 575, 577, 576, 76, 358, 359, 360, 361, 362, 363, 364, 365, 366, 367, 601, 602, 603, 504, 505, 506, 507, 624, 564, 565, 566, 540, 541, 65, 542, 268, 270, 272, 274, 276, 278, 280, 282, 284, 286, 288, 290, 292, 294, 296, 150, 152, 154, 156, 158, 160, 162, 164, 166, 168, 170, 111, 113, 115, 117] rfl (by decide +kernel)
set_option maxRecDepth 20000 in
theorem gT_X8_nights : GoodIn lw_tbl (wsV RL 56 RX8 yX8_nights wsX8_nights) := goodIn_app (goodIn_r _ [620, 621, 622, 62] rfl (by decide +kernel)) gTT_X8_nights
set_option maxRecDepth 20000 in
theorem gTT_X9_nights : GoodIn lw_tbl wsX9_nights := goodIn_r _ [1083, 1084, 917, 984, 985, 70, 986, 988, 990, 30, 991, 920, 1038, 1040, 35, 1041, 1085, 1086, 1087, 936, 938, 940, 942, 944, 946, 948, 950, 952, 954, 956, 958, 960, 962, 964, 966, 968, 970, 972] rfl (by decide +kernel)
set_option maxRecDepth 20000 in
theorem gT_X9_nights : GoodIn lw_tbl (wsV RL 59 RX9 yX9_nights wsX9_nights) := goodIn_app (goodIn_r _ [1080, 1081, 1082, 70] rfl (by decide +kernel)) gTT_X9_nights
set_option maxRecDepth 20000 in
theorem gTT_X8_undo : GoodIn lw_tbl wsX8_undo := goodIn_r _ [628, 253, 588, 590, 14, 62, 591, 266, 629, 630, 631, 63, 632, 136, 143, 145, 148, 122, 504, 505, 506, 64, 507, 105, 102, 104, 601, 602, 603, 367, 364, 365, 366, 633, 634, 635, 636, 268, 270, 272, 274, 276, 278, 280, 282, 284, 286, 288, 290, 292, 294, 296, 150, 152, 154, 156, 158, 160, 162, 164, 166, 168, 170, 111, 113, 115, 117] rfl (by decide +kernel)
set_option maxRecDepth 20000 in
theorem gT_X8_undo : GoodIn lw_tbl (wsV RL 60 RX8 yX8_undo wsX8_undo) := goodIn_app (goodIn_r _ [625, 626, 627, 62] rfl (by decide +kernel)) gTT_X8_undo
set_option maxRecDepth 20000 in
theorem gTT_X9_undo : GoodIn lw_tbl wsX9_undo := goodIn_r _ [1091, 917, 1034, 1036, 34, 70, 1037, 920, 936, 938, 940, 942, 944, 946, 948, 950, 952, 954, 956, 958, 960, 962, 964, 966, 968, 970, 972] rfl (by decide +kernel)
set_option maxRecDepth 20000 in
theorem gT_X9_undo : GoodIn lw_tbl (wsV RL 63 RX9 yX9_undo wsX9_undo) := goodIn_app (goodIn_r _ [1088, 1089, 1090, 70] rfl (by decide +kernel)) gTT_X9_undo
set_option maxRecDepth 20000 in
theorem gTT_X8_of : GoodIn lw_tbl wsX8_of := goodIn_r _ [640, 253, 582, 583, 584, 63, 585, 122, 307, 62, 308, 306, 309, 311, 0, 312, 265, 641, 531, 532, 533, 143, 504, 505, 506, 64, 507, 105, 102, 104, 534, 535, 75, 536, 618, 268, 270, 272, 274, 276, 278, 280, 282, 284, 286, 288, 290, 292, 294, 296, 150, 152, 154, 156, 158, 160, 162, 164, 166, 168, 170, 111, 113, 115, 117] rfl (by decide +kernel)
set_option maxRecDepth 20000 in
theorem gT_X8_of : GoodIn lw_tbl (wsV RL 64 RX8 yX8_of wsX8_of) := goodIn_app (goodIn_r _ [637, 638, 639, 62] rfl (by decide +kernel)) gTT_X8_of
set_option maxRecDepth 20000 in
theorem gTT_X9_of : GoodIn lw_tbl wsX9_of := goodIn_r _ [1095, 1007, 1027, 1029, 33, 70, 1030, 992, 994, 31, 995, 917, 984, 985, 986, 1096, 1098, 36, 1099, 1054, 1055, 1056, 1057, 1058, 1059, 988, 990, 30, 991, 920, 936, 938, 940, 942, 944, 946, 948, 950, 952, 954, 956, 958, 960, 962, 964, 966, 968, 970, 972] rfl (by decide +kernel)
set_option maxRecDepth 20000 in
theorem gT_X9_of : GoodIn lw_tbl (wsV RL 67 RX9 yX9_of wsX9_of) := goodIn_app (goodIn_r _ [1092, 1093, 1094, 70] rfl (by decide +kernel)) gTT_X9_of
set_option maxRecDepth 20000 in
theorem gTT_X8_now : GoodIn lw_tbl wsX8_now := goodIn_r _ [645, 306, 307, 62, 308, 309, 311, 0, 312, 265, 646, 648, 15, 649, 253, 650, 651, 652, 63, 653, 138, 143, 145, 516, 335, 336, 337, 121, 537, 538, 75, 539, 654, 513, 514, 515, 268, 270, 272, 274, 276, 278, 280, 282, 284, 286, 288, 290, 292, 294, 296, 150, 152, 154, 156, 158, 160, 162, 164, 166, 168, 170] rfl (by decide +kernel)
set_option maxRecDepth 20000 in
theorem gT_X8_now : GoodIn lw_tbl (wsV RL 68 RX8 yX8_now wsX8_now) := goodIn_app (goodIn_r _ [642, 643, 644, 62] rfl (by decide +kernel)) gTT_X8_now
set_option maxRecDepth 20000 in
theorem gTT_X9_now : GoodIn lw_tbl wsX9_now := goodIn_r _ [1103, 983, 984, 985, 70, 986, 1104, 1106, 37, 1107, 917, 1060, 1061, 1062, 1063, 1064, 1065, 1066, 1067, 1068, 988, 990, 30, 991, 920, 936, 938, 940, 942, 944, 946, 948, 950, 952, 954, 956, 958, 960, 962, 964, 966, 968, 970, 972] rfl (by decide +kernel)
set_option maxRecDepth 20000 in
theorem gT_X9_now : GoodIn lw_tbl (wsV RL 71 RX9 yX9_now wsX9_now) := goodIn_app (goodIn_r _ [1100, 1101, 1102, 70] rfl (by decide +kernel)) gTT_X9_now
set_option maxRecDepth 20000 in
theorem gTT_X8_may : GoodIn lw_tbl wsX8_may := goodIn_r _ [658, 253, 587, 501, 502, 63, 503, 122, 504, 505, 506, 64, 507, 105, 102, 104, 654, 513, 514, 515, 143, 516, 335, 336, 337, 121, 659, 518, 519, 520, 138, 145, 521, 522, 523, 524, 140, 525, 526, 527, 528, 529, 530, 531, 532, 533, 534, 535, 75, 536, 537, 538, 539, 268, 270, 272, 274, 276, 278, 280, 282, 284, 286, 288, 290, 292, 294, 296, 150, 152, 154, 156, 158, 160, 162, 164, 166, 168, 170, 111, 113, 115, 117] rfl (by decide +kernel)
set_option maxRecDepth 20000 in
theorem gT_X8_may : GoodIn lw_tbl (wsV RL 72 RX8 yX8_may wsX8_may) := goodIn_app (goodIn_r _ [655, 656, 657, 62] rfl (by decide +kernel)) gTT_X8_may
set_option maxRecDepth 20000 in
theorem gTT_X9_may : GoodIn lw_tbl wsX9_may := goodIn_r _ [1111, 917, 992, 994, 31, 70, 995, 1045, 1046, 1047, 1031, 1032, 1033, 1048, 1049, 1050, 1051, 1052, 1053, 1054, 1055, 1056, 1057, 1058, 1059, 1060, 1061, 1062, 1063, 1064, 1065, 1066, 1067, 1068, 936, 938, 940, 942, 944, 946, 948, 950, 952, 954, 956, 958, 960, 962, 964, 966, 968, 970, 972] rfl (by decide +kernel)
set_option maxRecDepth 20000 in
theorem gT_X9_may : GoodIn lw_tbl (wsV RL 75 RX9 yX9_may wsX9_may) := goodIn_app (goodIn_r _ [1108, 1109, 1110, 70] rfl (by decide +kernel)) gTT_X9_may
set_option maxRecDepth 20000 in
theorem gTT_X8_when : GoodIn lw_tbl wsX8_when := goodIn_r _ [663, 253, 582, 583, 584, 63, 585, 122, 307, 62, 308, 309, 311, 0, 312, 265, 587, 501, 502, 503, 504, 505, 506, 64, 507, 105, 102, 104, 664, 522, 523, 524, 140, 525, 526, 527, 528, 529, 334, 335, 336, 337, 121, 665, 666, 667, 668, 138, 537, 538, 75, 539, 618, 669, 670, 671, 672, 534, 535, 536, 268, 270, 272, 274, 276, 278, 280, 282, 284, 286, 288, 290, 292, 294, 296, 150, 152, 154, 156, 158, 160, 162, 164, 166, 168, 170, 111, 113, 115, 117] rfl (by decide +kernel)
set_option maxRecDepth 20000 in
theorem gT_X8_when : GoodIn lw_tbl (wsV RL 76 RX8 yX8_when wsX8_when) := goodIn_app (goodIn_r _ [660, 661, 662, 62] rfl (by decide +kernel)) gTT_X8_when
set_option maxRecDepth 20000 in
theorem gTT_X9_when : GoodIn lw_tbl wsX9_when := goodIn_r _ [1115, 923, 1027, 1029, 33, 70, 1030, 992, 994, 31, 995, 917, 984, 985, 986, 988, 990, 30, 991, 920, 1116, 1118, 38, 1119, 1045, 1046, 1047, 1031, 1032, 1033, 1048, 1049, 1050, 1051, 1052, 1053, 1054, 1055, 1056, 1057, 1058, 1059, 1060, 1061, 1062, 1063, 1064, 1065, 1066, 1067, 1068, 936, 938, 940, 942, 944, 946, 948, 950, 952, 954, 956, 958, 960, 962, 964, 966, 968, 970, 972] rfl (by decide +kernel)
set_option maxRecDepth 20000 in
theorem gT_X9_when : GoodIn lw_tbl (wsV RL 79 RX9 yX9_when wsX9_when) := goodIn_app (goodIn_r _ [1112, 1113, 1114, 70] rfl (by decide +kernel)) gTT_X9_when
set_option maxRecDepth 20000 in
theorem gTT_X8_pen : GoodIn lw_tbl wsX8_pen := goodIn_r _ [676, 253, 582, 583, 584, 63, 585, 122, 307, 62, 308, 309, 311, 0, 312, 265, 587, 501, 502, 503, 504, 505, 506, 64, 507, 105, 102, 104, 664, 522, 523, 524, 140, 525, 526, 527, 528, 529, 618, 669, 670, 671, 672, 534, 535, 75, 536, 650, 651, 652, 653, 138, 143, 145, 516, 335, 336, 337, 121, 537, 538, 539, 268, 270, 272, 274, 276, 278, 280, 282, 284, 286, 288, 290, 292, 294, 296, 150, 152, 154, 156, 158, 160, 162, 164, 166, 168, 170, 111, 113, 115, 117] rfl (by decide +kernel)
set_option maxRecDepth 20000 in
theorem gT_X8_pen : GoodIn lw_tbl (wsV RL 80 RX8 yX8_pen wsX8_pen) := goodIn_app (goodIn_r _ [673, 674, 675, 62] rfl (by decide +kernel)) gTT_X8_pen
set_option maxRecDepth 20000 in
theorem gTT_X9_pen : GoodIn lw_tbl wsX9_pen := goodIn_r _ [1123, 923, 1027, 1029, 33, 70, 1030, 992, 994, 31, 995, 917, 984, 985, 986, 988, 990, 30, 991, 920, 1116, 1118, 38, 1119, 1045, 1046, 1047, 1031, 1032, 1033, 1048, 1049, 1050, 1051, 1052, 1053, 1054, 1055, 1056, 1057, 1058, 1059, 1060, 1061, 1062, 1063, 1064, 1065, 1066, 1067, 1068, 936, 938, 940, 942, 944, 946, 948, 950, 952, 954, 956, 958, 960, 962, 964, 966, 968, 970, 972] rfl (by decide +kernel)
set_option maxRecDepth 20000 in
theorem gT_X9_pen : GoodIn lw_tbl (wsV RL 83 RX9 yX9_pen wsX9_pen) := goodIn_app (goodIn_r _ [1120, 1121, 1122, 70] rfl (by decide +kernel)) gTT_X9_pen
set_option maxRecDepth 20000 in
theorem gTT_X8_order : GoodIn lw_tbl wsX8_order := goodIn_r _ [680, 259, 253, 309, 311, 0, 62, 312, 265, 681, 682, 683, 68, 684, 225, 223, 222, 701, 541, 65, 542, 228, 685, 531, 532, 63, 533, 122, 143, 504, 505, 506, 64, 507, 105, 102, 104, 534, 535, 75, 536, 686, 501, 502, 503, 687, 689, 16, 690, 712, 100, 101, 691, 693, 17, 694, 695, 696, 77, 697, 698, 699, 700, 702, 513, 514, 515, 516, 335, 336, 337, 121, 703, 666, 667, 668, 138, 537, 538, 539, 704, 706, 18, 707, 708, 710, 19, 711, 713, 611, 612, 613, 525, 526, 527, 528, 529, 714, 716, 20, 717, 226, 224, 718, 719, 720, 721, 268, 270, 272, 274, 276, 278, 280, 282, 284, 286, 288, 290, 292, 294, 296, 230, 232, 234, 236, 238, 240, 150, 152, 154, 156, 158, 160, 162, 164, 166, 168, 170, 111, 113, 115, 117] rfl (by decide +kernel)
set_option maxRecDepth 20000 in
theorem gT_X8_order : GoodIn lw_tbl (wsV RL 84 RX8 yX8_order wsX8_order) := goodIn_app (goodIn_r _ [677, 678, 679, 62] rfl (by decide +kernel)) gTT_X8_order
set_option maxRecDepth 20000 in
theorem gTT_X9_order : GoodIn lw_tbl wsX9_order := goodIn_r _ [1127, 923, 925, 926, 988, 990, 30, 70, 991, 920, 1128, 1130, 39, 1131, 917, 924, 992, 994, 31, 995, 1031, 1032, 1033, 1132, 1134, 40, 1135, 1116, 1118, 38, 1119, 1042, 1043, 1044, 1045, 1046, 1047, 1048, 1049, 1050, 1051, 1052, 1053, 1054, 1055, 1056, 1057, 1058, 1059, 1060, 1061, 1062, 1063, 1064, 1065, 1066, 1067, 1068, 1069, 1070, 1071, 936, 938, 940, 942, 944, 946, 948, 950, 952, 954, 956, 958, 960, 962, 964, 966, 968, 970, 972] rfl (by decide +kernel)
set_option maxRecDepth 20000 in
theorem gT_X9_order : GoodIn lw_tbl (wsV RL 87 RX9 yX9_order wsX9_order) := goodIn_app (goodIn_r _ [1124, 1125, 1126, 70] rfl (by decide +kernel)) gTT_X9_order
set_option maxRecDepth 20000 in
theorem gTT_X8_seen : GoodIn lw_tbl wsX8_seen := goodIn_r _ [725, 253, 582, 583, 584, 63, 585, 122, 307, 62, 308, 343, 344, 345, 306, 309, 311, 0, 312, 265, 726, 728, 21, 729, 346, 347, 348, 64, 349, 105, 103, 350, 352, 1, 353, 267, 730, 359, 360, 361, 102, 362, 363, 364, 365, 366, 104, 619, 268, 270, 272, 274, 276, 278, 280, 282, 284, 286, 288, 290, 292, 294, 296, 150, 152, 154, 156, 158, 160, 162, 164, 166, 168, 170, 111, 113, 115, 117] rfl (by decide +kernel)
set_option maxRecDepth 20000 in
theorem gT_X8_seen : GoodIn lw_tbl (wsV RL 88 RX8 yX8_seen wsX8_seen) := goodIn_app (goodIn_r _ [722, 723, 724, 62] rfl (by decide +kernel)) gTT_X8_seen
set_option maxRecDepth 20000 in
theorem gTT_X9_seen : GoodIn lw_tbl wsX9_seen := goodIn_r _ [1139, 1084, 917, 1027, 1029, 33, 70, 1030, 992, 994, 31, 995, 984, 985, 986, 1012, 1013, 1014, 1015, 988, 990, 30, 991, 920, 1016, 1018, 32, 1019, 936, 938, 940, 942, 944, 946, 948, 950, 952, 954, 956, 958, 960, 962, 964, 966, 968, 970, 972] rfl (by decide +kernel)
set_option maxRecDepth 20000 in
theorem gT_X9_seen : GoodIn lw_tbl (wsV RL 92 RX9 yX9_seen wsX9_seen) := goodIn_app (goodIn_r _ [1136, 1137, 1138, 70] rfl (by decide +kernel)) gTT_X9_seen
set_option maxRecDepth 20000 in
theorem gTT_X8_often : GoodIn lw_tbl wsX8_often := goodIn_r _ [734, 253, 260, 582, 583, 584, 63, 585, 122, 307, 62, 308, 306, 309, 311, 0, 312, 265, 735, 736, 737, 69, 738, 739, 741, 22, 742, 743, 505, 506, 64, 507, 105, 102, 104, 744, 746, 23, 747, 748, 670, 671, 672, 504, 534, 535, 75, 536, 749, 335, 336, 337, 121, 750, 666, 667, 668, 138, 537, 538, 539, 751, 696, 77, 697, 698, 699, 700, 752, 753, 754, 755, 756, 757, 268, 270, 272, 274, 276, 278, 280, 282, 284, 286, 288, 290, 292, 294, 296, 150, 152, 154, 156, 158, 160, 162, 164, 166, 168, 170, 111, 113, 115, 117] rfl (by decide +kernel)
set_option maxRecDepth 20000 in
theorem gT_X8_often : GoodIn lw_tbl (wsV RL 93 RX8 yX8_often wsX8_often) := goodIn_app (goodIn_r _ [731, 732, 733, 62] rfl (by decide +kernel)) gTT_X8_often
set_option maxRecDepth 20000 in
theorem gTT_X9_often : GoodIn lw_tbl wsX9_often := goodIn_r _ [1143, 1144, 1027, 1029, 33, 70, 1030, 992, 994, 31, 995, 917, 984, 985, 986, 988, 990, 30, 991, 920, 1145, 1147, 41, 1148, 1149, 1151, 42, 1152, 1057, 1058, 1059, 1063, 1064, 1065, 1066, 1067, 1068, 936, 938, 940, 942, 944, 946, 948, 950, 952, 954, 956, 958, 960, 962, 964, 966, 968, 970, 972] rfl (by decide +kernel)
set_option maxRecDepth 20000 in
theorem gT_X9_often : GoodIn lw_tbl (wsV RL 96 RX9 yX9_often wsX9_often) := goodIn_app (goodIn_r _ [1140, 1141, 1142, 70] rfl (by decide +kernel)) gTT_X9_often
set_option maxRecDepth 20000 in
theorem gTT_X8_tell : GoodIn lw_tbl wsX8_tell := goodIn_r _ [761, 253, 260, 582, 583, 584, 63, 585, 122, 307, 62, 308, 762, 763, 764, 69, 765, 772, 100, 65, 101, 766, 736, 737, 738, 739, 741, 22, 742, 743, 505, 506, 64, 507, 105, 102, 104, 744, 746, 23, 747, 748, 670, 671, 672, 504, 534, 535, 75, 536, 749, 335, 336, 337, 121, 750, 666, 667, 668, 138, 537, 538, 539, 767, 696, 77, 697, 698, 699, 700, 768, 770, 24, 771, 309, 311, 0, 312, 265, 268, 270, 272, 274, 276, 278, 280, 282, 284, 286, 288, 290, 292, 294, 296, 150, 152, 154, 156, 158, 160, 162, 164, 166, 168, 170, 111, 113, 115, 117] rfl (by decide +kernel)
set_option maxRecDepth 20000 in
theorem gT_X8_tell : GoodIn lw_tbl (wsV RL 97 RX8 yX8_tell wsX8_tell) := goodIn_app (goodIn_r _ [758, 759, 760, 62] rfl (by decide +kernel)) gTT_X8_tell
set_option maxRecDepth 20000 in
theorem gTT_X9_tell : GoodIn lw_tbl wsX9_tell := goodIn_r _ [1156, 1157, 1027, 1029, 33, 70, 1030, 992, 994, 31, 995, 917, 984, 985, 986, 988, 990, 30, 991, 920, 1149, 1151, 42, 1152, 1057, 1058, 1059, 1063, 1064, 1065, 1066, 1067, 1068, 1145, 1147, 41, 1148, 936, 938, 940, 942, 944, 946, 948, 950, 952, 954, 956, 958, 960, 962, 964, 966, 968, 970, 972] rfl (by decide +kernel)
set_option maxRecDepth 20000 in
theorem gT_X9_tell : GoodIn lw_tbl (wsV RL 100 RX9 yX9_tell wsX9_tell) := goodIn_app (goodIn_r _ [1153, 1154, 1155, 70] rfl (by decide +kernel)) gTT_X9_tell
set_option maxRecDepth 20000 in
theorem gTT_X8_note : GoodIn lw_tbl wsX8_note := goodIn_r _ [776, 253, 582, 583, 584, 63, 585, 122, 307, 62, 308, 343, 344, 345, 306, 309, 311, 0, 312, 265, 726, 728, 21, 729, 346, 347, 348, 64, 349, 105, 103, 350, 352, 1, 353, 267, 730, 359, 360, 361, 102, 362, 363, 364, 365, 366, 104, 619, 268, 270, 272, 274, 276, 278, 280, 282, 284, 286, 288, 290, 292, 294, 296, 150, 152, 154, 156, 158, 160, 162, 164, 166, 168, 170, 111, 113, 115, 117] rfl (by decide +kernel)
set_option maxRecDepth 20000 in
theorem gT_X8_note : GoodIn lw_tbl (wsV RL 101 RX8 yX8_note wsX8_note) := goodIn_app (goodIn_r _ [773, 774, 775, 62] rfl (by decide +kernel)) gTT_X8_note
set_option maxRecDepth 20000 in
theorem gTT_X9_note : GoodIn lw_tbl wsX9_note := goodIn_r _ [1161, 1015, 1084, 1162, 917, 1027, 1029, 33, 70, 1030, 992, 994, 31, 995, 984, 985, 986, 1012, 1013, 1014, 988, 990, 30, 991, 920, 1016, 1018, 32, 1019, 936, 938, 940, 942, 944, 946, 948, 950, 952, 954, 956, 958, 960, 962, 964, 966, 968, 970, 972] rfl (by decide +kernel)
set_option maxRecDepth 20000 in
theorem gT_X9_note : GoodIn lw_tbl (wsV RL 105 RX9 yX9_note wsX9_note) := goodIn_app (goodIn_r _ [1158, 1159, 1160, 70] rfl (by decide +kernel)) gTT_X9_note
set_option maxRecDepth 20000 in
theorem gTT_X8_mark : GoodIn lw_tbl wsX8_mark := goodIn_r _ [780, 253, 306, 307, 62, 308, 309, 311, 0, 312, 265, 726, 728, 21, 729, 346, 347, 348, 64, 349, 105, 103, 350, 352, 1, 353, 267, 730, 359, 360, 361, 102, 362, 363, 364, 365, 366, 104, 619, 268, 270, 272, 274, 276, 278, 280, 282, 284, 286, 288, 290, 292, 294, 296, 150, 152, 154, 156, 158, 160, 162, 164, 166, 168, 170, 111, 113, 115, 117] rfl (by decide +kernel)
set_option maxRecDepth 20000 in
theorem gT_X8_mark : GoodIn lw_tbl (wsV RL 106 RX8 yX8_mark wsX8_mark) := goodIn_app (goodIn_r _ [777, 778, 779, 62] rfl (by decide +kernel)) gTT_X8_mark
set_option maxRecDepth 20000 in
theorem gTT_X9_mark : GoodIn lw_tbl wsX9_mark := goodIn_r _ [1166, 1015, 1167, 1084, 917, 1004, 1005, 70, 1006, 1007, 984, 985, 986, 988, 990, 30, 991, 920, 1016, 1018, 32, 1019, 936, 938, 940, 942, 944, 946, 948, 950, 952, 954, 956, 958, 960, 962, 964, 966, 968, 970, 972] rfl (by decide +kernel)
set_option maxRecDepth 20000 in
theorem gT_X9_mark : GoodIn lw_tbl (wsV RL 110 RX9 yX9_mark wsX9_mark) := goodIn_app (goodIn_r _ [1163, 1164, 1165, 70] rfl (by decide +kernel)) gTT_X9_mark
set_option maxRecDepth 20000 in
theorem gTT_X8_forget : GoodIn lw_tbl wsX8_forget := goodIn_r _ [784, 253, 306, 307, 62, 308, 309, 311, 0, 312, 265, 329, 322, 323, 64, 324, 105, 268, 270, 272, 274, 276, 278, 280, 282, 284, 286, 288, 290, 292, 294, 296, 150, 152, 154, 156, 158, 160, 162, 164, 166, 168, 170, 111, 113, 115, 117] rfl (by decide +kernel)
set_option maxRecDepth 20000 in
theorem gT_X8_forget : GoodIn lw_tbl (wsV RL 111 RX8 yX8_forget wsX8_forget) := goodIn_app (goodIn_r _ [781, 782, 783, 62] rfl (by decide +kernel)) gTT_X8_forget
set_option maxRecDepth 20000 in
theorem gTT_X9_forget : GoodIn lw_tbl wsX9_forget := goodIn_r _ [1171, 1144, 917, 984, 985, 70, 986, 988, 990, 30, 991, 920, 936, 938, 940, 942, 944, 946, 948, 950, 952, 954, 956, 958, 960, 962, 964, 966, 968, 970, 972] rfl (by decide +kernel)
set_option maxRecDepth 20000 in
theorem gT_X9_forget : GoodIn lw_tbl (wsV RL 114 RX9 yX9_forget wsX9_forget) := goodIn_app (goodIn_r _ [1168, 1169, 1170, 70] rfl (by decide +kernel)) gTT_X9_forget
set_option maxRecDepth 20000 in
theorem gTT_X8_is : GoodIn lw_tbl wsX8_is := goodIn_r _ [788, 253, 260, 582, 583, 584, 63, 585, 122, 307, 62, 308, 789, 790, 791, 69, 792, 793, 795, 25, 796, 743, 505, 506, 64, 507, 105, 102, 104, 797, 535, 75, 536, 309, 311, 0, 312, 265, 268, 270, 272, 274, 276, 278, 280, 282, 284, 286, 288, 290, 292, 294, 296, 150, 152, 154, 156, 158, 160, 162, 164, 166, 168, 170, 111, 113, 115, 117] rfl (by decide +kernel)
set_option maxRecDepth 20000 in
theorem gT_X8_is : GoodIn lw_tbl (wsV RL 115 RX8 yX8_is wsX8_is) := goodIn_app (goodIn_r _ [785, 786, 787, 62] rfl (by decide +kernel)) gTT_X8_is
set_option maxRecDepth 20000 in
theorem gTT_X9_is : GoodIn lw_tbl wsX9_is := goodIn_r _ [1175, 1027, 1029, 33, 70, 1030, 992, 994, 31, 995, 917, 984, 985, 986, 1176, 1178, 43, 1179, 1057, 1058, 1059, 988, 990, 30, 991, 920, 936, 938, 940, 942, 944, 946, 948, 950, 952, 954, 956, 958, 960, 962, 964, 966, 968, 970, 972] rfl (by decide +kernel)
set_option maxRecDepth 20000 in
theorem gT_X9_is : GoodIn lw_tbl (wsV RL 118 RX9 yX9_is wsX9_is) := goodIn_app (goodIn_r _ [1172, 1173, 1174, 70] rfl (by decide +kernel)) gTT_X9_is
set_option maxRecDepth 20000 in
theorem gTT_X8_look : GoodIn lw_tbl wsX8_look := goodIn_r _ [801, 253, 260, 582, 583, 584, 63, 585, 122, 307, 62, 308, 802, 803, 804, 69, 805, 249, 806, 790, 791, 792, 793, 795, 25, 796, 743, 505, 506, 64, 507, 105, 102, 104, 797, 535, 75, 536, 807, 809, 26, 810, 772, 100, 65, 101, 309, 311, 0, 312, 265, 268, 270, 272, 274, 276, 278, 280, 282, 284, 286, 288, 290, 292, 294, 296, 150, 152, 154, 156, 158, 160, 162, 164, 166, 168, 170, 111, 113, 115, 117, 250] rfl (by decide +kernel)
set_option maxRecDepth 20000 in
theorem gT_X8_look : GoodIn lw_tbl (wsV RL 119 RX8 yX8_look wsX8_look) := goodIn_app (goodIn_r _ [798, 799, 800, 62] rfl (by decide +kernel)) gTT_X8_look
set_option maxRecDepth 20000 in
theorem gTT_X9_look : GoodIn lw_tbl wsX9_look := goodIn_r _ [1183, 1157, 927, 917, 1027, 1029, 33, 70, 1030, 992, 994, 31, 995, 984, 985, 986, 988, 990, 30, 991, 920, 1176, 1178, 43, 1179, 1057, 1058, 1059, 1184, 1186, 44, 1187, 1031, 1032, 1033, 936, 938, 940, 942, 944, 946, 948, 950, 952, 954, 956, 958, 960, 962, 964, 966, 968, 970, 972] rfl (by decide +kernel)
set_option maxRecDepth 20000 in
theorem gT_X9_look : GoodIn lw_tbl (wsV RL 122 RX9 yX9_look wsX9_look) := goodIn_app (goodIn_r _ [1180, 1181, 1182, 70] rfl (by decide +kernel)) gTT_X9_look
set_option maxRecDepth 20000 in
theorem gTT_X8_kinds : GoodIn lw_tbl wsX8_kinds := goodIn_r _ [814, 260, 253, 815, 816, 817, 69, 818, 819, 821, 27, 822, 743, 505, 506, 64, 507, 105, 102, 104, 823, 538, 75, 539, 268, 270, 272, 274, 276, 278, 280, 282, 284, 286, 288, 290, 292, 294, 296, 150, 152, 154, 156, 158, 160, 162, 164, 166, 168, 170, 111, 113, 115, 117] rfl (by decide +kernel)
set_option maxRecDepth 20000 in
theorem gT_X8_kinds : GoodIn lw_tbl (wsV RL 123 RX8 yX8_kinds wsX8_kinds) := goodIn_app (goodIn_r _ [811, 812, 813, 62] rfl (by decide +kernel)) gTT_X8_kinds
set_option maxRecDepth 20000 in
theorem gTT_X9_kinds : GoodIn lw_tbl wsX9_kinds := goodIn_r _ [1191, 1192, 1194, 45, 70, 1195, 917, 1066, 1067, 1068, 936, 938, 940, 942, 944, 946, 948, 950, 952, 954, 956, 958, 960, 962, 964, 966, 968, 970, 972] rfl (by decide +kernel)
set_option maxRecDepth 20000 in
theorem gT_X9_kinds : GoodIn lw_tbl (wsV RL 126 RX9 yX9_kinds wsX9_kinds) := goodIn_app (goodIn_r _ [1188, 1189, 1190, 70] rfl (by decide +kernel)) gTT_X9_kinds
set_option maxRecDepth 20000 in
theorem gTT_X8_ask : GoodIn lw_tbl wsX8_ask := goodIn_r _ [827, 260, 253, 828, 829, 830, 69, 831, 249, 832, 816, 817, 818, 819, 821, 27, 822, 743, 505, 506, 64, 507, 105, 102, 104, 823, 538, 75, 539, 807, 809, 26, 810, 772, 100, 65, 101, 268, 270, 272, 274, 276, 278, 280, 282, 284, 286, 288, 290, 292, 294, 296, 250, 150, 152, 154, 156, 158, 160, 162, 164, 166, 168, 170, 111, 113, 115, 117] rfl (by decide +kernel)
set_option maxRecDepth 20000 in
theorem gT_X8_ask : GoodIn lw_tbl (wsV RL 127 RX8 yX8_ask wsX8_ask) := goodIn_app (goodIn_r _ [824, 825, 826, 62] rfl (by decide +kernel)) gTT_X8_ask
set_option maxRecDepth 20000 in
theorem gTT_X9_ask : GoodIn lw_tbl wsX9_ask := goodIn_r _ [1199, 1157, 927, 1192, 1194, 45, 70, 1195, 917, 1066, 1067, 1068, 1184, 1186, 44, 1187, 1031, 1032, 1033, 936, 938, 940, 942, 944, 946, 948, 950, 952, 954, 956, 958, 960, 962, 964, 966, 968, 970, 972] rfl (by decide +kernel)
set_option maxRecDepth 20000 in
theorem gT_X9_ask : GoodIn lw_tbl (wsV RL 130 RX9 yX9_ask wsX9_ask) := goodIn_app (goodIn_r _ [1196, 1197, 1198, 70] rfl (by decide +kernel)) gTT_X9_ask
set_option maxRecDepth 20000 in
theorem gTT_X8_door : GoodIn lw_tbl wsX8_door := goodIn_r _ [836, 253, 582, 583, 584, 63, 585, 122, 307, 62, 308, 309, 311, 0, 312, 265, 587, 501, 502, 503, 504, 505, 506, 64, 507, 105, 102, 104, 588, 590, 14, 591, 266, 641, 531, 532, 533, 143, 534, 535, 75, 536, 650, 651, 652, 653, 138, 145, 516, 335, 336, 337, 121, 537, 538, 539, 837, 838, 78, 839, 840, 841, 842, 843, 844, 845, 268, 270, 272, 274, 276, 278, 280, 282, 284, 286, 288, 290, 292, 294, 296, 150, 152, 154, 156, 158, 160, 162, 164, 166, 168, 170, 111, 113, 115, 117] rfl (by decide +kernel)
set_option maxRecDepth 20000 in
theorem gT_X8_door : GoodIn lw_tbl (wsV RL 131 RX8 yX8_door wsX8_door) := goodIn_app (goodIn_r _ [833, 834, 835, 62] rfl (by decide +kernel)) gTT_X8_door
set_option maxRecDepth 20000 in
theorem gTT_X9_door : GoodIn lw_tbl wsX9_door := goodIn_r _ [1203, 917, 1027, 1029, 33, 70, 1030, 992, 994, 31, 995, 984, 985, 986, 988, 990, 30, 991, 920, 1031, 1032, 1033, 1034, 1036, 34, 1037, 1054, 1055, 1056, 1057, 1058, 1059, 1060, 1061, 1062, 1063, 1064, 1065, 1066, 1067, 1068, 1204, 1205, 1206, 1207, 1208, 1209, 936, 938, 940, 942, 944, 946, 948, 950, 952, 954, 956, 958, 960, 962, 964, 966, 968, 970, 972] rfl (by decide +kernel)
set_option maxRecDepth 20000 in
theorem gT_X9_door : GoodIn lw_tbl (wsV RL 134 RX9 yX9_door wsX9_door) := goodIn_app (goodIn_r _ [1200, 1201, 1202, 70] rfl (by decide +kernel)) gTT_X9_door
set_option maxRecDepth 20000 in
theorem gTT_X8_rain : GoodIn lw_tbl wsX8_rain := goodIn_r _ [849, 253, 582, 583, 584, 63, 585, 122, 307, 62, 308, 306, 309, 311, 0, 312, 265, 587, 501, 502, 503, 504, 505, 506, 64, 507, 105, 102, 104, 588, 590, 14, 591, 266, 659, 518, 519, 520, 138, 145, 521, 522, 523, 524, 140, 525, 526, 527, 528, 529, 530, 531, 532, 533, 143, 534, 535, 75, 536, 537, 538, 539, 654, 513, 514, 515, 516, 335, 336, 337, 121, 850, 852, 28, 853, 263, 264, 268, 270, 272, 274, 276, 278, 280, 282, 284, 286, 288, 290, 292, 294, 296, 150, 152, 154, 156, 158, 160, 162, 164, 166, 168, 170, 111, 113, 115, 117] rfl (by decide +kernel)
set_option maxRecDepth 20000 in
theorem gT_X8_rain : GoodIn lw_tbl (wsV RL 135 RX8 yX8_rain wsX8_rain) := goodIn_app (goodIn_r _ [846, 847, 848, 62] rfl (by decide +kernel)) gTT_X8_rain
set_option maxRecDepth 20000 in
theorem gTT_X9_rain : GoodIn lw_tbl wsX9_rain := goodIn_r _ [1213, 1214, 917, 923, 1027, 1029, 33, 70, 1030, 992, 994, 31, 995, 984, 985, 986, 988, 990, 30, 991, 920, 1031, 1032, 1033, 1034, 1036, 34, 1037, 1116, 1118, 38, 1119, 1045, 1046, 1047, 1048, 1049, 1050, 1051, 1052, 1053, 1054, 1055, 1056, 1057, 1058, 1059, 1060, 1061, 1062, 1063, 1064, 1065, 1066, 1067, 1068, 1215, 1217, 46, 1218, 921, 922, 936, 938, 940, 942, 944, 946, 948, 950, 952, 954, 956, 958, 960, 962, 964, 966, 968, 970, 972] rfl (by decide +kernel)
set_option maxRecDepth 20000 in
theorem gT_X9_rain : GoodIn lw_tbl (wsV RL 138 RX9 yX9_rain wsX9_rain) := goodIn_app (goodIn_r _ [1210, 1211, 1212, 70] rfl (by decide +kernel)) gTT_X9_rain
set_option maxRecDepth 20000 in
theorem gTT_X8_decades : GoodIn lw_tbl wsX8_decades := goodIn_r _ [857, 858, 254, 253, 859, 860, 861, 862, 863, 306, 307, 62, 308, 309, 311, 0, 312, 265, 567, 568, 569, 63, 570, 138, 140, 143, 145, 148, 122, 127, 130, 133, 136, 516, 335, 336, 337, 121, 317, 318, 319, 320, 571, 572, 573, 64, 574, 104, 575, 577, 576, 76, 105, 864, 865, 866, 867, 868, 583, 584, 585, 869, 501, 502, 503, 504, 505, 506, 507, 102, 870, 549, 550, 551, 367, 364, 365, 366, 871, 509, 510, 511, 540, 541, 65, 542, 512, 513, 514, 515, 517, 518, 519, 520, 521, 522, 523, 524, 525, 526, 527, 528, 529, 530, 531, 532, 533, 534, 535, 75, 536, 537, 538, 539, 610, 611, 612, 613, 268, 270, 272, 274, 276, 278, 280, 282, 284, 286, 288, 290, 292, 294, 296, 150, 152, 154, 156, 158, 160, 162, 164, 166, 168, 170, 111, 113, 115, 117] rfl (by decide +kernel)
set_option maxRecDepth 20000 in
theorem gT_X8_decades : GoodIn lw_tbl (wsV RL 139 RX8 yX8_decades wsX8_decades) := goodIn_app (goodIn_r _ [854, 855, 856, 62] rfl (by decide +kernel)) gTT_X8_decades
set_option maxRecDepth 20000 in
theorem gTT_X9_decades : GoodIn lw_tbl wsX9_decades := goodIn_r _ [1222, 1223, 1162, 1224, 1225, 1226, 1227, 1228, 923, 984, 985, 70, 986, 988, 990, 30, 991, 920, 1116, 1118, 38, 1119, 917, 1027, 1029, 33, 1030, 992, 994, 31, 995, 1031, 1032, 1033, 1042, 1043, 1044, 1045, 1046, 1047, 1048, 1049, 1050, 1051, 1052, 1053, 1054, 1055, 1056, 1057, 1058, 1059, 1060, 1061, 1062, 1063, 1064, 1065, 1066, 1067, 1068, 1069, 1070, 1071, 936, 938, 940, 942, 944, 946, 948, 950, 952, 954, 956, 958, 960, 962, 964, 966, 968, 970, 972] rfl (by decide +kernel)
set_option maxRecDepth 20000 in
theorem gT_X9_decades : GoodIn lw_tbl (wsV RL 142 RX9 yX9_decades wsX9_decades) := goodIn_app (goodIn_r _ [1219, 1220, 1221, 70] rfl (by decide +kernel)) gTT_X9_decades
set_option maxRecDepth 20000 in
theorem gTT_X8_part : GoodIn lw_tbl wsX8_part := goodIn_r _ [875, 263, 264, 306, 307, 62, 308, 309, 311, 0, 312, 265, 268, 270, 272, 274, 276, 278, 280, 282, 284, 286, 288, 290, 292, 294, 296] rfl (by decide +kernel)
set_option maxRecDepth 20000 in
theorem gT_X8_part : GoodIn lw_tbl (wsV RL 143 RX8 yX8_part wsX8_part) := goodIn_app (goodIn_r _ [872, 873, 874, 62] rfl (by decide +kernel)) gTT_X8_part
set_option maxRecDepth 20000 in
theorem gTT_X9_part : GoodIn lw_tbl wsX9_part := goodIn_r _ [1303, 921, 922, 988, 990, 30, 70, 991, 920, 936, 938, 940, 942, 944, 946, 948, 950, 952, 954, 956, 958, 960, 962, 964, 966, 968, 970, 972] rfl (by decide +kernel)
set_option maxRecDepth 20000 in
theorem gT_X9_part : GoodIn lw_tbl (wsV RL 147 RX9 yX9_part wsX9_part) := goodIn_app (goodIn_r _ [1300, 1301, 1302, 70] rfl (by decide +kernel)) gTT_X9_part
set_option maxRecDepth 20000 in
theorem gTT_X8_image : GoodIn lw_tbl wsX8_image := goodIn_r _ [879, 255, 253, 261, 256, 262, 306, 307, 62, 308, 309, 311, 0, 312, 265, 567, 568, 569, 63, 570, 138, 140, 143, 145, 148, 122, 127, 130, 133, 136, 516, 335, 336, 337, 121, 317, 318, 319, 320, 571, 572, 573, 64, 574, 104, 575, 577, 576, 76, 105, 268, 270, 272, 274, 276, 278, 280, 282, 284, 286, 288, 290, 292, 294, 296, 150, 152, 154, 156, 158, 160, 162, 164, 166, 168, 170, 111, 113, 115, 117] rfl (by decide +kernel)
set_option maxRecDepth 20000 in
theorem gT_X8_image : GoodIn lw_tbl (wsV RL 148 RX8 yX8_image wsX8_image) := goodIn_app (goodIn_r _ [876, 877, 878, 62] rfl (by decide +kernel)) gTT_X8_image
set_option maxRecDepth 20000 in
theorem gTT_X9_image : GoodIn lw_tbl wsX9_image := goodIn_r _ [1307, 918, 917, 919, 984, 985, 70, 986, 988, 990, 30, 991, 920, 936, 938, 940, 942, 944, 946, 948, 950, 952, 954, 956, 958, 960, 962, 964, 966, 968, 970, 972] rfl (by decide +kernel)
set_option maxRecDepth 20000 in
theorem gT_X9_image : GoodIn lw_tbl (wsV RL 151 RX9 yX9_image wsX9_image) := goodIn_app (goodIn_r _ [1304, 1305, 1306, 70] rfl (by decide +kernel)) gTT_X9_image
set_option maxRecDepth 20000 in
theorem gTT_X8_from : GoodIn lw_tbl wsX8_from := goodIn_r _ [883, 261, 262, 253, 255, 256, 306, 307, 62, 308, 309, 311, 0, 312, 265, 588, 590, 14, 591, 266, 567, 568, 569, 63, 570, 138, 140, 143, 145, 148, 122, 127, 130, 133, 136, 516, 335, 336, 337, 121, 317, 318, 319, 320, 571, 572, 573, 64, 574, 104, 575, 577, 576, 76, 105, 268, 270, 272, 274, 276, 278, 280, 282, 284, 286, 288, 290, 292, 294, 296, 150, 152, 154, 156, 158, 160, 162, 164, 166, 168, 170, 111, 113, 115, 117] rfl (by decide +kernel)
set_option maxRecDepth 20000 in
theorem gT_X8_from : GoodIn lw_tbl (wsV RL 152 RX8 yX8_from wsX8_from) := goodIn_app (goodIn_r _ [880, 881, 882, 62] rfl (by decide +kernel)) gTT_X8_from
set_option maxRecDepth 20000 in
theorem gTT_X9_from : GoodIn lw_tbl wsX9_from := goodIn_r _ [1311, 919, 917, 918, 984, 985, 70, 986, 988, 990, 30, 991, 920, 1034, 1036, 34, 1037, 936, 938, 940, 942, 944, 946, 948, 950, 952, 954, 956, 958, 960, 962, 964, 966, 968, 970, 972] rfl (by decide +kernel)
set_option maxRecDepth 20000 in
theorem gT_X9_from : GoodIn lw_tbl (wsV RL 155 RX9 yX9_from wsX9_from) := goodIn_app (goodIn_r _ [1308, 1309, 1310, 70] rfl (by decide +kernel)) gTT_X9_from
set_option maxRecDepth 20000 in
theorem gTT_X8_status : GoodIn lw_tbl wsX8_status := goodIn_r _ [887, 265, 266, 267, 309, 311, 0, 62, 312, 268, 270, 272, 274, 276, 278, 280, 282, 284, 286, 288, 290, 292, 294, 296] rfl (by decide +kernel)
set_option maxRecDepth 20000 in
theorem gT_X8_status : GoodIn lw_tbl (wsV RL 156 RX8 yX8_status wsX8_status) := goodIn_app (goodIn_r _ [884, 885, 886, 62] rfl (by decide +kernel)) gTT_X8_status
set_option maxRecDepth 20000 in
theorem gTT_X9_status : GoodIn lw_tbl wsX9_status := goodIn_r _ [1315, 1144, 920, 984, 985, 70, 986, 988, 990, 30, 991, 936, 938, 940, 942, 944, 946, 948, 950, 952, 954, 956, 958, 960, 962, 964, 966, 968, 970, 972] rfl (by decide +kernel)
set_option maxRecDepth 20000 in
theorem gT_X9_status : GoodIn lw_tbl (wsV RL 159 RX9 yX9_status wsX9_status) := goodIn_app (goodIn_r _ [1312, 1313, 1314, 70] rfl (by decide +kernel)) gTT_X9_status
set_option maxRecDepth 20000 in
theorem gTT_X8_count : GoodIn lw_tbl wsX8_count := goodIn_r _ [891, 306, 307, 62, 308, 892, 894, 29, 895, 253, 257, 610, 611, 612, 63, 613, 122, 525, 526, 527, 64, 528, 105, 529, 505, 506, 507, 102, 104, 896, 309, 311, 0, 312, 265, 268, 270, 272, 274, 276, 278, 280, 282, 284, 286, 288, 290, 292, 294, 296, 150, 152, 154, 156, 158, 160, 162, 164, 166, 168, 170, 111, 113, 115, 117, 189, 191, 193, 195, 197, 199] rfl (by decide +kernel)
set_option maxRecDepth 20000 in
theorem gT_X8_count : GoodIn lw_tbl (wsV RL 160 RX8 yX8_count wsX8_count) := goodIn_app (goodIn_r _ [888, 889, 890, 62] rfl (by decide +kernel)) gTT_X8_count
set_option maxRecDepth 20000 in
theorem gTT_X9_count : GoodIn lw_tbl wsX9_count := goodIn_r _ [1319, 1228, 984, 985, 70, 986, 1320, 1322, 59, 1323, 917, 929, 992, 994, 31, 995, 1051, 1052, 1053, 988, 990, 30, 991, 920, 936, 938, 940, 942, 944, 946, 948, 950, 952, 954, 956, 958, 960, 962, 964, 966, 968, 970, 972] rfl (by decide +kernel)
set_option maxRecDepth 20000 in
theorem gT_X9_count : GoodIn lw_tbl (wsV RL 163 RX9 yX9_count wsX9_count) := goodIn_app (goodIn_r _ [1316, 1317, 1318, 70] rfl (by decide +kernel)) gTT_X9_count
set_option maxRecDepth 20000 in
theorem gTT_X8_digest : GoodIn lw_tbl wsX8_digest := goodIn_r _ [900, 901, 902, 253, 263, 264, 892, 894, 29, 62, 895, 257, 610, 611, 612, 63, 613, 122, 525, 526, 527, 64, 528, 105, 529, 505, 506, 507, 102, 104, 896, 646, 648, 15, 649, 650, 651, 652, 653, 138, 143, 145, 516, 335, 336, 337, 121, 537, 538, 75, 539, 654, 513, 514, 515, 334, 903, 904, 905, 906, 907, 268, 270, 272, 274, 276, 278, 280, 282, 284, 286, 288, 290, 292, 294, 296, 150, 152, 154, 156, 158, 160, 162, 164, 166, 168, 170, 111, 113, 115, 117, 189, 191, 193, 195, 197, 199] rfl (by decide +kernel)
set_option maxRecDepth 20000 in
theorem gT_X8_digest : GoodIn lw_tbl (wsV RL 164 RX8 yX8_digest wsX8_digest) := goodIn_app (goodIn_r _ [897, 898, 899, 62] rfl (by decide +kernel)) gTT_X8_digest
set_option maxRecDepth 20000 in
theorem gTT_X9_digest : GoodIn lw_tbl wsX9_digest := goodIn_r _ [1327, 1328, 1329, 917, 921, 922, 1320, 1322, 59, 70, 1323, 929, 992, 994, 31, 995, 1051, 1052, 1053, 1104, 1106, 37, 1107, 1060, 1061, 1062, 1063, 1064, 1065, 1066, 1067, 1068, 1330, 1332, 60, 1333, 1096, 1098, 36, 1099, 1054, 1055, 1056, 1057, 1058, 1059, 936, 938, 940, 942, 944, 946, 948, 950, 952, 954, 956, 958, 960, 962, 964, 966, 968, 970, 972] rfl (by decide +kernel)
set_option maxRecDepth 20000 in
theorem gT_X9_digest : GoodIn lw_tbl (wsV RL 168 RX9 yX9_digest wsX9_digest) := goodIn_app (goodIn_r _ [1324, 1325, 1326, 70] rfl (by decide +kernel)) gTT_X9_digest
set_option maxRecDepth 20000 in
theorem inX1 : ∀ w ∈ u_ws RX1 TX1 11, w ∈ lw_tbl := fun w h => (goodIn_r (u_ws RX1 TX1 11) [150, 152, 154, 156, 158, 160, 162, 164, 166, 168, 170] rfl (by decide +kernel) w h).1
set_option maxRecDepth 20000 in
theorem inX3 : ∀ w ∈ u_ws RX3 TX3 6, w ∈ lw_tbl := fun w h => (goodIn_r (u_ws RX3 TX3 6) [230, 232, 234, 236, 238, 240] rfl (by decide +kernel) w h).1
set_option maxRecDepth 20000 in
theorem inX4 : ∀ w ∈ u_ws RX4 TX4 6, w ∈ lw_tbl := fun w h => (goodIn_r (u_ws RX4 TX4 6) [189, 191, 193, 195, 197, 199] rfl (by decide +kernel) w h).1
set_option maxRecDepth 20000 in
theorem inX5 : ∀ w ∈ u_ws RX5 TX5 4, w ∈ lw_tbl := fun w h => (goodIn_r (u_ws RX5 TX5 4) [111, 113, 115, 117] rfl (by decide +kernel) w h).1
set_option maxRecDepth 20000 in
theorem inX6 : ∀ w ∈ u_ws RX6 TX6 2, w ∈ lw_tbl := fun w h => (goodIn_r (u_ws RX6 TX6 2) [211, 213] rfl (by decide +kernel) w h).1
set_option maxRecDepth 20000 in
theorem inX7 : ∀ w ∈ u_ws RX7 TX7 1, w ∈ lw_tbl := fun w h => (goodIn_r (u_ws RX7 TX7 1) [250] rfl (by decide +kernel) w h).1
set_option maxRecDepth 20000 in
theorem inX8 : ∀ w ∈ u_ws RX8 TX8 15, w ∈ lw_tbl := fun w h => (goodIn_r (u_ws RX8 TX8 15) [268, 270, 272, 274, 276, 278, 280, 282, 284, 286, 288, 290, 292, 294, 296] rfl (by decide +kernel) w h).1
set_option maxRecDepth 20000 in
theorem inX9 : ∀ w ∈ u_ws RX9 TX9 19, w ∈ lw_tbl := fun w h => (goodIn_r (u_ws RX9 TX9 19) [936, 938, 940, 942, 944, 946, 948, 950, 952, 954, 956, 958, 960, 962, 964, 966, 968, 970, 972] rfl (by decide +kernel) w h).1
