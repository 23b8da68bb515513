set_option maxRecDepth 20000 in
theorem gTT_X8_init : GoodIn lw_tbl wsX8_init := goodIn_r _ [73, 74, 75, 76, 77, 78, 53, 230, 231, 232, 233, 163, 164, 56, 234, 193, 194, 57, 235, 220, 221, 58, 236, 239, 240, 80, 81, 82, 110, 111, 83, 84, 54, 112, 117, 120, 123, 126, 130, 85, 86, 87, 88, 89, 90, 55, 91, 92, 93, 94, 166, 167, 168, 192, 169, 196, 197, 198, 199, 200, 201, 223, 224, 225, 226, 140, 142, 144, 146, 148, 150, 152, 154, 156, 158, 160, 244, 246, 248, 250, 252, 254, 256, 258, 260, 262, 264, 266, 268, 270, 179, 181, 183, 185, 187, 189, 207, 209, 211, 213, 215, 217, 227, 101, 103, 105, 107] rfl (by decide +kernel)
theorem gT_X8_init : GoodIn lw_tbl (wsX8_init) := gTT_X8_init
set_option maxRecDepth 20000 in
theorem gTT_X9_init : GoodIn lw_tbl wsX9_init := goodIn_r _ [875, 876, 75, 76, 110, 880, 881, 938, 882, 883, 885, 886, 887, 888, 889, 890, 891, 897, 898, 877, 878, 59, 879, 899, 901, 903, 905, 907, 909, 911, 913, 915, 917, 919, 921, 923, 925, 927, 929, 931, 933, 935] rfl (by decide +kernel)
theorem gT_X9_init : GoodIn lw_tbl (wsX9_init) := gTT_X9_init
set_option maxRecDepth 20000 in
theorem gTT_X8_inn : GoodIn lw_tbl wsX8_inn := goodIn_r _ [276, 230, 277, 278, 52, 279, 280, 281, 282, 283, 285, 0, 286, 241, 287, 288, 289, 53, 290, 128, 130, 133, 135, 138, 112, 117, 120, 123, 126, 291, 292, 293, 294, 111, 295, 296, 297, 54, 298, 95, 244, 246, 248, 250, 252, 254, 256, 258, 260, 262, 264, 266, 268, 270, 140, 142, 144, 146, 148, 150, 152, 154, 156, 158, 160, 101, 103, 105, 107] rfl (by decide +kernel)
set_option maxRecDepth 20000 in
theorem gT_X8_inn : GoodIn lw_tbl (wsV RL 13 RX8 yX8_inn wsX8_inn) := goodIn_app (goodIn_r _ [273, 274, 275, 52] rfl (by decide +kernel)) gTT_X8_inn
set_option maxRecDepth 20000 in
theorem gTT_X9_inn : GoodIn lw_tbl wsX9_inn := goodIn_r _ [942, 950, 880, 943, 944, 59, 945, 946, 947, 948, 949, 951, 953, 20, 954, 883, 955, 957, 21, 958, 877, 878, 879, 899, 901, 903, 905, 907, 909, 911, 913, 915, 917, 919, 921, 923, 925, 927, 929, 931, 933, 935] rfl (by decide +kernel)
set_option maxRecDepth 20000 in
theorem gT_X9_inn : GoodIn lw_tbl (wsV RL 17 RX9 yX9_inn wsX9_inn) := goodIn_app (goodIn_r _ [939, 940, 941, 59] rfl (by decide +kernel)) gTT_X9_inn
set_option maxRecDepth 20000 in
theorem gTT_X8_landlord : GoodIn lw_tbl wsX8_landlord := goodIn_r _ [302, 230, 277, 278, 52, 279, 280, 281, 282, 283, 285, 0, 286, 241, 303, 296, 297, 54, 298, 95, 244, 246, 248, 250, 252, 254, 256, 258, 260, 262, 264, 266, 268, 270, 140, 142, 144, 146, 148, 150, 152, 154, 156, 158, 160, 101, 103, 105, 107] rfl (by decide +kernel)
set_option maxRecDepth 20000 in
theorem gT_X8_landlord : GoodIn lw_tbl (wsV RL 18 RX8 yX8_landlord wsX8_landlord) := goodIn_app (goodIn_r _ [299, 300, 301, 52] rfl (by decide +kernel)) gTT_X8_landlord
set_option maxRecDepth 20000 in
theorem gTT_X9_landlord : GoodIn lw_tbl wsX9_landlord := goodIn_r _ [962, 880, 943, 944, 59, 945, 946, 947, 948, 949, 951, 953, 20, 954, 883, 899, 901, 903, 905, 907, 909, 911, 913, 915, 917, 919, 921, 923, 925, 927, 929, 931, 933, 935] rfl (by decide +kernel)
set_option maxRecDepth 20000 in
theorem gT_X9_landlord : GoodIn lw_tbl (wsV RL 22 RX9 yX9_landlord wsX9_landlord) := goodIn_app (goodIn_r _ [959, 960, 961, 59] rfl (by decide +kernel)) gTT_X9_landlord
set_option maxRecDepth 20000 in
theorem gTT_X8_wet : GoodIn lw_tbl wsX8_wet := goodIn_r _ [307, 230, 280, 281, 52, 282, 283, 285, 0, 286, 241, 308, 309, 310, 53, 311, 111, 312, 292, 293, 294, 303, 296, 297, 54, 298, 95, 244, 246, 248, 250, 252, 254, 256, 258, 260, 262, 264, 266, 268, 270, 140, 142, 144, 146, 148, 150, 152, 154, 156, 158, 160, 101, 103, 105, 107] rfl (by decide +kernel)
set_option maxRecDepth 20000 in
theorem gT_X8_wet : GoodIn lw_tbl (wsV RL 23 RX8 yX8_wet wsX8_wet) := goodIn_app (goodIn_r _ [304, 305, 306, 52] rfl (by decide +kernel)) gTT_X8_wet
set_option maxRecDepth 20000 in
theorem gTT_X9_wet : GoodIn lw_tbl wsX9_wet := goodIn_r _ [966, 946, 880, 947, 948, 59, 949, 967, 968, 969, 970, 951, 953, 20, 954, 883, 899, 901, 903, 905, 907, 909, 911, 913, 915, 917, 919, 921, 923, 925, 927, 929, 931, 933, 935] rfl (by decide +kernel)
set_option maxRecDepth 20000 in
theorem gT_X9_wet : GoodIn lw_tbl (wsV RL 26 RX9 yX9_wet wsX9_wet) := goodIn_app (goodIn_r _ [963, 964, 965, 59] rfl (by decide +kernel)) gTT_X9_wet
set_option maxRecDepth 20000 in
theorem gTT_X8_one : GoodIn lw_tbl wsX8_one := goodIn_r _ [316, 230, 277, 278, 52, 279, 280, 281, 282, 317, 318, 319, 283, 285, 0, 286, 241, 320, 321, 322, 54, 323, 95, 93, 324, 326, 1, 327, 243, 303, 296, 297, 298, 328, 329, 330, 53, 331, 112, 332, 333, 334, 335, 92, 336, 337, 338, 339, 340, 94, 341, 244, 246, 248, 250, 252, 254, 256, 258, 260, 262, 264, 266, 268, 270, 140, 142, 144, 146, 148, 150, 152, 154, 156, 158, 160, 101, 103, 105, 107] rfl (by decide +kernel)
set_option maxRecDepth 20000 in
theorem gT_X8_one : GoodIn lw_tbl (wsV RL 27 RX8 yX8_one wsX8_one) := goodIn_app (goodIn_r _ [313, 314, 315, 52] rfl (by decide +kernel)) gTT_X8_one
set_option maxRecDepth 20000 in
theorem gTT_X9_one : GoodIn lw_tbl wsX9_one := goodIn_r _ [974, 880, 943, 944, 59, 945, 946, 947, 948, 949, 975, 976, 977, 978, 951, 953, 20, 954, 883, 955, 957, 21, 958, 979, 981, 22, 982, 983, 984, 985, 899, 901, 903, 905, 907, 909, 911, 913, 915, 917, 919, 921, 923, 925, 927, 929, 931, 933, 935] rfl (by decide +kernel)
set_option maxRecDepth 20000 in
theorem gT_X9_one : GoodIn lw_tbl (wsV RL 30 RX9 yX9_one wsX9_one) := goodIn_app (goodIn_r _ [971, 972, 973, 59] rfl (by decide +kernel)) gTT_X9_one
set_option maxRecDepth 20000 in
theorem gTT_X8_type : GoodIn lw_tbl wsX8_type := goodIn_r _ [345, 234, 280, 281, 52, 282, 283, 285, 0, 286, 241, 346, 347, 348, 56, 349, 170, 324, 326, 1, 327, 243, 350, 351, 352, 353, 169, 244, 246, 248, 250, 252, 254, 256, 258, 260, 262, 264, 266, 268, 270, 179, 181, 183, 185, 187, 189] rfl (by decide +kernel)
set_option maxRecDepth 20000 in
theorem gT_X8_type : GoodIn lw_tbl (wsV RL 31 RX8 yX8_type wsX8_type) := goodIn_app (goodIn_r _ [342, 343, 344, 52] rfl (by decide +kernel)) gTT_X8_type
set_option maxRecDepth 20000 in
theorem gTT_X9_type : GoodIn lw_tbl wsX9_type := goodIn_r _ [1195, 1196, 892, 891, 947, 948, 59, 949, 951, 953, 20, 954, 883, 979, 981, 22, 982, 899, 901, 903, 905, 907, 909, 911, 913, 915, 917, 919, 921, 923, 925, 927, 929, 931, 933, 935] rfl (by decide +kernel)
set_option maxRecDepth 20000 in
theorem gT_X9_type : GoodIn lw_tbl (wsV RL 34 RX9 yX9_type wsX9_type) := goodIn_app (goodIn_r _ [1192, 1193, 1194, 59] rfl (by decide +kernel)) gTT_X9_type
set_option maxRecDepth 20000 in
theorem gTT_X8_clear : GoodIn lw_tbl wsX8_clear := goodIn_r _ [357, 234, 244, 246, 248, 250, 252, 254, 256, 258, 260, 262, 264, 266, 268, 270, 179, 181, 183, 185, 187, 189] rfl (by decide +kernel)
set_option maxRecDepth 20000 in
theorem gT_X8_clear : GoodIn lw_tbl (wsV RL 35 RX8 yX8_clear wsX8_clear) := goodIn_app (goodIn_r _ [354, 355, 356, 52] rfl (by decide +kernel)) gTT_X8_clear
set_option maxRecDepth 20000 in
theorem gTT_X9_clear : GoodIn lw_tbl wsX9_clear := goodIn_r _ [1200, 892, 899, 901, 903, 905, 907, 909, 911, 913, 915, 917, 919, 921, 923, 925, 927, 929, 931, 933, 935] rfl (by decide +kernel)
set_option maxRecDepth 20000 in
theorem gT_X9_clear : GoodIn lw_tbl (wsV RL 39 RX9 yX9_clear wsX9_clear) := goodIn_app (goodIn_r _ [1197, 1198, 1199, 59] rfl (by decide +kernel)) gTT_X9_clear
set_option maxRecDepth 20000 in
theorem gTT_X8_read : GoodIn lw_tbl wsX8_read := goodIn_r _ [361, 234, 231, 230, 362, 363, 60, 364, 365, 366, 367, 56, 368, 172, 369, 370, 371, 372, 373, 374, 375, 170, 174, 176, 376, 378, 2, 379, 169, 380, 381, 382, 383, 385, 3, 386, 178, 388, 389, 390, 391, 392, 393, 394, 61, 395, 1297, 396, 397, 398, 399, 400, 1298, 402, 403, 404, 405, 406, 407, 408, 409, 410, 411, 62, 412, 413, 414, 415, 416, 418, 419, 63, 420, 421, 422, 64, 423, 424, 425, 426, 427, 428, 429, 430, 431, 432, 433, 434, 436, 438, 440, 441, 442, 443, 444, 445, 281, 52, 282, 447, 288, 289, 53, 290, 128, 130, 133, 135, 138, 112, 117, 120, 123, 126, 291, 292, 293, 294, 111, 295, 296, 297, 54, 298, 95, 448, 449, 450, 452, 453, 454, 455, 457, 458, 459, 460, 321, 322, 323, 93, 461, 329, 330, 331, 332, 333, 334, 335, 92, 336, 337, 338, 339, 340, 94, 341, 463, 464, 465, 466, 467, 468, 469, 470, 471, 472, 473, 474, 475, 476, 477, 506, 507, 55, 508, 478, 479, 480, 481, 482, 309, 310, 311, 483, 484, 485, 486, 487, 488, 489, 490, 491, 492, 493, 494, 495, 496, 497, 498, 499, 500, 501, 65, 502, 503, 504, 505, 510, 511, 512, 513, 514, 515, 516, 518, 519, 520, 521, 523, 524, 525, 526, 527, 528, 529, 530, 531, 532, 533, 534, 535, 536, 537, 538, 540, 539, 66, 244, 246, 248, 250, 252, 254, 256, 258, 260, 262, 264, 266, 268, 270, 179, 181, 183, 185, 187, 189, 140, 142, 144, 146, 148, 150, 152, 154, 156, 158, 160, 101, 103, 105, 107] rfl (by decide +kernel)
set_option maxRecDepth 20000 in
theorem gT_X8_read : GoodIn lw_tbl (wsV RL 40 RX8 yX8_read wsX8_read) := goodIn_app (goodIn_r _ [358, 359, 360, 52] rfl (by decide +kernel)) gTT_X8_read
set_option maxRecDepth 20000 in
theorem gTT_X9_read : GoodIn lw_tbl wsX9_read := goodIn_r _ [1204, 893, 895, 897, 898, 880, 1205, 1207, 37, 59, 1208, 892, 891, 894, 896, 1209, 1210, 1211, 1212, 1213, 947, 948, 949, 1214, 1215, 1216, 1217, 1218, 1219, 1221, 38, 1222, 1223, 1225, 39, 1226, 1227, 1229, 40, 1230, 877, 878, 879, 1231, 1233, 41, 1234, 1235, 1237, 42, 1238, 1239, 1241, 43, 1242, 983, 984, 985, 1243, 1245, 44, 1246, 1247, 1249, 45, 1250, 994, 995, 996, 1005, 1006, 1007, 1008, 1009, 1010, 1011, 1012, 1013, 1014, 1015, 1016, 1017, 1018, 1019, 1020, 1021, 1022, 1023, 1024, 1025, 1026, 1027, 1028, 1029, 1030, 1031, 1032, 1033, 1034, 1251, 1253, 46, 1254, 1255, 1257, 47, 1258, 1259, 1261, 48, 1262, 1048, 1049, 1050, 899, 901, 903, 905, 907, 909, 911, 913, 915, 917, 919, 921, 923, 925, 927, 929, 931, 933, 935] rfl (by decide +kernel)
set_option maxRecDepth 20000 in
theorem gT_X9_read : GoodIn lw_tbl (wsV RL 43 RX9 yX9_read wsX9_read) := goodIn_app (goodIn_r _ [1201, 1202, 1203, 59] rfl (by decide +kernel)) gTT_X9_read
set_option maxRecDepth 20000 in
theorem gTT_X8_comes : GoodIn lw_tbl wsX8_comes := goodIn_r _ [544, 230, 545, 546, 547, 53, 548, 112, 281, 52, 282, 283, 285, 0, 286, 241, 550, 467, 468, 469, 470, 471, 472, 54, 473, 95, 92, 94, 551, 553, 4, 554, 242, 555, 556, 557, 558, 126, 133, 135, 138, 559, 321, 322, 323, 93, 560, 561, 562, 563, 538, 540, 539, 66, 332, 333, 334, 335, 336, 337, 338, 339, 340, 341, 564, 565, 566, 567, 475, 476, 477, 506, 507, 55, 508, 478, 479, 480, 481, 482, 309, 310, 311, 111, 483, 484, 485, 486, 128, 487, 488, 489, 490, 130, 491, 492, 493, 494, 495, 496, 497, 498, 499, 500, 501, 65, 502, 503, 504, 505, 244, 246, 248, 250, 252, 254, 256, 258, 260, 262, 264, 266, 268, 270, 140, 142, 144, 146, 148, 150, 152, 154, 156, 158, 160, 101, 103, 105, 107] rfl (by decide +kernel)
set_option maxRecDepth 20000 in
theorem gT_X8_comes : GoodIn lw_tbl (wsV RL 44 RX8 yX8_comes wsX8_comes) := goodIn_app (goodIn_r _ [541, 542, 543, 52] rfl (by decide +kernel)) gTT_X8_comes
set_option maxRecDepth 20000 in
theorem gTT_X9_comes : GoodIn lw_tbl wsX9_comes := goodIn_r _ [989, 880, 990, 992, 23, 59, 993, 955, 957, 21, 958, 947, 948, 949, 951, 953, 20, 954, 883, 994, 995, 996, 997, 999, 24, 1000, 1001, 1003, 25, 1004, 1005, 1006, 1007, 1008, 1009, 1010, 1011, 1012, 1013, 1014, 1015, 1016, 1017, 1018, 1019, 1020, 1021, 1022, 1023, 1024, 1025, 1026, 1027, 1028, 1029, 1030, 1031, 1032, 1033, 1034, 899, 901, 903, 905, 907, 909, 911, 913, 915, 917, 919, 921, 923, 925, 927, 929, 931, 933, 935] rfl (by decide +kernel)
set_option maxRecDepth 20000 in
theorem gT_X9_comes : GoodIn lw_tbl (wsV RL 47 RX9 yX9_comes wsX9_comes) := goodIn_app (goodIn_r _ [986, 987, 988, 59] rfl (by decide +kernel)) gTT_X9_comes
set_option maxRecDepth 20000 in
theorem gTT_X8_goes : GoodIn lw_tbl wsX8_goes := goodIn_r _ [571, 230, 545, 546, 547, 53, 548, 112, 281, 52, 282, 283, 285, 0, 286, 241, 550, 467, 468, 469, 470, 471, 472, 54, 473, 95, 92, 94, 551, 553, 4, 554, 242, 555, 556, 557, 558, 126, 133, 135, 138, 559, 321, 322, 323, 93, 560, 561, 562, 563, 538, 540, 539, 66, 332, 333, 334, 335, 336, 337, 338, 339, 340, 341, 564, 565, 566, 572, 514, 515, 516, 573, 574, 575, 576, 491, 492, 493, 494, 495, 244, 246, 248, 250, 252, 254, 256, 258, 260, 262, 264, 266, 268, 270, 140, 142, 144, 146, 148, 150, 152, 154, 156, 158, 160, 101, 103, 105, 107] rfl (by decide +kernel)
set_option maxRecDepth 20000 in
theorem gT_X8_goes : GoodIn lw_tbl (wsV RL 48 RX8 yX8_goes wsX8_goes) := goodIn_app (goodIn_r _ [568, 569, 570, 52] rfl (by decide +kernel)) gTT_X8_goes
set_option maxRecDepth 20000 in
theorem gTT_X9_goes : GoodIn lw_tbl wsX9_goes := goodIn_r _ [1038, 880, 990, 992, 23, 59, 993, 955, 957, 21, 958, 947, 948, 949, 951, 953, 20, 954, 883, 994, 995, 996, 997, 999, 24, 1000, 1001, 1003, 25, 1004, 1014, 1015, 1016, 899, 901, 903, 905, 907, 909, 911, 913, 915, 917, 919, 921, 923, 925, 927, 929, 931, 933, 935] rfl (by decide +kernel)
set_option maxRecDepth 20000 in
theorem gT_X9_goes : GoodIn lw_tbl (wsV RL 51 RX9 yX9_goes wsX9_goes) := goodIn_app (goodIn_r _ [1035, 1036, 1037, 59] rfl (by decide +kernel)) gTT_X9_goes
set_option maxRecDepth 20000 in
theorem gTT_X8_letter : GoodIn lw_tbl wsX8_letter := goodIn_r _ [580, 230, 545, 546, 547, 53, 548, 112, 281, 52, 282, 317, 318, 319, 280, 283, 285, 0, 286, 241, 581, 471, 472, 54, 473, 95, 92, 94, 551, 553, 4, 554, 242, 555, 556, 557, 558, 126, 133, 135, 138, 559, 321, 322, 323, 93, 560, 561, 562, 563, 538, 540, 539, 66, 332, 333, 334, 335, 336, 337, 338, 339, 340, 341, 564, 565, 566, 470, 582, 244, 246, 248, 250, 252, 254, 256, 258, 260, 262, 264, 266, 268, 270, 140, 142, 144, 146, 148, 150, 152, 154, 156, 158, 160, 101, 103, 105, 107] rfl (by decide +kernel)
set_option maxRecDepth 20000 in
theorem gT_X8_letter : GoodIn lw_tbl (wsV RL 52 RX8 yX8_letter wsX8_letter) := goodIn_app (goodIn_r _ [577, 578, 579, 52] rfl (by decide +kernel)) gTT_X8_letter
set_option maxRecDepth 20000 in
theorem gTT_X9_letter : GoodIn lw_tbl wsX9_letter := goodIn_r _ [1042, 880, 990, 992, 23, 59, 993, 955, 957, 21, 958, 947, 948, 949, 975, 976, 977, 978, 951, 953, 20, 954, 883, 997, 999, 24, 1000, 1001, 1003, 25, 1004, 899, 901, 903, 905, 907, 909, 911, 913, 915, 917, 919, 921, 923, 925, 927, 929, 931, 933, 935] rfl (by decide +kernel)
set_option maxRecDepth 20000 in
theorem gT_X9_letter : GoodIn lw_tbl (wsV RL 55 RX9 yX9_letter wsX9_letter) := goodIn_app (goodIn_r _ [1039, 1040, 1041, 59] rfl (by decide +kernel)) gTT_X9_letter
set_option maxRecDepth 20000 in
theorem gTT_X8_nights : GoodIn lw_tbl wsX8_nights := goodIn_r _ [586, 230, 280, 281, 52, 282, 283, 285, 0, 286, 241, 555, 556, 557, 53, 558, 126, 133, 135, 138, 112, 559, 321, 322, 54, 323, 95, 93, 560, 561, 562, 563, 94, 92, 538, 540, 539, 66, 332, 333, 334, 335, 336, 337, 338, 339, 340, 341, 564, 565, 566, 470, 471, 472, 473, 587, 527, 528, 529, 506, 507, 55, 508, 244, 246, 248, 250, 252, 254, 256, 258, 260, 262, 264, 266, 268, 270, 140, 142, 144, 146, 148, 150, 152, 154, 156, 158, 160, 101, 103, 105, 107] rfl (by decide +kernel)
set_option maxRecDepth 20000 in
theorem gT_X8_nights : GoodIn lw_tbl (wsV RL 56 RX8 yX8_nights wsX8_nights) := goodIn_app (goodIn_r _ [583, 584, 585, 52] rfl (by decide +kernel)) gTT_X8_nights
set_option maxRecDepth 20000 in
theorem gTT_X9_nights : GoodIn lw_tbl wsX9_nights := goodIn_r _ [1046, 1047, 880, 947, 948, 59, 949, 951, 953, 20, 954, 883, 1001, 1003, 25, 1004, 1048, 1049, 1050, 899, 901, 903, 905, 907, 909, 911, 913, 915, 917, 919, 921, 923, 925, 927, 929, 931, 933, 935] rfl (by decide +kernel)
set_option maxRecDepth 20000 in
theorem gT_X9_nights : GoodIn lw_tbl (wsV RL 59 RX9 yX9_nights wsX9_nights) := goodIn_app (goodIn_r _ [1043, 1044, 1045, 59] rfl (by decide +kernel)) gTT_X9_nights
set_option maxRecDepth 20000 in
theorem gTT_X8_undo : GoodIn lw_tbl wsX8_undo := goodIn_r _ [591, 230, 551, 553, 4, 52, 554, 242, 592, 593, 594, 53, 595, 126, 133, 135, 138, 112, 470, 471, 472, 54, 473, 95, 92, 94, 564, 565, 566, 341, 338, 339, 340, 596, 597, 598, 599, 244, 246, 248, 250, 252, 254, 256, 258, 260, 262, 264, 266, 268, 270, 140, 142, 144, 146, 148, 150, 152, 154, 156, 158, 160, 101, 103, 105, 107] rfl (by decide +kernel)
set_option maxRecDepth 20000 in
theorem gT_X8_undo : GoodIn lw_tbl (wsV RL 60 RX8 yX8_undo wsX8_undo) := goodIn_app (goodIn_r _ [588, 589, 590, 52] rfl (by decide +kernel)) gTT_X8_undo
set_option maxRecDepth 20000 in
theorem gTT_X9_undo : GoodIn lw_tbl wsX9_undo := goodIn_r _ [1054, 880, 997, 999, 24, 59, 1000, 883, 899, 901, 903, 905, 907, 909, 911, 913, 915, 917, 919, 921, 923, 925, 927, 929, 931, 933, 935] rfl (by decide +kernel)
set_option maxRecDepth 20000 in
theorem gT_X9_undo : GoodIn lw_tbl (wsV RL 63 RX9 yX9_undo wsX9_undo) := goodIn_app (goodIn_r _ [1051, 1052, 1053, 59] rfl (by decide +kernel)) gTT_X9_undo
set_option maxRecDepth 20000 in
theorem gTT_X8_of : GoodIn lw_tbl wsX8_of := goodIn_r _ [603, 230, 545, 546, 547, 53, 548, 112, 281, 52, 282, 280, 283, 285, 0, 286, 241, 604, 497, 498, 499, 133, 470, 471, 472, 54, 473, 95, 92, 94, 500, 501, 65, 502, 581, 244, 246, 248, 250, 252, 254, 256, 258, 260, 262, 264, 266, 268, 270, 140, 142, 144, 146, 148, 150, 152, 154, 156, 158, 160, 101, 103, 105, 107] rfl (by decide +kernel)
set_option maxRecDepth 20000 in
theorem gT_X8_of : GoodIn lw_tbl (wsV RL 64 RX8 yX8_of wsX8_of) := goodIn_app (goodIn_r _ [600, 601, 602, 52] rfl (by decide +kernel)) gTT_X8_of
set_option maxRecDepth 20000 in
theorem gTT_X9_of : GoodIn lw_tbl wsX9_of := goodIn_r _ [1058, 970, 990, 992, 23, 59, 993, 955, 957, 21, 958, 880, 947, 948, 949, 1059, 1061, 26, 1062, 1017, 1018, 1019, 1020, 1021, 1022, 951, 953, 20, 954, 883, 899, 901, 903, 905, 907, 909, 911, 913, 915, 917, 919, 921, 923, 925, 927, 929, 931, 933, 935] rfl (by decide +kernel)
set_option maxRecDepth 20000 in
theorem gT_X9_of : GoodIn lw_tbl (wsV RL 67 RX9 yX9_of wsX9_of) := goodIn_app (goodIn_r _ [1055, 1056, 1057, 59] rfl (by decide +kernel)) gTT_X9_of
set_option maxRecDepth 20000 in
theorem gTT_X8_now : GoodIn lw_tbl wsX8_now := goodIn_r _ [608, 280, 281, 52, 282, 283, 285, 0, 286, 241, 609, 611, 5, 612, 230, 613, 614, 615, 53, 616, 128, 133, 135, 482, 309, 310, 311, 111, 503, 504, 65, 505, 617, 479, 480, 481, 244, 246, 248, 250, 252, 254, 256, 258, 260, 262, 264, 266, 268, 270, 140, 142, 144, 146, 148, 150, 152, 154, 156, 158, 160] rfl (by decide +kernel)
set_option maxRecDepth 20000 in
theorem gT_X8_now : GoodIn lw_tbl (wsV RL 68 RX8 yX8_now wsX8_now) := goodIn_app (goodIn_r _ [605, 606, 607, 52] rfl (by decide +kernel)) gTT_X8_now
set_option maxRecDepth 20000 in
theorem gTT_X9_now : GoodIn lw_tbl wsX9_now := goodIn_r _ [1066, 946, 947, 948, 59, 949, 1067, 1069, 27, 1070, 880, 1023, 1024, 1025, 1026, 1027, 1028, 1029, 1030, 1031, 951, 953, 20, 954, 883, 899, 901, 903, 905, 907, 909, 911, 913, 915, 917, 919, 921, 923, 925, 927, 929, 931, 933, 935] rfl (by decide +kernel)
set_option maxRecDepth 20000 in
theorem gT_X9_now : GoodIn lw_tbl (wsV RL 71 RX9 yX9_now wsX9_now) := goodIn_app (goodIn_r _ [1063, 1064, 1065, 59] rfl (by decide +kernel)) gTT_X9_now
set_option maxRecDepth 20000 in
theorem gTT_X8_may : GoodIn lw_tbl wsX8_may := goodIn_r _ [621, 230, 550, 467, 468, 53, 469, 112, 470, 471, 472, 54, 473, 95, 92, 94, 617, 479, 480, 481, 133, 482, 309, 310, 311, 111, 622, 484, 485, 486, 128, 135, 487, 488, 489, 490, 130, 491, 492, 493, 494, 495, 496, 497, 498, 499, 500, 501, 65, 502, 503, 504, 505, 244, 246, 248, 250, 252, 254, 256, 258, 260, 262, 264, 266, 268, 270, 140, 142, 144, 146, 148, 150, 152, 154, 156, 158, 160, 101, 103, 105, 107] rfl (by decide +kernel)
set_option maxRecDepth 20000 in
theorem gT_X8_may : GoodIn lw_tbl (wsV RL 72 RX8 yX8_may wsX8_may) := goodIn_app (goodIn_r _ [618, 619, 620, 52] rfl (by decide +kernel)) gTT_X8_may
set_option maxRecDepth 20000 in
theorem gTT_X9_may : GoodIn lw_tbl wsX9_may := goodIn_r _ [1074, 880, 955, 957, 21, 59, 958, 1008, 1009, 1010, 994, 995, 996, 1011, 1012, 1013, 1014, 1015, 1016, 1017, 1018, 1019, 1020, 1021, 1022, 1023, 1024, 1025, 1026, 1027, 1028, 1029, 1030, 1031, 899, 901, 903, 905, 907, 909, 911, 913, 915, 917, 919, 921, 923, 925, 927, 929, 931, 933, 935] rfl (by decide +kernel)
set_option maxRecDepth 20000 in
theorem gT_X9_may : GoodIn lw_tbl (wsV RL 75 RX9 yX9_may wsX9_may) := goodIn_app (goodIn_r _ [1071, 1072, 1073, 59] rfl (by decide +kernel)) gTT_X9_may
set_option maxRecDepth 20000 in
theorem gTT_X8_when : GoodIn lw_tbl wsX8_when := goodIn_r _ [626, 230, 545, 546, 547, 53, 548, 112, 281, 52, 282, 283, 285, 0, 286, 241, 550, 467, 468, 469, 470, 471, 472, 54, 473, 95, 92, 94, 627, 488, 489, 490, 130, 491, 492, 493, 494, 495, 308, 309, 310, 311, 111, 628, 629, 630, 631, 128, 503, 504, 65, 505, 581, 632, 633, 634, 635, 500, 501, 502, 244, 246, 248, 250, 252, 254, 256, 258, 260, 262, 264, 266, 268, 270, 140, 142, 144, 146, 148, 150, 152, 154, 156, 158, 160, 101, 103, 105, 107] rfl (by decide +kernel)
set_option maxRecDepth 20000 in
theorem gT_X8_when : GoodIn lw_tbl (wsV RL 76 RX8 yX8_when wsX8_when) := goodIn_app (goodIn_r _ [623, 624, 625, 52] rfl (by decide +kernel)) gTT_X8_when
set_option maxRecDepth 20000 in
theorem gTT_X9_when : GoodIn lw_tbl wsX9_when := goodIn_r _ [1078, 886, 990, 992, 23, 59, 993, 955, 957, 21, 958, 880, 947, 948, 949, 951, 953, 20, 954, 883, 1079, 1081, 28, 1082, 1008, 1009, 1010, 994, 995, 996, 1011, 1012, 1013, 1014, 1015, 1016, 1017, 1018, 1019, 1020, 1021, 1022, 1023, 1024, 1025, 1026, 1027, 1028, 1029, 1030, 1031, 899, 901, 903, 905, 907, 909, 911, 913, 915, 917, 919, 921, 923, 925, 927, 929, 931, 933, 935] rfl (by decide +kernel)
set_option maxRecDepth 20000 in
theorem gT_X9_when : GoodIn lw_tbl (wsV RL 79 RX9 yX9_when wsX9_when) := goodIn_app (goodIn_r _ [1075, 1076, 1077, 59] rfl (by decide +kernel)) gTT_X9_when
set_option maxRecDepth 20000 in
theorem gTT_X8_pen : GoodIn lw_tbl wsX8_pen := goodIn_r _ [639, 230, 545, 546, 547, 53, 548, 112, 281, 52, 282, 283, 285, 0, 286, 241, 550, 467, 468, 469, 470, 471, 472, 54, 473, 95, 92, 94, 627, 488, 489, 490, 130, 491, 492, 493, 494, 495, 581, 632, 633, 634, 635, 500, 501, 65, 502, 613, 614, 615, 616, 128, 133, 135, 482, 309, 310, 311, 111, 503, 504, 505, 244, 246, 248, 250, 252, 254, 256, 258, 260, 262, 264, 266, 268, 270, 140, 142, 144, 146, 148, 150, 152, 154, 156, 158, 160, 101, 103, 105, 107] rfl (by decide +kernel)
set_option maxRecDepth 20000 in
theorem gT_X8_pen : GoodIn lw_tbl (wsV RL 80 RX8 yX8_pen wsX8_pen) := goodIn_app (goodIn_r _ [636, 637, 638, 52] rfl (by decide +kernel)) gTT_X8_pen
set_option maxRecDepth 20000 in
theorem gTT_X9_pen : GoodIn lw_tbl wsX9_pen := goodIn_r _ [1086, 886, 990, 992, 23, 59, 993, 955, 957, 21, 958, 880, 947, 948, 949, 951, 953, 20, 954, 883, 1079, 1081, 28, 1082, 1008, 1009, 1010, 994, 995, 996, 1011, 1012, 1013, 1014, 1015, 1016, 1017, 1018, 1019, 1020, 1021, 1022, 1023, 1024, 1025, 1026, 1027, 1028, 1029, 1030, 1031, 899, 901, 903, 905, 907, 909, 911, 913, 915, 917, 919, 921, 923, 925, 927, 929, 931, 933, 935] rfl (by decide +kernel)
set_option maxRecDepth 20000 in
theorem gT_X9_pen : GoodIn lw_tbl (wsV RL 83 RX9 yX9_pen wsX9_pen) := goodIn_app (goodIn_r _ [1083, 1084, 1085, 59] rfl (by decide +kernel)) gTT_X9_pen
set_option maxRecDepth 20000 in
theorem gTT_X8_order : GoodIn lw_tbl wsX8_order := goodIn_r _ [643, 235, 230, 283, 285, 0, 52, 286, 241, 644, 645, 646, 57, 647, 202, 200, 199, 664, 507, 55, 508, 205, 648, 497, 498, 53, 499, 112, 133, 470, 471, 472, 54, 473, 95, 92, 94, 500, 501, 65, 502, 649, 467, 468, 469, 650, 652, 6, 653, 675, 90, 91, 654, 656, 7, 657, 658, 659, 67, 660, 661, 662, 663, 665, 479, 480, 481, 482, 309, 310, 311, 111, 666, 629, 630, 631, 128, 503, 504, 505, 667, 669, 8, 670, 671, 673, 9, 674, 676, 574, 575, 576, 491, 492, 493, 494, 495, 677, 679, 10, 680, 203, 201, 681, 682, 683, 684, 244, 246, 248, 250, 252, 254, 256, 258, 260, 262, 264, 266, 268, 270, 207, 209, 211, 213, 215, 217, 140, 142, 144, 146, 148, 150, 152, 154, 156, 158, 160, 101, 103, 105, 107] rfl (by decide +kernel)
set_option maxRecDepth 20000 in
theorem gT_X8_order : GoodIn lw_tbl (wsV RL 84 RX8 yX8_order wsX8_order) := goodIn_app (goodIn_r _ [640, 641, 642, 52] rfl (by decide +kernel)) gTT_X8_order
set_option maxRecDepth 20000 in
theorem gTT_X9_order : GoodIn lw_tbl wsX9_order := goodIn_r _ [1090, 886, 888, 889, 951, 953, 20, 59, 954, 883, 1091, 1093, 29, 1094, 880, 887, 955, 957, 21, 958, 994, 995, 996, 1095, 1097, 30, 1098, 1079, 1081, 28, 1082, 1005, 1006, 1007, 1008, 1009, 1010, 1011, 1012, 1013, 1014, 1015, 1016, 1017, 1018, 1019, 1020, 1021, 1022, 1023, 1024, 1025, 1026, 1027, 1028, 1029, 1030, 1031, 1032, 1033, 1034, 899, 901, 903, 905, 907, 909, 911, 913, 915, 917, 919, 921, 923, 925, 927, 929, 931, 933, 935] rfl (by decide +kernel)
set_option maxRecDepth 20000 in
theorem gT_X9_order : GoodIn lw_tbl (wsV RL 87 RX9 yX9_order wsX9_order) := goodIn_app (goodIn_r _ [1087, 1088, 1089, 59] rfl (by decide +kernel)) gTT_X9_order
set_option maxRecDepth 20000 in
theorem gTT_X8_seen : GoodIn lw_tbl wsX8_seen := goodIn_r _ [688, 230, 545, 546, 547, 53, 548, 112, 281, 52, 282, 317, 318, 319, 280, 283, 285, 0, 286, 241, 689, 691, 11, 692, 320, 321, 322, 54, 323, 95, 93, 324, 326, 1, 327, 243, 693, 333, 334, 335, 92, 336, 337, 338, 339, 340, 94, 582, 244, 246, 248, 250, 252, 254, 256, 258, 260, 262, 264, 266, 268, 270, 140, 142, 144, 146, 148, 150, 152, 154, 156, 158, 160, 101, 103, 105, 107] rfl (by decide +kernel)
set_option maxRecDepth 20000 in
theorem gT_X8_seen : GoodIn lw_tbl (wsV RL 88 RX8 yX8_seen wsX8_seen) := goodIn_app (goodIn_r _ [685, 686, 687, 52] rfl (by decide +kernel)) gTT_X8_seen
set_option maxRecDepth 20000 in
theorem gTT_X9_seen : GoodIn lw_tbl wsX9_seen := goodIn_r _ [1102, 1047, 880, 990, 992, 23, 59, 993, 955, 957, 21, 958, 947, 948, 949, 975, 976, 977, 978, 951, 953, 20, 954, 883, 979, 981, 22, 982, 899, 901, 903, 905, 907, 909, 911, 913, 915, 917, 919, 921, 923, 925, 927, 929, 931, 933, 935] rfl (by decide +kernel)
set_option maxRecDepth 20000 in
theorem gT_X9_seen : GoodIn lw_tbl (wsV RL 92 RX9 yX9_seen wsX9_seen) := goodIn_app (goodIn_r _ [1099, 1100, 1101, 59] rfl (by decide +kernel)) gTT_X9_seen
set_option maxRecDepth 20000 in
theorem gTT_X8_often : GoodIn lw_tbl wsX8_often := goodIn_r _ [697, 230, 236, 545, 546, 547, 53, 548, 112, 281, 52, 282, 280, 283, 285, 0, 286, 241, 698, 699, 700, 58, 701, 702, 704, 12, 705, 706, 471, 472, 54, 473, 95, 92, 94, 707, 709, 13, 710, 711, 633, 634, 635, 470, 500, 501, 65, 502, 712, 309, 310, 311, 111, 713, 629, 630, 631, 128, 503, 504, 505, 714, 659, 67, 660, 661, 662, 663, 715, 716, 717, 718, 719, 720, 244, 246, 248, 250, 252, 254, 256, 258, 260, 262, 264, 266, 268, 270, 140, 142, 144, 146, 148, 150, 152, 154, 156, 158, 160, 101, 103, 105, 107] rfl (by decide +kernel)
set_option maxRecDepth 20000 in
theorem gT_X8_often : GoodIn lw_tbl (wsV RL 93 RX8 yX8_often wsX8_often) := goodIn_app (goodIn_r _ [694, 695, 696, 52] rfl (by decide +kernel)) gTT_X8_often
set_option maxRecDepth 20000 in
theorem gTT_X9_often : GoodIn lw_tbl wsX9_often := goodIn_r _ [1106, 1107, 990, 992, 23, 59, 993, 955, 957, 21, 958, 880, 947, 948, 949, 951, 953, 20, 954, 883, 1108, 1110, 31, 1111, 1112, 1114, 32, 1115, 1020, 1021, 1022, 1026, 1027, 1028, 1029, 1030, 1031, 899, 901, 903, 905, 907, 909, 911, 913, 915, 917, 919, 921, 923, 925, 927, 929, 931, 933, 935] rfl (by decide +kernel)
set_option maxRecDepth 20000 in
theorem gT_X9_often : GoodIn lw_tbl (wsV RL 96 RX9 yX9_often wsX9_often) := goodIn_app (goodIn_r _ [1103, 1104, 1105, 59] rfl (by decide +kernel)) gTT_X9_often
set_option maxRecDepth 20000 in
theorem gTT_X8_tell : GoodIn lw_tbl wsX8_tell := goodIn_r _ [724, 230, 236, 545, 546, 547, 53, 548, 112, 281, 52, 282, 725, 726, 727, 58, 728, 735, 90, 55, 91, 729, 699, 700, 701, 702, 704, 12, 705, 706, 471, 472, 54, 473, 95, 92, 94, 707, 709, 13, 710, 711, 633, 634, 635, 470, 500, 501, 65, 502, 712, 309, 310, 311, 111, 713, 629, 630, 631, 128, 503, 504, 505, 730, 659, 67, 660, 661, 662, 663, 731, 733, 14, 734, 283, 285, 0, 286, 241, 244, 246, 248, 250, 252, 254, 256, 258, 260, 262, 264, 266, 268, 270, 140, 142, 144, 146, 148, 150, 152, 154, 156, 158, 160, 101, 103, 105, 107] rfl (by decide +kernel)
set_option maxRecDepth 20000 in
theorem gT_X8_tell : GoodIn lw_tbl (wsV RL 97 RX8 yX8_tell wsX8_tell) := goodIn_app (goodIn_r _ [721, 722, 723, 52] rfl (by decide +kernel)) gTT_X8_tell
set_option maxRecDepth 20000 in
theorem gTT_X9_tell : GoodIn lw_tbl wsX9_tell := goodIn_r _ [1119, 1120, 990, 992, 23, 59, 993, 955, 957, 21, 958, 880, 947, 948, 949, 951, 953, 20, 954, 883, 1112, 1114, 32, 1115, 1020, 1021, 1022, 1026, 1027, 1028, 1029, 1030, 1031, 1108, 1110, 31, 1111, 899, 901, 903, 905, 907, 909, 911, 913, 915, 917, 919, 921, 923, 925, 927, 929, 931, 933, 935] rfl (by decide +kernel)
set_option maxRecDepth 20000 in
theorem gT_X9_tell : GoodIn lw_tbl (wsV RL 100 RX9 yX9_tell wsX9_tell) := goodIn_app (goodIn_r _ [1116, 1117, 1118, 59] rfl (by decide +kernel)) gTT_X9_tell
set_option maxRecDepth 20000 in
theorem gTT_X8_note : GoodIn lw_tbl wsX8_note := goodIn_r _ [739, 230, 545, 546, 547, 53, 548, 112, 281, 52, 282, 317, 318, 319, 280, 283, 285, 0, 286, 241, 689, 691, 11, 692, 320, 321, 322, 54, 323, 95, 93, 324, 326, 1, 327, 243, 693, 333, 334, 335, 92, 336, 337, 338, 339, 340, 94, 582, 244, 246, 248, 250, 252, 254, 256, 258, 260, 262, 264, 266, 268, 270, 140, 142, 144, 146, 148, 150, 152, 154, 156, 158, 160, 101, 103, 105, 107] rfl (by decide +kernel)
set_option maxRecDepth 20000 in
theorem gT_X8_note : GoodIn lw_tbl (wsV RL 101 RX8 yX8_note wsX8_note) := goodIn_app (goodIn_r _ [736, 737, 738, 52] rfl (by decide +kernel)) gTT_X8_note
set_option maxRecDepth 20000 in
theorem gTT_X9_note : GoodIn lw_tbl wsX9_note := goodIn_r _ [1124, 978, 1047, 1125, 880, 990, 992, 23, 59, 993, 955, 957, 21, 958, 947, 948, 949, 975, 976, 977, 951, 953, 20, 954, 883, 979, 981, 22, 982, 899, 901, 903, 905, 907, 909, 911, 913, 915, 917, 919, 921, 923, 925, 927, 929, 931, 933, 935] rfl (by decide +kernel)
set_option maxRecDepth 20000 in
theorem gT_X9_note : GoodIn lw_tbl (wsV RL 105 RX9 yX9_note wsX9_note) := goodIn_app (goodIn_r _ [1121, 1122, 1123, 59] rfl (by decide +kernel)) gTT_X9_note
set_option maxRecDepth 20000 in
theorem gTT_X8_mark : GoodIn lw_tbl wsX8_mark := goodIn_r _ [743, 230, 280, 281, 52, 282, 283, 285, 0, 286, 241, 689, 691, 11, 692, 320, 321, 322, 54, 323, 95, 93, 324, 326, 1, 327, 243, 693, 333, 334, 335, 92, 336, 337, 338, 339, 340, 94, 582, 244, 246, 248, 250, 252, 254, 256, 258, 260, 262, 264, 266, 268, 270, 140, 142, 144, 146, 148, 150, 152, 154, 156, 158, 160, 101, 103, 105, 107] rfl (by decide +kernel)
set_option maxRecDepth 20000 in
theorem gT_X8_mark : GoodIn lw_tbl (wsV RL 106 RX8 yX8_mark wsX8_mark) := goodIn_app (goodIn_r _ [740, 741, 742, 52] rfl (by decide +kernel)) gTT_X8_mark
set_option maxRecDepth 20000 in
theorem gTT_X9_mark : GoodIn lw_tbl wsX9_mark := goodIn_r _ [1129, 978, 1130, 1047, 880, 967, 968, 59, 969, 970, 947, 948, 949, 951, 953, 20, 954, 883, 979, 981, 22, 982, 899, 901, 903, 905, 907, 909, 911, 913, 915, 917, 919, 921, 923, 925, 927, 929, 931, 933, 935] rfl (by decide +kernel)
set_option maxRecDepth 20000 in
theorem gT_X9_mark : GoodIn lw_tbl (wsV RL 110 RX9 yX9_mark wsX9_mark) := goodIn_app (goodIn_r _ [1126, 1127, 1128, 59] rfl (by decide +kernel)) gTT_X9_mark
set_option maxRecDepth 20000 in
theorem gTT_X8_forget : GoodIn lw_tbl wsX8_forget := goodIn_r _ [747, 230, 280, 281, 52, 282, 283, 285, 0, 286, 241, 303, 296, 297, 54, 298, 95, 244, 246, 248, 250, 252, 254, 256, 258, 260, 262, 264, 266, 268, 270, 140, 142, 144, 146, 148, 150, 152, 154, 156, 158, 160, 101, 103, 105, 107] rfl (by decide +kernel)
set_option maxRecDepth 20000 in
theorem gT_X8_forget : GoodIn lw_tbl (wsV RL 111 RX8 yX8_forget wsX8_forget) := goodIn_app (goodIn_r _ [744, 745, 746, 52] rfl (by decide +kernel)) gTT_X8_forget
set_option maxRecDepth 20000 in
theorem gTT_X9_forget : GoodIn lw_tbl wsX9_forget := goodIn_r _ [1134, 1107, 880, 947, 948, 59, 949, 951, 953, 20, 954, 883, 899, 901, 903, 905, 907, 909, 911, 913, 915, 917, 919, 921, 923, 925, 927, 929, 931, 933, 935] rfl (by decide +kernel)
set_option maxRecDepth 20000 in
theorem gT_X9_forget : GoodIn lw_tbl (wsV RL 114 RX9 yX9_forget wsX9_forget) := goodIn_app (goodIn_r _ [1131, 1132, 1133, 59] rfl (by decide +kernel)) gTT_X9_forget
set_option maxRecDepth 20000 in
theorem gTT_X8_is : GoodIn lw_tbl wsX8_is := goodIn_r _ [751, 230, 236, 545, 546, 547, 53, 548, 112, 281, 52, 282, 752, 753, 754, 58, 755, 756, 758, 15, 759, 706, 471, 472, 54, 473, 95, 92, 94, 760, 501, 65, 502, 283, 285, 0, 286, 241, 244, 246, 248, 250, 252, 254, 256, 258, 260, 262, 264, 266, 268, 270, 140, 142, 144, 146, 148, 150, 152, 154, 156, 158, 160, 101, 103, 105, 107] rfl (by decide +kernel)
set_option maxRecDepth 20000 in
theorem gT_X8_is : GoodIn lw_tbl (wsV RL 115 RX8 yX8_is wsX8_is) := goodIn_app (goodIn_r _ [748, 749, 750, 52] rfl (by decide +kernel)) gTT_X8_is
set_option maxRecDepth 20000 in
theorem gTT_X9_is : GoodIn lw_tbl wsX9_is := goodIn_r _ [1138, 990, 992, 23, 59, 993, 955, 957, 21, 958, 880, 947, 948, 949, 1139, 1141, 33, 1142, 1020, 1021, 1022, 951, 953, 20, 954, 883, 899, 901, 903, 905, 907, 909, 911, 913, 915, 917, 919, 921, 923, 925, 927, 929, 931, 933, 935] rfl (by decide +kernel)
set_option maxRecDepth 20000 in
theorem gT_X9_is : GoodIn lw_tbl (wsV RL 118 RX9 yX9_is wsX9_is) := goodIn_app (goodIn_r _ [1135, 1136, 1137, 59] rfl (by decide +kernel)) gTT_X9_is
set_option maxRecDepth 20000 in
theorem gTT_X8_look : GoodIn lw_tbl wsX8_look := goodIn_r _ [764, 230, 236, 545, 546, 547, 53, 548, 112, 281, 52, 282, 765, 766, 767, 58, 768, 226, 769, 753, 754, 755, 756, 758, 15, 759, 706, 471, 472, 54, 473, 95, 92, 94, 760, 501, 65, 502, 770, 772, 16, 773, 735, 90, 55, 91, 283, 285, 0, 286, 241, 244, 246, 248, 250, 252, 254, 256, 258, 260, 262, 264, 266, 268, 270, 140, 142, 144, 146, 148, 150, 152, 154, 156, 158, 160, 101, 103, 105, 107, 227] rfl (by decide +kernel)
set_option maxRecDepth 20000 in
theorem gT_X8_look : GoodIn lw_tbl (wsV RL 119 RX8 yX8_look wsX8_look) := goodIn_app (goodIn_r _ [761, 762, 763, 52] rfl (by decide +kernel)) gTT_X8_look
set_option maxRecDepth 20000 in
theorem gTT_X9_look : GoodIn lw_tbl wsX9_look := goodIn_r _ [1146, 1120, 890, 880, 990, 992, 23, 59, 993, 955, 957, 21, 958, 947, 948, 949, 951, 953, 20, 954, 883, 1139, 1141, 33, 1142, 1020, 1021, 1022, 1147, 1149, 34, 1150, 994, 995, 996, 899, 901, 903, 905, 907, 909, 911, 913, 915, 917, 919, 921, 923, 925, 927, 929, 931, 933, 935] rfl (by decide +kernel)
set_option maxRecDepth 20000 in
theorem gT_X9_look : GoodIn lw_tbl (wsV RL 122 RX9 yX9_look wsX9_look) := goodIn_app (goodIn_r _ [1143, 1144, 1145, 59] rfl (by decide +kernel)) gTT_X9_look
set_option maxRecDepth 20000 in
theorem gTT_X8_kinds : GoodIn lw_tbl wsX8_kinds := goodIn_r _ [777, 236, 230, 778, 779, 780, 58, 781, 782, 784, 17, 785, 706, 471, 472, 54, 473, 95, 92, 94, 786, 504, 65, 505, 244, 246, 248, 250, 252, 254, 256, 258, 260, 262, 264, 266, 268, 270, 140, 142, 144, 146, 148, 150, 152, 154, 156, 158, 160, 101, 103, 105, 107] rfl (by decide +kernel)
set_option maxRecDepth 20000 in
theorem gT_X8_kinds : GoodIn lw_tbl (wsV RL 123 RX8 yX8_kinds wsX8_kinds) := goodIn_app (goodIn_r _ [774, 775, 776, 52] rfl (by decide +kernel)) gTT_X8_kinds
set_option maxRecDepth 20000 in
theorem gTT_X9_kinds : GoodIn lw_tbl wsX9_kinds := goodIn_r _ [1154, 1155, 1157, 35, 59, 1158, 880, 1029, 1030, 1031, 899, 901, 903, 905, 907, 909, 911, 913, 915, 917, 919, 921, 923, 925, 927, 929, 931, 933, 935] rfl (by decide +kernel)
set_option maxRecDepth 20000 in
theorem gT_X9_kinds : GoodIn lw_tbl (wsV RL 126 RX9 yX9_kinds wsX9_kinds) := goodIn_app (goodIn_r _ [1151, 1152, 1153, 59] rfl (by decide +kernel)) gTT_X9_kinds
set_option maxRecDepth 20000 in
theorem gTT_X8_ask : GoodIn lw_tbl wsX8_ask := goodIn_r _ [790, 236, 230, 791, 792, 793, 58, 794, 226, 795, 779, 780, 781, 782, 784, 17, 785, 706, 471, 472, 54, 473, 95, 92, 94, 786, 504, 65, 505, 770, 772, 16, 773, 735, 90, 55, 91, 244, 246, 248, 250, 252, 254, 256, 258, 260, 262, 264, 266, 268, 270, 227, 140, 142, 144, 146, 148, 150, 152, 154, 156, 158, 160, 101, 103, 105, 107] rfl (by decide +kernel)
set_option maxRecDepth 20000 in
theorem gT_X8_ask : GoodIn lw_tbl (wsV RL 127 RX8 yX8_ask wsX8_ask) := goodIn_app (goodIn_r _ [787, 788, 789, 52] rfl (by decide +kernel)) gTT_X8_ask
set_option maxRecDepth 20000 in
theorem gTT_X9_ask : GoodIn lw_tbl wsX9_ask := goodIn_r _ [1162, 1120, 890, 1155, 1157, 35, 59, 1158, 880, 1029, 1030, 1031, 1147, 1149, 34, 1150, 994, 995, 996, 899, 901, 903, 905, 907, 909, 911, 913, 915, 917, 919, 921, 923, 925, 927, 929, 931, 933, 935] rfl (by decide +kernel)
set_option maxRecDepth 20000 in
theorem gT_X9_ask : GoodIn lw_tbl (wsV RL 130 RX9 yX9_ask wsX9_ask) := goodIn_app (goodIn_r _ [1159, 1160, 1161, 59] rfl (by decide +kernel)) gTT_X9_ask
set_option maxRecDepth 20000 in
theorem gTT_X8_door : GoodIn lw_tbl wsX8_door := goodIn_r _ [799, 230, 545, 546, 547, 53, 548, 112, 281, 52, 282, 283, 285, 0, 286, 241, 550, 467, 468, 469, 470, 471, 472, 54, 473, 95, 92, 94, 551, 553, 4, 554, 242, 604, 497, 498, 499, 133, 500, 501, 65, 502, 613, 614, 615, 616, 128, 135, 482, 309, 310, 311, 111, 503, 504, 505, 800, 801, 68, 802, 803, 804, 805, 806, 807, 808, 244, 246, 248, 250, 252, 254, 256, 258, 260, 262, 264, 266, 268, 270, 140, 142, 144, 146, 148, 150, 152, 154, 156, 158, 160, 101, 103, 105, 107] rfl (by decide +kernel)
set_option maxRecDepth 20000 in
theorem gT_X8_door : GoodIn lw_tbl (wsV RL 131 RX8 yX8_door wsX8_door) := goodIn_app (goodIn_r _ [796, 797, 798, 52] rfl (by decide +kernel)) gTT_X8_door
set_option maxRecDepth 20000 in
theorem gTT_X9_door : GoodIn lw_tbl wsX9_door := goodIn_r _ [1166, 880, 990, 992, 23, 59, 993, 955, 957, 21, 958, 947, 948, 949, 951, 953, 20, 954, 883, 994, 995, 996, 997, 999, 24, 1000, 1017, 1018, 1019, 1020, 1021, 1022, 1023, 1024, 1025, 1026, 1027, 1028, 1029, 1030, 1031, 1167, 1168, 1169, 1170, 1171, 1172, 899, 901, 903, 905, 907, 909, 911, 913, 915, 917, 919, 921, 923, 925, 927, 929, 931, 933, 935] rfl (by decide +kernel)
set_option maxRecDepth 20000 in
theorem gT_X9_door : GoodIn lw_tbl (wsV RL 134 RX9 yX9_door wsX9_door) := goodIn_app (goodIn_r _ [1163, 1164, 1165, 59] rfl (by decide +kernel)) gTT_X9_door
set_option maxRecDepth 20000 in
theorem gTT_X8_rain : GoodIn lw_tbl wsX8_rain := goodIn_r _ [812, 230, 545, 546, 547, 53, 548, 112, 281, 52, 282, 280, 283, 285, 0, 286, 241, 550, 467, 468, 469, 470, 471, 472, 54, 473, 95, 92, 94, 551, 553, 4, 554, 242, 622, 484, 485, 486, 128, 135, 487, 488, 489, 490, 130, 491, 492, 493, 494, 495, 496, 497, 498, 499, 133, 500, 501, 65, 502, 503, 504, 505, 617, 479, 480, 481, 482, 309, 310, 311, 111, 813, 815, 18, 816, 239, 240, 244, 246, 248, 250, 252, 254, 256, 258, 260, 262, 264, 266, 268, 270, 140, 142, 144, 146, 148, 150, 152, 154, 156, 158, 160, 101, 103, 105, 107] rfl (by decide +kernel)
set_option maxRecDepth 20000 in
theorem gT_X8_rain : GoodIn lw_tbl (wsV RL 135 RX8 yX8_rain wsX8_rain) := goodIn_app (goodIn_r _ [809, 810, 811, 52] rfl (by decide +kernel)) gTT_X8_rain
set_option maxRecDepth 20000 in
theorem gTT_X9_rain : GoodIn lw_tbl wsX9_rain := goodIn_r _ [1176, 1177, 880, 886, 990, 992, 23, 59, 993, 955, 957, 21, 958, 947, 948, 949, 951, 953, 20, 954, 883, 994, 995, 996, 997, 999, 24, 1000, 1079, 1081, 28, 1082, 1008, 1009, 1010, 1011, 1012, 1013, 1014, 1015, 1016, 1017, 1018, 1019, 1020, 1021, 1022, 1023, 1024, 1025, 1026, 1027, 1028, 1029, 1030, 1031, 1178, 1180, 36, 1181, 884, 885, 899, 901, 903, 905, 907, 909, 911, 913, 915, 917, 919, 921, 923, 925, 927, 929, 931, 933, 935] rfl (by decide +kernel)
set_option maxRecDepth 20000 in
theorem gT_X9_rain : GoodIn lw_tbl (wsV RL 138 RX9 yX9_rain wsX9_rain) := goodIn_app (goodIn_r _ [1173, 1174, 1175, 59] rfl (by decide +kernel)) gTT_X9_rain
set_option maxRecDepth 20000 in
theorem gTT_X8_decades : GoodIn lw_tbl wsX8_decades := goodIn_r _ [820, 821, 231, 230, 822, 823, 824, 825, 826, 280, 281, 52, 282, 283, 285, 0, 286, 241, 530, 531, 532, 53, 533, 128, 130, 133, 135, 138, 112, 117, 120, 123, 126, 482, 309, 310, 311, 111, 291, 292, 293, 294, 534, 535, 536, 54, 537, 94, 538, 540, 539, 66, 95, 827, 828, 829, 830, 831, 546, 547, 548, 832, 467, 468, 469, 470, 471, 472, 473, 92, 833, 514, 515, 516, 341, 338, 339, 340, 834, 475, 476, 477, 506, 507, 55, 508, 478, 479, 480, 481, 483, 484, 485, 486, 487, 488, 489, 490, 491, 492, 493, 494, 495, 496, 497, 498, 499, 500, 501, 65, 502, 503, 504, 505, 573, 574, 575, 576, 244, 246, 248, 250, 252, 254, 256, 258, 260, 262, 264, 266, 268, 270, 140, 142, 144, 146, 148, 150, 152, 154, 156, 158, 160, 101, 103, 105, 107] rfl (by decide +kernel)
set_option maxRecDepth 20000 in
theorem gT_X8_decades : GoodIn lw_tbl (wsV RL 139 RX8 yX8_decades wsX8_decades) := goodIn_app (goodIn_r _ [817, 818, 819, 52] rfl (by decide +kernel)) gTT_X8_decades
set_option maxRecDepth 20000 in
theorem gTT_X9_decades : GoodIn lw_tbl wsX9_decades := goodIn_r _ [1185, 1186, 1125, 1187, 1188, 1189, 1190, 1191, 886, 947, 948, 59, 949, 951, 953, 20, 954, 883, 1079, 1081, 28, 1082, 880, 990, 992, 23, 993, 955, 957, 21, 958, 994, 995, 996, 1005, 1006, 1007, 1008, 1009, 1010, 1011, 1012, 1013, 1014, 1015, 1016, 1017, 1018, 1019, 1020, 1021, 1022, 1023, 1024, 1025, 1026, 1027, 1028, 1029, 1030, 1031, 1032, 1033, 1034, 899, 901, 903, 905, 907, 909, 911, 913, 915, 917, 919, 921, 923, 925, 927, 929, 931, 933, 935] rfl (by decide +kernel)
set_option maxRecDepth 20000 in
theorem gT_X9_decades : GoodIn lw_tbl (wsV RL 142 RX9 yX9_decades wsX9_decades) := goodIn_app (goodIn_r _ [1182, 1183, 1184, 59] rfl (by decide +kernel)) gTT_X9_decades
set_option maxRecDepth 20000 in
theorem gTT_X8_part : GoodIn lw_tbl wsX8_part := goodIn_r _ [838, 239, 240, 280, 281, 52, 282, 283, 285, 0, 286, 241, 244, 246, 248, 250, 252, 254, 256, 258, 260, 262, 264, 266, 268, 270] rfl (by decide +kernel)
set_option maxRecDepth 20000 in
theorem gT_X8_part : GoodIn lw_tbl (wsV RL 143 RX8 yX8_part wsX8_part) := goodIn_app (goodIn_r _ [835, 836, 837, 52] rfl (by decide +kernel)) gTT_X8_part
set_option maxRecDepth 20000 in
theorem gTT_X9_part : GoodIn lw_tbl wsX9_part := goodIn_r _ [1266, 884, 885, 951, 953, 20, 59, 954, 883, 899, 901, 903, 905, 907, 909, 911, 913, 915, 917, 919, 921, 923, 925, 927, 929, 931, 933, 935] rfl (by decide +kernel)
set_option maxRecDepth 20000 in
theorem gT_X9_part : GoodIn lw_tbl (wsV RL 147 RX9 yX9_part wsX9_part) := goodIn_app (goodIn_r _ [1263, 1264, 1265, 59] rfl (by decide +kernel)) gTT_X9_part
set_option maxRecDepth 20000 in
theorem gTT_X8_image : GoodIn lw_tbl wsX8_image := goodIn_r _ [842, 232, 230, 237, 233, 238, 280, 281, 52, 282, 283, 285, 0, 286, 241, 530, 531, 532, 53, 533, 128, 130, 133, 135, 138, 112, 117, 120, 123, 126, 482, 309, 310, 311, 111, 291, 292, 293, 294, 534, 535, 536, 54, 537, 94, 538, 540, 539, 66, 95, 244, 246, 248, 250, 252, 254, 256, 258, 260, 262, 264, 266, 268, 270, 140, 142, 144, 146, 148, 150, 152, 154, 156, 158, 160, 101, 103, 105, 107] rfl (by decide +kernel)
set_option maxRecDepth 20000 in
theorem gT_X8_image : GoodIn lw_tbl (wsV RL 148 RX8 yX8_image wsX8_image) := goodIn_app (goodIn_r _ [839, 840, 841, 52] rfl (by decide +kernel)) gTT_X8_image
set_option maxRecDepth 20000 in
theorem gTT_X9_image : GoodIn lw_tbl wsX9_image := goodIn_r _ [1270, 881, 880, 882, 947, 948, 59, 949, 951, 953, 20, 954, 883, 899, 901, 903, 905, 907, 909, 911, 913, 915, 917, 919, 921, 923, 925, 927, 929, 931, 933, 935] rfl (by decide +kernel)
set_option maxRecDepth 20000 in
theorem gT_X9_image : GoodIn lw_tbl (wsV RL 151 RX9 yX9_image wsX9_image) := goodIn_app (goodIn_r _ [1267, 1268, 1269, 59] rfl (by decide +kernel)) gTT_X9_image
set_option maxRecDepth 20000 in
theorem gTT_X8_from : GoodIn lw_tbl wsX8_from := goodIn_r _ [846, 237, 238, 230, 232, 233, 280, 281, 52, 282, 283, 285, 0, 286, 241, 551, 553, 4, 554, 242, 530, 531, 532, 53, 533, 128, 130, 133, 135, 138, 112, 117, 120, 123, 126, 482, 309, 310, 311, 111, 291, 292, 293, 294, 534, 535, 536, 54, 537, 94, 538, 540, 539, 66, 95, 244, 246, 248, 250, 252, 254, 256, 258, 260, 262, 264, 266, 268, 270, 140, 142, 144, 146, 148, 150, 152, 154, 156, 158, 160, 101, 103, 105, 107] rfl (by decide +kernel)
set_option maxRecDepth 20000 in
theorem gT_X8_from : GoodIn lw_tbl (wsV RL 152 RX8 yX8_from wsX8_from) := goodIn_app (goodIn_r _ [843, 844, 845, 52] rfl (by decide +kernel)) gTT_X8_from
set_option maxRecDepth 20000 in
theorem gTT_X9_from : GoodIn lw_tbl wsX9_from := goodIn_r _ [1274, 882, 880, 881, 947, 948, 59, 949, 951, 953, 20, 954, 883, 997, 999, 24, 1000, 899, 901, 903, 905, 907, 909, 911, 913, 915, 917, 919, 921, 923, 925, 927, 929, 931, 933, 935] rfl (by decide +kernel)
set_option maxRecDepth 20000 in
theorem gT_X9_from : GoodIn lw_tbl (wsV RL 155 RX9 yX9_from wsX9_from) := goodIn_app (goodIn_r _ [1271, 1272, 1273, 59] rfl (by decide +kernel)) gTT_X9_from
set_option maxRecDepth 20000 in
theorem gTT_X8_status : GoodIn lw_tbl wsX8_status := goodIn_r _ [850, 241, 242, 243, 283, 285, 0, 52, 286, 244, 246, 248, 250, 252, 254, 256, 258, 260, 262, 264, 266, 268, 270] rfl (by decide +kernel)
set_option maxRecDepth 20000 in
theorem gT_X8_status : GoodIn lw_tbl (wsV RL 156 RX8 yX8_status wsX8_status) := goodIn_app (goodIn_r _ [847, 848, 849, 52] rfl (by decide +kernel)) gTT_X8_status
set_option maxRecDepth 20000 in
theorem gTT_X9_status : GoodIn lw_tbl wsX9_status := goodIn_r _ [1278, 1107, 883, 947, 948, 59, 949, 951, 953, 20, 954, 899, 901, 903, 905, 907, 909, 911, 913, 915, 917, 919, 921, 923, 925, 927, 929, 931, 933, 935] rfl (by decide +kernel)
set_option maxRecDepth 20000 in
theorem gT_X9_status : GoodIn lw_tbl (wsV RL 159 RX9 yX9_status wsX9_status) := goodIn_app (goodIn_r _ [1275, 1276, 1277, 59] rfl (by decide +kernel)) gTT_X9_status
set_option maxRecDepth 20000 in
theorem gTT_X8_count : GoodIn lw_tbl wsX8_count := goodIn_r _ [854, 280, 281, 52, 282, 855, 857, 19, 858, 230, 234, 573, 574, 575, 53, 576, 112, 491, 492, 493, 54, 494, 95, 495, 471, 472, 473, 92, 94, 859, 283, 285, 0, 286, 241, 244, 246, 248, 250, 252, 254, 256, 258, 260, 262, 264, 266, 268, 270, 140, 142, 144, 146, 148, 150, 152, 154, 156, 158, 160, 101, 103, 105, 107, 179, 181, 183, 185, 187, 189] rfl (by decide +kernel)
set_option maxRecDepth 20000 in
theorem gT_X8_count : GoodIn lw_tbl (wsV RL 160 RX8 yX8_count wsX8_count) := goodIn_app (goodIn_r _ [851, 852, 853, 52] rfl (by decide +kernel)) gTT_X8_count
set_option maxRecDepth 20000 in
theorem gTT_X9_count : GoodIn lw_tbl wsX9_count := goodIn_r _ [1282, 1191, 947, 948, 59, 949, 1283, 1285, 49, 1286, 880, 892, 955, 957, 21, 958, 1014, 1015, 1016, 951, 953, 20, 954, 883, 899, 901, 903, 905, 907, 909, 911, 913, 915, 917, 919, 921, 923, 925, 927, 929, 931, 933, 935] rfl (by decide +kernel)
set_option maxRecDepth 20000 in
theorem gT_X9_count : GoodIn lw_tbl (wsV RL 163 RX9 yX9_count wsX9_count) := goodIn_app (goodIn_r _ [1279, 1280, 1281, 59] rfl (by decide +kernel)) gTT_X9_count
set_option maxRecDepth 20000 in
theorem gTT_X8_digest : GoodIn lw_tbl wsX8_digest := goodIn_r _ [863, 864, 865, 230, 239, 240, 855, 857, 19, 52, 858, 234, 573, 574, 575, 53, 576, 112, 491, 492, 493, 54, 494, 95, 495, 471, 472, 473, 92, 94, 859, 609, 611, 5, 612, 613, 614, 615, 616, 128, 133, 135, 482, 309, 310, 311, 111, 503, 504, 65, 505, 617, 479, 480, 481, 308, 866, 867, 868, 869, 870, 244, 246, 248, 250, 252, 254, 256, 258, 260, 262, 264, 266, 268, 270, 140, 142, 144, 146, 148, 150, 152, 154, 156, 158, 160, 101, 103, 105, 107, 179, 181, 183, 185, 187, 189] rfl (by decide +kernel)
set_option maxRecDepth 20000 in
theorem gT_X8_digest : GoodIn lw_tbl (wsV RL 164 RX8 yX8_digest wsX8_digest) := goodIn_app (goodIn_r _ [860, 861, 862, 52] rfl (by decide +kernel)) gTT_X8_digest
set_option maxRecDepth 20000 in
theorem gTT_X9_digest : GoodIn lw_tbl wsX9_digest := goodIn_r _ [1290, 1291, 1292, 880, 884, 885, 1283, 1285, 49, 59, 1286, 892, 955, 957, 21, 958, 1014, 1015, 1016, 1067, 1069, 27, 1070, 1023, 1024, 1025, 1026, 1027, 1028, 1029, 1030, 1031, 1293, 1295, 50, 1296, 1059, 1061, 26, 1062, 1017, 1018, 1019, 1020, 1021, 1022, 899, 901, 903, 905, 907, 909, 911, 913, 915, 917, 919, 921, 923, 925, 927, 929, 931, 933, 935] rfl (by decide +kernel)
set_option maxRecDepth 20000 in
theorem gT_X9_digest : GoodIn lw_tbl (wsV RL 168 RX9 yX9_digest wsX9_digest) := goodIn_app (goodIn_r _ [1287, 1288, 1289, 59] rfl (by decide +kernel)) gTT_X9_digest
set_option maxRecDepth 20000 in
theorem inX1 : ∀ w ∈ u_ws RX1 TX1 11, w ∈ lw_tbl := fun w h => (goodIn_r (u_ws RX1 TX1 11) [140, 142, 144, 146, 148, 150, 152, 154, 156, 158, 160] rfl (by decide +kernel) w h).1
set_option maxRecDepth 20000 in
theorem inX3 : ∀ w ∈ u_ws RX3 TX3 6, w ∈ lw_tbl := fun w h => (goodIn_r (u_ws RX3 TX3 6) [207, 209, 211, 213, 215, 217] rfl (by decide +kernel) w h).1
set_option maxRecDepth 20000 in
theorem inX4 : ∀ w ∈ u_ws RX4 TX4 6, w ∈ lw_tbl := fun w h => (goodIn_r (u_ws RX4 TX4 6) [179, 181, 183, 185, 187, 189] rfl (by decide +kernel) w h).1
set_option maxRecDepth 20000 in
theorem inX5 : ∀ w ∈ u_ws RX5 TX5 4, w ∈ lw_tbl := fun w h => (goodIn_r (u_ws RX5 TX5 4) [101, 103, 105, 107] rfl (by decide +kernel) w h).1
set_option maxRecDepth 20000 in
theorem inX7 : ∀ w ∈ u_ws RX7 TX7 1, w ∈ lw_tbl := fun w h => (goodIn_r (u_ws RX7 TX7 1) [227] rfl (by decide +kernel) w h).1
set_option maxRecDepth 20000 in
theorem inX8 : ∀ w ∈ u_ws RX8 TX8 14, w ∈ lw_tbl := fun w h => (goodIn_r (u_ws RX8 TX8 14) [244, 246, 248, 250, 252, 254, 256, 258, 260, 262, 264, 266, 268, 270] rfl (by decide +kernel) w h).1
set_option maxRecDepth 20000 in
theorem inX9 : ∀ w ∈ u_ws RX9 TX9 19, w ∈ lw_tbl := fun w h => (goodIn_r (u_ws RX9 TX9 19) [899, 901, 903, 905, 907, 909, 911, 913, 915, 917, 919, 921, 923, 925, 927, 929, 931, 933, 935] rfl (by decide +kernel) w h).1
