/-! each instruction of the tables against the bytecode: decided by program (wip/gen/prog.py wrote the places of the words) -/
def bh_0 : List (List Nat) := [[], [268, 95, 96], [], [], [120], [269], [], [], [120], [270], [], [], [120], [271], []]
set_option maxRecDepth 100000 in
theorem bo_0 : bi_okM 0 bh_0 0 bc_0 = true := by decide +kernel
def bh_1 : List (List Nat) := [[], [], [], [], [130], [], [], [269], [], [], [], [], [], [], [], [], [], [], [], [130], [], [], [], [], [], [801, 22, 804, 79, 803, 0], [], [], [], [], [], [], [], [], [], [], [], [], [], [130], [], [], [], [269], [], [], [806, 558, 88, 559], [], [], [], [], []]
set_option maxRecDepth 100000 in
theorem bo_1 : bi_okM 1 bh_1 0 bc_1 = true := by decide +kernel
def bh_2 : List (List Nat) := [[], [], [], [], [], [], [130], [], [], [], [], [], [130], [], [], [], [], [805, 661, 662, 74, 660, 0], [], [], [269], [], [], [], [269], [], [], [], [], [], [], [269], [], [], [269], [], [], [], [], [], [], [], [], [], [], [], [], []]
set_option maxRecDepth 100000 in
theorem bo_2 : bi_okM 2 bh_2 0 bc_2 = true := by decide +kernel
def bh_3 : List (List Nat) := [[], [], [130], [], [], [], [], [], [270], [], [], [], [], [271], [], [], [], [], [], [], [], [130], [], [], [], [815, 790, 791, 74, 789, 0], [], [], [], [], [], [], [], [], [], [], [], [], [], [], [], [], [270], [], [], [270], [], [], [], [], [], [], [], [], [], [], [], [], [], [], [], [], [], [], [], [], [271], [], [], [], [816, 23, 819, 79, 818, 0], [], [], [], [], [130], [], [271], [], [], [], []]
set_option maxRecDepth 100000 in
theorem bo_3 : bi_okM 3 bh_3 0 bc_3 = true := by decide +kernel
def bh_4 : List (List Nat) := [[], [], [], [], [], [], [], [], [], [820, 0, 430, 72, 429, 1], [], [], [], [271], [], [], [], [], [], [], [806, 558, 88, 559], [], [], [], [], [270], [], [], [], [], [], [], [], [], []]
set_option maxRecDepth 100000 in
theorem bo_4 : bi_okM 4 bh_4 0 bc_4 = true := by decide +kernel
def bh_5 : List (List Nat) := [[], [284, 95, 96], [], [], [120], [285], [], [], [120], [286], []]
set_option maxRecDepth 100000 in
theorem bo_5 : bi_okM 5 bh_5 0 bc_5 = true := by decide +kernel
def bh_6 : List (List Nat) := [[], [287], [], [], [], [], [], [285], [], [287], [], [], [], [286], [], [287], [], [], [], [], [287], [], [], [287], [], []]
set_option maxRecDepth 100000 in
theorem bo_6 : bi_okM 6 bh_6 0 bc_6 = true := by decide +kernel
def bh_7 : List (List Nat) := [[], [224], [], [914, 566, 567, 74, 565, 0], [], [285], [], [], [], [], [], [915, 548, 549, 76, 547, 0], [], [286], [], [], [], [], [], [], []]
set_option maxRecDepth 100000 in
theorem bo_7 : bi_okM 7 bh_7 0 bc_7 = true := by decide +kernel
def bh_8 : List (List Nat) := [[], [], [], [], [], [], [224], [132], [], [], [], [], [], [], [910, 30, 913, 80, 912, 0], [], [], [], [], [], [], [], [], [], []]
set_option maxRecDepth 100000 in
theorem bo_8 : bi_okM 8 bh_8 0 bc_8 = true := by decide +kernel
def bh_9 : List (List Nat) := [[], [], [], [], [], [], [], [], [], [285], [], [], [], [285], [], [], [], [], [286], [], [], [], [286], [], [], [], [], [], [], [], [], [], [], [], []]
set_option maxRecDepth 100000 in
theorem bo_9 : bi_okM 9 bh_9 0 bc_9 = true := by decide +kernel
def bh_10 : List (List Nat) := [[], [], [], [], [], [], [287], [], [], [], [], [], [], [906, 29, 909, 80, 908, 0], [], [], [916, 31, 919, 80, 918, 0], [], [920, 558, 88, 559], [], [], [], [], [], []]
set_option maxRecDepth 100000 in
theorem bo_10 : bi_okM 10 bh_10 0 bc_10 = true := by decide +kernel
def bh_11 : List (List Nat) := [[], [], [], [906, 29, 909, 80, 908, 0], [], [], [], [], [], [], [], [], [224], [132], [], [], [], [], [], [910, 30, 913, 80, 912, 0], [], [], [], [], [], [], []]
set_option maxRecDepth 100000 in
theorem bo_11 : bi_okM 11 bh_11 0 bc_11 = true := by decide +kernel
def bh_12 : List (List Nat) := [[], [219, 95, 96], [], [], [120], [222], [], [220, 122, 74], [], [221, 0, 125, 74, 124, 1], [223], []]
set_option maxRecDepth 100000 in
theorem bo_12 : bi_okM 12 bh_12 0 bc_12 = true := by decide +kernel
def bh_13 : List (List Nat) := [[], [223], [], [520, 499, 500, 74, 498, 0], [], [521, 523, 524, 76, 522, 0], []]
set_option maxRecDepth 100000 in
theorem bo_13 : bi_okM 13 bh_13 0 bc_13 = true := by decide +kernel
def bh_14 : List (List Nat) := [[], [], [], [], [223], [131], [], [], [222], [], [], [223], [], [525, 527, 528, 74, 526, 0], [], [], [], []]
set_option maxRecDepth 100000 in
theorem bo_14 : bi_okM 14 bh_14 0 bc_14 = true := by decide +kernel
def bh_15 : List (List Nat) := [[], [], [222], [], [], [], [], [], [222], [], [], [], [], [], [], [], [], [], []]
set_option maxRecDepth 100000 in
theorem bo_15 : bi_okM 15 bh_15 0 bc_15 = true := by decide +kernel
def bh_16 : List (List Nat) := [[], [], [], [], [], [], [223], [131], [], [], [], [], [], [], [], [], [], [222], [], [], [542, 544, 545, 76, 543, 0], [], [], [], [], [], [], [], [], [], []]
set_option maxRecDepth 100000 in
theorem bo_16 : bi_okM 16 bh_16 0 bc_16 = true := by decide +kernel
def bh_17 : List (List Nat) := [[], [223], [135], [], [], [], [], [], [223], [131], [], [], [], [], [], [], [], [], [542, 544, 545, 76, 543, 0], [], [], [], [223], [151], [], [], [], [], [], [], [], [], [], [223], [151], [], [], [554, 555, 88, 556], [557, 558, 88, 559], []]
set_option maxRecDepth 100000 in
theorem bo_17 : bi_okM 17 bh_17 0 bc_17 = true := by decide +kernel
def bh_18 : List (List Nat) := [[], [], [], [222], [], [], [550, 552, 553, 76, 551, 0], []]
set_option maxRecDepth 100000 in
theorem bo_18 : bi_okM 18 bh_18 0 bc_18 = true := by decide +kernel
def bh_19 : List (List Nat) := [[], [], [], [], [], [], [223], [131], [], [], [], [], [874, 548, 549, 76, 547, 0], [], [223], [151], [], [], [], [], [], [], [], [], [], [], [], []]
set_option maxRecDepth 100000 in
theorem bo_19 : bi_okM 19 bh_19 0 bc_19 = true := by decide +kernel
def bh_20 : List (List Nat) := [[], [223], [], [], [884, 685, 686, 74, 684, 0], [], [521, 523, 524, 76, 522, 0], [], [885, 872, 873, 76, 871, 0], [], [], [223], [], [], [884, 685, 686, 74, 684, 0], [], [521, 523, 524, 76, 522, 0], [], []]
set_option maxRecDepth 100000 in
theorem bo_20 : bi_okM 20 bh_20 0 bc_20 = true := by decide +kernel
def bh_21 : List (List Nat) := [[], [222], [], [], [716], [], [], [223], [], [717, 719, 720, 74, 718, 0], [], []]
set_option maxRecDepth 100000 in
theorem bo_21 : bi_okM 21 bh_21 0 bc_21 = true := by decide +kernel
def bh_22 : List (List Nat) := [[], [], [], [], [], [712, 714, 715, 76, 713, 0], [550, 552, 553, 76, 551, 0], [], [], [], [223], [], [722, 566, 567, 74, 565, 0], [], [], [], [], [], [223], [143], [], []]
set_option maxRecDepth 100000 in
theorem bo_22 : bi_okM 22 bh_22 0 bc_22 = true := by decide +kernel
def bh_23 : List (List Nat) := [[], [223], [164], [], [], [], [], [], [], [708, 710, 711, 76, 709, 0], [], [], [], [], [], [], [], [223], [164], [], [], [], [], [], [], [708, 710, 711, 76, 709, 0], [], [], [], [], [], [], [], [], [], [], [], []]
set_option maxRecDepth 100000 in
theorem bo_23 : bi_okM 23 bh_23 0 bc_23 = true := by decide +kernel
def bh_24 : List (List Nat) := [[], [], [], [], [], [], [223], [131], [], [], [223], [], [732, 531, 532, 74, 530, 0], [], [], [], [733, 706, 707, 76, 705, 0], [], [], [], [], [], [223], [], [722, 566, 567, 74, 565, 0], [], [], [], [], [], [], [223], [], [], [734, 736, 737, 74, 735, 0], [], [222], [], [], [], [], [712, 714, 715, 76, 713, 0], [], [], [], [], []]
set_option maxRecDepth 100000 in
theorem bo_24 : bi_okM 24 bh_24 0 bc_24 = true := by decide +kernel
def bh_25 : List (List Nat) := [[], [236, 95, 96], [], [], [120], [237], [], [], [120], [238], []]
set_option maxRecDepth 100000 in
theorem bo_25 : bi_okM 25 bh_25 0 bc_25 = true := by decide +kernel
def bh_26 : List (List Nat) := [[], [], [], [], [129], [], [], [237], [], [], [], [], [], [], [], [129], [], [], [237], [], [], [], [], [], [], [], [], [], [], [758, 637, 638, 74, 636, 0], [], [], [], [], [], [], [], [], [], [], [], [], [], [], [129], [], [], [], [], [], [238], [], [], [], [], [], [], [], [], [], [], [], [], [238], [], [], [], [759, 20, 762, 77, 761, 0], [], [], [], [], [238], [], [], []]
set_option maxRecDepth 100000 in
theorem bo_26 : bi_okM 26 bh_26 0 bc_26 = true := by decide +kernel
def bh_27 : List (List Nat) := [[], [763, 0, 765, 77, 764, 0], [], [], [], [], [], [], [], [], [238], [], [], [], [], [], [], [], [], [], [], [], [], [237], [], [], [], [], [766, 0, 430, 72, 429, 1], [], [], [], [], [238], [], [], [], [], [], [], [], [767, 558, 88, 559], [], [], [], [], []]
set_option maxRecDepth 100000 in
theorem bo_27 : bi_okM 27 bh_27 0 bc_27 = true := by decide +kernel
def bh_28 : List (List Nat) := [[], [], [], [], [], [], [], [766, 0, 430, 72, 429, 1], [], [], [], [], []]
set_option maxRecDepth 100000 in
theorem bo_28 : bi_okM 28 bh_28 0 bc_28 = true := by decide +kernel
def bh_29 : List (List Nat) := [[], [], [], [], [], [], [], [], [], [], [], [], [], [], [763, 0, 765, 77, 764, 0], [], [], [], [], [772, 21, 775, 77, 774, 0], [], [], [], [], [], [], [], [], [], [], [], [], [], [], [], [], [], [], [], [], [], [], [], [], [], [], [], [], [], []]
set_option maxRecDepth 100000 in
theorem bo_29 : bi_okM 29 bh_29 0 bc_29 = true := by decide +kernel
def bh_30 : List (List Nat) := [[], [], [], [], [], [], [], [], [], [], [], [], [], [], [], [237], [], [], [], [], [766, 0, 430, 72, 429, 1], [], [], [], [238], [], [], [], [], [], [], [], [], [238], [], [], [], [], [], [], [], [], []]
set_option maxRecDepth 100000 in
theorem bo_30 : bi_okM 30 bh_30 0 bc_30 = true := by decide +kernel
def bh_31 : List (List Nat) := [[], [202, 95, 96], [], [], [], [], [], [], [], [203], [206], [], [], [], [], [206], [], [], [], [206], [], [203, 122, 74], [], [205, 0, 125, 74, 124, 1], [], [], [], []]
set_option maxRecDepth 100000 in
theorem bo_31 : bi_okM 31 bh_31 0 bc_31 = true := by decide +kernel
def bh_32 : List (List Nat) := [[], [207], [], [206], [], [], [], [], [], []]
set_option maxRecDepth 100000 in
theorem bo_32 : bi_okM 32 bh_32 0 bc_32 = true := by decide +kernel
def bh_33 : List (List Nat) := [[], [617, 619, 620, 75, 618, 0], [], [], [621, 17, 624, 75, 623, 0], [], [206], [], [207], [], [], [625, 499, 500, 74, 498, 0], [], [], [207], [], [], [207], []]
set_option maxRecDepth 100000 in
theorem bo_33 : bi_okM 33 bh_33 0 bc_33 = true := by decide +kernel
def bh_34 : List (List Nat) := [[], [207], [], [], [], [], [], [207], [], [], [207], [], [], [206], [], [207], [], [625, 499, 500, 74, 498, 0], [], []]
set_option maxRecDepth 100000 in
theorem bo_34 : bi_okM 34 bh_34 0 bc_34 = true := by decide +kernel
def bh_35 : List (List Nat) := [[], [206], [], [], [], [], [], [], [], [206], [], [], [], [206], [], [], [], [], [206], [], [], [], [], [], [], [206], [], [206], [], [], [], [], [], [], [], [206], [], [], [], [207], []]
set_option maxRecDepth 100000 in
theorem bo_35 : bi_okM 35 bh_35 0 bc_35 = true := by decide +kernel
def bh_36 : List (List Nat) := [[], [102, 95, 96], [], [], [120], [103], [], [], [120], [104], []]
set_option maxRecDepth 100000 in
theorem bo_36 : bi_okM 36 bh_36 0 bc_36 = true := by decide +kernel
def bh_37 : List (List Nat) := [[], [106], [], [], [], [], [], [103], [], [106], [], [], [], [], [106], [], [], [106], [], []]
set_option maxRecDepth 100000 in
theorem bo_37 : bi_okM 37 bh_37 0 bc_37 = true := by decide +kernel
def bh_38 : List (List Nat) := [[], [353, 355, 356, 74, 354, 0], [], [], [107], [], [], [108], [], [], [], [], [], [], [107], [], [106], [], [], [107], [], [], [], [358, 0, 361, 73, 360, 0], [], [], [], [], [], [], []]
set_option maxRecDepth 100000 in
theorem bo_38 : bi_okM 38 bh_38 0 bc_38 = true := by decide +kernel
def bh_39 : List (List Nat) := [[], [362, 1, 365, 73, 364, 0], [], [], [], [107], [], [], [107], [], [], [], [], [366, 2, 369, 73, 368, 0], [], [], [], [394, 7, 397, 73, 396, 0], [], [], [], [398, 8, 401, 73, 400, 0], [], [], [], [402, 9, 405, 73, 404, 0], [], [], [], [406, 10, 409, 73, 408, 0], [], [], [], [431, 12, 434, 73, 433, 0], [], [], [], [435, 13, 438, 73, 437, 0], [], [], []]
set_option maxRecDepth 100000 in
theorem bo_39 : bi_okM 39 bh_39 0 bc_39 = true := by decide +kernel
def bh_40 : List (List Nat) := [[], [370, 3, 373, 73, 372, 0], [], [], [], [374, 4, 377, 73, 376, 0], [], [], [], [], [], [378, 5, 381, 73, 380, 0], [], [], [], [], [], [], [374, 4, 377, 73, 376, 0], [], [], [], [], [], [378, 5, 381, 73, 380, 0], [], [], [], [], [], [], [374, 4, 377, 73, 376, 0], [], [], [], [104], [], [], [], [386, 388, 389, 74, 387, 0], [], [], [], [], []]
set_option maxRecDepth 100000 in
theorem bo_40 : bi_okM 40 bh_40 0 bc_40 = true := by decide +kernel
def bh_41 : List (List Nat) := [[], [], [378, 5, 381, 73, 380, 0], [], [], [], [136], [], [], [], [], [], [374, 4, 377, 73, 376, 0], [], [], [], [], []]
set_option maxRecDepth 100000 in
theorem bo_41 : bi_okM 41 bh_41 0 bc_41 = true := by decide +kernel
def bh_42 : List (List Nat) := [[], [], [378, 5, 381, 73, 380, 0], [], [], [], [139], [], [], [], [], [], [374, 4, 377, 73, 376, 0], [], [], [], [], []]
set_option maxRecDepth 100000 in
theorem bo_42 : bi_okM 42 bh_42 0 bc_42 = true := by decide +kernel
def bh_43 : List (List Nat) := [[], [], [378, 5, 381, 73, 380, 0], [], [], [], [142], [], [], [], [], [], [374, 4, 377, 73, 376, 0], [], [], [], [], []]
set_option maxRecDepth 100000 in
theorem bo_43 : bi_okM 43 bh_43 0 bc_43 = true := by decide +kernel
def bh_44 : List (List Nat) := [[], [370, 3, 373, 73, 372, 0], [], [], [], [], [], [410, 11, 413, 73, 412, 0], [414, 0, 416, 85, 415, 0], [], [], [], [], [374, 4, 377, 73, 376, 0], [], [], [], [], [], [104], [], [420, 422, 423, 74, 421, 0], [], []]
set_option maxRecDepth 100000 in
theorem bo_44 : bi_okM 44 bh_44 0 bc_44 = true := by decide +kernel
def bh_45 : List (List Nat) := [[], [370, 3, 373, 73, 372, 0], [], [], [], [], [410, 11, 413, 73, 412, 0], [146], [], [], [], [], [374, 4, 377, 73, 376, 0], [], [], [], [], []]
set_option maxRecDepth 100000 in
theorem bo_45 : bi_okM 45 bh_45 0 bc_45 = true := by decide +kernel
def bh_46 : List (List Nat) := [[], [370, 3, 373, 73, 372, 0], [], [], [], [], [], [108], [], [], [], [], [374, 4, 377, 73, 376, 0], [], [], [], [], [], [108], [], [], [108], [], [], [104], [], [], [], [104], [], [], [439, 441, 442, 74, 440, 0], [], []]
set_option maxRecDepth 100000 in
theorem bo_46 : bi_okM 46 bh_46 0 bc_46 = true := by decide +kernel
def bh_47 : List (List Nat) := [[], [107], [], [106], [], [], [103], [], [107], [], [], [], []]
set_option maxRecDepth 100000 in
theorem bo_47 : bi_okM 47 bh_47 0 bc_47 = true := by decide +kernel
def bh_48 : List (List Nat) := [[], [362, 1, 365, 73, 364, 0], [], [], [], [], [], [], [107], [], [], [107], [], []]
set_option maxRecDepth 100000 in
theorem bo_48 : bi_okM 48 bh_48 0 bc_48 = true := by decide +kernel
def bh_49 : List (List Nat) := [[], [], [], [], [], [], [362, 1, 365, 73, 364, 0], [], [], [], [362, 1, 365, 73, 364, 0], [], [], [], [104], [], [], [362, 1, 365, 73, 364, 0], [], [], [], [], [], [], [107], [], [], [107], [], [], []]
set_option maxRecDepth 100000 in
theorem bo_49 : bi_okM 49 bh_49 0 bc_49 = true := by decide +kernel
def bh_50 : List (List Nat) := [[], [], [], [], [], [], [], [], [], [], [104], [], [], [], [], [], [], [], [], []]
set_option maxRecDepth 100000 in
theorem bo_50 : bi_okM 50 bh_50 0 bc_50 = true := by decide +kernel
def bh_51 : List (List Nat) := [[], [382, 6, 385, 73, 384, 0], [], [], [], [], [362, 1, 365, 73, 364, 0], [], [], [], [], [], [107], [], [], [107], [], [382, 6, 385, 73, 384, 0], [], [], [], [], [], [362, 1, 365, 73, 364, 0], [], [], [], [], [], [], [107], [], [], [107], [], [], [], [], [], [], []]
set_option maxRecDepth 100000 in
theorem bo_51 : bi_okM 51 bh_51 0 bc_51 = true := by decide +kernel
def bh_52 : List (List Nat) := [[], [362, 1, 365, 73, 364, 0], [], [], [], [362, 1, 365, 73, 364, 0], [], [], [], [], [], []]
set_option maxRecDepth 100000 in
theorem bo_52 : bi_okM 52 bh_52 0 bc_52 = true := by decide +kernel
def bh_53 : List (List Nat) := [[], [249, 95, 96], [], [], [120], [250], [], [], [120], [251], [], [], [120], [252], []]
set_option maxRecDepth 100000 in
theorem bo_53 : bi_okM 53 bh_53 0 bc_53 = true := by decide +kernel
def bh_54 : List (List Nat) := [[], [], [128], [253], [], [], [], [], [253], [], [], [252], [], [], [], [], [], [], [], [253], [], [], [252], [], [], [], [], [], [], [], [], [], [829, 831, 832, 74, 830, 0], [], [], [], [], [], [], [], [], [], [], [], [], [], [], [253], [], [], [], [], [], [], [], [], [253], [], [], [250], [], [], [], [], [], [], [], [833, 24, 836, 78, 835, 0], [], [], [251], [], [], [], [], [], [], [], [], [], [], [], [], [], [], [], [], [], [], [], [253], [], [], [], [841, 0, 430, 72, 429, 1], [], [], [], [], [842, 26, 845, 78, 844, 0], [], [], [], [], []]
set_option maxRecDepth 100000 in
theorem bo_54 : bi_okM 54 bh_54 0 bc_54 = true := by decide +kernel
def bh_55 : List (List Nat) := [[], [252], [], [], [], [841, 0, 430, 72, 429, 1], [], [], [], [], []]
set_option maxRecDepth 100000 in
theorem bo_55 : bi_okM 55 bh_55 0 bc_55 = true := by decide +kernel
def bh_56 : List (List Nat) := [[], [253], [], [], [], [], [], [837, 25, 840, 78, 839, 0], [], [], []]
set_option maxRecDepth 100000 in
theorem bo_56 : bi_okM 56 bh_56 0 bc_56 = true := by decide +kernel
def bh_57 : List (List Nat) := [[], [], [], [837, 25, 840, 78, 839, 0], [], [250], [], [], [], [], [], [], [], [], [], [], [], []]
set_option maxRecDepth 100000 in
theorem bo_57 : bi_okM 57 bh_57 0 bc_57 = true := by decide +kernel
def bh_58 : List (List Nat) := [[], [], [], [], [], [], [], [], [253], [], [], [], [841, 0, 430, 72, 429, 1], [], [], [], [], [], [846, 27, 849, 78, 848, 0], [], [], [], [], [], [], [], [], [], [], [], [], [], [251], [], [], [], [], [], [], [], [], [], [], [], [], [], [], [], [250], [], [], [], [], [], [], [], [], [251], [], [], [], [], [], [], [], []]
set_option maxRecDepth 100000 in
theorem bo_58 : bi_okM 58 bh_58 0 bc_58 = true := by decide +kernel
def bh_59 : List (List Nat) := [[], [250], [], [], []]
set_option maxRecDepth 100000 in
theorem bo_59 : bi_okM 59 bh_59 0 bc_59 = true := by decide +kernel
def bh_60 : List (List Nat) := [[], [251], [], [], []]
set_option maxRecDepth 100000 in
theorem bo_60 : bi_okM 60 bh_60 0 bc_60 = true := by decide +kernel
def bh_61 : List (List Nat) := [[], [], [], [], [], [], [], [], [], [], [], [], [], [], [], [862, 28, 865, 78, 864, 0], [], [], [], [], [], [], [], [], [], [], []]
set_option maxRecDepth 100000 in
theorem bo_61 : bi_okM 61 bh_61 0 bc_61 = true := by decide +kernel
def bh_62 : List (List Nat) := [[], [], [], [], [253], [], [], [], [841, 0, 430, 72, 429, 1], [], [], [], [], [], [846, 27, 849, 78, 848, 0], [], [250], [], [], [], [], [], [], [], [], [], [], [], [], []]
set_option maxRecDepth 100000 in
theorem bo_62 : bi_okM 62 bh_62 0 bc_62 = true := by decide +kernel
def bh_63 : List (List Nat) := [[], [126, 95, 96], [], [], [120], [147], [], [], [120], [149], [], [], [120], [150], [], [], [120], [153], [], [], [120], [155], [], [], [120], [157], [], [], [120], [159], [], [], [120], [160], [], [], [120], [162], [], [], [120], [165], []]
set_option maxRecDepth 100000 in
theorem bo_63 : bi_okM 63 bh_63 0 bc_63 = true := by decide +kernel
def bh_64 : List (List Nat) := [[], [], [127], [], [], [134], [], [], [138], [], [], [141], [], [357], [145], [], [], [], [], [], [], [155], [], [], [], [], [157], [], [], [], [], [], [], [], [], [], [], [], [159], [], [], [], [], [], [], [], [], [], [], [], [165], [], [], [], [], [160], [], [], [], [], [162], [], [], [], [], [], []]
set_option maxRecDepth 100000 in
theorem bo_64 : bi_okM 64 bh_64 0 bc_64 = true := by decide +kernel
def bh_65 : List (List Nat) := [[], [], [127], [127], [], [], [134], [134], [], [], [138], [138], [], [], [141], [141], [], [], [145], [145], [], [147], [], [], [147], [], [], [501, 503, 502, 87], [], [149], [], [], [149], [], [], [501, 503, 502, 87], [], [150], [], [], [150], [], [], [501, 503, 502, 87], [], [153], [], [], [153], [], [], [501, 503, 502, 87], [], [155], [], [], [155], [], [], [501, 503, 502, 87], [], [157], [], [], [157], [], [], [501, 503, 502, 87], [], [159], [], [], [159], [], [], [501, 503, 502, 87], [], [160], [], [], [160], [], [], [501, 503, 502, 87], [], [162], [], [], [162], [], [], [501, 503, 502, 87], [], [165], [], [], [165], [], [], [501, 503, 502, 87], []]
set_option maxRecDepth 100000 in
theorem bo_65 : bi_okM 65 bh_65 0 bc_65 = true := by decide +kernel
def bh_66 : List (List Nat) := [[], [127], [], [], [], [], [], [], [127], [], [], [390, 392, 393, 74, 391, 0], [], [150], [], [127], [], [], [], [153], [], [127], [], [], [], [], [127], [], [], [127], [], []]
set_option maxRecDepth 100000 in
theorem bo_66 : bi_okM 66 bh_66 0 bc_66 = true := by decide +kernel
def bh_67 : List (List Nat) := [[], [147], [], [], [], [], [], [], [], [], [], [], [], [], [149], [], [], [], [], [], [], [], [], [], [], [], []]
set_option maxRecDepth 100000 in
theorem bo_67 : bi_okM 67 bh_67 0 bc_67 = true := by decide +kernel
def bh_68 : List (List Nat) := [[], [], [], [], [], [], [], [], [], [], [], [], [424, 426, 427, 74, 425, 0], [], [], [], [], [], [], [], [], [], [], [], [], [], [], [], [], [], [], [], [], [], [], [428, 0, 430, 72, 429, 1], [], [], [], [], [424, 426, 427, 74, 425, 0], [], [], [], []]
set_option maxRecDepth 100000 in
theorem bo_68 : bi_okM 68 bh_68 0 bc_68 = true := by decide +kernel
def bh_69 : List (List Nat) := [[], [160], [], [], [], [], [162], [], [], [], []]
set_option maxRecDepth 100000 in
theorem bo_69 : bi_okM 69 bh_69 0 bc_69 = true := by decide +kernel
def bh_70 : List (List Nat) := [[], [160], [], [], [], [], [], [], [160], [], [], [424, 426, 427, 74, 425, 0], [], [], [], [424, 426, 427, 74, 425, 0], []]
set_option maxRecDepth 100000 in
theorem bo_70 : bi_okM 70 bh_70 0 bc_70 = true := by decide +kernel
def bh_71 : List (List Nat) := [[], [165], [], [], [], [], [], [], [], [], [], [165], [], [], [], [], [], [], [], [], []]
set_option maxRecDepth 100000 in
theorem bo_71 : bi_okM 71 bh_71 0 bc_71 = true := by decide +kernel
def bh_72 : List (List Nat) := [[], [165], [], [], [], [428, 0, 430, 72, 429, 1], []]
set_option maxRecDepth 100000 in
theorem bo_72 : bi_okM 72 bh_72 0 bc_72 = true := by decide +kernel
def bh_73 : List (List Nat) := [[], [145], [], [428, 0, 430, 72, 429, 1], []]
set_option maxRecDepth 100000 in
theorem bo_73 : bi_okM 73 bh_73 0 bc_73 = true := by decide +kernel
def bh_74 : List (List Nat) := [[], [147], [], [], [], [], [], [], []]
set_option maxRecDepth 100000 in
theorem bo_74 : bi_okM 74 bh_74 0 bc_74 = true := by decide +kernel
def bh_75 : List (List Nat) := [[], [], [147], [], [], [], [], [], [], [], [149], [], [], [], [], [], [], [], [], []]
set_option maxRecDepth 100000 in
theorem bo_75 : bi_okM 75 bh_75 0 bc_75 = true := by decide +kernel
def bh_76 : List (List Nat) := [[], [], [], [534, 536, 537, 74, 535, 0], []]
set_option maxRecDepth 100000 in
theorem bo_76 : bi_okM 76 bh_76 0 bc_76 = true := by decide +kernel
def bh_77 : List (List Nat) := [[], [], [529, 531, 532, 74, 530, 0], [], [], [149], [], [], [], [], [], []]
set_option maxRecDepth 100000 in
theorem bo_77 : bi_okM 77 bh_77 0 bc_77 = true := by decide +kernel
def bh_78 : List (List Nat) := [[], [], [], [], [], [], [127], [], [], [], [], [529, 531, 532, 74, 530, 0], [], [], [], [], [], [], [564, 566, 567, 74, 565, 0], [], [], [], [], [], [], []]
set_option maxRecDepth 100000 in
theorem bo_78 : bi_okM 78 bh_78 0 bc_78 = true := by decide +kernel
def bh_79 : List (List Nat) := [[], [], [529, 531, 532, 74, 530, 0], [], [533], [], [], [], [], [], [], [], [], [], [], [], [534, 536, 537, 74, 535, 0], [], [], [], [], [], [], [], [], [], [], [160], [], [], [], [], [], [], [], [], [], []]
set_option maxRecDepth 100000 in
theorem bo_79 : bi_okM 79 bh_79 0 bc_79 = true := by decide +kernel
def bh_80 : List (List Nat) := [[], [160], [], [], [], [], [721], [], []]
set_option maxRecDepth 100000 in
theorem bo_80 : bi_okM 80 bh_80 0 bc_80 = true := by decide +kernel
def bh_81 : List (List Nat) := [[], [], [529, 531, 532, 74, 530, 0], [], [], [], [], [564, 566, 567, 74, 565, 0], [568, 570, 571, 74, 569, 0], [], [], [], [], []]
set_option maxRecDepth 100000 in
theorem bo_81 : bi_okM 81 bh_81 0 bc_81 = true := by decide +kernel
def bh_82 : List (List Nat) := [[], [], [], [], [], [], [127], [], [], [], [], [947, 562, 563, 74, 561, 0], [], [], [], [], [], [], [], [], [], []]
set_option maxRecDepth 100000 in
theorem bo_82 : bi_okM 82 bh_82 0 bc_82 = true := by decide +kernel
def bh_83 : List (List Nat) := [[], [], [], [], [], [], [], [], [], [160], [], [], [], [160], [], [], [], [643, 644, 88, 645], [], [], [], [], [], [646, 591, 592, 74, 590, 0], [], [], [], [], []]
set_option maxRecDepth 100000 in
theorem bo_83 : bi_okM 83 bh_83 0 bc_83 = true := by decide +kernel
def bh_84 : List (List Nat) := [[], [155], [], [], [], [], [], [155], [], [], [], [], [], [], [], [564, 566, 567, 74, 565, 0], [], [], [564, 566, 567, 74, 565, 0], [], [639, 641, 642, 74, 640, 0], [], [], [], [], []]
set_option maxRecDepth 100000 in
theorem bo_84 : bi_okM 84 bh_84 0 bc_84 = true := by decide +kernel
def bh_85 : List (List Nat) := [[], [], [], [], [], [], [127], [], [], [], [155], [], [], [], [], [], [], [], [], [], [], [], [], []]
set_option maxRecDepth 100000 in
theorem bo_85 : bi_okM 85 bh_85 0 bc_85 = true := by decide +kernel
def bh_86 : List (List Nat) := [[], [], [529, 531, 532, 74, 530, 0], [], [], [], [529, 531, 532, 74, 530, 0], [], [], [160], [], [], [564, 566, 567, 74, 565, 0], [], [], [160], [], [], [564, 566, 567, 74, 565, 0], [], [], [], [], [], []]
set_option maxRecDepth 100000 in
theorem bo_86 : bi_okM 86 bh_86 0 bc_86 = true := by decide +kernel
def bh_87 : List (List Nat) := [[], [153], [], [], [], [], [], [], [], [153], [], [], [], [], [], [], []]
set_option maxRecDepth 100000 in
theorem bo_87 : bi_okM 87 bh_87 0 bc_87 = true := by decide +kernel
def bh_88 : List (List Nat) := [[], [159], [], [], [], [], [], [], []]
set_option maxRecDepth 100000 in
theorem bo_88 : bi_okM 88 bh_88 0 bc_88 = true := by decide +kernel
def bh_89 : List (List Nat) := [[], [159], [], [], [], [], [], [], [], []]
set_option maxRecDepth 100000 in
theorem bo_89 : bi_okM 89 bh_89 0 bc_89 = true := by decide +kernel
def bh_90 : List (List Nat) := [[], [], [], [], [], [], [127], [], [], [], [], [], [792, 661, 662, 74, 660, 0], [], [], [], [792, 661, 662, 74, 660, 0], [], [], [], [], [], [], []]
set_option maxRecDepth 100000 in
theorem bo_90 : bi_okM 90 bh_90 0 bc_90 = true := by decide +kernel
def bh_91 : List (List Nat) := [[], [], [529, 531, 532, 74, 530, 0], [], [], [], [529, 531, 532, 74, 530, 0], [], [], [], [], [564, 566, 567, 74, 565, 0], [], [], [564, 566, 567, 74, 565, 0], [646, 591, 592, 74, 590, 0], [], [], [], [], []]
set_option maxRecDepth 100000 in
theorem bo_91 : bi_okM 91 bh_91 0 bc_91 = true := by decide +kernel
def bh_92 : List (List Nat) := [[], [], [], [], [127], [], [937], [], [], [], [938], [], [], [], [], [], [], [], [], [], [], [], [], [939], [], [940], [], [], [941, 736, 737, 74, 735, 0], [], [], []]
set_option maxRecDepth 100000 in
theorem bo_92 : bi_okM 92 bh_92 0 bc_92 = true := by decide +kernel
def bh_93 : List (List Nat) := [[], [94, 95, 96], [], [97, 98, 73], [], [99, 0, 101, 73, 100, 1], [443], [], [121, 122, 74], [], [123, 0, 125, 74, 124, 1], [444], [], [121, 122, 74], [], [123, 0, 125, 74, 124, 1], [445], [], [197, 198, 75], [], [], [199, 0, 201, 75, 200, 0], [446], [], [197, 198, 75], [], [], [199, 0, 201, 75, 200, 0], [447], [], [214, 215, 76], [], [216, 0, 218, 76, 217, 1], [448], [], [231, 232, 77], [], [233, 0, 235, 77, 234, 1], [449], [], [244, 245, 78], [], [246, 0, 248, 78, 247, 1], [450], [], [263, 264, 79], [], [265, 0, 267, 79, 266, 1], [451], [], [279, 280, 80], [], [281, 0, 283, 80, 282, 1], [452], [], [], [120], [453], [], [], [], [], [297, 299, 300, 81, 298, 0], [], [], [443], [], [], [307, 309, 310, 81, 308, 0], [345, 347, 348, 73, 346, 0], [], [], [], [], [443], [], [444], [349, 351, 352, 73, 350, 0], [], [], [443], [], [105], []]
set_option maxRecDepth 100000 in
theorem bo_93 : bi_okM 93 bh_93 0 bc_93 = true := by decide +kernel
def bh_94 : List (List Nat) := [[], [], [], [], [], [], [], [], [], [443], [], [345, 347, 348, 73, 346, 0], [], [], [443], [105], [], [], []]
set_option maxRecDepth 100000 in
theorem bo_94 : bi_okM 94 bh_94 0 bc_94 = true := by decide +kernel
def bh_95 : List (List Nat) := [[], [443], [105], [], [], [443], [], [105], [], []]
set_option maxRecDepth 100000 in
theorem bo_95 : bi_okM 95 bh_95 0 bc_95 = true := by decide +kernel
def bh_96 : List (List Nat) := [[], [443], [], [445], [349, 351, 352, 73, 350, 0], []]
set_option maxRecDepth 100000 in
theorem bo_96 : bi_okM 96 bh_96 0 bc_96 = true := by decide +kernel
def bh_97 : List (List Nat) := [[], [443], [], [445], [349, 351, 352, 73, 350, 0], [], [], [], [445], [133], [], [], [], [], [444], [], [445], [497, 499, 500, 74, 498, 0], [], [], [454], [], [452], [], [288], [], [446], [], [208], [], [447], [], [208], [], [444], [133], []]
set_option maxRecDepth 100000 in
theorem bo_97 : bi_okM 97 bh_97 0 bc_97 = true := by decide +kernel
def bh_98 : List (List Nat) := [[], [], [508, 14, 511, 72, 510, 0], [], [], [], [], [], [], [444], [148], [], [], [], [], [444], [152], [], [], [], [], [444], [154], [], [], [], [], [444], [156], [], [], [], [], [444], [158], [], [], [], [], [512, 15, 515, 72, 514, 0], [], [538, 540, 541, 76, 539, 0], [], [], [512, 15, 515, 72, 514, 0], [], [546, 548, 549, 76, 547, 0], [], [], [444], [], [560, 562, 563, 74, 561, 0], [], [], [], [], [], [], []]
set_option maxRecDepth 100000 in
theorem bo_98 : bi_okM 98 bh_98 0 bc_98 = true := by decide +kernel
def bh_99 : List (List Nat) := [[], [], [508, 14, 511, 72, 510, 0], [], [], [], [], [], [], [444], [], [], [576, 536, 537, 74, 535, 0], []]
set_option maxRecDepth 100000 in
theorem bo_99 : bi_okM 99 bh_99 0 bc_99 = true := by decide +kernel
def bh_100 : List (List Nat) := [[], [581, 0, 583, 72, 582, 0], [], [], [], [], [], [], [444], [161], [], [], [], [], [444], [163], [], [], [], [], [444], [], [584, 570, 571, 74, 569, 0], [], [], [], [], [], [], []]
set_option maxRecDepth 100000 in
theorem bo_100 : bi_okM 100 bh_100 0 bc_100 = true := by decide +kernel
def bh_101 : List (List Nat) := [[], [581, 0, 583, 72, 582, 0], [], [], [581, 0, 583, 72, 582, 0], [], [], [], [], [444], [], [], [589, 591, 592, 74, 590, 0], [], [], [], [], []]
set_option maxRecDepth 100000 in
theorem bo_101 : bi_okM 101 bh_101 0 bc_101 = true := by decide +kernel
def bh_102 : List (List Nat) := [[], [581, 0, 583, 72, 582, 0], [], [], [], [], [454], [], [], [], [], [], [453], [], [454], [], [], [], [], [454], [], [], [454], [], [454], []]
set_option maxRecDepth 100000 in
theorem bo_102 : bi_okM 102 bh_102 0 bc_102 = true := by decide +kernel
def bh_103 : List (List Nat) := [[], [454], [], [], [], [454], [], []]
set_option maxRecDepth 100000 in
theorem bo_103 : bi_okM 103 bh_103 0 bc_103 = true := by decide +kernel
def bh_104 : List (List Nat) := [[], [], [508, 14, 511, 72, 510, 0], [], [], [], [605, 16, 608, 72, 607, 0], [], [], []]
set_option maxRecDepth 100000 in
theorem bo_104 : bi_okM 104 bh_104 0 bc_104 = true := by decide +kernel
def bh_105 : List (List Nat) := [[], [], [508, 14, 511, 72, 510, 0], [], [], [], [], [], [605, 16, 608, 72, 607, 0], [], [], [444], [158], [], [], [], [], [], [444], [154], [], [], [], [], [], [], [], [446], [], [444], [613, 615, 616, 75, 614, 0], [], [444], [], [], [453], [], [454], [626, 392, 393, 74, 391, 0], [], [444], [158], [], [], [], [], [444], [154], [], [], [], [], [], [], [], [444], [154], [], [], []]
set_option maxRecDepth 100000 in
theorem bo_105 : bi_okM 105 bh_105 0 bc_105 = true := by decide +kernel
def bh_106 : List (List Nat) := [[], [], [], [631, 18, 634, 72, 633, 0], [], [], [], [], [444], [], [], [], [444], [140], [635, 637, 638, 74, 636, 0], [], [], [], [], []]
set_option maxRecDepth 100000 in
theorem bo_106 : bi_okM 106 bh_106 0 bc_106 = true := by decide +kernel
def bh_107 : List (List Nat) := [[], [], [], [631, 18, 634, 72, 633, 0], [], [], [], [], [444], [], [], [], [444], [140], [635, 637, 638, 74, 636, 0], [], [], [], [], [446], [], [444], [613, 615, 616, 75, 614, 0], [], [444], [156], [], [], [], [], [444], [156], [], [], [], [], [444], [651, 653, 654, 74, 652, 0], []]
set_option maxRecDepth 100000 in
theorem bo_107 : bi_okM 107 bh_107 0 bc_107 = true := by decide +kernel
def bh_108 : List (List Nat) := [[], [], [], [631, 18, 634, 72, 633, 0], [], [], [], [], [], [], [], [], [], [], [444], [], [], [659, 661, 662, 74, 660, 0], [], [], [], [], [444], [154], [], [], [], [], [], [], [], [], [444], [], [], [663, 665, 666, 74, 664, 0], [], [], [], [], [446], [], [444], [613, 615, 616, 75, 614, 0], [], [444], [], [], [], [667, 669, 670, 74, 668, 0], [], [444], [], [], [], [671, 673, 674, 74, 672, 0], [], []]
set_option maxRecDepth 100000 in
theorem bo_108 : bi_okM 108 bh_108 0 bc_108 = true := by decide +kernel
def bh_109 : List (List Nat) := [[], [], [], [631, 18, 634, 72, 633, 0], [], [], [], [], [], [], [], [], [], [], [444], [], [], [659, 661, 662, 74, 660, 0], [], [], [], [], [], [], [444], [154], [], [], [], [], [], [], [], [446], [], [444], [613, 615, 616, 75, 614, 0], [], [444], [], [], [], [667, 669, 670, 74, 668, 0], [], [444], [], [], [], [671, 673, 674, 74, 672, 0], [], []]
set_option maxRecDepth 100000 in
theorem bo_109 : bi_okM 109 bh_109 0 bc_109 = true := by decide +kernel
def bh_110 : List (List Nat) := [[], [581, 0, 583, 72, 582, 0], [], [], [581, 0, 583, 72, 582, 0], [], [], [], [], [], [], [], [446], [], [444], [613, 615, 616, 75, 614, 0], [], [444], [], [], [683, 685, 686, 74, 684, 0], [], [444], [161], [], [], []]
set_option maxRecDepth 100000 in
theorem bo_110 : bi_okM 110 bh_110 0 bc_110 = true := by decide +kernel
def bh_111 : List (List Nat) := [[], [446], [], [444], [613, 615, 616, 75, 614, 0], [], [], [], [], [], [], [444], [133], [], [], [], [444], [158], [], [], [], [], [], [444], [158], [], [], [], [], [], [], []]
set_option maxRecDepth 100000 in
theorem bo_111 : bi_okM 111 bh_111 0 bc_111 = true := by decide +kernel
def bh_112 : List (List Nat) := [[], [446], [], [444], [695, 697, 698, 75, 696, 0], [], [], [446], [208], [], [], []]
set_option maxRecDepth 100000 in
theorem bo_112 : bi_okM 112 bh_112 0 bc_112 = true := by decide +kernel
def bh_113 : List (List Nat) := [[], [], [508, 14, 511, 72, 510, 0], [], [], [], [], [], [], [], [], [], [444], [], [703, 531, 532, 74, 530, 0], [], [], [], [], [512, 15, 515, 72, 514, 0], [], [], [448], [], [704, 706, 707, 76, 705, 0], [], [], [], [], [], [], [448], [], [], [723, 710, 711, 76, 709, 0], [], [], []]
set_option maxRecDepth 100000 in
theorem bo_113 : bi_okM 113 bh_113 0 bc_113 = true := by decide +kernel
def bh_114 : List (List Nat) := [[], [], [], [], [], [508, 14, 511, 72, 510, 0], [], [], [], [], [], [], [], [444], [], [703, 531, 532, 74, 530, 0], [], [], [], [], [512, 15, 515, 72, 514, 0], [], [], [], [], [], [], [], [448], [728, 730, 731, 76, 729, 0], [], [], [], [], [], [], [], [448], [225], [], [738, 566, 567, 74, 565, 0], [], [], [], [], [], [448], [728, 730, 731, 76, 729, 0], [], [], [], [], []]
set_option maxRecDepth 100000 in
theorem bo_114 : bi_okM 114 bh_114 0 bc_114 = true := by decide +kernel
def bh_115 : List (List Nat) := [[], [], [508, 14, 511, 72, 510, 0], [], [], [], [508, 14, 511, 72, 510, 0], [], [], [], [508, 14, 511, 72, 510, 0], [], [], [], [], [], [], [], [], [], [], [], [], [], [], [], [], [], [], [], [], [], [], [], [], [], [743, 19, 746, 72, 745, 0], [], [], [], [], [], [], [], [], [], [], [], []]
set_option maxRecDepth 100000 in
theorem bo_115 : bi_okM 115 bh_115 0 bc_115 = true := by decide +kernel
def bh_116 : List (List Nat) := [[], [], [], [], [], [508, 14, 511, 72, 510, 0], [], [], [], [], [449], [], [444], [], [444], [140], [754, 756, 757, 77, 755, 0], [], [], [], [], [], [], [], [449], [], [], [444], [133], [768, 770, 771, 77, 769, 0], []]
set_option maxRecDepth 100000 in
theorem bo_116 : bi_okM 116 bh_116 0 bc_116 = true := by decide +kernel
def bh_117 : List (List Nat) := [[], [], [], [], [], [], [], [], [], [449], [], [444], [], [754, 756, 757, 77, 755, 0], [], [], [], [], [], [], [], [], [], [], [], [], [], [], [], [], [], [], [], [], [], [], [], [449], [], [444], [], [754, 756, 757, 77, 755, 0], [], [], [], [], [], [], [], [], [], [], [], [], []]
set_option maxRecDepth 100000 in
theorem bo_117 : bi_okM 117 bh_117 0 bc_117 = true := by decide +kernel
def bh_118 : List (List Nat) := [[], [], [508, 14, 511, 72, 510, 0], [], [], [], [508, 14, 511, 72, 510, 0], [], [], [444], [], [], [659, 661, 662, 74, 660, 0], [], [], []]
set_option maxRecDepth 100000 in
theorem bo_118 : bi_okM 118 bh_118 0 bc_118 = true := by decide +kernel
def bh_119 : List (List Nat) := [[], [], [508, 14, 511, 72, 510, 0], [], [], [444], [], [788, 790, 791, 74, 789, 0], [], [], [], [], []]
set_option maxRecDepth 100000 in
theorem bo_119 : bi_okM 119 bh_119 0 bc_119 = true := by decide +kernel
def bh_120 : List (List Nat) := [[], [451], [], [444], [797, 799, 800, 79, 798, 0], []]
set_option maxRecDepth 100000 in
theorem bo_120 : bi_okM 120 bh_120 0 bc_120 = true := by decide +kernel
def bh_121 : List (List Nat) := [[], [451], [], [444], [811, 813, 814, 79, 812, 0], []]
set_option maxRecDepth 100000 in
theorem bo_121 : bi_okM 121 bh_121 0 bc_121 = true := by decide +kernel
def bh_122 : List (List Nat) := [[], [], [], [], [], [444], [133], [], [], [], [], [450], [], [444], [825, 827, 828, 78, 826, 0], [], [], [], [], [450], [850, 852, 853, 78, 851, 0], [], [], [], [], [], [450], [854, 856, 857, 78, 855, 0], [], [], [450], [], [858, 860, 861, 78, 859, 0], []]
set_option maxRecDepth 100000 in
theorem bo_122 : bi_okM 122 bh_122 0 bc_122 = true := by decide +kernel
def bh_123 : List (List Nat) := [[], [], [], [], [], [], [], [], [512, 15, 515, 72, 514, 0], [870, 872, 873, 76, 871, 0], [], [], [], [], [444], [875, 877, 878, 74, 876, 0], [], [], [], [], [], [], [], [], [], [], [], [], [], [], [], [879, 0, 430, 72, 429, 0], [], [], [], [879, 0, 430, 72, 429, 0], [], [], [448], [], [], [880, 882, 883, 76, 881, 0], [], [], [], [], [], [], [], [], [], [], [], [], [], [], [], [], [], [], [], [], [], [], [], [], []]
set_option maxRecDepth 100000 in
theorem bo_123 : bi_okM 123 bh_123 0 bc_123 = true := by decide +kernel
def bh_124 : List (List Nat) := [[], [581, 0, 583, 72, 582, 0], [], [], [], [], [], [], [], [], [], [452], [], [], [890, 892, 893, 80, 891, 0], [], [], [452], [288], [], [], []]
set_option maxRecDepth 100000 in
theorem bo_124 : bi_okM 124 bh_124 0 bc_124 = true := by decide +kernel
def bh_125 : List (List Nat) := [[], [452], [288], [], [], [452], [], [288], [], []]
set_option maxRecDepth 100000 in
theorem bo_125 : bi_okM 125 bh_125 0 bc_125 = true := by decide +kernel
def bh_126 : List (List Nat) := [[], [452], [], [512, 15, 515, 72, 514, 0], [902, 904, 905, 80, 903, 0], []]
set_option maxRecDepth 100000 in
theorem bo_126 : bi_okM 126 bh_126 0 bc_126 = true := by decide +kernel
def bh_127 : List (List Nat) := [[], [], [], [], [452], [288], [], [], [], [], [452], [], [512, 15, 515, 72, 514, 0], [902, 904, 905, 80, 903, 0], [], [], [], [], [452], [], [], [448], [925, 927, 928, 80, 926, 0], []]
set_option maxRecDepth 100000 in
theorem bo_127 : bi_okM 127 bh_127 0 bc_127 = true := by decide +kernel
def bh_128 : List (List Nat) := [[], [], [], [], [], [], [], [], [], [], [], [], [], [512, 15, 515, 72, 514, 0], [], [], [448], [225], [], [933, 935, 936, 74, 934, 0], [], [448], [942, 523, 524, 76, 522, 0], [], [], [], [448], [870, 872, 873, 76, 871, 0], [], [], [448], [225], [943, 945, 946, 74, 944, 0], []]
set_option maxRecDepth 100000 in
theorem bo_128 : bi_okM 128 bh_128 0 bc_128 = true := by decide +kernel
def bh_129 : List (List Nat) := [[], [447], [952, 619, 620, 75, 618, 0], [], [], [], [], [447], [], [444], [613, 615, 616, 75, 614, 0], [], [447], [208], []]
set_option maxRecDepth 100000 in
theorem bo_129 : bi_okM 129 bh_129 0 bc_129 = true := by decide +kernel
def bh_130 : List (List Nat) := [[], [447], [], [444], [695, 697, 698, 75, 696, 0], [], [], [], [], [446], [], [208], [], [447], [208], []]
set_option maxRecDepth 100000 in
theorem bo_130 : bi_okM 130 bh_130 0 bc_130 = true := by decide +kernel
def bh_131 : List (List Nat) := [[], [], [], [444], [133], [], [], [444], [137], [], [], [444], [140], [], [], [444], [144], [], [], [454], [], [], [444], [651, 653, 654, 74, 652, 0], [], [], [452], [288], [], [], [446], [208], [], [], [447], [208], [], [], [443], [105], [], [], [512, 15, 515, 72, 514, 0], [870, 872, 873, 76, 871, 0], [], [], []]
set_option maxRecDepth 100000 in
theorem bo_131 : bi_okM 131 bh_131 0 bc_131 = true := by decide +kernel
def bh_132 : List (List Nat) := [[], [], [], [], [444], [133], [], [], [], [], []]
set_option maxRecDepth 100000 in
theorem bo_132 : bi_okM 132 bh_132 0 bc_132 = true := by decide +kernel
def bh_133 : List (List Nat) := [[], [], [508, 14, 511, 72, 510, 0], [], [], [], [508, 14, 511, 72, 510, 0], [], [], [], [], [], [], [], []]
set_option maxRecDepth 100000 in
theorem bo_133 : bi_okM 133 bh_133 0 bc_133 = true := by decide +kernel
def bh_134 : List (List Nat) := [[], [], [], [], [], [], [], [], []]
set_option maxRecDepth 100000 in
theorem bo_134 : bi_okM 134 bh_134 0 bc_134 = true := by decide +kernel
def bh_135 : List (List Nat) := [[], [], [], [], [], [], [], [], [], [], []]
set_option maxRecDepth 100000 in
theorem bo_135 : bi_okM 135 bh_135 0 bc_135 = true := by decide +kernel
def bh_136 : List (List Nat) := [[], [448], [], [444], [516, 518, 519, 76, 517, 0], [], [448], []]
set_option maxRecDepth 100000 in
theorem bo_136 : bi_okM 136 bh_136 0 bc_136 = true := by decide +kernel
def bh_137 : List (List Nat) := [[], [], [], [], [], [], [], [], [], [454], [], [], [453], [], [], [], [], [], [], [], [444], [], [], [576, 536, 537, 74, 535, 0], [], [], [], [], [], [], [444], [144], [], []]
set_option maxRecDepth 100000 in
theorem bo_137 : bi_okM 137 bh_137 0 bc_137 = true := by decide +kernel
def bh_138 : List (List Nat) := [[], [512, 15, 515, 72, 514, 0], [], [], [], [], [], [], [], [444], [163], [], [], [], [], [], [], [], [], [444], [], [584, 570, 571, 74, 569, 0], [], [], [], [], [], [], [], [], [], [], [], [], [], [448], [], [], [], [444], [], [747, 719, 720, 74, 718, 0], [748, 544, 545, 76, 543, 0], [], [], [], [], [], [], [], [], [], [], [444], [], [], [444], [], [738, 566, 567, 74, 565, 0], [], [444], [140], [749, 641, 642, 74, 640, 0], [], [], [], [], [], [], [], [], [], [], [], [], [], [], [], [], []]
set_option maxRecDepth 100000 in
theorem bo_138 : bi_okM 138 bh_138 0 bc_138 = true := by decide +kernel
def bh_139 : List (List Nat) := [[], [966, 95, 96], [], [], [480], [989], [], [], [120], [991], [], [], [120], [992], [], [], [120], [993], [], [], [120], [994], [], [], [120], [995], [], [], [120], [996], [], [], [120], [997], [], [], [120], [1001], [], [], [120], [1003], [], [], [120], [1004], [], [], [120], [1005], [], [], [120], [1006], [], [], [120], [1007], [], [], [120], [1009], [], [], [120], [1010], [], [967, 32, 970, 86, 969, 0], [], [], [], [], [], [], [], [972, 33, 975, 86, 974, 0], [], [], [], [976, 34, 979, 86, 978, 0], [], [], [], [], [], [], [], [972, 33, 975, 86, 974, 0], [], [], [], [976, 34, 979, 86, 978, 0], [], [], [], [], [], [], [], [972, 33, 975, 86, 974, 0], [], [], [], [976, 34, 979, 86, 978, 0], [], [], [], [], [], [], [], [972, 33, 975, 86, 974, 0], [], [], [], [976, 34, 979, 86, 978, 0], [], [996], [], [], [], [], [996], [], [], [], [], [991], [], [], [], [], [984, 36, 987, 86, 986, 0], []]
set_option maxRecDepth 100000 in
theorem bo_139 : bi_okM 139 bh_139 0 bc_139 = true := by decide +kernel
def bh_140 : List (List Nat) := [[], [], [], [], [], [], [], [], [], [], [], []]
set_option maxRecDepth 100000 in
theorem bo_140 : bi_okM 140 bh_140 0 bc_140 = true := by decide +kernel
def bh_141 : List (List Nat) := [[], [], [1011], [], [1010], [], [], [], [], [1010], [], [], [], [], [1010], [], [], [], [], [1010], [], [], [], [], [1010], [], [], [], []]
set_option maxRecDepth 100000 in
theorem bo_141 : bi_okM 141 bh_141 0 bc_141 = true := by decide +kernel
def bh_142 : List (List Nat) := [[], [1009], [], [], [], [], [1009], [], [], [], [], [980, 35, 983, 86, 982, 0], [], [], [991], [], [], [], [], [], [], [], [], [], [], []]
set_option maxRecDepth 100000 in
theorem bo_142 : bi_okM 142 bh_142 0 bc_142 = true := by decide +kernel
def bh_143 : List (List Nat) := [[], [], [1068], [1069], [1070, 0, 1072, 86, 1071, 0], [], [], [], [], [988], [], [], [], [], [], [989], [], [988], [], [], [], [], [], [988], [], [], [988], [], [988], []]
set_option maxRecDepth 100000 in
theorem bo_143 : bi_okM 143 bh_143 0 bc_143 = true := by decide +kernel
def bh_144 : List (List Nat) := [[], [988], [], [], [], [988], [], []]
set_option maxRecDepth 100000 in
theorem bo_144 : bi_okM 144 bh_144 0 bc_144 = true := by decide +kernel
def bh_145 : List (List Nat) := [[], [], [], [], [], [990], [], [988], [], [], [989], [], [990], [], [], [1099], [1100], [1070, 0, 1072, 86, 1071, 0], [], [], [], [], [], [], [], [], [989], [], [990], [], [], [], [], [], [], [], [], [], [], [990], [], [], [990], [], [], [], [], [1101], [1070, 0, 1072, 86, 1071, 0], [], [], [], [], []]
set_option maxRecDepth 100000 in
theorem bo_145 : bi_okM 145 bh_145 0 bc_145 = true := by decide +kernel
def bh_146 : List (List Nat) := [[], [], [1011], [], [990], [], [988], [], [], [989], [], [990], [], [], [1089], [1090], [1070, 0, 1072, 86, 1071, 0], [], [], [1011], [], [], [], [1010], [], [1011], [], [989], [], [990], [], [], [], [], [], [], [1011], [], [], [1011], [], [], [990], [], [], [990], [], [], [1011], [], [], [], [], [], []]
set_option maxRecDepth 100000 in
theorem bo_146 : bi_okM 146 bh_146 0 bc_146 = true := by decide +kernel
def bh_147 : List (List Nat) := [[], [990], [], [988], [], [], [989], [], [990], [], [], [], [], [], [], [], [990], [], [], [990], [], [1009], [], [], [1095, 40, 1098, 86, 1097, 0], [], [], [1009], [], [], [], [], [], [], []]
set_option maxRecDepth 100000 in
theorem bo_147 : bi_okM 147 bh_147 0 bc_147 = true := by decide +kernel
def bh_148 : List (List Nat) := [[], [989], [], [990], [], [], [], [], [990], [], [], [990], [], [], [], [], [1085, 38, 1088, 86, 1087, 0], [], [], [], [1091, 39, 1094, 86, 1093, 0], [], [], [], [1091, 39, 1094, 86, 1093, 0], [], [], [], [], [], [], [], [], [], [], [], [], [], [], [], [], [1085, 38, 1088, 86, 1087, 0], [], [], [1011], [], [], [], [], [], [], [], [1009], [], [], [], [], [], [], [], [], [], [], [], [1095, 40, 1098, 86, 1097, 0], [], [], [], [], [1009], [], [], [], [], [], [], [], [], [], [], [990], [], [988], [], [], [989], [], [990], [], [], [], [], [], [], [], [], [], [990], [], [], [990], [], [], [], [], [1102, 41, 1105, 86, 1104, 0], [], [], [], [], []]
set_option maxRecDepth 100000 in
theorem bo_148 : bi_okM 148 bh_148 0 bc_148 = true := by decide +kernel
def bh_149 : List (List Nat) := [[], [], [], [1009], [], [], [], [], [], [991], [], [], [], [], [], [980, 35, 983, 86, 982, 0], [], [], [], [], [], [], [991], [], [], [1009], [], [], [], [], [], [], [991], [], [], [1009], [], [], [], [], [1009], [], [], [], [], [], [], [], [], [], [991], [], [], [1009], [], [], [], [], [1009], [], [], [], [], [], [], [], [], [], [991], [], [], [], [], [], [], [], [1011], [], [], [991], [], [], [], [], [], [1010], [], [], [], [], [], [], [], [], [], [], [1106, 42, 1109, 86, 1108, 0], [], [], [1011], [], [], [], [991], [], [], [], [], [], [], [], [996], [], [], [], [991], [], [], [], [], [], [1010], [], [], [], [], [996], [], [], [], [991], [], [], [], [], [], [1010], [], [], [], [], [991], [], [], [], [], [], [], [], []]
set_option maxRecDepth 100000 in
theorem bo_149 : bi_okM 149 bh_149 0 bc_149 = true := by decide +kernel
def bh_150 : List (List Nat) := [[], [991], [], [], [], [], [992], [], [], [], [], [1009], [], [], [], [], [994], [], [], [1009], [], [], [], [], [993], [], [], [], [], [1011], [], [], [], [], [], [1011], [], [], [993], [], [], [], [], [], [], [], [], [1010], [], [], [], [], [], [], [991], [], [], [], [], [], [], [], []]
set_option maxRecDepth 100000 in
theorem bo_150 : bi_okM 150 bh_150 0 bc_150 = true := by decide +kernel
def bh_151 : List (List Nat) := [[], [], [], [], [], [], [1011], [], [], [], [1010], [], [], [], [], [], [], [], [], [], [], [], [], [1010], [], [], [], [], [], [], [995], [], [1010], [], [], [], [], [], [], [], [1011], [], [], [], [], [], [], [], [], [], [], [], [], [], [995], [], [], [], [], [], [], [], []]
set_option maxRecDepth 100000 in
theorem bo_151 : bi_okM 151 bh_151 0 bc_151 = true := by decide +kernel
def bh_152 : List (List Nat) := [[], [991], [], [], [], [], [991], [], [], [], [], [991], [], [], [], [], [991], [], [], [], [], [991], [], [], [], [], [991], [], [971], [], [], [], [], [], [], [], [995], [], [], [], [], [], []]
set_option maxRecDepth 100000 in
theorem bo_152 : bi_okM 152 bh_152 0 bc_152 = true := by decide +kernel
def bh_153 : List (List Nat) := [[], [], [], [], [], [], [991], [], [], [991], [], [], [], [], [], [], [], [], [], [], [], [], [], [996], [], [], [996], [], [], [], [], [], [], [], [], [], [992], [], [], [992], [], [], [], [], [], [], [], [], [], [], [], [], [], [997], [], [], [], [], [], [], [], [], [], [991], [], [], [], [], [997], [], [], [993], [], [], [], [], [], [], [997], [], [], [], [], [994], [], [], [], [], [], [], [], [997], [], [], [], [], [997], [], [], [], [], [], [], [], [], [993], [], [], [], [], [], [], [], [], [], [], [], [], [], [], [], [], [], [], [], [997], [], [], [], [], [995], [], [], [], [], [], [], [], [1000], [], [], [1002], [], [], [999], [], [], [998], []]
set_option maxRecDepth 100000 in
theorem bo_153 : bi_okM 153 bh_153 0 bc_153 = true := by decide +kernel
def bh_154 : List (List Nat) := [[], [], [990], [], [967, 32, 970, 86, 969, 0], [], [990], [], [988], [], [], [990], [], [], [1081, 37, 1084, 86, 1083, 0], [], [], [], [], [], []]
set_option maxRecDepth 100000 in
theorem bo_154 : bi_okM 154 bh_154 0 bc_154 = true := by decide +kernel
def bh_155 : List (List Nat) := [[], [1114, 1079, 1080, 86, 1078, 0], [], [], [], [991], [], [], [], [], [], [], [984, 36, 987, 86, 986, 0], [], [991], [], [], []]
set_option maxRecDepth 100000 in
theorem bo_155 : bi_okM 155 bh_155 0 bc_155 = true := by decide +kernel
def bh_156 : List (List Nat) := [[], [], [], [], [991], [], [], [], [], [], [1070, 0, 1072, 86, 1071, 0], []]
set_option maxRecDepth 100000 in
theorem bo_156 : bi_okM 156 bh_156 0 bc_156 = true := by decide +kernel
def bh_157 : List (List Nat) := [[], [], [], [1159], [1070, 0, 1072, 86, 1071, 0], []]
set_option maxRecDepth 100000 in
theorem bo_157 : bi_okM 157 bh_157 0 bc_157 = true := by decide +kernel
def bh_158 : List (List Nat) := [[], [997], [], [], [], [], [], [], [], [], [], [], [997], [], [], [], [], [], [], [], [], [], [], []]
set_option maxRecDepth 100000 in
theorem bo_158 : bi_okM 158 bh_158 0 bc_158 = true := by decide +kernel
def bh_159 : List (List Nat) := [[], [], [], [], [], [], [991], [], [], [], [], [996], [], [], [], [], [], [], [996], [], [], [], [], [], [], [], [], [], [], [], [], [], [], [], [], [], [], [], [], [], [], [], [], [], [], [], [], []]
set_option maxRecDepth 100000 in
theorem bo_159 : bi_okM 159 bh_159 0 bc_159 = true := by decide +kernel
def bh_160 : List (List Nat) := [[], [991], [], [], [], [], [], [], [], [], [], [], [], []]
set_option maxRecDepth 100000 in
theorem bo_160 : bi_okM 160 bh_160 0 bc_160 = true := by decide +kernel
def bh_161 : List (List Nat) := [[], [], [], [1140, 48, 1143, 86, 1142, 0], [], [], [], [], [], [1140, 48, 1143, 86, 1142, 0], [1144, 49, 1147, 86, 1146, 0], [], [], [], [], []]
set_option maxRecDepth 100000 in
theorem bo_161 : bi_okM 161 bh_161 0 bc_161 = true := by decide +kernel
def bh_162 : List (List Nat) := [[], [997], [], [], [], [], [], [], [], [], [997], [], [], [], [], [], [], [], [], [], [], [], [], [], [], [], [], [], [], [], [], [], [], [], [], [], [], [], [], [], [], [], [997], [], [], [], [], [], [], [], [], [], [], [], [], [], [], [997], [], [], [], [], [], [], [], [], [], [], [], [], [], [], [], [], [], [997], [], [], [], [], [], [], [], [], [], [997], [], [], [], [], [], [], [], [], [], [], [], [], [], [], [], [], [], [], [], [], [], [], [], [], [], [], [], [], [], [], [], []]
set_option maxRecDepth 100000 in
theorem bo_162 : bi_okM 162 bh_162 0 bc_162 = true := by decide +kernel
def bh_163 : List (List Nat) := [[], [], [], [], [], [], [991], [], [], [], [], [], [], [], [], [], [], [], [1128, 45, 1131, 86, 1130, 0], [], [], [], [], [], [], [], [], [], []]
set_option maxRecDepth 100000 in
theorem bo_163 : bi_okM 163 bh_163 0 bc_163 = true := by decide +kernel
def bh_164 : List (List Nat) := [[], [991], [], [], [], [], [], [], [], [], [], [991], [], [], [], [], [], [], [], [991], [], [], [], [], [], [], [1124, 44, 1127, 86, 1126, 0], [], [], [], [1004], [], [], [992], [], [], [], [], [], [992], [], [], [], [], [], [], [], [1004], [], [], [], [], [], [], [1004], [], [], [], [992], [], [], [], [], [], [], [], [], [], [], [], [], [], []]
set_option maxRecDepth 100000 in
theorem bo_164 : bi_okM 164 bh_164 0 bc_164 = true := by decide +kernel
def bh_165 : List (List Nat) := [[], [], [1119, 43, 1122, 86, 1121, 0], [], [], [], [], [1123], [1070, 0, 1072, 86, 1071, 0], [], [], [], [], [], [], [997], [], [], [], [], [992], [], [], [], [], [997], [], [], [], [], [], [], [997], [], [], [], [], [], [], [], [], [997], [], [], [], [], [], [], [], [], [997], [], [], [], [], [], [], [], [], [1124, 44, 1127, 86, 1126, 0], [], [], [], [1132, 46, 1135, 86, 1134, 0], [], [], [], [], [1004], [], [], [], [], [], [], [1136, 47, 1139, 86, 1138, 0], [], [], [], [], []]
set_option maxRecDepth 100000 in
theorem bo_165 : bi_okM 165 bh_165 0 bc_165 = true := by decide +kernel
def bh_166 : List (List Nat) := [[], [], [1119, 43, 1122, 86, 1121, 0], [], [], [], [], [], [], [], [997], [], [], [], [], [997], [], [], [], [], [], [], [], [], [], [], []]
set_option maxRecDepth 100000 in
theorem bo_166 : bi_okM 166 bh_166 0 bc_166 = true := by decide +kernel
def bh_167 : List (List Nat) := [[], [], [], [997], [], [], [], [], [], [], [], [], [], [], [], [], [], []]
set_option maxRecDepth 100000 in
theorem bo_167 : bi_okM 167 bh_167 0 bc_167 = true := by decide +kernel
def bh_168 : List (List Nat) := [[], [1156, 0, 1158, 86, 1157, 0], [], [], [], [], [1101], [1070, 0, 1072, 86, 1071, 0], [], [], [], [], [], [], [997], [], [], [], [], [], [], [], [], [], [], [], [1160, 50, 1163, 86, 1162, 0], [], [], [], [1144, 49, 1147, 86, 1146, 0], [], [], [], [], []]
set_option maxRecDepth 100000 in
theorem bo_168 : bi_okM 168 bh_168 0 bc_168 = true := by decide +kernel
def bh_169 : List (List Nat) := [[], [1156, 0, 1158, 86, 1157, 0], [], [], [1156, 0, 1158, 86, 1157, 0], [], [], [], [], [], [], [1168, 51, 1171, 86, 1170, 0], [], [], [], [], []]
set_option maxRecDepth 100000 in
theorem bo_169 : bi_okM 169 bh_169 0 bc_169 = true := by decide +kernel
def bh_170 : List (List Nat) := [[], [], [], [], [], [], [997], [], [], [], [], [], [], [997], [], [], [], [], [], [], [], [], [], []]
set_option maxRecDepth 100000 in
theorem bo_170 : bi_okM 170 bh_170 0 bc_170 = true := by decide +kernel
def bh_171 : List (List Nat) := [[], [999], [], [], [], [], [], [], [], [], [], [], [], [], [1196, 54, 1199, 86, 1198, 0], [], [], [], [], [999], [], [], [999], [], [], [], [], [999], [], [1196, 54, 1199, 86, 1198, 0], [], [], [999], [], [], [999], []]
set_option maxRecDepth 100000 in
theorem bo_171 : bi_okM 171 bh_171 0 bc_171 = true := by decide +kernel
def bh_172 : List (List Nat) := [[], [1156, 0, 1158, 86, 1157, 0], [], [], [], [], [1000], [], [], [], [], [], [1001], [], [1000], [], [], [], [], [1000], [], [], [1000], [], [1000], []]
set_option maxRecDepth 100000 in
theorem bo_172 : bi_okM 172 bh_172 0 bc_172 = true := by decide +kernel
def bh_173 : List (List Nat) := [[], [1000], [], [], [], [1000], [], []]
set_option maxRecDepth 100000 in
theorem bo_173 : bi_okM 173 bh_173 0 bc_173 = true := by decide +kernel
def bh_174 : List (List Nat) := [[], [], [], [], [], [], [], [], [], [1000], [], [], [], [997], [], [], [], [], [], [], [], [], [], [], [], [1001], [], [], [], [997], [], [], [], [], [], [], [], [], [], [], [], [], [], [], [], [1000], [], [], [], [997], [], [], [], [], [], [], [], [], [], [], [], [], [991], [], [], [], []]
set_option maxRecDepth 100000 in
theorem bo_174 : bi_okM 174 bh_174 0 bc_174 = true := by decide +kernel
def bh_175 : List (List Nat) := [[], [], [1119, 43, 1122, 86, 1121, 0], [], [], [], [1184, 52, 1187, 86, 1186, 0], [], [], []]
set_option maxRecDepth 100000 in
theorem bo_175 : bi_okM 175 bh_175 0 bc_175 = true := by decide +kernel
def bh_176 : List (List Nat) := [[], [], [1119, 43, 1122, 86, 1121, 0], [], [], [], [], [], [1184, 52, 1187, 86, 1186, 0], [], [], [997], [], [], [], [], [], [], [], [997], [], [], [], [], [], [], [], [], [], [1192, 53, 1195, 86, 1194, 0], [], [997], [], [], [], [], [], [], [997], [], [], [], [], [], [], [], [], [], [997], [], [], [1000], [], [], [], [], [], [1000], [], [], [997], [], [], [], [], [], [], [], [], [1001], [], [], [], [], [], [], [997], [], [], [], [], []]
set_option maxRecDepth 100000 in
theorem bo_176 : bi_okM 176 bh_176 0 bc_176 = true := by decide +kernel
def bh_177 : List (List Nat) := [[], [], [], [], [997], [], [], [], [], [], [], [997], [], [], [], [], [], [], [], [], [], [], [1140, 48, 1143, 86, 1142, 0], [], [], [], [], [1140, 48, 1143, 86, 1142, 0], [], [], [], [], [], [], [], [], [997], [], [], [], [], [], [997], [], [], [], [], [], [], [], [], [], [], [], [1070, 0, 1072, 86, 1071, 0], [], [], [], [], [1168, 51, 1171, 86, 1170, 0], [], [], [], [], []]
set_option maxRecDepth 100000 in
theorem bo_177 : bi_okM 177 bh_177 0 bc_177 = true := by decide +kernel
def bh_178 : List (List Nat) := [[], [], [1119, 43, 1122, 86, 1121, 0], [], [], [], [1119, 43, 1122, 86, 1121, 0], [], [], [], [], [], [], [], []]
set_option maxRecDepth 100000 in
theorem bo_178 : bi_okM 178 bh_178 0 bc_178 = true := by decide +kernel
def bh_179 : List (List Nat) := [[], [], [], [1204, 55, 1207, 86, 1206, 0], [], [], [], [], [], [], [], [991], [], [], [1208, 56, 1211, 86, 1210, 0], [], [], [], [], []]
set_option maxRecDepth 100000 in
theorem bo_179 : bi_okM 179 bh_179 0 bc_179 = true := by decide +kernel
def bh_180 : List (List Nat) := [[], [], [], [], [], [], [991], [], [], [], [], [], [997], [], [], [], [], [], [], [], [], [], [], [], [], [], []]
set_option maxRecDepth 100000 in
theorem bo_180 : bi_okM 180 bh_180 0 bc_180 = true := by decide +kernel
def bh_181 : List (List Nat) := [[], [], [], [1204, 55, 1207, 86, 1206, 0], [], [], [], [], [], [], [], [991], [], [], [1208, 56, 1211, 86, 1210, 0], [], [], [], [], [1192, 53, 1195, 86, 1194, 0], [], [997], [], [], [], [], [], [], [], [], [997], [], [], [], [], [], [], [], [], [1216, 57, 1219, 86, 1218, 0], []]
set_option maxRecDepth 100000 in
theorem bo_181 : bi_okM 181 bh_181 0 bc_181 = true := by decide +kernel
def bh_182 : List (List Nat) := [[], [997], [], [], [], [], [], [], [], [], []]
set_option maxRecDepth 100000 in
theorem bo_182 : bi_okM 182 bh_182 0 bc_182 = true := by decide +kernel
def bh_183 : List (List Nat) := [[], [], [], [1204, 55, 1207, 86, 1206, 0], [], [], [], [], [1224], [1070, 0, 1072, 86, 1071, 0], [], [], [], [], [], [], [1140, 48, 1143, 86, 1142, 0], [], [], [], [], [1140, 48, 1143, 86, 1142, 0], [], [], [], [], [], [], [997], [], [], [], [], [], [997], [], [], [], [], [], [], [], [], [], [], [], [], [997], [], [], [], [], [], [], [], [], [], [1225, 58, 1228, 86, 1227, 0], [], [], [], [], [], [], [], [1192, 53, 1195, 86, 1194, 0], [], [997], [], [], [], [], [], [], [], [], [], [997], [], [], [], [], [], [], [], [], [], [997], [], [], [], [], [], [], [], [], [], [], [], [], [], [], [], [1225, 58, 1228, 86, 1227, 0], []]
set_option maxRecDepth 100000 in
theorem bo_183 : bi_okM 183 bh_183 0 bc_183 = true := by decide +kernel
def bh_184 : List (List Nat) := [[], [], [], [1204, 55, 1207, 86, 1206, 0], [], [], [], [], [1224], [1070, 0, 1072, 86, 1071, 0], [], [], [], [], [], [], [1225, 58, 1228, 86, 1227, 0], [], [], [], [997], [], [], [], [], [], [], [], [], [], [1192, 53, 1195, 86, 1194, 0], [], [997], [], [], [], [], [], [], [], [], [], [997], [], [], [], [], [], [], [], [], [], [997], [], [], [], [], [], [], [], [], [], [], [], [], [], [], [], [1225, 58, 1228, 86, 1227, 0], []]
set_option maxRecDepth 100000 in
theorem bo_184 : bi_okM 184 bh_184 0 bc_184 = true := by decide +kernel
def bh_185 : List (List Nat) := [[], [997], [], [], [], [], [], [], [], [], [], [], [997], [], [], [], [], [], [], [], [], [997], [], [], [], [], [], [], [], [], [], [], [997], [], [], [], [], [], [], [], [], [], []]
set_option maxRecDepth 100000 in
theorem bo_185 : bi_okM 185 bh_185 0 bc_185 = true := by decide +kernel
def bh_186 : List (List Nat) := [[], [1156, 0, 1158, 86, 1157, 0], [], [], [1156, 0, 1158, 86, 1157, 0], [], [], [], [], [], [], [], [1192, 53, 1195, 86, 1194, 0], [], [], [], [], [1237, 59, 1240, 86, 1239, 0], [], [997], [], [], [], [], []]
set_option maxRecDepth 100000 in
theorem bo_186 : bi_okM 186 bh_186 0 bc_186 = true := by decide +kernel
def bh_187 : List (List Nat) := [[], [1192, 53, 1195, 86, 1194, 0], [], [], [], [], [], [], [], [], [], [997], [], [], [], [], [], [], [], [997], [], [], [], [], [], [], [], [], []]
set_option maxRecDepth 100000 in
theorem bo_187 : bi_okM 187 bh_187 0 bc_187 = true := by decide +kernel
def bh_188 : List (List Nat) := [[], [999], [], [], [], [], [], [999], [], [], [999], [], [], [], [999], [], [], [1196, 54, 1199, 86, 1198, 0], [], [999], []]
set_option maxRecDepth 100000 in
theorem bo_188 : bi_okM 188 bh_188 0 bc_188 = true := by decide +kernel
def bh_189 : List (List Nat) := [[], [], [], [1140, 48, 1143, 86, 1142, 0], [], [], [], [], [], [], [], [], [], [], [], [1160, 50, 1163, 86, 1162, 0], [], [], [997], [], [], [], [], [], [], [], [], [], [1132, 46, 1135, 86, 1134, 0], [], [], [], [], [1004], [], [], [], [], [], [], [], [], [991], [], [], [], [], [], [], [], [], [1012], [], [], [], [], [], [1012], [], [], [], [997], [], [], [], [], [], [], [], [], []]
set_option maxRecDepth 100000 in
theorem bo_189 : bi_okM 189 bh_189 0 bc_189 = true := by decide +kernel
def bh_190 : List (List Nat) := [[], [], [1119, 43, 1122, 86, 1121, 0], [], [], [], [], [], [1070, 0, 1072, 86, 1071, 0], [], [], [], [], [], [], [1140, 48, 1143, 86, 1142, 0], [], [], [], [], [], [], [1196, 54, 1199, 86, 1198, 0], [], [], [1253, 60, 1256, 86, 1255, 0], [], [], [], [], [], [], [1012], [], [], []]
set_option maxRecDepth 100000 in
theorem bo_190 : bi_okM 190 bh_190 0 bc_190 = true := by decide +kernel
def bh_191 : List (List Nat) := [[], [], [], [], [], [], [991], [], [], [], [], [], [], [1140, 48, 1143, 86, 1142, 0], [], [], [], [1253, 60, 1256, 86, 1255, 0], [], [], [], [], [], [], [], [1140, 48, 1143, 86, 1142, 0], [], [], [], [], [], [], [997], [], [], [], [], [], [], [], [], [], [], []]
set_option maxRecDepth 100000 in
theorem bo_191 : bi_okM 191 bh_191 0 bc_191 = true := by decide +kernel
def bh_192 : List (List Nat) := [[], [], [1261], [], [991], [], [], [], [], [], [1070, 0, 1072, 86, 1071, 0], [], [], [], [], [], [], [1196, 54, 1199, 86, 1198, 0], [], [], [], [], [], [], [1262, 61, 1265, 86, 1264, 0], [], [], [], [], [], [], [], [], [1140, 48, 1143, 86, 1142, 0], [], [], [], [], [], [], [], [], [1140, 48, 1143, 86, 1142, 0], [], [], [1262, 61, 1265, 86, 1264, 0], [], [], [], [], []]
set_option maxRecDepth 100000 in
theorem bo_192 : bi_okM 192 bh_192 0 bc_192 = true := by decide +kernel
def bh_193 : List (List Nat) := [[], [], [], [1140, 48, 1143, 86, 1142, 0], [], [], [], [], [], [], [], [1144, 49, 1147, 86, 1146, 0], [], [], [], [], [], [], [], [], [], [], [], [], [], [], [], [], [], [], [1128, 45, 1131, 86, 1130, 0], [], [], [], [], [], [], [], [], [], [], [], [], [1140, 48, 1143, 86, 1142, 0], [], [], [], [], [], [], [997], [], [], [], [], [], [997], [], [], [], [], [], [], [], [991], [], [], [], [], [], [991], [], [], [], [1070, 0, 1072, 86, 1071, 0], [], [], [], [], [1168, 51, 1171, 86, 1170, 0], [], [], [], [], [], [], []]
set_option maxRecDepth 100000 in
theorem bo_193 : bi_okM 193 bh_193 0 bc_193 = true := by decide +kernel
def bh_194 : List (List Nat) := [[], [], [1119, 43, 1122, 86, 1121, 0], [], [], [], [], [1123], [1070, 0, 1072, 86, 1071, 0], [], [], [], [1119, 43, 1122, 86, 1121, 0], [], [], [], [1119, 43, 1122, 86, 1121, 0], [], [], [], [], [1270], [1070, 0, 1072, 86, 1071, 0], [], [], [], [], [], [], [1196, 54, 1199, 86, 1198, 0], [], [], [], [], [], [], [], [], [], [], [], [], [997], [], [], [], [], [], [], [], [], [], [], [], [], [], [], [], [], [], [], [], [997], [], [], [], [], [], [], [], [], [], [], [], [], [1160, 50, 1163, 86, 1162, 0], [], [], [], [], [], [], [], [], [], [], [], [], [1271, 62, 1274, 86, 1273, 0], [], [], [], [], [], [], [], [], [], [], [], [997], [], [], [], [], [], [], [], [], [], [], [], [], [], [], [], [], []]
set_option maxRecDepth 100000 in
theorem bo_194 : bi_okM 194 bh_194 0 bc_194 = true := by decide +kernel
def bh_195 : List (List Nat) := [[], [], [], [], [], [991], [], [], [], [], [], [1007], [], [], [], [], [], [], [], [991], [], [], [], [], [], [], [], [], [], [], [], [], [], [991], [], [], [], [], [], [], [], [], [], [], [], [], [1007], [], [], [1007], [], [], [], [], [], [], [], [], [], [991], [], [], [], [], [], [], [], [], [], [], [], [], [], [], [1208, 56, 1211, 86, 1210, 0], [], [], [], [], [], [], [], [], [1007], [], [], [], [], [], [], [], [], [], [], [], [], [], [], [1007], [], [], [], [1007], [], [], [], [], [], [], [1007], [], [], [], [], [], [], [], [], [1007], [], [], [991], [], [], [], [], [], [], []]
set_option maxRecDepth 100000 in
theorem bo_195 : bi_okM 195 bh_195 0 bc_195 = true := by decide +kernel
def bh_196 : List (List Nat) := [[], [], [1261], [], [991], [], [], [], [], [], [1070, 0, 1072, 86, 1071, 0], [], [], [], [], [], [991], [], [], [1279, 63, 1282, 86, 1281, 0], [], [], [], [991], [], [], [], [], [], [], [], [], [], [], [], [], [1005], [], [], [], [], [], [], [], [], [], [991], [], [], [], [], [], [], [], [], [], [], [], [], [], [], [], [1007], [], [], [], [], [], [], [], [], [], [991], [], [], [], [], [], [], [], [], [], [], [], [], [], [], [], [], [], [], [], [], [], [], [], [], [], [], [], [], [], [], [991], [], [], [1208, 56, 1211, 86, 1210, 0], [], [], [1007], [], [], [], [], [], [], [], [1005], [], [], [], [], [1005], [], [], [], [], [], [], [], [], [], [], [], [], [], [], [], [], [], [], [], [], [], [], [], [], [1005], [], [], []]
set_option maxRecDepth 100000 in
theorem bo_196 : bi_okM 196 bh_196 0 bc_196 = true := by decide +kernel
def bh_197 : List (List Nat) := [[], [], [], [1287], [1070, 0, 1072, 86, 1071, 0], [], [], [], [], [], [], [], [], [], [], [1279, 63, 1282, 86, 1281, 0], [], [], [], [], [], [], [], []]
set_option maxRecDepth 100000 in
theorem bo_197 : bi_okM 197 bh_197 0 bc_197 = true := by decide +kernel
def bh_198 : List (List Nat) := [[], [], [1119, 43, 1122, 86, 1121, 0], [], [], [], [1119, 43, 1122, 86, 1121, 0], [], [], [], [], [1225, 58, 1228, 86, 1227, 0], [], [], []]
set_option maxRecDepth 100000 in
theorem bo_198 : bi_okM 198 bh_198 0 bc_198 = true := by decide +kernel
def bh_199 : List (List Nat) := [[], [], [], [], [], [], [991], [], [], [], [], [], [], [], [1225, 58, 1228, 86, 1227, 0], [], [], [], [1225, 58, 1228, 86, 1227, 0], [], [], [], [], [], [], []]
set_option maxRecDepth 100000 in
theorem bo_199 : bi_okM 199 bh_199 0 bc_199 = true := by decide +kernel
def bh_200 : List (List Nat) := [[], [], [1119, 43, 1122, 86, 1121, 0], [], [], [], [1296, 64, 1299, 86, 1298, 0], [], [], [], [], []]
set_option maxRecDepth 100000 in
theorem bo_200 : bi_okM 200 bh_200 0 bc_200 = true := by decide +kernel
def bh_201 : List (List Nat) := [[], [], [], [], [], [], [1005], [], [], [], [], [], [], [], [], [], [], [], [991], [], [], [], [], [], [], [], [], [], [991], [], [], [], [], [], [], [], [], [], [991], [], [], [], [], [], [], [1225, 58, 1228, 86, 1227, 0], [], [], [1005], [], [], [], [], [], [], [], [1005], [], [], [], [], [], [], [], [], [], [], [1006], [], [], [], [], [], [], [], [], [], [], [], [], [], [], [], [], [991], [], [], [], [], [1005], [], [], [1006], [], [], [], [], [], [], [], [], [], [991], [], [], [], [], [], [], []]
set_option maxRecDepth 100000 in
theorem bo_201 : bi_okM 201 bh_201 0 bc_201 = true := by decide +kernel
def bh_202 : List (List Nat) := [[], [], [], [], [], [], [], [], [991], [], [], [], [], [], [], [1296, 64, 1299, 86, 1298, 0], [], [], [], [], [], [], [], [], [], [], [], [1296, 64, 1299, 86, 1298, 0], [], [], [], [], [], [], [], [], [], [1007], [], [], [], [], [], [], [], [], [991], [], [], [], [], [], [], [], [1007], [], [], [], [], [], [], [], [991], [], [], [], [], [], [], [], [], [], [], [], [], [], [1296, 64, 1299, 86, 1298, 0], [], [], [], [1007], [], [], [], [], [], [], [], [], [], [], [1007], [], [], [], [1007], [], [], [], [], [], [], [1007], [], [], [], [], [], [], [1007], [], [], [], [], [], [], [], [], [], [], [], [], [], [], [], [], [], [], [], [], [1007], [], [], [], []]
set_option maxRecDepth 100000 in
theorem bo_202 : bi_okM 202 bh_202 0 bc_202 = true := by decide +kernel
def bh_203 : List (List Nat) := [[], [], [], [1140, 48, 1143, 86, 1142, 0], [], [], [], [], [1140, 48, 1143, 86, 1142, 0], [], [], [], [], [], [], [], [], [], [], [], [1168, 51, 1171, 86, 1170, 0], [], [], [], [], []]
set_option maxRecDepth 100000 in
theorem bo_203 : bi_okM 203 bh_203 0 bc_203 = true := by decide +kernel
def bh_204 : List (List Nat) := [[], [991], [], [], [], [], [], [], [], [], [], [], [], [], [], [], [], [1006], [], [], [], [1006], [], [], [], [], [1317, 66, 1320, 86, 1319, 0], [], [], [], [], [], [], [], [], [], [], [], [], [], [], [1006], [], [], [], [], [], [1006], [], [], [1317, 66, 1320, 86, 1319, 0], [], [], [], [], [], []]
set_option maxRecDepth 100000 in
theorem bo_204 : bi_okM 204 bh_204 0 bc_204 = true := by decide +kernel
def bh_205 : List (List Nat) := [[], [991], [], [], [], [], [], [], [], [], [], [], [1006], [], [], [], [1006], [], [], [], [], [], [], [], [], [], [], [], [], [], [], [], [], [], [1006], [], [], [], [1006], [], [], [], [], [], [], [], [], [1325, 68, 1328, 86, 1327, 0], [], [], [], [], [], [], [], [], [], [], [], [], [], [], [], [], [], [], [1325, 68, 1328, 86, 1327, 0], [], [], [], []]
set_option maxRecDepth 100000 in
theorem bo_205 : bi_okM 205 bh_205 0 bc_205 = true := by decide +kernel
def bh_206 : List (List Nat) := [[], [1006], [], [], [], [], [1006], [], [], [1006], [], [], [], [], [1006], [], [], [], []]
set_option maxRecDepth 100000 in
theorem bo_206 : bi_okM 206 bh_206 0 bc_206 = true := by decide +kernel
def bh_207 : List (List Nat) := [[], [], [1312], [], [991], [], [], [], [], [], [1070, 0, 1072, 86, 1071, 0], [], [], [], [], [], [], [], [], [], [1006], [], [], [], [], [], [], [], [], [], [], [], [], [], [], [1313, 65, 1316, 86, 1315, 0], [], [], [], [], [], [], [], [], [], [], [], [], [], [], [1005], [], [], [1006], [], [], [], [], [], [], [], [], [], [], [], [], [], [], [], [1321, 67, 1324, 86, 1323, 0], [], [], [], [], [], [], [], [], [], [], [], [], [], [1005], [], [], []]
set_option maxRecDepth 100000 in
theorem bo_207 : bi_okM 207 bh_207 0 bc_207 = true := by decide +kernel
def bh_208 : List (List Nat) := [[], [], [], [], [1070, 0, 1072, 86, 1071, 0], [], [], [], [], [], [1132, 46, 1135, 86, 1134, 0], [], [], [], [], [], [], [], [], [], [991], [], [], [], [], [], [], [], [1140, 48, 1143, 86, 1142, 0], [], [], [], [], [], [], [], [1140, 48, 1143, 86, 1142, 0], [], [], [], [], [], [], [], [], [], [], [], [], [], [], [], [], [], [], [], [], [], [], [], [], [], [], [], [], [], [], [], [], [], [], [1196, 54, 1199, 86, 1198, 0], [], [], [], [], [1237, 59, 1240, 86, 1239, 0], [], [], [1132, 46, 1135, 86, 1134, 0], [], [], [], [], [], [], [], [], [], [], [], [], [], [], [], [], [], [], [], [], [], [], [], [], [], [], [], [], [], [], []]
set_option maxRecDepth 100000 in
theorem bo_208 : bi_okM 208 bh_208 0 bc_208 = true := by decide +kernel
def bh_209 : List (List Nat) := [[], [1156, 0, 1158, 86, 1157, 0], [], [], [], [], [1337], [1070, 0, 1072, 86, 1071, 0], [], [], [], [], [1002], [], [], [], [], [], [1003], [], [], [1002], [], [], [], [], [1003], [], [], [1002], [], [], [], [], [], [], [], [1002], [], [], [1002], [], [1002], []]
set_option maxRecDepth 100000 in
theorem bo_209 : bi_okM 209 bh_209 0 bc_209 = true := by decide +kernel
def bh_210 : List (List Nat) := [[], [1002], [], [], [], [1002], [], []]
set_option maxRecDepth 100000 in
theorem bo_210 : bi_okM 210 bh_210 0 bc_210 = true := by decide +kernel
def bh_211 : List (List Nat) := [[], [], [1132, 46, 1135, 86, 1134, 0], [], [], [], [], [], [1008], [], [], [], [], [], [], [], [], [], [], [1006], [], [], [], [], [], [], [], [], [], [1002], [], [], [], [], [1008], [], [], [], [], [1006], [], [], [], [], [], [], [1008], [], [], [], [], [1350, 70, 1353, 86, 1352, 0], [], [], [], [], [1006], [], [], [], [], [], [], []]
set_option maxRecDepth 100000 in
theorem bo_211 : bi_okM 211 bh_211 0 bc_211 = true := by decide +kernel
def bh_212 : List (List Nat) := [[], [1006], [], [], [], [], [], [], [], [991], [], [], [], [], [], [], [1140, 48, 1143, 86, 1142, 0], [], [1003], [], [], [], [], [], [], [1004], [], [], [], [1003], [], [], [], [], [], [], [], [], [], [], [], [], [], [], [], [], [], [], [], [1006], [], [], [], [], [], [], [], [], [], [], [], [], [], [1006], [], [], [], [], [], [], [], [], []]
set_option maxRecDepth 100000 in
theorem bo_212 : bi_okM 212 bh_212 0 bc_212 = true := by decide +kernel
def bh_213 : List (List Nat) := [[], [], [1346, 69, 1349, 86, 1348, 0], []]
set_option maxRecDepth 100000 in
theorem bo_213 : bi_okM 213 bh_213 0 bc_213 = true := by decide +kernel
def bh_214 : List (List Nat) := [[], [], [], [], [1002], [], [], [], [1070, 0, 1072, 86, 1071, 0], [], [], [], [], [], [1346, 69, 1349, 86, 1348, 0], [], [], [], [], [], [], [], [], [], [], [], [1008], [], [], [], [], [], [], [], [], [], [], [], []]
set_option maxRecDepth 100000 in
theorem bo_214 : bi_okM 214 bh_214 0 bc_214 = true := by decide +kernel
def bh_215 : List (List Nat) := [[], [], [], [1362], [1070, 0, 1072, 86, 1071, 0], [], [], [], [], [], [1070, 0, 1072, 86, 1071, 0], [], [], [], [], [], [], [1196, 54, 1199, 86, 1198, 0], [], [], [], [], [], [], [991], [], [], [], [1363], [], [], [], [1364], [], [], [], [], [], [], [], [], [], [], [1140, 48, 1143, 86, 1142, 0], [], [], [997], [], [], [], [], [], [], [], [], [1365], [], [1366], [], [], [], [], [], [], [], [1136, 47, 1139, 86, 1138, 0], [], [], [], [], [], [], [], [], [], [], [], [], [], [], [], [1132, 46, 1135, 86, 1134, 0], []]
set_option maxRecDepth 100000 in
theorem bo_215 : bi_okM 215 bh_215 0 bc_215 = true := by decide +kernel
def bh_216 : List (List Nat) := [[], [998], [], [], [], [], [], [], [998], [], [], [998], [], [], [], [998], [1196, 54, 1199, 86, 1198, 0], [], [998], []]
set_option maxRecDepth 100000 in
theorem bo_216 : bi_okM 216 bh_216 0 bc_216 = true := by decide +kernel
def bh_217 : List (List Nat) := [[], [998], [], [], [], [], [], [998], [], [1196, 54, 1199, 86, 1198, 0], [], [], [998], [], [], [998], [], [], [999], [], [998], []]
set_option maxRecDepth 100000 in
theorem bo_217 : bi_okM 217 bh_217 0 bc_217 = true := by decide +kernel
def bh_218 : List (List Nat) := [[], [], [], [1379], [1070, 0, 1072, 86, 1071, 0], [], [], [], [], [], [], [], [991], [], [], [], [], [], [], [1000], [], [], [1216, 57, 1219, 86, 1218, 0], [], [], [1002], [], [], [999], [], [], [998], [], [], [988], [], [], [], [1132, 46, 1135, 86, 1134, 0], []]
set_option maxRecDepth 100000 in
theorem bo_218 : bi_okM 218 bh_218 0 bc_218 = true := by decide +kernel
def bh_219 : List (List Nat) := [[], [], [], [], [417], [], [], [], [], [418], [], [], [], [], [418], [], [], [], [], [], [], [], [], [419], [], [], [], [], [], [], [], [], [], [], [], [], [], [], [], [], [], []]
set_option maxRecDepth 100000 in
theorem bo_219 : bi_okM 219 bh_219 0 bc_219 = true := by decide +kernel
def bh_220 : List (List Nat) := [[], [1380], [], [], [301, 303, 304, 81, 302, 0], [], []]
set_option maxRecDepth 100000 in
theorem bo_220 : bi_okM 220 bh_220 0 bc_220 = true := by decide +kernel
def bh_221 : List (List Nat) := [[], [311, 313, 314, 81, 312, 0], [], [], [1380], [], [315, 0, 317, 82, 316, 0], [], [], [1380], [], [], []]
set_option maxRecDepth 100000 in
theorem bo_221 : bi_okM 221 bh_221 0 bc_221 = true := by decide +kernel
def bh_222 : List (List Nat) := [[305], [], [], [1381], [], [], []]
set_option maxRecDepth 100000 in
theorem bo_222 : bi_okM 222 bh_222 0 bc_222 = true := by decide +kernel
def bh_223 : List (List Nat) := [[305], [], [], [1381], [], [], [], [], []]
set_option maxRecDepth 100000 in
theorem bo_223 : bi_okM 223 bh_223 0 bc_223 = true := by decide +kernel
def bh_224 : List (List Nat) := [[], [], [321], [323, 0, 325, 83, 324, 0], [], []]
set_option maxRecDepth 100000 in
theorem bo_224 : bi_okM 224 bh_224 0 bc_224 = true := by decide +kernel
def bh_225 : List (List Nat) := [[], [], [], [318, 0, 320, 81, 319, 0], [], [], [], [], [], [], []]
set_option maxRecDepth 100000 in
theorem bo_225 : bi_okM 225 bh_225 0 bc_225 = true := by decide +kernel
def bh_226 : List (List Nat) := [[], [], [], [], [], [], [], [], [], [], [], []]
set_option maxRecDepth 100000 in
theorem bo_226 : bi_okM 226 bh_226 0 bc_226 = true := by decide +kernel
