theorem pl_14 : ∀ w ∈ wsL_law0_r15, w ∈ lw_tbl := pl_in [737, 739, 33, 740, 741, 743, 34, 744, 745, 747, 35, 748, 749, 751, 36, 752, 753, 755, 37, 756, 757, 759, 38, 760] (by decide +kernel)
theorem pl_15 : ∀ w ∈ wsL_law0_r16, w ∈ lw_tbl := pl_in [761, 763, 39, 764, 496, 497, 498, 499, 500, 501, 502, 503, 505, 17, 506, 765, 766, 767, 768, 507, 508, 509, 510, 511] (by decide +kernel)
theorem pl_16 : ∀ w ∈ wsL_law0_r17, w ∈ lw_tbl := pl_in [512, 513, 514, 516, 18, 517, 212, 518, 520, 19, 521, 769, 770, 771, 772, 523, 524, 525, 526, 527, 528, 529, 773, 774] (by decide +kernel)
theorem pl_17 : ∀ w ∈ wsL_law0_r18, w ∈ lw_tbl := pl_in [775, 776, 531, 532, 533, 534, 535, 536, 537, 538, 540, 20, 541, 542, 543, 544, 545, 546, 548, 21, 549, 168, 166, 550] (by decide +kernel)
theorem pl_18 : ∀ w ∈ wsL_law0_r19, w ∈ lw_tbl := pl_in [552, 22, 553, 103, 93, 99, 777, 778, 779, 780, 781, 783, 40, 784, 554, 555, 556, 557, 558, 559, 560, 561, 563, 23] (by decide +kernel)
theorem pl_19 : ∀ w ∈ wsL_law0_r20, w ∈ lw_tbl := pl_in [564, 785, 786, 787, 788, 565, 566, 567, 568, 569, 570, 571, 573, 574, 575, 576, 88, 705, 706, 707, 708, 577, 578, 579] (by decide +kernel)
theorem pl_20 : ∀ w ∈ wsL_law0_r21, w ∈ lw_tbl := pl_in [580, 581, 582, 583, 789, 790, 791, 792, 261, 262, 263, 264, 79, 269, 270, 54, 271, 272, 273, 274, 275, 277, 2, 278] (by decide +kernel)
theorem pl_21 : ∀ w ∈ wsL_law0_r22, w ∈ lw_tbl := pl_in [793, 794, 795, 796] (by decide +kernel)
theorem pl_22 : ∀ w ∈ wsX00, w ∈ lw_tbl := pl_in [104, 106, 108, 110, 112, 114, 116, 118, 120, 122, 124] (by decide +kernel)
theorem pl_23 : ∀ w ∈ wsX10, w ∈ lw_tbl := pl_in [177, 179, 181, 183, 185, 187, 189, 191, 193, 195, 197, 199, 201] (by decide +kernel)
theorem pl_24 : ∀ w ∈ wsX20, w ∈ lw_tbl := pl_in [141, 143, 145, 147] (by decide +kernel)
theorem pl_25 : ∀ w ∈ wsX30, w ∈ lw_tbl := pl_in [219, 221, 223, 225, 227] (by decide +kernel)
theorem pl_26 : ∀ w ∈ wsX40, w ∈ lw_tbl := pl_in [236, 238, 240, 242, 244, 246] (by decide +kernel)
theorem pl_27 : ∀ w ∈ wsX50, w ∈ lw_tbl := pl_in [618, 620, 622, 624, 626, 628, 630, 632, 634, 636, 638, 640, 642, 644, 646, 648, 650, 652, 654, 656, 658, 660, 662, 664,  666, 668, 670] (by decide +kernel)
theorem pl_28 : ∀ w ∈ (vx_atS RX4 48 "java/lang/IllegalArgumentException" ["java/lang/RuntimeException", "java/lang/Exception"]).filter goodWord, w ∈ lw_tbl := pl_in [48, 374, 383, 387, 390, 392, 375, 376, 61, 62, 377, 382, 388, 408, 364, 409, 366, 410, 368, 378, 380, 370, 404, 405,  407, 370, 395, 396, 397, 398, 398, 399, 400, 401, 401, 402, 403, 404, 394, 353, 361, 362, 363, 365, 367, 369, 373,  372, 371] (by decide +kernel)
theorem pl_29 : ∀ w ∈ (vx_atS RX4 59 "java/lang/UnsupportedOperationException" ["java/lang/RuntimeException", "java/lang/Exception"]).filter goodWord, w ∈ lw_tbl := pl_in [48, 374, 383, 387, 390, 392, 375, 376, 61, 62, 377, 382, 388, 408, 364, 409, 366, 410, 368, 378, 380, 370, 404, 405,  407, 370, 431, 432, 433, 398, 398, 399, 400, 401, 401, 402, 403, 404, 430, 421, 423, 386, 424, 425, 426, 427, 373,  372, 428] (by decide +kernel)
theorem pl_30 : ∀ w ∈ (vx_atS RX4 86 "java/lang/IndexOutOfBoundsException" ["java/lang/RuntimeException", "java/lang/Exception"]).filter goodWord, w ∈ lw_tbl := pl_in [48, 374, 383, 387, 390, 392, 375, 376, 61, 62, 377, 382, 388, 408, 364, 409, 366, 410, 368, 378, 380, 370, 404, 405,  407, 370, 479, 480, 481, 398, 398, 399, 400, 401, 401, 402, 403, 404, 478, 470, 472, 385, 473, 474, 475, 476, 373,  372, 477] (by decide +kernel)
theorem pl_law0 : ∀ w ∈ wsL_law0, w ∈ lw_tbl := by
  intro w h
  unfold wsL_law0 at h
  rcases List.mem_append.mp h with h | h
  rotate_left
  · cases h
  rcases List.mem_append.mp h with h | h
  rotate_left
  · exact pl_25 w h
  rcases List.mem_append.mp h with h | h
  rotate_left
  · exact pl_23 w h
  rcases List.mem_append.mp h with h | h
  rotate_left
  · exact pl_24 w h
  rcases List.mem_append.mp h with h | h
  rotate_left
  · exact pl_22 w h
  rcases List.mem_append.mp h with h | h
  rotate_left
  · exact pl_27 w h
  rcases List.mem_append.mp h with h | h
  rotate_left
  · exact pl_26 w h
  rcases List.mem_append.mp h with h | h
  · exact pl_0 w h
  rcases List.mem_append.mp h with h | h
  · exact pl_1 w h
  rcases List.mem_append.mp h with h | h
  · exact pl_2 w h
  rcases List.mem_append.mp h with h | h
  · exact pl_3 w h
  rcases List.mem_append.mp h with h | h
  · exact pl_4 w h
  rcases List.mem_append.mp h with h | h
  · exact pl_5 w h
  rcases List.mem_append.mp h with h | h
  · exact pl_6 w h
  rcases List.mem_append.mp h with h | h
  · exact pl_7 w h
  rcases List.mem_append.mp h with h | h
  · exact pl_8 w h
  rcases List.mem_append.mp h with h | h
  · exact pl_9 w h
  rcases List.mem_append.mp h with h | h
  · exact pl_10 w h
  rcases List.mem_append.mp h with h | h
  · exact pl_11 w h
  rcases List.mem_append.mp h with h | h
  · exact pl_12 w h
  rcases List.mem_append.mp h with h | h
  · exact pl_13 w h
  rcases List.mem_append.mp h with h | h
  · exact pl_14 w h
  rcases List.mem_append.mp h with h | h
  · exact pl_15 w h
  rcases List.mem_append.mp h with h | h
  · exact pl_16 w h
  rcases List.mem_append.mp h with h | h
  · exact pl_17 w h
  rcases List.mem_append.mp h with h | h
  · exact pl_18 w h
  rcases List.mem_append.mp h with h | h
  · exact pl_19 w h
  rcases List.mem_append.mp h with h | h
  · exact pl_20 w h
  exact pl_21 w h
theorem pl_law : ∀ w ∈ wsL_law, w ∈ lw_tbl := fun w h => (List.mem_append.mp h).elim (fun h => (List.mem_append.mp h).elim (fun h => (List.mem_append.mp h).elim (fun h => pl_law0 w h) (fun h => pl_28 w h)) (fun h => pl_29 w h)) (fun h => pl_30 w h)
