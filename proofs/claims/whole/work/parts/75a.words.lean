/-! the law's words lie within the tables' words -/
theorem pl_in {l big : List Cond} (ps : List Nat) (h : ps.filterMap (fun i => big[i]?) = l) : ∀ w ∈ l, w ∈ big := by
  intro w hw
  rw [← h] at hw
  obtain ⟨i, _, hi⟩ := List.mem_filterMap.mp hw
  exact List.mem_of_getElem? hi
theorem pl_0 : ∀ w ∈ wsL_law0_r1, w ∈ lw_tbl := pl_in [55, 56, 42, 584, 585, 47, 797, 57, 58, 59, 60, 61, 62, 63, 64, 43, 230, 127, 231, 129, 130, 44, 232, 150] (by decide +kernel)
theorem pl_1 : ∀ w ∈ wsL_law0_r2, w ∈ lw_tbl := pl_in [151, 45, 233, 204, 205, 46, 234, 235, 66, 67, 68, 80, 128, 82, 83, 86, 89, 94, 96, 100, 132, 133, 134, 137] (by decide +kernel)
theorem pl_2 : ∀ w ∈ wsL_law0_r3, w ∈ lw_tbl := pl_in [138, 140, 153, 154, 155, 156, 162, 165, 169, 171, 172, 173, 175, 207, 208, 209, 210, 211, 213, 215, 217, 586, 587, 588] (by decide +kernel)
theorem pl_3 : ∀ w ∈ wsL_law0_r4, w ∈ lw_tbl := pl_in [589, 594, 595, 596, 597, 598, 599, 600, 601, 602, 605, 606, 607, 608, 609, 610, 590, 611, 612, 613, 614, 617, 343, 344] (by decide +kernel)
theorem pl_4 : ∀ w ∈ wsL_law0_r5, w ∈ lw_tbl := pl_in [41, 345, 346, 347, 348, 349, 350, 351, 352, 51, 420, 52, 71, 436, 437, 438, 439, 70, 78, 76, 677, 678, 679, 680] (by decide +kernel)
theorem pl_5 : ∀ w ∈ wsL_law0_r6, w ∈ lw_tbl := pl_in [592, 591, 681, 683, 24, 684, 603, 673, 674, 675, 676, 440, 441, 442, 443, 444, 445, 446, 77, 447, 448, 449, 450, 452] (by decide +kernel)
theorem pl_6 : ∀ w ∈ wsL_law0_r7, w ∈ lw_tbl := pl_in [453, 454, 457, 458, 459, 460, 685, 686, 687, 688, 593, 689, 691, 25, 692, 461, 462, 463, 464, 465, 466, 467, 468, 469] (by decide +kernel)
theorem pl_7 : ∀ w ∈ wsL_law0_r8, w ∈ lw_tbl := pl_in [53, 693, 694, 695, 696, 249, 250, 251, 252, 136, 253, 254, 255, 256, 69, 135, 101, 97, 90, 257, 259, 0, 260, 697] (by decide +kernel)
theorem pl_8 : ∀ w ∈ wsL_law0_r9, w ∈ lw_tbl := pl_in [698, 699, 700, 604, 701, 703, 26, 704, 485, 486, 487, 488, 489, 490, 491, 492, 493, 494, 279, 281, 3, 282, 161, 283] (by decide +kernel)
theorem pl_9 : ∀ w ∈ wsL_law0_r10, w ∈ lw_tbl := pl_in [285, 4, 286, 158, 139, 81, 287, 289, 5, 290, 291, 292, 293, 294, 295, 297, 6, 298, 265, 267, 1, 268, 299, 300] (by decide +kernel)
theorem pl_10 : ∀ w ∈ wsL_law0_r11, w ∈ lw_tbl := pl_in [301, 302, 159, 167, 170, 174, 176, 72, 303, 305, 7, 306, 75, 102, 92, 98, 307, 309, 8, 310, 311, 313, 9, 314] (by decide +kernel)
theorem pl_11 : ∀ w ∈ wsL_law0_r12, w ∈ lw_tbl := pl_in [315, 317, 10, 318, 319, 321, 11, 322, 323, 324, 325, 326, 160, 73, 157, 163, 84, 74, 87, 91, 95, 327, 329, 12] (by decide +kernel)
theorem pl_12 : ∀ w ∈ wsL_law0_r13, w ∈ lw_tbl := pl_in [330, 331, 333, 13, 334, 335, 337, 14, 338, 339, 341, 15, 342, 164, 216, 218, 214, 85, 709, 710, 711, 712, 713, 715] (by decide +kernel)
theorem pl_13 : ∀ w ∈ wsL_law0_r14, w ∈ lw_tbl := pl_in [27, 716, 717, 719, 28, 720, 615, 721, 723, 29, 724, 616, 725, 727, 30, 728, 729, 731, 31, 732, 733, 735, 32, 736] (by decide +kernel)
