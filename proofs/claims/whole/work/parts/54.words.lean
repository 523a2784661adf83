/-! 54.words: the words that the table wants are among the tables' (written by gen2b.py) -/
def Ts : List Cond := (CLS.flatMap fun q => u_ws q.1 q.2.1 q.2.2) ++ (PP.flatMap (ma_wm CLS PP) ++ (PP.drop 1).flatMap fun my => [Cond.code my.1 my.2.1 my.2.2.1 my.2.2.2.1, Cond.initialized my.1.cls])
def NS : List Cond := PP.flatMap (ma_wnm "PhaseBook" CLS PP)
theorem wd_in {big ws : List Cond} (ps : List Nat) (h : ws = ps.filterMap (fun i => big[i]?)) : ∀ w ∈ ws, w ∈ big := by
  intro w hw
  rw [h] at hw
  obtain ⟨i, -, hi⟩ := List.mem_filterMap.mp hw
  exact List.mem_of_getElem? hi
set_option maxRecDepth 100000 in
theorem wd_0 : ∀ w ∈ ma_wm CLS PP mm0, w ∈ lw_tbl := wd_in [68, 69, 56, 681, 680, 681, 680, 71, 70, 683, 684, 66, 681, 680, 681, 680, 686, 685, 336, 337, 335, 770, 771, 769, 343, 344, 342, 777, 778, 776, 499, 500, 498, 880, 881, 879, 516, 517, 515, 888, 889, 887, 528, 529, 527, 892, 893, 891, 574, 575, 573, 918, 919, 917, 594, 595, 593, 922, 923, 921, 607, 608, 606, 926, 927, 925, 613, 614, 612, 930, 931, 929, 621, 622, 620, 937, 938, 936, 626, 627, 625, 941, 942, 940, 635, 636, 634, 949, 950, 948, 639, 640, 638, 953, 954, 952, 647, 648, 646, 957, 958, 956, 651, 652, 650, 961, 962, 960, 664, 665, 663, 965, 966, 964, 673, 674, 672, 969, 970, 968, 677, 678, 676, 973, 974, 972] rfl
set_option maxRecDepth 100000 in
theorem wn_0 : ∀ w ∈ ma_wnm "PhaseBook" CLS PP mm0, w ∈ lw_tbl := wd_in [] rfl
set_option maxRecDepth 100000 in
theorem wd_1 : ∀ w ∈ ma_wm CLS PP mm1, w ∈ lw_tbl := wd_in [73, 74, 75, 77, 76, 85, 86, 58, 77, 76, 88, 87, 322, 277, 137, 61, 139, 278, 323, 279, 280, 64, 282, 324, 306, 307, 65, 309, 325] rfl
set_option maxRecDepth 100000 in
theorem wn_1 : ∀ w ∈ ma_wnm "PhaseBook" CLS PP mm1, w ∈ lw_tbl := wd_in [281, 308] rfl
set_option maxRecDepth 100000 in
theorem wc_1 : ∀ w ∈ [Cond.code mm1.1 mm1.2.1 mm1.2.2.1 mm1.2.2.2.1, Cond.initialized mm1.1.cls], w ∈ lw_tbl := wd_in [72, 56] rfl
set_option maxRecDepth 100000 in
theorem wd_2 : ∀ w ∈ ma_wm CLS PP mm2, w ∈ lw_tbl := wd_in [340, 339, 322, 259, 214] rfl
set_option maxRecDepth 100000 in
theorem wn_2 : ∀ w ∈ ma_wnm "PhaseBook" CLS PP mm2, w ∈ lw_tbl := wd_in [] rfl
set_option maxRecDepth 100000 in
theorem wc_2 : ∀ w ∈ [Cond.code mm2.1 mm2.2.1 mm2.2.2.1 mm2.2.2.2.1, Cond.initialized mm2.1.cls], w ∈ lw_tbl := wd_in [338, 56] rfl
set_option maxRecDepth 100000 in
theorem wd_3 : ∀ w ∈ ma_wm CLS PP mm3, w ∈ lw_tbl := wd_in [348, 0, 346, 322, 351, 352, 350, 322, 384, 385, 383, 465, 14, 463] rfl
set_option maxRecDepth 100000 in
theorem wn_3 : ∀ w ∈ ma_wnm "PhaseBook" CLS PP mm3, w ∈ lw_tbl := wd_in [] rfl
set_option maxRecDepth 100000 in
theorem wc_3 : ∀ w ∈ [Cond.code mm3.1 mm3.2.1 mm3.2.2.1 mm3.2.2.2.1, Cond.initialized mm3.1.cls], w ∈ lw_tbl := wd_in [345, 56] rfl
set_option maxRecDepth 100000 in
theorem wd_4 : ∀ w ∈ ma_wm CLS PP mm4, w ∈ lw_tbl := wd_in [348, 0, 346, 322, 503, 504, 502, 322, 427, 428, 514, 465, 14, 463] rfl
set_option maxRecDepth 100000 in
theorem wn_4 : ∀ w ∈ ma_wnm "PhaseBook" CLS PP mm4, w ∈ lw_tbl := wd_in [] rfl
set_option maxRecDepth 100000 in
theorem wc_4 : ∀ w ∈ [Cond.code mm4.1 mm4.2.1 mm4.2.2.1 mm4.2.2.2.1, Cond.initialized mm4.1.cls], w ∈ lw_tbl := wd_in [501, 56] rfl
set_option maxRecDepth 100000 in
theorem wd_5 : ∀ w ∈ ma_wm CLS PP mm5, w ∈ lw_tbl := wd_in [348, 0, 346, 322, 520, 521, 519, 322, 524, 525, 523, 465, 14, 463] rfl
set_option maxRecDepth 100000 in
theorem wn_5 : ∀ w ∈ ma_wnm "PhaseBook" CLS PP mm5, w ∈ lw_tbl := wd_in [] rfl
set_option maxRecDepth 100000 in
theorem wc_5 : ∀ w ∈ [Cond.code mm5.1 mm5.2.1 mm5.2.2.1 mm5.2.2.2.1, Cond.initialized mm5.1.cls], w ∈ lw_tbl := wd_in [518, 56] rfl
set_option maxRecDepth 100000 in
theorem wd_6 : ∀ w ∈ ma_wm CLS PP mm6, w ∈ lw_tbl := wd_in [322, 532, 533, 531, 322, 536, 537, 535, 322, 469, 470, 468, 324, 322, 261, 481, 482, 480] rfl
set_option maxRecDepth 100000 in
theorem wn_6 : ∀ w ∈ ma_wnm "PhaseBook" CLS PP mm6, w ∈ lw_tbl := wd_in [] rfl
set_option maxRecDepth 100000 in
theorem wc_6 : ∀ w ∈ [Cond.code mm6.1 mm6.2.1 mm6.2.2.1 mm6.2.2.2.1, Cond.initialized mm6.1.cls], w ∈ lw_tbl := wd_in [530, 56] rfl
set_option maxRecDepth 100000 in
theorem wd_7 : ∀ w ∈ ma_wm CLS PP mm7, w ∈ lw_tbl := wd_in [323, 322, 255, 578, 579, 577, 323, 239, 151] rfl
set_option maxRecDepth 100000 in
theorem wn_7 : ∀ w ∈ ma_wnm "PhaseBook" CLS PP mm7, w ∈ lw_tbl := wd_in [] rfl
set_option maxRecDepth 100000 in
theorem wc_7 : ∀ w ∈ [Cond.code mm7.1 mm7.2.1 mm7.2.2.1 mm7.2.2.2.1, Cond.initialized mm7.1.cls], w ∈ lw_tbl := wd_in [576, 56] rfl
set_option maxRecDepth 100000 in
theorem wd_8 : ∀ w ∈ ma_wm CLS PP mm8, w ∈ lw_tbl := wd_in [322, 323, 598, 599, 597, 324, 322, 261, 481, 482, 480, 322, 257, 151] rfl
set_option maxRecDepth 100000 in
theorem wn_8 : ∀ w ∈ ma_wnm "PhaseBook" CLS PP mm8, w ∈ lw_tbl := wd_in [] rfl
set_option maxRecDepth 100000 in
theorem wc_8 : ∀ w ∈ [Cond.code mm8.1 mm8.2.1 mm8.2.2.1 mm8.2.2.2.1, Cond.initialized mm8.1.cls], w ∈ lw_tbl := wd_in [596, 56] rfl
set_option maxRecDepth 100000 in
theorem wd_9 : ∀ w ∈ ma_wm CLS PP mm9, w ∈ lw_tbl := wd_in [322, 263, 322, 255, 230, 322, 255, 232, 322, 255, 235, 322, 257, 380, 381, 610, 322, 257, 322, 255, 235, 544, 545, 611, 122, 322, 257, 322, 255, 235, 544, 545, 611, 125, 322, 257, 322, 255, 235, 544, 545, 611, 128] rfl
set_option maxRecDepth 100000 in
theorem wn_9 : ∀ w ∈ ma_wnm "PhaseBook" CLS PP mm9, w ∈ lw_tbl := wd_in [] rfl
set_option maxRecDepth 100000 in
theorem wc_9 : ∀ w ∈ [Cond.code mm9.1 mm9.2.1 mm9.2.2.1 mm9.2.2.2.1, Cond.initialized mm9.1.cls], w ∈ lw_tbl := wd_in [609, 56] rfl
set_option maxRecDepth 100000 in
theorem wd_10 : ∀ w ∈ ma_wm CLS PP mm10, w ∈ lw_tbl := wd_in [617, 616, 361, 619, 322, 261, 102] rfl
set_option maxRecDepth 100000 in
theorem wn_10 : ∀ w ∈ ma_wnm "PhaseBook" CLS PP mm10, w ∈ lw_tbl := wd_in [] rfl
set_option maxRecDepth 100000 in
theorem wc_10 : ∀ w ∈ [Cond.code mm10.1 mm10.2.1 mm10.2.2.1 mm10.2.2.2.1, Cond.initialized mm10.1.cls], w ∈ lw_tbl := wd_in [615, 56] rfl
set_option maxRecDepth 100000 in
theorem wd_11 : ∀ w ∈ ma_wm CLS PP mm11, w ∈ lw_tbl := wd_in [617, 616, 322, 257, 548, 549, 624] rfl
set_option maxRecDepth 100000 in
theorem wn_11 : ∀ w ∈ ma_wnm "PhaseBook" CLS PP mm11, w ∈ lw_tbl := wd_in [] rfl
set_option maxRecDepth 100000 in
theorem wc_11 : ∀ w ∈ [Cond.code mm11.1 mm11.2.1 mm11.2.2.1 mm11.2.2.2.1, Cond.initialized mm11.1.cls], w ∈ lw_tbl := wd_in [623, 56] rfl
set_option maxRecDepth 100000 in
theorem wd_12 : ∀ w ∈ ma_wm CLS PP mm12, w ∈ lw_tbl := wd_in [322, 257, 511, 512, 629, 161, 165, 169, 174, 154, 631, 632, 630] rfl
set_option maxRecDepth 100000 in
theorem wn_12 : ∀ w ∈ ma_wnm "PhaseBook" CLS PP mm12, w ∈ lw_tbl := wd_in [] rfl
set_option maxRecDepth 100000 in
theorem wc_12 : ∀ w ∈ [Cond.code mm12.1 mm12.2.1 mm12.2.2.1 mm12.2.2.2.1, Cond.initialized mm12.1.cls], w ∈ lw_tbl := wd_in [628, 56] rfl
set_option maxRecDepth 100000 in
theorem wd_13 : ∀ w ∈ ma_wm CLS PP mm13, w ∈ lw_tbl := wd_in [340, 339, 322, 259, 212, 322, 259, 217] rfl
set_option maxRecDepth 100000 in
theorem wn_13 : ∀ w ∈ ma_wnm "PhaseBook" CLS PP mm13, w ∈ lw_tbl := wd_in [] rfl
set_option maxRecDepth 100000 in
theorem wc_13 : ∀ w ∈ [Cond.code mm13.1 mm13.2.1 mm13.2.2.1 mm13.2.2.2.1, Cond.initialized mm13.1.cls], w ∈ lw_tbl := wd_in [637, 56] rfl
set_option maxRecDepth 100000 in
theorem wd_14 : ∀ w ∈ ma_wm CLS PP mm14, w ∈ lw_tbl := wd_in [340, 339, 322, 259, 643, 644, 642] rfl
set_option maxRecDepth 100000 in
theorem wn_14 : ∀ w ∈ ma_wnm "PhaseBook" CLS PP mm14, w ∈ lw_tbl := wd_in [] rfl
set_option maxRecDepth 100000 in
theorem wc_14 : ∀ w ∈ [Cond.code mm14.1 mm14.2.1 mm14.2.2.1 mm14.2.2.2.1, Cond.initialized mm14.1.cls], w ∈ lw_tbl := wd_in [641, 56] rfl
set_option maxRecDepth 100000 in
theorem wd_15 : ∀ w ∈ ma_wm CLS PP mm15, w ∈ lw_tbl := wd_in [324, 287] rfl
set_option maxRecDepth 100000 in
theorem wn_15 : ∀ w ∈ ma_wnm "PhaseBook" CLS PP mm15, w ∈ lw_tbl := wd_in [] rfl
set_option maxRecDepth 100000 in
theorem wc_15 : ∀ w ∈ [Cond.code mm15.1 mm15.2.1 mm15.2.2.1 mm15.2.2.2.1, Cond.initialized mm15.1.cls], w ∈ lw_tbl := wd_in [649, 56] rfl
set_option maxRecDepth 100000 in
theorem wd_16 : ∀ w ∈ ma_wm CLS PP mm16, w ∈ lw_tbl := wd_in [325, 324, 655, 656, 654] rfl
set_option maxRecDepth 100000 in
theorem wn_16 : ∀ w ∈ ma_wnm "PhaseBook" CLS PP mm16, w ∈ lw_tbl := wd_in [] rfl
set_option maxRecDepth 100000 in
theorem wc_16 : ∀ w ∈ [Cond.code mm16.1 mm16.2.1 mm16.2.2.1 mm16.2.2.2.1, Cond.initialized mm16.1.cls], w ∈ lw_tbl := wd_in [653, 56] rfl
set_option maxRecDepth 100000 in
theorem wd_17 : ∀ w ∈ ma_wm CLS PP mm17, w ∈ lw_tbl := wd_in [325, 322, 261, 324, 287, 668, 669, 667, 325, 314] rfl
set_option maxRecDepth 100000 in
theorem wn_17 : ∀ w ∈ ma_wnm "PhaseBook" CLS PP mm17, w ∈ lw_tbl := wd_in [] rfl
set_option maxRecDepth 100000 in
theorem wc_17 : ∀ w ∈ [Cond.code mm17.1 mm17.2.1 mm17.2.2.1 mm17.2.2.2.1, Cond.initialized mm17.1.cls], w ∈ lw_tbl := wd_in [666, 56] rfl
set_option maxRecDepth 100000 in
theorem wd_18 : ∀ w ∈ ma_wm CLS PP mm18, w ∈ lw_tbl := wd_in [617, 616, 361, 619, 325, 316] rfl
set_option maxRecDepth 100000 in
theorem wn_18 : ∀ w ∈ ma_wnm "PhaseBook" CLS PP mm18, w ∈ lw_tbl := wd_in [] rfl
set_option maxRecDepth 100000 in
theorem wc_18 : ∀ w ∈ [Cond.code mm18.1 mm18.2.1 mm18.2.2.1 mm18.2.2.2.1, Cond.initialized mm18.1.cls], w ∈ lw_tbl := wd_in [675, 56] rfl
set_option maxRecDepth 100000 in
theorem wd_19 : ∀ w ∈ ma_wm CLS PP mm19, w ∈ lw_tbl := wd_in [325, 314] rfl
set_option maxRecDepth 100000 in
theorem wn_19 : ∀ w ∈ ma_wnm "PhaseBook" CLS PP mm19, w ∈ lw_tbl := wd_in [] rfl
set_option maxRecDepth 100000 in
theorem wc_19 : ∀ w ∈ [Cond.code mm19.1 mm19.2.1 mm19.2.2.1 mm19.2.2.2.1, Cond.initialized mm19.1.cls], w ∈ lw_tbl := wd_in [679, 56] rfl
set_option maxRecDepth 100000 in
theorem wd_20 : ∀ w ∈ ma_wm CLS PP mm20, w ∈ lw_tbl := wd_in [79, 80, 57, 81, 82, 83, 57, 84] rfl
set_option maxRecDepth 100000 in
theorem wn_20 : ∀ w ∈ ma_wnm "PhaseBook" CLS PP mm20, w ∈ lw_tbl := wd_in [] rfl
set_option maxRecDepth 100000 in
theorem wc_20 : ∀ w ∈ [Cond.code mm20.1 mm20.2.1 mm20.2.2.1 mm20.2.2.2.1, Cond.initialized mm20.1.cls], w ∈ lw_tbl := wd_in [78, 56] rfl
set_option maxRecDepth 100000 in
theorem wd_21 : ∀ w ∈ ma_wm CLS PP mm21, w ∈ lw_tbl := wd_in [] rfl
set_option maxRecDepth 100000 in
theorem wn_21 : ∀ w ∈ ma_wnm "PhaseBook" CLS PP mm21, w ∈ lw_tbl := wd_in [] rfl
set_option maxRecDepth 100000 in
theorem wc_21 : ∀ w ∈ [Cond.code mm21.1 mm21.2.1 mm21.2.2.1 mm21.2.2.2.1, Cond.initialized mm21.1.cls], w ∈ lw_tbl := wd_in [341, 56] rfl
set_option maxRecDepth 100000 in
theorem wd_22 : ∀ w ∈ ma_wm CLS PP mm22, w ∈ lw_tbl := wd_in [] rfl
set_option maxRecDepth 100000 in
theorem wn_22 : ∀ w ∈ ma_wnm "PhaseBook" CLS PP mm22, w ∈ lw_tbl := wd_in [] rfl
set_option maxRecDepth 100000 in
theorem wc_22 : ∀ w ∈ [Cond.code mm22.1 mm22.2.1 mm22.2.2.1 mm22.2.2.2.1, Cond.initialized mm22.1.cls], w ∈ lw_tbl := wd_in [618, 56] rfl
set_option maxRecDepth 100000 in
theorem wd_23 : ∀ w ∈ ma_wm CLS PP mm23, w ∈ lw_tbl := wd_in [] rfl
set_option maxRecDepth 100000 in
theorem wn_23 : ∀ w ∈ ma_wnm "PhaseBook" CLS PP mm23, w ∈ lw_tbl := wd_in [] rfl
set_option maxRecDepth 100000 in
theorem wc_23 : ∀ w ∈ [Cond.code mm23.1 mm23.2.1 mm23.2.2.1 mm23.2.2.2.1, Cond.initialized mm23.1.cls], w ∈ lw_tbl := wd_in [362, 56] rfl
set_option maxRecDepth 100000 in
theorem wd_24 : ∀ w ∈ ma_wm CLS PP mm24, w ∈ lw_tbl := wd_in [] rfl
set_option maxRecDepth 100000 in
theorem wn_24 : ∀ w ∈ ma_wnm "PhaseBook" CLS PP mm24, w ∈ lw_tbl := wd_in [] rfl
set_option maxRecDepth 100000 in
theorem wc_24 : ∀ w ∈ [Cond.code mm24.1 mm24.2.1 mm24.2.2.1 mm24.2.2.2.1, Cond.initialized mm24.1.cls], w ∈ lw_tbl := wd_in [356, 56] rfl
set_option maxRecDepth 100000 in
theorem wd_25 : ∀ w ∈ ma_wm CLS PP mm25, w ∈ lw_tbl := wd_in [] rfl
set_option maxRecDepth 100000 in
theorem wn_25 : ∀ w ∈ ma_wnm "PhaseBook" CLS PP mm25, w ∈ lw_tbl := wd_in [] rfl
set_option maxRecDepth 100000 in
theorem wc_25 : ∀ w ∈ [Cond.code mm25.1 mm25.2.1 mm25.2.2.1 mm25.2.2.2.1, Cond.initialized mm25.1.cls], w ∈ lw_tbl := wd_in [375, 56] rfl
set_option maxRecDepth 100000 in
theorem wd_26 : ∀ w ∈ ma_wm CLS PP mm26, w ∈ lw_tbl := wd_in [] rfl
set_option maxRecDepth 100000 in
theorem wn_26 : ∀ w ∈ ma_wnm "PhaseBook" CLS PP mm26, w ∈ lw_tbl := wd_in [] rfl
set_option maxRecDepth 100000 in
theorem wc_26 : ∀ w ∈ [Cond.code mm26.1 mm26.2.1 mm26.2.2.1 mm26.2.2.2.1, Cond.initialized mm26.1.cls], w ∈ lw_tbl := wd_in [378, 56] rfl
set_option maxRecDepth 100000 in
theorem wd_27 : ∀ w ∈ ma_wm CLS PP mm27, w ∈ lw_tbl := wd_in [] rfl
set_option maxRecDepth 100000 in
theorem wn_27 : ∀ w ∈ ma_wnm "PhaseBook" CLS PP mm27, w ∈ lw_tbl := wd_in [] rfl
set_option maxRecDepth 100000 in
theorem wc_27 : ∀ w ∈ [Cond.code mm27.1 mm27.2.1 mm27.2.2.1 mm27.2.2.2.1, Cond.initialized mm27.1.cls], w ∈ lw_tbl := wd_in [359, 56] rfl
set_option maxRecDepth 100000 in
theorem wd_28 : ∀ w ∈ ma_wm CLS PP mm28, w ∈ lw_tbl := wd_in [] rfl
set_option maxRecDepth 100000 in
theorem wn_28 : ∀ w ∈ ma_wnm "PhaseBook" CLS PP mm28, w ∈ lw_tbl := wd_in [] rfl
set_option maxRecDepth 100000 in
theorem wc_28 : ∀ w ∈ [Cond.code mm28.1 mm28.2.1 mm28.2.2.1 mm28.2.2.2.1, Cond.initialized mm28.1.cls], w ∈ lw_tbl := wd_in [368, 56] rfl
set_option maxRecDepth 100000 in
theorem wd_29 : ∀ w ∈ ma_wm CLS PP mm29, w ∈ lw_tbl := wd_in [340, 339, 322, 259, 212] rfl
set_option maxRecDepth 100000 in
theorem wn_29 : ∀ w ∈ ma_wnm "PhaseBook" CLS PP mm29, w ∈ lw_tbl := wd_in [] rfl
set_option maxRecDepth 100000 in
theorem wc_29 : ∀ w ∈ [Cond.code mm29.1 mm29.2.1 mm29.2.2.1 mm29.2.2.2.1, Cond.initialized mm29.1.cls], w ∈ lw_tbl := wd_in [349, 56] rfl
set_option maxRecDepth 100000 in
theorem wd_30 : ∀ w ∈ ma_wm CLS PP mm30, w ∈ lw_tbl := wd_in [322, 259, 396, 397, 467, 322, 469, 470, 468, 324, 322, 261, 481, 482, 480] rfl
set_option maxRecDepth 100000 in
theorem wn_30 : ∀ w ∈ ma_wnm "PhaseBook" CLS PP mm30, w ∈ lw_tbl := wd_in [] rfl
set_option maxRecDepth 100000 in
theorem wc_30 : ∀ w ∈ [Cond.code mm30.1 mm30.2.1 mm30.2.2.1 mm30.2.2.2.1, Cond.initialized mm30.1.cls], w ∈ lw_tbl := wd_in [466, 56] rfl
set_option maxRecDepth 100000 in
theorem wd_31 : ∀ w ∈ ma_wm CLS PP mm31, w ∈ lw_tbl := wd_in [688, 74, 75, 114, 697, 114, 698, 114, 699, 114, 700, 114, 701, 114, 702, 114, 703, 114, 704, 114, 705, 114, 706, 114, 708, 114, 709, 114, 710, 114, 714, 114, 715, 114, 716, 114, 717, 690, 689, 696, 697, 690, 689, 697, 697, 697, 694, 24, 692] rfl
set_option maxRecDepth 100000 in
theorem wn_31 : ∀ w ∈ ma_wnm "PhaseBook" CLS PP mm31, w ∈ lw_tbl := wd_in [] rfl
set_option maxRecDepth 100000 in
theorem wc_31 : ∀ w ∈ [Cond.code mm31.1 mm31.2.1 mm31.2.2.1 mm31.2.2.2.1, Cond.initialized mm31.1.cls], w ∈ lw_tbl := wd_in [687, 66] rfl
set_option maxRecDepth 100000 in
theorem wd_32 : ∀ w ∈ ma_wm CLS PP mm32, w ∈ lw_tbl := wd_in [] rfl
set_option maxRecDepth 100000 in
theorem wn_32 : ∀ w ∈ ma_wnm "PhaseBook" CLS PP mm32, w ∈ lw_tbl := wd_in [] rfl
set_option maxRecDepth 100000 in
theorem wc_32 : ∀ w ∈ [Cond.code mm32.1 mm32.2.1 mm32.2.2.1 mm32.2.2.2.1, Cond.initialized mm32.1.cls], w ∈ lw_tbl := wd_in [691, 66] rfl
set_option maxRecDepth 100000 in
theorem wd_33 : ∀ w ∈ ma_wm CLS PP mm33, w ∈ lw_tbl := wd_in [] rfl
set_option maxRecDepth 100000 in
theorem wn_33 : ∀ w ∈ ma_wnm "PhaseBook" CLS PP mm33, w ∈ lw_tbl := wd_in [] rfl
set_option maxRecDepth 100000 in
theorem wc_33 : ∀ w ∈ [Cond.code mm33.1 mm33.2.1 mm33.2.2.1 mm33.2.2.2.1, Cond.initialized mm33.1.cls], w ∈ lw_tbl := wd_in [862, 66] rfl
set_option maxRecDepth 100000 in
theorem wd_34 : ∀ w ∈ ma_wm CLS PP mm34, w ∈ lw_tbl := wd_in [] rfl
set_option maxRecDepth 100000 in
theorem wn_34 : ∀ w ∈ ma_wnm "PhaseBook" CLS PP mm34, w ∈ lw_tbl := wd_in [] rfl
set_option maxRecDepth 100000 in
theorem wc_34 : ∀ w ∈ [Cond.code mm34.1 mm34.2.1 mm34.2.2.1 mm34.2.2.2.1, Cond.initialized mm34.1.cls], w ∈ lw_tbl := wd_in [775, 66] rfl
set_option maxRecDepth 100000 in
theorem wd_35 : ∀ w ∈ ma_wm CLS PP mm35, w ∈ lw_tbl := wd_in [697, 697, 698, 698, 699, 699, 700, 700, 701, 701, 702, 702, 703, 703, 704, 704, 705, 705, 706, 706, 708, 708] rfl
set_option maxRecDepth 100000 in
theorem wn_35 : ∀ w ∈ ma_wnm "PhaseBook" CLS PP mm35, w ∈ lw_tbl := wd_in [] rfl
set_option maxRecDepth 100000 in
theorem wc_35 : ∀ w ∈ [Cond.code mm35.1 mm35.2.1 mm35.2.2.1 mm35.2.2.2.1, Cond.initialized mm35.1.cls], w ∈ lw_tbl := wd_in [695, 66] rfl
set_option maxRecDepth 100000 in
theorem wd_36 : ∀ w ∈ ma_wm CLS PP mm36, w ∈ lw_tbl := wd_in [697, 697, 697] rfl
set_option maxRecDepth 100000 in
theorem wn_36 : ∀ w ∈ ma_wnm "PhaseBook" CLS PP mm36, w ∈ lw_tbl := wd_in [] rfl
set_option maxRecDepth 100000 in
theorem wc_36 : ∀ w ∈ [Cond.code mm36.1 mm36.2.1 mm36.2.2.1 mm36.2.2.2.1, Cond.initialized mm36.1.cls], w ∈ lw_tbl := wd_in [795, 66] rfl
set_option maxRecDepth 100000 in
theorem wd_37 : ∀ w ∈ ma_wm CLS PP mm37, w ∈ lw_tbl := wd_in [697, 702] rfl
set_option maxRecDepth 100000 in
theorem wn_37 : ∀ w ∈ ma_wnm "PhaseBook" CLS PP mm37, w ∈ lw_tbl := wd_in [] rfl
set_option maxRecDepth 100000 in
theorem wc_37 : ∀ w ∈ [Cond.code mm37.1 mm37.2.1 mm37.2.2.1 mm37.2.2.2.1, Cond.initialized mm37.1.cls], w ∈ lw_tbl := wd_in [799, 66] rfl
set_option maxRecDepth 100000 in
theorem wd_38 : ∀ w ∈ ma_wm CLS PP mm38, w ∈ lw_tbl := wd_in [697, 708, 708, 708, 708, 697] rfl
set_option maxRecDepth 100000 in
theorem wn_38 : ∀ w ∈ ma_wnm "PhaseBook" CLS PP mm38, w ∈ lw_tbl := wd_in [] rfl
set_option maxRecDepth 100000 in
theorem wc_38 : ∀ w ∈ [Cond.code mm38.1 mm38.2.1 mm38.2.2.1 mm38.2.2.2.1, Cond.initialized mm38.1.cls], w ∈ lw_tbl := wd_in [807, 66] rfl
set_option maxRecDepth 100000 in
theorem wd_39 : ∀ w ∈ ma_wm CLS PP mm39, w ∈ lw_tbl := wd_in [700, 700, 703] rfl
set_option maxRecDepth 100000 in
theorem wn_39 : ∀ w ∈ ma_wnm "PhaseBook" CLS PP mm39, w ∈ lw_tbl := wd_in [] rfl
set_option maxRecDepth 100000 in
theorem wc_39 : ∀ w ∈ [Cond.code mm39.1 mm39.2.1 mm39.2.2.1 mm39.2.2.2.1, Cond.initialized mm39.1.cls], w ∈ lw_tbl := wd_in [843, 66] rfl
set_option maxRecDepth 100000 in
theorem wd_40 : ∀ w ∈ ma_wm CLS PP mm40, w ∈ lw_tbl := wd_in [702, 705, 701] rfl
set_option maxRecDepth 100000 in
theorem wn_40 : ∀ w ∈ ma_wnm "PhaseBook" CLS PP mm40, w ∈ lw_tbl := wd_in [] rfl
set_option maxRecDepth 100000 in
theorem wc_40 : ∀ w ∈ [Cond.code mm40.1 mm40.2.1 mm40.2.2.1 mm40.2.2.2.1, Cond.initialized mm40.1.cls], w ∈ lw_tbl := wd_in [855, 66] rfl
set_option maxRecDepth 100000 in
theorem wd_41 : ∀ w ∈ ma_wm CLS PP mm41, w ∈ lw_tbl := wd_in [698, 701, 842, 40, 840, 806, 31, 804, 854, 43, 852] rfl
set_option maxRecDepth 100000 in
theorem wn_41 : ∀ w ∈ ma_wnm "PhaseBook" CLS PP mm41, w ∈ lw_tbl := wd_in [] rfl
set_option maxRecDepth 100000 in
theorem wc_41 : ∀ w ∈ [Cond.code mm41.1 mm41.2.1 mm41.2.2.1 mm41.2.2.2.1, Cond.initialized mm41.1.cls], w ∈ lw_tbl := wd_in [851, 66] rfl
set_option maxRecDepth 100000 in
theorem wd_42 : ∀ w ∈ ma_wm CLS PP mm42, w ∈ lw_tbl := wd_in [697, 696, 696] rfl
set_option maxRecDepth 100000 in
theorem wn_42 : ∀ w ∈ ma_wnm "PhaseBook" CLS PP mm42, w ∈ lw_tbl := wd_in [] rfl
set_option maxRecDepth 100000 in
theorem wc_42 : ∀ w ∈ [Cond.code mm42.1 mm42.2.1 mm42.2.2.1 mm42.2.2.2.1, Cond.initialized mm42.1.cls], w ∈ lw_tbl := wd_in [847, 66] rfl
set_option maxRecDepth 100000 in
theorem wd_43 : ∀ w ∈ ma_wm CLS PP mm43, w ∈ lw_tbl := wd_in [703, 703, 699, 703, 703, 703, 703, 706, 706] rfl
set_option maxRecDepth 100000 in
theorem wn_43 : ∀ w ∈ ma_wnm "PhaseBook" CLS PP mm43, w ∈ lw_tbl := wd_in [] rfl
set_option maxRecDepth 100000 in
theorem wc_43 : ∀ w ∈ [Cond.code mm43.1 mm43.2.1 mm43.2.2.1 mm43.2.2.2.1, Cond.initialized mm43.1.cls], w ∈ lw_tbl := wd_in [835, 66] rfl
set_option maxRecDepth 100000 in
theorem wd_44 : ∀ w ∈ ma_wm CLS PP mm44, w ∈ lw_tbl := wd_in [697, 702, 699, 834, 38, 832, 834, 38, 832] rfl
set_option maxRecDepth 100000 in
theorem wn_44 : ∀ w ∈ ma_wnm "PhaseBook" CLS PP mm44, w ∈ lw_tbl := wd_in [] rfl
set_option maxRecDepth 100000 in
theorem wc_44 : ∀ w ∈ [Cond.code mm44.1 mm44.2.1 mm44.2.2.1 mm44.2.2.2.1, Cond.initialized mm44.1.cls], w ∈ lw_tbl := wd_in [831, 66] rfl
set_option maxRecDepth 100000 in
theorem wd_45 : ∀ w ∈ ma_wm CLS PP mm45, w ∈ lw_tbl := wd_in [842, 40, 840, 699, 703, 703, 703, 703] rfl
set_option maxRecDepth 100000 in
theorem wn_45 : ∀ w ∈ ma_wnm "PhaseBook" CLS PP mm45, w ∈ lw_tbl := wd_in [] rfl
set_option maxRecDepth 100000 in
theorem wc_45 : ∀ w ∈ [Cond.code mm45.1 mm45.2.1 mm45.2.2.1 mm45.2.2.2.1, Cond.initialized mm45.1.cls], w ∈ lw_tbl := wd_in [839, 66] rfl
set_option maxRecDepth 100000 in
theorem wd_46 : ∀ w ∈ ma_wm CLS PP mm46, w ∈ lw_tbl := wd_in [702, 705, 704, 701, 861, 860, 707, 707, 706, 707] rfl
set_option maxRecDepth 100000 in
theorem wn_46 : ∀ w ∈ ma_wnm "PhaseBook" CLS PP mm46, w ∈ lw_tbl := wd_in [] rfl
set_option maxRecDepth 100000 in
theorem wc_46 : ∀ w ∈ [Cond.code mm46.1 mm46.2.1 mm46.2.2.1 mm46.2.2.2.1, Cond.initialized mm46.1.cls], w ∈ lw_tbl := wd_in [866, 66] rfl
set_option maxRecDepth 100000 in
theorem wd_47 : ∀ w ∈ ma_wm CLS PP mm47, w ∈ lw_tbl := wd_in [699, 830, 37, 828, 838, 39, 836, 703, 846, 41, 844, 698, 698, 701, 699, 830, 37, 828, 701] rfl
set_option maxRecDepth 100000 in
theorem wn_47 : ∀ w ∈ ma_wnm "PhaseBook" CLS PP mm47, w ∈ lw_tbl := wd_in [] rfl
set_option maxRecDepth 100000 in
theorem wc_47 : ∀ w ∈ [Cond.code mm47.1 mm47.2.1 mm47.2.2.1 mm47.2.2.2.1, Cond.initialized mm47.1.cls], w ∈ lw_tbl := wd_in [827, 66] rfl
set_option maxRecDepth 100000 in
theorem wd_48 : ∀ w ∈ ma_wm CLS PP mm48, w ∈ lw_tbl := wd_in [701, 705, 861, 860, 703, 697, 698, 806, 31, 804, 698, 806, 31, 804, 701, 701, 705, 701, 854, 43, 852, 705, 865, 45, 863] rfl
set_option maxRecDepth 100000 in
theorem wn_48 : ∀ w ∈ ma_wnm "PhaseBook" CLS PP mm48, w ∈ lw_tbl := wd_in [] rfl
set_option maxRecDepth 100000 in
theorem wc_48 : ∀ w ∈ [Cond.code mm48.1 mm48.2.1 mm48.2.2.1 mm48.2.2.2.1, Cond.initialized mm48.1.cls], w ∈ lw_tbl := wd_in [859, 66] rfl
set_option maxRecDepth 100000 in
theorem wd_49 : ∀ w ∈ ma_wm CLS PP mm49, w ∈ lw_tbl := wd_in [700, 826, 36, 824, 701, 699, 830, 37, 828, 838, 39, 836, 703, 846, 41, 844, 697, 698, 698, 850, 42, 848, 858, 44, 856, 701, 854, 43, 852, 700, 700, 865, 45, 863, 850, 42, 848] rfl
set_option maxRecDepth 100000 in
theorem wn_49 : ∀ w ∈ ma_wnm "PhaseBook" CLS PP mm49, w ∈ lw_tbl := wd_in [] rfl
set_option maxRecDepth 100000 in
theorem wc_49 : ∀ w ∈ [Cond.code mm49.1 mm49.2.1 mm49.2.2.1 mm49.2.2.2.1, Cond.initialized mm49.1.cls], w ∈ lw_tbl := wd_in [823, 66] rfl
set_option maxRecDepth 100000 in
theorem wd_50 : ∀ w ∈ ma_wm CLS PP mm50, w ∈ lw_tbl := wd_in [700, 702, 794, 28, 792, 865, 45, 863, 822, 35, 820] rfl
set_option maxRecDepth 100000 in
theorem wn_50 : ∀ w ∈ ma_wnm "PhaseBook" CLS PP mm50, w ∈ lw_tbl := wd_in [] rfl
set_option maxRecDepth 100000 in
theorem wc_50 : ∀ w ∈ [Cond.code mm50.1 mm50.2.1 mm50.2.2.1 mm50.2.2.2.1, Cond.initialized mm50.1.cls], w ∈ lw_tbl := wd_in [878, 66] rfl
set_option maxRecDepth 100000 in
theorem wd_51 : ∀ w ∈ ma_wm CLS PP mm51, w ∈ lw_tbl := wd_in [697, 702, 699, 703, 697, 703, 697] rfl
set_option maxRecDepth 100000 in
theorem wn_51 : ∀ w ∈ ma_wnm "PhaseBook" CLS PP mm51, w ∈ lw_tbl := wd_in [] rfl
set_option maxRecDepth 100000 in
theorem wc_51 : ∀ w ∈ [Cond.code mm51.1 mm51.2.1 mm51.2.2.1 mm51.2.2.2.1, Cond.initialized mm51.1.cls], w ∈ lw_tbl := wd_in [819, 66] rfl
set_option maxRecDepth 100000 in
theorem wd_52 : ∀ w ∈ ma_wm CLS PP mm52, w ∈ lw_tbl := wd_in [697, 818, 34, 816, 700, 702, 822, 35, 820, 697, 818, 34, 816] rfl
set_option maxRecDepth 100000 in
theorem wn_52 : ∀ w ∈ ma_wnm "PhaseBook" CLS PP mm52, w ∈ lw_tbl := wd_in [] rfl
set_option maxRecDepth 100000 in
theorem wc_52 : ∀ w ∈ [Cond.code mm52.1 mm52.2.1 mm52.2.2.1 mm52.2.2.2.1, Cond.initialized mm52.1.cls], w ∈ lw_tbl := wd_in [815, 66] rfl
set_option maxRecDepth 100000 in
theorem wd_53 : ∀ w ∈ ma_wm CLS PP mm53, w ∈ lw_tbl := wd_in [709, 710, 697, 702, 709, 703, 699, 701, 710, 703, 699, 701, 710, 710, 709, 709] rfl
set_option maxRecDepth 100000 in
theorem wn_53 : ∀ w ∈ ma_wnm "PhaseBook" CLS PP mm53, w ∈ lw_tbl := wd_in [] rfl
set_option maxRecDepth 100000 in
theorem wc_53 : ∀ w ∈ [Cond.code mm53.1 mm53.2.1 mm53.2.2.1 mm53.2.2.2.1, Cond.initialized mm53.1.cls], w ∈ lw_tbl := wd_in [909, 66] rfl
set_option maxRecDepth 100000 in
theorem wd_54 : ∀ w ∈ ma_wm CLS PP mm54, w ∈ lw_tbl := wd_in [] rfl
set_option maxRecDepth 100000 in
theorem wn_54 : ∀ w ∈ ma_wnm "PhaseBook" CLS PP mm54, w ∈ lw_tbl := wd_in [] rfl
set_option maxRecDepth 100000 in
theorem wc_54 : ∀ w ∈ [Cond.code mm54.1 mm54.2.1 mm54.2.2.1 mm54.2.2.2.1, Cond.initialized mm54.1.cls], w ∈ lw_tbl := wd_in [912, 66] rfl
set_option maxRecDepth 100000 in
theorem wd_55 : ∀ w ∈ ma_wm CLS PP mm55, w ∈ lw_tbl := wd_in [908, 52, 906, 712, 713, 711, 709, 710, 861, 860, 709, 710, 911, 910, 697, 911, 910, 712, 712, 713, 713, 711, 697, 911, 910, 711, 712, 713] rfl
set_option maxRecDepth 100000 in
theorem wn_55 : ∀ w ∈ ma_wnm "PhaseBook" CLS PP mm55, w ∈ lw_tbl := wd_in [] rfl
set_option maxRecDepth 100000 in
theorem wc_55 : ∀ w ∈ [Cond.code mm55.1 mm55.2.1 mm55.2.2.1 mm55.2.2.2.1, Cond.initialized mm55.1.cls], w ∈ lw_tbl := wd_in [905, 66] rfl
set_option maxRecDepth 100000 in
theorem wd_56 : ∀ w ∈ ma_wm CLS PP mm56, w ∈ lw_tbl := wd_in [712, 830, 37, 828, 830, 37, 828, 701, 861, 860, 698, 711, 806, 31, 804, 701, 701, 854, 43, 852, 705, 704, 701, 861, 860] rfl
set_option maxRecDepth 100000 in
theorem wn_56 : ∀ w ∈ ma_wnm "PhaseBook" CLS PP mm56, w ∈ lw_tbl := wd_in [] rfl
set_option maxRecDepth 100000 in
theorem wc_56 : ∀ w ∈ [Cond.code mm56.1 mm56.2.1 mm56.2.2.1 mm56.2.2.2.1, Cond.initialized mm56.1.cls], w ∈ lw_tbl := wd_in [916, 66] rfl
set_option maxRecDepth 100000 in
theorem wd_57 : ∀ w ∈ ma_wm CLS PP mm57, w ∈ lw_tbl := wd_in [904, 51, 902, 712, 915, 53, 913, 915, 53, 913, 697, 711, 697, 711] rfl
set_option maxRecDepth 100000 in
theorem wn_57 : ∀ w ∈ ma_wnm "PhaseBook" CLS PP mm57, w ∈ lw_tbl := wd_in [] rfl
set_option maxRecDepth 100000 in
theorem wc_57 : ∀ w ∈ [Cond.code mm57.1 mm57.2.1 mm57.2.2.1 mm57.2.2.2.1, Cond.initialized mm57.1.cls], w ∈ lw_tbl := wd_in [901, 66] rfl
set_option maxRecDepth 100000 in
theorem wd_58 : ∀ w ∈ ma_wm CLS PP mm58, w ∈ lw_tbl := wd_in [697, 702, 699, 703, 705] rfl
set_option maxRecDepth 100000 in
theorem wn_58 : ∀ w ∈ ma_wnm "PhaseBook" CLS PP mm58, w ∈ lw_tbl := wd_in [] rfl
set_option maxRecDepth 100000 in
theorem wc_58 : ∀ w ∈ [Cond.code mm58.1 mm58.2.1 mm58.2.2.1 mm58.2.2.2.1, Cond.initialized mm58.1.cls], w ∈ lw_tbl := wd_in [874, 66] rfl
set_option maxRecDepth 100000 in
theorem wd_59 : ∀ w ∈ ma_wm CLS PP mm59, w ∈ lw_tbl := wd_in [714, 697, 702, 714, 699, 703, 705] rfl
set_option maxRecDepth 100000 in
theorem wn_59 : ∀ w ∈ ma_wnm "PhaseBook" CLS PP mm59, w ∈ lw_tbl := wd_in [] rfl
set_option maxRecDepth 100000 in
theorem wc_59 : ∀ w ∈ [Cond.code mm59.1 mm59.2.1 mm59.2.2.1 mm59.2.2.2.1, Cond.initialized mm59.1.cls], w ∈ lw_tbl := wd_in [787, 66] rfl
set_option maxRecDepth 100000 in
theorem wd_60 : ∀ w ∈ ma_wm CLS PP mm60, w ∈ lw_tbl := wd_in [697, 702, 714, 699, 703, 705, 714, 716, 718, 717, 718, 873, 47, 871, 718, 718] rfl
set_option maxRecDepth 100000 in
theorem wn_60 : ∀ w ∈ ma_wnm "PhaseBook" CLS PP mm60, w ∈ lw_tbl := wd_in [] rfl
set_option maxRecDepth 100000 in
theorem wc_60 : ∀ w ∈ [Cond.code mm60.1 mm60.2.1 mm60.2.2.1 mm60.2.2.2.1, Cond.initialized mm60.1.cls], w ∈ lw_tbl := wd_in [870, 66] rfl
set_option maxRecDepth 100000 in
theorem wd_61 : ∀ w ∈ ma_wm CLS PP mm61, w ∈ lw_tbl := wd_in [774, 773, 697, 697, 697, 786, 26, 784] rfl
set_option maxRecDepth 100000 in
theorem wn_61 : ∀ w ∈ ma_wnm "PhaseBook" CLS PP mm61, w ∈ lw_tbl := wd_in [] rfl
set_option maxRecDepth 100000 in
theorem wc_61 : ∀ w ∈ [Cond.code mm61.1 mm61.2.1 mm61.2.2.1 mm61.2.2.2.1, Cond.initialized mm61.1.cls], w ∈ lw_tbl := wd_in [783, 66] rfl
set_option maxRecDepth 100000 in
theorem wd_62 : ∀ w ∈ ma_wm CLS PP mm62, w ∈ lw_tbl := wd_in [806, 31, 804, 810, 32, 808] rfl
set_option maxRecDepth 100000 in
theorem wn_62 : ∀ w ∈ ma_wnm "PhaseBook" CLS PP mm62, w ∈ lw_tbl := wd_in [] rfl
set_option maxRecDepth 100000 in
theorem wc_62 : ∀ w ∈ [Cond.code mm62.1 mm62.2.1 mm62.2.2.1 mm62.2.2.2.1, Cond.initialized mm62.1.cls], w ∈ lw_tbl := wd_in [803, 66] rfl
set_option maxRecDepth 100000 in
theorem wd_63 : ∀ w ∈ ma_wm CLS PP mm63, w ∈ lw_tbl := wd_in [814, 33, 812, 869, 46, 867] rfl
set_option maxRecDepth 100000 in
theorem wn_63 : ∀ w ∈ ma_wnm "PhaseBook" CLS PP mm63, w ∈ lw_tbl := wd_in [] rfl
set_option maxRecDepth 100000 in
theorem wc_63 : ∀ w ∈ [Cond.code mm63.1 mm63.2.1 mm63.2.2.1 mm63.2.2.2.1, Cond.initialized mm63.1.cls], w ∈ lw_tbl := wd_in [811, 66] rfl
set_option maxRecDepth 100000 in
theorem wd_64 : ∀ w ∈ ma_wm CLS PP mm64, w ∈ lw_tbl := wd_in [774, 773, 697, 697] rfl
set_option maxRecDepth 100000 in
theorem wn_64 : ∀ w ∈ ma_wnm "PhaseBook" CLS PP mm64, w ∈ lw_tbl := wd_in [] rfl
set_option maxRecDepth 100000 in
theorem wc_64 : ∀ w ∈ [Cond.code mm64.1 mm64.2.1 mm64.2.2.1 mm64.2.2.2.1, Cond.initialized mm64.1.cls], w ∈ lw_tbl := wd_in [772, 66] rfl
set_option maxRecDepth 100000 in
theorem wd_65 : ∀ w ∈ ma_wm CLS PP mm65, w ∈ lw_tbl := wd_in [774, 773, 774, 773, 774, 773, 774, 773, 774, 773, 697, 794, 28, 792, 798, 29, 796, 697] rfl
set_option maxRecDepth 100000 in
theorem wn_65 : ∀ w ∈ ma_wnm "PhaseBook" CLS PP mm65, w ∈ lw_tbl := wd_in [] rfl
set_option maxRecDepth 100000 in
theorem wc_65 : ∀ w ∈ [Cond.code mm65.1 mm65.2.1 mm65.2.2.1 mm65.2.2.2.1, Cond.initialized mm65.1.cls], w ∈ lw_tbl := wd_in [791, 66] rfl
set_option maxRecDepth 100000 in
theorem wd_66 : ∀ w ∈ ma_wm CLS PP mm66, w ∈ lw_tbl := wd_in [782, 25, 780, 774, 773, 697, 790, 27, 788, 802, 30, 800, 697, 697, 698, 699, 700, 701, 702, 703, 704, 705, 842, 40, 840, 806, 31, 804, 877, 48, 875, 810, 32, 808] rfl
set_option maxRecDepth 100000 in
theorem wn_66 : ∀ w ∈ ma_wnm "PhaseBook" CLS PP mm66, w ∈ lw_tbl := wd_in [] rfl
set_option maxRecDepth 100000 in
theorem wc_66 : ∀ w ∈ [Cond.code mm66.1 mm66.2.1 mm66.2.2.1 mm66.2.2.2.1, Cond.initialized mm66.1.cls], w ∈ lw_tbl := wd_in [779, 66] rfl
set_option maxRecDepth 100000 in
theorem wd_67 : ∀ w ∈ ma_wm CLS PP mm67, w ∈ lw_tbl := wd_in [697, 774, 773, 702, 698] rfl
set_option maxRecDepth 100000 in
theorem wn_67 : ∀ w ∈ ma_wnm "PhaseBook" CLS PP mm67, w ∈ lw_tbl := wd_in [] rfl
set_option maxRecDepth 100000 in
theorem wc_67 : ∀ w ∈ [Cond.code mm67.1 mm67.2.1 mm67.2.2.1 mm67.2.2.2.1, Cond.initialized mm67.1.cls], w ∈ lw_tbl := wd_in [886, 66] rfl
set_option maxRecDepth 100000 in
theorem wd_68 : ∀ w ∈ ma_wm CLS PP mm68, w ∈ lw_tbl := wd_in [782, 25, 780, 885, 49, 883, 802, 30, 800, 850, 42, 848, 810, 32, 808] rfl
set_option maxRecDepth 100000 in
theorem wn_68 : ∀ w ∈ ma_wnm "PhaseBook" CLS PP mm68, w ∈ lw_tbl := wd_in [] rfl
set_option maxRecDepth 100000 in
theorem wc_68 : ∀ w ∈ [Cond.code mm68.1 mm68.2.1 mm68.2.2.1 mm68.2.2.2.1, Cond.initialized mm68.1.cls], w ∈ lw_tbl := wd_in [882, 66] rfl
set_option maxRecDepth 100000 in
theorem wd_69 : ∀ w ∈ ma_wm CLS PP mm69, w ∈ lw_tbl := wd_in [782, 25, 780, 885, 49, 883, 702, 774, 773, 774, 773, 802, 30, 800, 700, 704, 802, 30, 800, 806, 31, 804, 703, 701, 701, 703, 705, 705, 861, 860, 702, 705, 877, 48, 875, 810, 32, 808] rfl
set_option maxRecDepth 100000 in
theorem wn_69 : ∀ w ∈ ma_wnm "PhaseBook" CLS PP mm69, w ∈ lw_tbl := wd_in [] rfl
set_option maxRecDepth 100000 in
theorem wc_69 : ∀ w ∈ [Cond.code mm69.1 mm69.2.1 mm69.2.2.1 mm69.2.2.2.1, Cond.initialized mm69.1.cls], w ∈ lw_tbl := wd_in [890, 66] rfl
set_option maxRecDepth 100000 in
theorem wd_70 : ∀ w ∈ ma_wm CLS PP mm70, w ∈ lw_tbl := wd_in [] rfl
set_option maxRecDepth 100000 in
theorem wn_70 : ∀ w ∈ ma_wnm "PhaseBook" CLS PP mm70, w ∈ lw_tbl := wd_in [] rfl
set_option maxRecDepth 100000 in
theorem wc_70 : ∀ w ∈ [Cond.code mm70.1 mm70.2.1 mm70.2.2.1 mm70.2.2.2.1, Cond.initialized mm70.1.cls], w ∈ lw_tbl := wd_in [897, 66] rfl
set_option maxRecDepth 100000 in
theorem wd_71 : ∀ w ∈ ma_wm CLS PP mm71, w ∈ lw_tbl := wd_in [697, 896, 895, 786, 26, 784, 794, 28, 792, 900, 50, 898, 697, 697, 702, 850, 42, 848, 810, 32, 808] rfl
set_option maxRecDepth 100000 in
theorem wn_71 : ∀ w ∈ ma_wnm "PhaseBook" CLS PP mm71, w ∈ lw_tbl := wd_in [] rfl
set_option maxRecDepth 100000 in
theorem wc_71 : ∀ w ∈ [Cond.code mm71.1 mm71.2.1 mm71.2.2.1 mm71.2.2.2.1, Cond.initialized mm71.1.cls], w ∈ lw_tbl := wd_in [894, 66] rfl
set_option maxRecDepth 100000 in
theorem wd_72 : ∀ w ∈ ma_wm CLS PP mm72, w ∈ lw_tbl := wd_in [694, 24, 692, 697] rfl
set_option maxRecDepth 100000 in
theorem wn_72 : ∀ w ∈ ma_wnm "PhaseBook" CLS PP mm72, w ∈ lw_tbl := wd_in [] rfl
set_option maxRecDepth 100000 in
theorem wc_72 : ∀ w ∈ [Cond.code mm72.1 mm72.2.1 mm72.2.2.1 mm72.2.2.2.1, Cond.initialized mm72.1.cls], w ∈ lw_tbl := wd_in [920, 66] rfl
set_option maxRecDepth 100000 in
theorem wd_73 : ∀ w ∈ ma_wm CLS PP mm73, w ∈ lw_tbl := wd_in [786, 26, 784, 694, 24, 692, 869, 46, 867, 697] rfl
set_option maxRecDepth 100000 in
theorem wn_73 : ∀ w ∈ ma_wnm "PhaseBook" CLS PP mm73, w ∈ lw_tbl := wd_in [] rfl
set_option maxRecDepth 100000 in
theorem wc_73 : ∀ w ∈ [Cond.code mm73.1 mm73.2.1 mm73.2.2.1 mm73.2.2.2.1, Cond.initialized mm73.1.cls], w ∈ lw_tbl := wd_in [924, 66] rfl
set_option maxRecDepth 100000 in
theorem wd_74 : ∀ w ∈ ma_wm CLS PP mm74, w ∈ lw_tbl := wd_in [904, 51, 902, 697, 798, 29, 796, 711, 712, 713] rfl
set_option maxRecDepth 100000 in
theorem wn_74 : ∀ w ∈ ma_wnm "PhaseBook" CLS PP mm74, w ∈ lw_tbl := wd_in [] rfl
set_option maxRecDepth 100000 in
theorem wc_74 : ∀ w ∈ [Cond.code mm74.1 mm74.2.1 mm74.2.2.1 mm74.2.2.2.1, Cond.initialized mm74.1.cls], w ∈ lw_tbl := wd_in [928, 66] rfl
set_option maxRecDepth 100000 in
theorem wd_75 : ∀ w ∈ ma_wm CLS PP mm75, w ∈ lw_tbl := wd_in [774, 773, 774, 773] rfl
set_option maxRecDepth 100000 in
theorem wn_75 : ∀ w ∈ ma_wnm "PhaseBook" CLS PP mm75, w ∈ lw_tbl := wd_in [] rfl
set_option maxRecDepth 100000 in
theorem wc_75 : ∀ w ∈ [Cond.code mm75.1 mm75.2.1 mm75.2.2.1 mm75.2.2.2.1, Cond.initialized mm75.1.cls], w ∈ lw_tbl := wd_in [935, 66] rfl
set_option maxRecDepth 100000 in
theorem wd_76 : ∀ w ∈ ma_wm CLS PP mm76, w ∈ lw_tbl := wd_in [934, 933, 873, 47, 871] rfl
set_option maxRecDepth 100000 in
theorem wn_76 : ∀ w ∈ ma_wnm "PhaseBook" CLS PP mm76, w ∈ lw_tbl := wd_in [] rfl
set_option maxRecDepth 100000 in
theorem wc_76 : ∀ w ∈ [Cond.code mm76.1 mm76.2.1 mm76.2.2.1 mm76.2.2.2.1, Cond.initialized mm76.1.cls], w ∈ lw_tbl := wd_in [932, 66] rfl
set_option maxRecDepth 100000 in
theorem wd_77 : ∀ w ∈ ma_wm CLS PP mm77, w ∈ lw_tbl := wd_in [774, 773, 830, 37, 828, 703] rfl
set_option maxRecDepth 100000 in
theorem wn_77 : ∀ w ∈ ma_wnm "PhaseBook" CLS PP mm77, w ∈ lw_tbl := wd_in [] rfl
set_option maxRecDepth 100000 in
theorem wc_77 : ∀ w ∈ [Cond.code mm77.1 mm77.2.1 mm77.2.2.1 mm77.2.2.2.1, Cond.initialized mm77.1.cls], w ∈ lw_tbl := wd_in [939, 66] rfl
set_option maxRecDepth 100000 in
theorem wd_78 : ∀ w ∈ ma_wm CLS PP mm78, w ∈ lw_tbl := wd_in [697, 702, 699, 699, 834, 38, 832] rfl
set_option maxRecDepth 100000 in
theorem wn_78 : ∀ w ∈ ma_wnm "PhaseBook" CLS PP mm78, w ∈ lw_tbl := wd_in [] rfl
set_option maxRecDepth 100000 in
theorem wc_78 : ∀ w ∈ [Cond.code mm78.1 mm78.2.1 mm78.2.2.1 mm78.2.2.2.1, Cond.initialized mm78.1.cls], w ∈ lw_tbl := wd_in [947, 66] rfl
set_option maxRecDepth 100000 in
theorem wd_79 : ∀ w ∈ ma_wm CLS PP mm79, w ∈ lw_tbl := wd_in [697, 774, 773, 702, 701, 702, 703, 705, 698, 702, 946, 54, 944] rfl
set_option maxRecDepth 100000 in
theorem wn_79 : ∀ w ∈ ma_wnm "PhaseBook" CLS PP mm79, w ∈ lw_tbl := wd_in [] rfl
set_option maxRecDepth 100000 in
theorem wc_79 : ∀ w ∈ [Cond.code mm79.1 mm79.2.1 mm79.2.2.1 mm79.2.2.2.1, Cond.initialized mm79.1.cls], w ∈ lw_tbl := wd_in [943, 66] rfl
set_option maxRecDepth 100000 in
theorem wd_80 : ∀ w ∈ ma_wm CLS PP mm80, w ∈ lw_tbl := wd_in [774, 773, 774, 773, 697] rfl
set_option maxRecDepth 100000 in
theorem wn_80 : ∀ w ∈ ma_wnm "PhaseBook" CLS PP mm80, w ∈ lw_tbl := wd_in [] rfl
set_option maxRecDepth 100000 in
theorem wc_80 : ∀ w ∈ [Cond.code mm80.1 mm80.2.1 mm80.2.2.1 mm80.2.2.2.1, Cond.initialized mm80.1.cls], w ∈ lw_tbl := wd_in [951, 66] rfl
set_option maxRecDepth 100000 in
theorem wd_81 : ∀ w ∈ ma_wm CLS PP mm81, w ∈ lw_tbl := wd_in [774, 773, 774, 773, 774, 773, 697, 697, 708] rfl
set_option maxRecDepth 100000 in
theorem wn_81 : ∀ w ∈ ma_wnm "PhaseBook" CLS PP mm81, w ∈ lw_tbl := wd_in [] rfl
set_option maxRecDepth 100000 in
theorem wc_81 : ∀ w ∈ [Cond.code mm81.1 mm81.2.1 mm81.2.2.1 mm81.2.2.2.1, Cond.initialized mm81.1.cls], w ∈ lw_tbl := wd_in [955, 66] rfl
set_option maxRecDepth 100000 in
theorem wd_82 : ∀ w ∈ ma_wm CLS PP mm82, w ∈ lw_tbl := wd_in [718] rfl
set_option maxRecDepth 100000 in
theorem wn_82 : ∀ w ∈ ma_wnm "PhaseBook" CLS PP mm82, w ∈ lw_tbl := wd_in [] rfl
set_option maxRecDepth 100000 in
theorem wc_82 : ∀ w ∈ [Cond.code mm82.1 mm82.2.1 mm82.2.2.1 mm82.2.2.2.1, Cond.initialized mm82.1.cls], w ∈ lw_tbl := wd_in [959, 66] rfl
set_option maxRecDepth 100000 in
theorem wd_83 : ∀ w ∈ ma_wm CLS PP mm83, w ∈ lw_tbl := wd_in [718, 718, 719, 719, 715, 716, 717, 719, 719] rfl
set_option maxRecDepth 100000 in
theorem wn_83 : ∀ w ∈ ma_wnm "PhaseBook" CLS PP mm83, w ∈ lw_tbl := wd_in [] rfl
set_option maxRecDepth 100000 in
theorem wc_83 : ∀ w ∈ [Cond.code mm83.1 mm83.2.1 mm83.2.2.1 mm83.2.2.2.1, Cond.initialized mm83.1.cls], w ∈ lw_tbl := wd_in [963, 66] rfl
set_option maxRecDepth 100000 in
theorem wd_84 : ∀ w ∈ ma_wm CLS PP mm84, w ∈ lw_tbl := wd_in [715, 697, 702, 715, 699, 703, 705, 718, 719, 719] rfl
set_option maxRecDepth 100000 in
theorem wn_84 : ∀ w ∈ ma_wnm "PhaseBook" CLS PP mm84, w ∈ lw_tbl := wd_in [] rfl
set_option maxRecDepth 100000 in
theorem wc_84 : ∀ w ∈ [Cond.code mm84.1 mm84.2.1 mm84.2.2.1 mm84.2.2.2.1, Cond.initialized mm84.1.cls], w ∈ lw_tbl := wd_in [967, 66] rfl
set_option maxRecDepth 100000 in
theorem wd_85 : ∀ w ∈ ma_wm CLS PP mm85, w ∈ lw_tbl := wd_in [934, 933, 715] rfl
set_option maxRecDepth 100000 in
theorem wn_85 : ∀ w ∈ ma_wnm "PhaseBook" CLS PP mm85, w ∈ lw_tbl := wd_in [] rfl
set_option maxRecDepth 100000 in
theorem wc_85 : ∀ w ∈ [Cond.code mm85.1 mm85.2.1 mm85.2.2.1 mm85.2.2.2.1, Cond.initialized mm85.1.cls], w ∈ lw_tbl := wd_in [971, 66] rfl
set_option maxRecDepth 100000 in
theorem wd_86 : ∀ w ∈ ma_wm CLS PP mm86, w ∈ lw_tbl := wd_in [719] rfl
set_option maxRecDepth 100000 in
theorem wn_86 : ∀ w ∈ ma_wnm "PhaseBook" CLS PP mm86, w ∈ lw_tbl := wd_in [] rfl
set_option maxRecDepth 100000 in
theorem wc_86 : ∀ w ∈ [Cond.code mm86.1 mm86.2.1 mm86.2.2.1 mm86.2.2.2.1, Cond.initialized mm86.1.cls], w ∈ lw_tbl := wd_in [975, 66] rfl
set_option maxRecDepth 100000 in
theorem wd_87 : ∀ w ∈ ma_wm CLS PP mm87, w ∈ lw_tbl := wd_in [120, 74, 75] rfl
set_option maxRecDepth 100000 in
theorem wn_87 : ∀ w ∈ ma_wnm "PhaseBook" CLS PP mm87, w ∈ lw_tbl := wd_in [] rfl
set_option maxRecDepth 100000 in
theorem wc_87 : ∀ w ∈ [Cond.code mm87.1 mm87.2.1 mm87.2.2.1 mm87.2.2.2.1, Cond.initialized mm87.1.cls], w ∈ lw_tbl := wd_in [119, 60] rfl
set_option maxRecDepth 100000 in
theorem wd_88 : ∀ w ∈ ma_wm CLS PP mm88, w ∈ lw_tbl := wd_in [121, 124, 127, 548, 549, 547, 176, 176, 179, 553, 552, 548, 549, 547, 167, 163, 179, 167, 163, 557, 19, 555] rfl
set_option maxRecDepth 100000 in
theorem wn_88 : ∀ w ∈ ma_wnm "PhaseBook" CLS PP mm88, w ∈ lw_tbl := wd_in [] rfl
set_option maxRecDepth 100000 in
theorem wc_88 : ∀ w ∈ [Cond.code mm88.1 mm88.2.1 mm88.2.2.1 mm88.2.2.2.1, Cond.initialized mm88.1.cls], w ∈ lw_tbl := wd_in [546, 60] rfl
set_option maxRecDepth 100000 in
theorem wd_89 : ∀ w ∈ ma_wm CLS PP mm89, w ∈ lw_tbl := wd_in [163] rfl
set_option maxRecDepth 100000 in
theorem wn_89 : ∀ w ∈ ma_wnm "PhaseBook" CLS PP mm89, w ∈ lw_tbl := wd_in [] rfl
set_option maxRecDepth 100000 in
theorem wc_89 : ∀ w ∈ [Cond.code mm89.1 mm89.2.1 mm89.2.2.1 mm89.2.2.2.1, Cond.initialized mm89.1.cls], w ∈ lw_tbl := wd_in [554, 60] rfl
set_option maxRecDepth 100000 in
theorem wd_90 : ∀ w ∈ ma_wm CLS PP mm90, w ∈ lw_tbl := wd_in [559, 80, 57, 81, 560, 416, 57, 417, 563, 20, 561, 121, 124, 127] rfl
set_option maxRecDepth 100000 in
theorem wn_90 : ∀ w ∈ ma_wnm "PhaseBook" CLS PP mm90, w ∈ lw_tbl := wd_in [] rfl
set_option maxRecDepth 100000 in
theorem wc_90 : ∀ w ∈ [Cond.code mm90.1 mm90.2.1 mm90.2.2.1 mm90.2.2.2.1, Cond.initialized mm90.1.cls], w ∈ lw_tbl := wd_in [558, 60] rfl
set_option maxRecDepth 100000 in
theorem wd_91 : ∀ w ∈ ma_wm CLS PP mm91, w ∈ lw_tbl := wd_in [124, 124, 127, 127, 560, 416, 57, 417, 121, 560, 416, 57, 417] rfl
set_option maxRecDepth 100000 in
theorem wn_91 : ∀ w ∈ ma_wnm "PhaseBook" CLS PP mm91, w ∈ lw_tbl := wd_in [] rfl
set_option maxRecDepth 100000 in
theorem wc_91 : ∀ w ∈ [Cond.code mm91.1 mm91.2.1 mm91.2.2.1 mm91.2.2.2.1, Cond.initialized mm91.1.cls], w ∈ lw_tbl := wd_in [564, 60] rfl
set_option maxRecDepth 100000 in
theorem wd_92 : ∀ w ∈ ma_wm CLS PP mm92, w ∈ lw_tbl := wd_in [147, 74, 75, 114, 152, 114, 155, 114, 157, 114, 159, 114, 162, 114, 166, 114, 170, 114, 172, 148, 114, 175, 114, 178] rfl
set_option maxRecDepth 100000 in
theorem wn_92 : ∀ w ∈ ma_wnm "PhaseBook" CLS PP mm92, w ∈ lw_tbl := wd_in [] rfl
set_option maxRecDepth 100000 in
theorem wc_92 : ∀ w ∈ [Cond.code mm92.1 mm92.2.1 mm92.2.2.1 mm92.2.2.2.1, Cond.initialized mm92.1.cls], w ∈ lw_tbl := wd_in [146, 62] rfl
set_option maxRecDepth 100000 in
theorem wd_93 : ∀ w ∈ ma_wm CLS PP mm93, w ∈ lw_tbl := wd_in [149] rfl
set_option maxRecDepth 100000 in
theorem wn_93 : ∀ w ∈ ma_wnm "PhaseBook" CLS PP mm93, w ∈ lw_tbl := wd_in [] rfl
set_option maxRecDepth 100000 in
theorem wc_93 : ∀ w ∈ [Cond.code mm93.1 mm93.2.1 mm93.2.2.1 mm93.2.2.2.1, Cond.initialized mm93.1.cls], w ∈ lw_tbl := wd_in [513, 62] rfl
set_option maxRecDepth 100000 in
theorem wd_94 : ∀ w ∈ ma_wm CLS PP mm94, w ∈ lw_tbl := wd_in [511, 512, 510, 152] rfl
set_option maxRecDepth 100000 in
theorem wn_94 : ∀ w ∈ ma_wnm "PhaseBook" CLS PP mm94, w ∈ lw_tbl := wd_in [] rfl
set_option maxRecDepth 100000 in
theorem wc_94 : ∀ w ∈ [Cond.code mm94.1 mm94.2.1 mm94.2.2.1 mm94.2.2.2.1, Cond.initialized mm94.1.cls], w ∈ lw_tbl := wd_in [509, 62] rfl
set_option maxRecDepth 100000 in
theorem wd_95 : ∀ w ∈ ma_wm CLS PP mm95, w ∈ lw_tbl := wd_in [149, 159] rfl
set_option maxRecDepth 100000 in
theorem wn_95 : ∀ w ∈ ma_wnm "PhaseBook" CLS PP mm95, w ∈ lw_tbl := wd_in [] rfl
set_option maxRecDepth 100000 in
theorem wc_95 : ∀ w ∈ [Cond.code mm95.1 mm95.2.1 mm95.2.2.1 mm95.2.2.2.1, Cond.initialized mm95.1.cls], w ∈ lw_tbl := wd_in [382, 62] rfl
set_option maxRecDepth 100000 in
theorem wd_96 : ∀ w ∈ ma_wm CLS PP mm96, w ∈ lw_tbl := wd_in [178, 175] rfl
set_option maxRecDepth 100000 in
theorem wn_96 : ∀ w ∈ ma_wnm "PhaseBook" CLS PP mm96, w ∈ lw_tbl := wd_in [] rfl
set_option maxRecDepth 100000 in
theorem wc_96 : ∀ w ∈ [Cond.code mm96.1 mm96.2.1 mm96.2.2.1 mm96.2.2.2.1, Cond.initialized mm96.1.cls], w ∈ lw_tbl := wd_in [425, 62] rfl
set_option maxRecDepth 100000 in
theorem wd_97 : ∀ w ∈ ma_wm CLS PP mm97, w ∈ lw_tbl := wd_in [423, 424, 551, 166] rfl
set_option maxRecDepth 100000 in
theorem wn_97 : ∀ w ∈ ma_wnm "PhaseBook" CLS PP mm97, w ∈ lw_tbl := wd_in [] rfl
set_option maxRecDepth 100000 in
theorem wc_97 : ∀ w ∈ [Cond.code mm97.1 mm97.2.1 mm97.2.2.1 mm97.2.2.2.1, Cond.initialized mm97.1.cls], w ∈ lw_tbl := wd_in [550, 62] rfl
set_option maxRecDepth 100000 in
theorem wd_98 : ∀ w ∈ ma_wm CLS PP mm98, w ∈ lw_tbl := wd_in [175, 155, 178, 155] rfl
set_option maxRecDepth 100000 in
theorem wn_98 : ∀ w ∈ ma_wnm "PhaseBook" CLS PP mm98, w ∈ lw_tbl := wd_in [] rfl
set_option maxRecDepth 100000 in
theorem wc_98 : ∀ w ∈ [Cond.code mm98.1 mm98.2.1 mm98.2.2.1 mm98.2.2.2.1, Cond.initialized mm98.1.cls], w ∈ lw_tbl := wd_in [633, 62] rfl
set_option maxRecDepth 100000 in
theorem wd_99 : ∀ w ∈ ma_wm CLS PP mm99, w ∈ lw_tbl := wd_in [155, 175, 166, 178, 166, 178] rfl
set_option maxRecDepth 100000 in
theorem wn_99 : ∀ w ∈ ma_wnm "PhaseBook" CLS PP mm99, w ∈ lw_tbl := wd_in [] rfl
set_option maxRecDepth 100000 in
theorem wc_99 : ∀ w ∈ [Cond.code mm99.1 mm99.2.1 mm99.2.2.1 mm99.2.2.2.1, Cond.initialized mm99.1.cls], w ∈ lw_tbl := wd_in [458, 62] rfl
set_option maxRecDepth 100000 in
theorem wd_100 : ∀ w ∈ ma_wm CLS PP mm100, w ∈ lw_tbl := wd_in [155, 175, 178, 178] rfl
set_option maxRecDepth 100000 in
theorem wn_100 : ∀ w ∈ ma_wnm "PhaseBook" CLS PP mm100, w ∈ lw_tbl := wd_in [] rfl
set_option maxRecDepth 100000 in
theorem wc_100 : ∀ w ∈ [Cond.code mm100.1 mm100.2.1 mm100.2.2.1 mm100.2.2.2.1, Cond.initialized mm100.1.cls], w ∈ lw_tbl := wd_in [441, 62] rfl
set_option maxRecDepth 100000 in
theorem wd_101 : ∀ w ∈ ma_wm CLS PP mm101, w ∈ lw_tbl := wd_in [149, 149, 152, 152, 149, 585, 587, 586, 67, 155, 155, 149, 585, 587, 586, 67, 157, 157, 149, 585, 587, 586, 67, 159, 159, 149, 585, 587, 586, 67, 162, 162, 149, 585, 587, 586, 67, 166, 166, 149, 585, 587, 586, 67, 170, 170, 149, 585, 587, 586, 67, 172, 172, 149, 585, 587, 586, 67, 178, 178, 175, 175, 178, 585, 587, 586, 67] rfl
set_option maxRecDepth 100000 in
theorem wn_101 : ∀ w ∈ ma_wnm "PhaseBook" CLS PP mm101, w ∈ lw_tbl := wd_in [] rfl
set_option maxRecDepth 100000 in
theorem wc_101 : ∀ w ∈ [Cond.code mm101.1 mm101.2.1 mm101.2.2.1 mm101.2.2.2.1, Cond.initialized mm101.1.cls], w ∈ lw_tbl := wd_in [584, 62] rfl
set_option maxRecDepth 100000 in
theorem wd_102 : ∀ w ∈ ma_wm CLS PP mm102, w ∈ lw_tbl := wd_in [284, 74, 75, 114, 288, 114, 290, 114, 292, 285, 114, 294] rfl
set_option maxRecDepth 100000 in
theorem wn_102 : ∀ w ∈ ma_wnm "PhaseBook" CLS PP mm102, w ∈ lw_tbl := wd_in [] rfl
set_option maxRecDepth 100000 in
theorem wc_102 : ∀ w ∈ [Cond.code mm102.1 mm102.2.1 mm102.2.2.1 mm102.2.2.2.1, Cond.initialized mm102.1.cls], w ∈ lw_tbl := wd_in [283, 64] rfl
set_option maxRecDepth 100000 in
theorem wd_103 : ∀ w ∈ ma_wm CLS PP mm103, w ∈ lw_tbl := wd_in [286, 286] rfl
set_option maxRecDepth 100000 in
theorem wn_103 : ∀ w ∈ ma_wnm "PhaseBook" CLS PP mm103, w ∈ lw_tbl := wd_in [] rfl
set_option maxRecDepth 100000 in
theorem wc_103 : ∀ w ∈ [Cond.code mm103.1 mm103.2.1 mm103.2.2.1 mm103.2.2.2.1, Cond.initialized mm103.1.cls], w ∈ lw_tbl := wd_in [661, 64] rfl
set_option maxRecDepth 100000 in
theorem wd_104 : ∀ w ∈ ma_wm CLS PP mm104, w ∈ lw_tbl := wd_in [100, 106, 104, 294, 486, 17, 484, 495, 496, 494] rfl
set_option maxRecDepth 100000 in
theorem wn_104 : ∀ w ∈ ma_wnm "PhaseBook" CLS PP mm104, w ∈ lw_tbl := wd_in [] rfl
set_option maxRecDepth 100000 in
theorem wc_104 : ∀ w ∈ [Cond.code mm104.1 mm104.2.1 mm104.2.2.1 mm104.2.2.2.1, Cond.initialized mm104.1.cls], w ∈ lw_tbl := wd_in [483, 64] rfl
set_option maxRecDepth 100000 in
theorem wd_105 : ∀ w ∈ ma_wm CLS PP mm105, w ∈ lw_tbl := wd_in [286, 489, 488, 288, 290, 292, 294, 286, 286] rfl
set_option maxRecDepth 100000 in
theorem wn_105 : ∀ w ∈ ma_wnm "PhaseBook" CLS PP mm105, w ∈ lw_tbl := wd_in [] rfl
set_option maxRecDepth 100000 in
theorem wc_105 : ∀ w ∈ [Cond.code mm105.1 mm105.2.1 mm105.2.2.1 mm105.2.2.2.1, Cond.initialized mm105.1.cls], w ∈ lw_tbl := wd_in [487, 64] rfl
set_option maxRecDepth 100000 in
theorem wd_106 : ∀ w ∈ ma_wm CLS PP mm106, w ∈ lw_tbl := wd_in [492, 491] rfl
set_option maxRecDepth 100000 in
theorem wn_106 : ∀ w ∈ ma_wnm "PhaseBook" CLS PP mm106, w ∈ lw_tbl := wd_in [] rfl
set_option maxRecDepth 100000 in
theorem wc_106 : ∀ w ∈ [Cond.code mm106.1 mm106.2.1 mm106.2.2.1 mm106.2.2.2.1, Cond.initialized mm106.1.cls], w ∈ lw_tbl := wd_in [490, 64] rfl
set_option maxRecDepth 100000 in
theorem wd_107 : ∀ w ∈ ma_wm CLS PP mm107, w ∈ lw_tbl := wd_in [96, 74, 75, 97, 114, 99, 114, 103, 114, 105] rfl
set_option maxRecDepth 100000 in
theorem wn_107 : ∀ w ∈ ma_wnm "PhaseBook" CLS PP mm107, w ∈ lw_tbl := wd_in [] rfl
set_option maxRecDepth 100000 in
theorem wc_107 : ∀ w ∈ [Cond.code mm107.1 mm107.2.1 mm107.2.2.1 mm107.2.2.2.1, Cond.initialized mm107.1.cls], w ∈ lw_tbl := wd_in [95, 59] rfl
set_option maxRecDepth 100000 in
theorem wd_108 : ∀ w ∈ ma_wm CLS PP mm108, w ∈ lw_tbl := wd_in [99, 103, 103, 105, 105] rfl
set_option maxRecDepth 100000 in
theorem wn_108 : ∀ w ∈ ma_wnm "PhaseBook" CLS PP mm108, w ∈ lw_tbl := wd_in [] rfl
set_option maxRecDepth 100000 in
theorem wc_108 : ∀ w ∈ [Cond.code mm108.1 mm108.2.1 mm108.2.2.1 mm108.2.2.2.1, Cond.initialized mm108.1.cls], w ∈ lw_tbl := wd_in [437, 59] rfl
set_option maxRecDepth 100000 in
theorem wd_109 : ∀ w ∈ ma_wm CLS PP mm109, w ∈ lw_tbl := wd_in [103, 105] rfl
set_option maxRecDepth 100000 in
theorem wn_109 : ∀ w ∈ ma_wnm "PhaseBook" CLS PP mm109, w ∈ lw_tbl := wd_in [] rfl
set_option maxRecDepth 100000 in
theorem wc_109 : ∀ w ∈ [Cond.code mm109.1 mm109.2.1 mm109.2.2.1 mm109.2.2.2.1, Cond.initialized mm109.1.cls], w ∈ lw_tbl := wd_in [497, 59] rfl
set_option maxRecDepth 100000 in
theorem wd_110 : ∀ w ∈ ma_wm CLS PP mm110, w ∈ lw_tbl := wd_in [90, 74, 75, 91, 92, 59, 94, 260, 115, 116, 60, 118, 262, 253, 136, 137, 61, 139, 138, 254, 254, 238, 256, 254, 241, 258] rfl
set_option maxRecDepth 100000 in
theorem wn_110 : ∀ w ∈ ma_wnm "PhaseBook" CLS PP mm110, w ∈ lw_tbl := wd_in [93, 117] rfl
set_option maxRecDepth 100000 in
theorem wc_110 : ∀ w ∈ [Cond.code mm110.1 mm110.2.1 mm110.2.2.1 mm110.2.2.2.1, Cond.initialized mm110.1.cls], w ∈ lw_tbl := wd_in [89, 58] rfl
set_option maxRecDepth 100000 in
theorem wd_111 : ∀ w ∈ ma_wm CLS PP mm111, w ∈ lw_tbl := wd_in [355, 358, 361, 258, 215, 364, 363, 371, 1, 369, 256, 150, 256, 380, 381, 379] rfl
set_option maxRecDepth 100000 in
theorem wn_111 : ∀ w ∈ ma_wnm "PhaseBook" CLS PP mm111, w ∈ lw_tbl := wd_in [354, 357, 360] rfl
set_option maxRecDepth 100000 in
theorem wc_111 : ∀ w ∈ [Cond.code mm111.1 mm111.2.1 mm111.2.2.1 mm111.2.2.2.1, Cond.initialized mm111.1.cls], w ∈ lw_tbl := wd_in [353, 58] rfl
set_option maxRecDepth 100000 in
theorem wd_112 : ∀ w ∈ ma_wm CLS PP mm112, w ∈ lw_tbl := wd_in [361, 367] rfl
set_option maxRecDepth 100000 in
theorem wn_112 : ∀ w ∈ ma_wnm "PhaseBook" CLS PP mm112, w ∈ lw_tbl := wd_in [360, 366] rfl
set_option maxRecDepth 100000 in
theorem wc_112 : ∀ w ∈ [Cond.code mm112.1 mm112.2.1 mm112.2.2.1 mm112.2.2.2.1, Cond.initialized mm112.1.cls], w ∈ lw_tbl := wd_in [365, 58] rfl
set_option maxRecDepth 100000 in
theorem wd_113 : ∀ w ∈ ma_wm CLS PP mm113, w ∈ lw_tbl := wd_in [254, 229, 254, 229, 374, 377] rfl
set_option maxRecDepth 100000 in
theorem wn_113 : ∀ w ∈ ma_wnm "PhaseBook" CLS PP mm113, w ∈ lw_tbl := wd_in [373, 376] rfl
set_option maxRecDepth 100000 in
theorem wc_113 : ∀ w ∈ [Cond.code mm113.1 mm113.2.1 mm113.2.2.1 mm113.2.2.2.1, Cond.initialized mm113.1.cls], w ∈ lw_tbl := wd_in [372, 58] rfl
set_option maxRecDepth 100000 in
theorem wd_114 : ∀ w ∈ ma_wm CLS PP mm114, w ∈ lw_tbl := wd_in [256, 150, 258, 215, 256, 150, 150, 256, 153, 256, 156, 256, 158, 256, 160, 256, 164, 256, 168, 256, 171, 256, 173, 389, 2, 387, 393, 3, 391, 401, 4, 399] rfl
set_option maxRecDepth 100000 in
theorem wn_114 : ∀ w ∈ ma_wnm "PhaseBook" CLS PP mm114, w ∈ lw_tbl := wd_in [] rfl
set_option maxRecDepth 100000 in
theorem wc_114 : ∀ w ∈ [Cond.code mm114.1 mm114.2.1 mm114.2.2.1 mm114.2.2.2.1, Cond.initialized mm114.1.cls], w ∈ lw_tbl := wd_in [386, 58] rfl
set_option maxRecDepth 100000 in
theorem wd_115 : ∀ w ∈ ma_wm CLS PP mm115, w ∈ lw_tbl := wd_in [256, 507, 508, 506, 256, 160] rfl
set_option maxRecDepth 100000 in
theorem wn_115 : ∀ w ∈ ma_wnm "PhaseBook" CLS PP mm115, w ∈ lw_tbl := wd_in [] rfl
set_option maxRecDepth 100000 in
theorem wc_115 : ∀ w ∈ [Cond.code mm115.1 mm115.2.1 mm115.2.2.1 mm115.2.2.2.1, Cond.initialized mm115.1.cls], w ∈ lw_tbl := wd_in [505, 58] rfl
set_option maxRecDepth 100000 in
theorem wd_116 : ∀ w ∈ ma_wm CLS PP mm116, w ∈ lw_tbl := wd_in [256, 164, 389, 2, 387, 393, 3, 391, 256, 160, 432, 9, 430, 256, 160, 256, 164] rfl
set_option maxRecDepth 100000 in
theorem wn_116 : ∀ w ∈ ma_wnm "PhaseBook" CLS PP mm116, w ∈ lw_tbl := wd_in [] rfl
set_option maxRecDepth 100000 in
theorem wc_116 : ∀ w ∈ [Cond.code mm116.1 mm116.2.1 mm116.2.2.1 mm116.2.2.2.1, Cond.initialized mm116.1.cls], w ∈ lw_tbl := wd_in [429, 58] rfl
set_option maxRecDepth 100000 in
theorem wd_117 : ∀ w ∈ ma_wm CLS PP mm117, w ∈ lw_tbl := wd_in [256, 507, 508, 506, 256, 160, 355, 361, 256, 171, 367] rfl
set_option maxRecDepth 100000 in
theorem wn_117 : ∀ w ∈ ma_wnm "PhaseBook" CLS PP mm117, w ∈ lw_tbl := wd_in [354, 360, 366] rfl
set_option maxRecDepth 100000 in
theorem wc_117 : ∀ w ∈ [Cond.code mm117.1 mm117.2.1 mm117.2.2.1 mm117.2.2.2.1, Cond.initialized mm117.1.cls], w ∈ lw_tbl := wd_in [522, 58] rfl
set_option maxRecDepth 100000 in
theorem wd_118 : ∀ w ∈ ma_wm CLS PP mm118, w ∈ lw_tbl := wd_in [393, 3, 391, 256, 168, 256, 164, 256, 164, 256, 173, 446, 80, 57, 81, 449, 11, 447, 432, 9, 430, 256, 164, 256, 168, 401, 4, 399] rfl
set_option maxRecDepth 100000 in
theorem wn_118 : ∀ w ∈ ma_wnm "PhaseBook" CLS PP mm118, w ∈ lw_tbl := wd_in [] rfl
set_option maxRecDepth 100000 in
theorem wc_118 : ∀ w ∈ [Cond.code mm118.1 mm118.2.1 mm118.2.2.1 mm118.2.2.2.1, Cond.initialized mm118.1.cls], w ∈ lw_tbl := wd_in [526, 58] rfl
set_option maxRecDepth 100000 in
theorem wd_119 : ∀ w ∈ ma_wm CLS PP mm119, w ∈ lw_tbl := wd_in [254, 229] rfl
set_option maxRecDepth 100000 in
theorem wn_119 : ∀ w ∈ ma_wnm "PhaseBook" CLS PP mm119, w ∈ lw_tbl := wd_in [] rfl
set_option maxRecDepth 100000 in
theorem wc_119 : ∀ w ∈ [Cond.code mm119.1 mm119.2.1 mm119.2.2.1 mm119.2.2.2.1, Cond.initialized mm119.1.cls], w ∈ lw_tbl := wd_in [534, 58] rfl
set_option maxRecDepth 100000 in
theorem wd_120 : ∀ w ∈ ma_wm CLS PP mm120, w ∈ lw_tbl := wd_in [254, 229, 374, 541, 18, 539, 254, 229, 571, 22, 569] rfl
set_option maxRecDepth 100000 in
theorem wn_120 : ∀ w ∈ ma_wnm "PhaseBook" CLS PP mm120, w ∈ lw_tbl := wd_in [373] rfl
set_option maxRecDepth 100000 in
theorem wc_120 : ∀ w ∈ [Cond.code mm120.1 mm120.2.1 mm120.2.2.1 mm120.2.2.2.1, Cond.initialized mm120.1.cls], w ∈ lw_tbl := wd_in [538, 58] rfl
set_option maxRecDepth 100000 in
theorem wd_121 : ∀ w ∈ ma_wm CLS PP mm121, w ∈ lw_tbl := wd_in [254, 229, 474, 15, 472, 256, 160, 256, 158, 420, 8, 418, 461, 13, 459] rfl
set_option maxRecDepth 100000 in
theorem wn_121 : ∀ w ∈ ma_wnm "PhaseBook" CLS PP mm121, w ∈ lw_tbl := wd_in [] rfl
set_option maxRecDepth 100000 in
theorem wc_121 : ∀ w ∈ [Cond.code mm121.1 mm121.2.1 mm121.2.2.1 mm121.2.2.2.1, Cond.initialized mm121.1.cls], w ∈ lw_tbl := wd_in [471, 58] rfl
set_option maxRecDepth 100000 in
theorem wd_122 : ∀ w ∈ ma_wm CLS PP mm122, w ∈ lw_tbl := wd_in [603, 23, 601, 254, 578, 579, 605, 603, 23, 601] rfl
set_option maxRecDepth 100000 in
theorem wn_122 : ∀ w ∈ ma_wnm "PhaseBook" CLS PP mm122, w ∈ lw_tbl := wd_in [] rfl
set_option maxRecDepth 100000 in
theorem wc_122 : ∀ w ∈ [Cond.code mm122.1 mm122.2.1 mm122.2.2.1 mm122.2.2.2.1, Cond.initialized mm122.1.cls], w ∈ lw_tbl := wd_in [600, 58] rfl
set_option maxRecDepth 100000 in
theorem wd_123 : ∀ w ∈ ma_wm CLS PP mm123, w ∈ lw_tbl := wd_in [256, 158, 256, 160, 254, 229, 405, 5, 403, 420, 8, 418, 461, 13, 459] rfl
set_option maxRecDepth 100000 in
theorem wn_123 : ∀ w ∈ ma_wnm "PhaseBook" CLS PP mm123, w ∈ lw_tbl := wd_in [] rfl
set_option maxRecDepth 100000 in
theorem wc_123 : ∀ w ∈ [Cond.code mm123.1 mm123.2.1 mm123.2.2.1 mm123.2.2.2.1, Cond.initialized mm123.1.cls], w ∈ lw_tbl := wd_in [402, 58] rfl
set_option maxRecDepth 100000 in
theorem wd_124 : ∀ w ∈ ma_wm CLS PP mm124, w ∈ lw_tbl := wd_in [256, 164, 256, 158, 377, 453, 12, 451, 427, 428, 426] rfl
set_option maxRecDepth 100000 in
theorem wn_124 : ∀ w ∈ ma_wnm "PhaseBook" CLS PP mm124, w ∈ lw_tbl := wd_in [376] rfl
set_option maxRecDepth 100000 in
theorem wc_124 : ∀ w ∈ [Cond.code mm124.1 mm124.2.1 mm124.2.2.1 mm124.2.2.2.1, Cond.initialized mm124.1.cls], w ∈ lw_tbl := wd_in [462, 58] rfl
set_option maxRecDepth 100000 in
theorem wd_125 : ∀ w ∈ ma_wm CLS PP mm125, w ∈ lw_tbl := wd_in [256, 156, 256, 180, 256, 177, 256, 168, 409, 6, 407, 256, 168, 413, 7, 411, 256, 153, 256, 153, 256, 164, 256, 164] rfl
set_option maxRecDepth 100000 in
theorem wn_125 : ∀ w ∈ ma_wnm "PhaseBook" CLS PP mm125, w ∈ lw_tbl := wd_in [] rfl
set_option maxRecDepth 100000 in
theorem wc_125 : ∀ w ∈ [Cond.code mm125.1 mm125.2.1 mm125.2.2.1 mm125.2.2.2.1, Cond.initialized mm125.1.cls], w ∈ lw_tbl := wd_in [406, 58] rfl
set_option maxRecDepth 100000 in
theorem wd_126 : ∀ w ∈ ma_wm CLS PP mm126, w ∈ lw_tbl := wd_in [256, 156, 256, 164, 256, 423, 424, 422, 256, 168, 409, 6, 407, 256, 168, 413, 7, 411, 254, 229, 256, 153, 256, 153, 427, 428, 426, 444, 10, 442] rfl
set_option maxRecDepth 100000 in
theorem wn_126 : ∀ w ∈ ma_wnm "PhaseBook" CLS PP mm126, w ∈ lw_tbl := wd_in [] rfl
set_option maxRecDepth 100000 in
theorem wc_126 : ∀ w ∈ [Cond.code mm126.1 mm126.2.1 mm126.2.2.1 mm126.2.2.2.1, Cond.initialized mm126.1.cls], w ∈ lw_tbl := wd_in [421, 58] rfl
set_option maxRecDepth 100000 in
theorem wd_127 : ∀ w ∈ ma_wm CLS PP mm127, w ∈ lw_tbl := wd_in [256, 168, 256, 164, 256, 173, 446, 80, 57, 81, 256, 173, 254, 233, 256, 164, 256, 164, 393, 3, 391, 393, 3, 391, 449, 11, 447, 432, 9, 430, 256, 164, 453, 12, 451] rfl
set_option maxRecDepth 100000 in
theorem wn_127 : ∀ w ∈ ma_wnm "PhaseBook" CLS PP mm127, w ∈ lw_tbl := wd_in [] rfl
set_option maxRecDepth 100000 in
theorem wc_127 : ∀ w ∈ [Cond.code mm127.1 mm127.2.1 mm127.2.2.1 mm127.2.2.2.1, Cond.initialized mm127.1.cls], w ∈ lw_tbl := wd_in [445, 58] rfl
set_option maxRecDepth 100000 in
theorem wd_128 : ∀ w ∈ ma_wm CLS PP mm128, w ∈ lw_tbl := wd_in [262, 256, 254, 236, 544, 545, 543, 262, 126, 567, 21, 565, 567, 21, 565, 254, 262, 123, 233, 254, 262, 123, 236] rfl
set_option maxRecDepth 100000 in
theorem wn_128 : ∀ w ∈ ma_wnm "PhaseBook" CLS PP mm128, w ∈ lw_tbl := wd_in [] rfl
set_option maxRecDepth 100000 in
theorem wc_128 : ∀ w ∈ [Cond.code mm128.1 mm128.2.1 mm128.2.2.1 mm128.2.2.2.1, Cond.initialized mm128.1.cls], w ∈ lw_tbl := wd_in [542, 58] rfl
set_option maxRecDepth 100000 in
theorem wd_129 : ∀ w ∈ ma_wm CLS PP mm129, w ∈ lw_tbl := wd_in [262, 126, 256, 423, 424, 422, 256, 164, 446, 80, 57, 81, 256, 164, 262, 123, 393, 3, 391, 256, 164, 432, 9, 430, 256, 171, 256, 164, 446, 80, 57, 81, 449, 11, 447] rfl
set_option maxRecDepth 100000 in
theorem wn_129 : ∀ w ∈ ma_wnm "PhaseBook" CLS PP mm129, w ∈ lw_tbl := wd_in [] rfl
set_option maxRecDepth 100000 in
theorem wc_129 : ∀ w ∈ [Cond.code mm129.1 mm129.2.1 mm129.2.2.1 mm129.2.2.2.1, Cond.initialized mm129.1.cls], w ∈ lw_tbl := wd_in [568, 58] rfl
set_option maxRecDepth 100000 in
theorem wd_130 : ∀ w ∈ ma_wm CLS PP mm130, w ∈ lw_tbl := wd_in [256, 150, 256, 160, 427, 428, 426] rfl
set_option maxRecDepth 100000 in
theorem wn_130 : ∀ w ∈ ma_wnm "PhaseBook" CLS PP mm130, w ∈ lw_tbl := wd_in [] rfl
set_option maxRecDepth 100000 in
theorem wc_130 : ∀ w ∈ [Cond.code mm130.1 mm130.2.1 mm130.2.2.1 mm130.2.2.2.1, Cond.initialized mm130.1.cls], w ∈ lw_tbl := wd_in [572, 58] rfl
set_option maxRecDepth 100000 in
theorem wd_131 : ∀ w ∈ ma_wm CLS PP mm131, w ∈ lw_tbl := wd_in [256, 150, 256, 160, 478, 16, 476] rfl
set_option maxRecDepth 100000 in
theorem wn_131 : ∀ w ∈ ma_wnm "PhaseBook" CLS PP mm131, w ∈ lw_tbl := wd_in [] rfl
set_option maxRecDepth 100000 in
theorem wc_131 : ∀ w ∈ [Cond.code mm131.1 mm131.2.1 mm131.2.2.1 mm131.2.2.2.1, Cond.initialized mm131.1.cls], w ∈ lw_tbl := wd_in [475, 58] rfl
set_option maxRecDepth 100000 in
theorem wd_132 : ∀ w ∈ ma_wm CLS PP mm132, w ∈ lw_tbl := wd_in [256, 168, 256, 156, 254, 233, 254, 233] rfl
set_option maxRecDepth 100000 in
theorem wn_132 : ∀ w ∈ ma_wnm "PhaseBook" CLS PP mm132, w ∈ lw_tbl := wd_in [] rfl
set_option maxRecDepth 100000 in
theorem wc_132 : ∀ w ∈ [Cond.code mm132.1 mm132.2.1 mm132.2.2.1 mm132.2.2.2.1, Cond.initialized mm132.1.cls], w ∈ lw_tbl := wd_in [479, 58] rfl
set_option maxRecDepth 100000 in
theorem wd_133 : ∀ w ∈ ma_wm CLS PP mm133, w ∈ lw_tbl := wd_in [256, 158, 358, 256, 168, 256, 156] rfl
set_option maxRecDepth 100000 in
theorem wn_133 : ∀ w ∈ ma_wnm "PhaseBook" CLS PP mm133, w ∈ lw_tbl := wd_in [357] rfl
set_option maxRecDepth 100000 in
theorem wc_133 : ∀ w ∈ [Cond.code mm133.1 mm133.2.1 mm133.2.2.1 mm133.2.2.2.1, Cond.initialized mm133.1.cls], w ∈ lw_tbl := wd_in [410, 58] rfl
set_option maxRecDepth 100000 in
theorem wd_134 : ∀ w ∈ ma_wm CLS PP mm134, w ∈ lw_tbl := wd_in [254, 236, 415, 416, 57, 417, 253] rfl
set_option maxRecDepth 100000 in
theorem wn_134 : ∀ w ∈ ma_wnm "PhaseBook" CLS PP mm134, w ∈ lw_tbl := wd_in [] rfl
set_option maxRecDepth 100000 in
theorem wc_134 : ∀ w ∈ [Cond.code mm134.1 mm134.2.1 mm134.2.2.1 mm134.2.2.2.1, Cond.initialized mm134.1.cls], w ∈ lw_tbl := wd_in [414, 58] rfl
set_option maxRecDepth 100000 in
theorem wd_135 : ∀ w ∈ ma_wm CLS PP mm135, w ∈ lw_tbl := wd_in [256, 171, 256, 164, 446, 80, 57, 81, 256, 160, 256, 173, 256, 456, 457, 455, 260, 256, 156, 256, 168, 435, 436, 434] rfl
set_option maxRecDepth 100000 in
theorem wn_135 : ∀ w ∈ ma_wnm "PhaseBook" CLS PP mm135, w ∈ lw_tbl := wd_in [] rfl
set_option maxRecDepth 100000 in
theorem wc_135 : ∀ w ∈ [Cond.code mm135.1 mm135.2.1 mm135.2.2.1 mm135.2.2.2.1, Cond.initialized mm135.1.cls], w ∈ lw_tbl := wd_in [454, 58] rfl
set_option maxRecDepth 100000 in
theorem wd_136 : ∀ w ∈ ma_wm CLS PP mm136, w ∈ lw_tbl := wd_in [260, 256, 156, 256, 168, 256, 173, 435, 436, 434, 256, 439, 440, 438, 256, 173, 256, 160] rfl
set_option maxRecDepth 100000 in
theorem wn_136 : ∀ w ∈ ma_wnm "PhaseBook" CLS PP mm136, w ∈ lw_tbl := wd_in [] rfl
set_option maxRecDepth 100000 in
theorem wc_136 : ∀ w ∈ [Cond.code mm136.1 mm136.2.1 mm136.2.2.1 mm136.2.2.2.1, Cond.initialized mm136.1.cls], w ∈ lw_tbl := wd_in [433, 58] rfl
set_option maxRecDepth 100000 in
theorem wd_137 : ∀ w ∈ ma_wm CLS PP mm137, w ∈ lw_tbl := wd_in [260, 256, 156, 256, 168, 256, 173, 435, 436, 434, 256, 173] rfl
set_option maxRecDepth 100000 in
theorem wn_137 : ∀ w ∈ ma_wnm "PhaseBook" CLS PP mm137, w ∈ lw_tbl := wd_in [] rfl
set_option maxRecDepth 100000 in
theorem wc_137 : ∀ w ∈ [Cond.code mm137.1 mm137.2.1 mm137.2.2.1 mm137.2.2.2.1, Cond.initialized mm137.1.cls], w ∈ lw_tbl := wd_in [450, 58] rfl
set_option maxRecDepth 100000 in
theorem wd_138 : ∀ w ∈ ma_wm CLS PP mm138, w ∈ lw_tbl := wd_in [256, 180, 256, 177, 260, 256, 168, 256, 173, 435, 436, 434] rfl
set_option maxRecDepth 100000 in
theorem wn_138 : ∀ w ∈ ma_wnm "PhaseBook" CLS PP mm138, w ∈ lw_tbl := wd_in [] rfl
set_option maxRecDepth 100000 in
theorem wc_138 : ∀ w ∈ [Cond.code mm138.1 mm138.2.1 mm138.2.2.1 mm138.2.2.2.1, Cond.initialized mm138.1.cls], w ∈ lw_tbl := wd_in [604, 58] rfl
set_option maxRecDepth 100000 in
theorem wd_139 : ∀ w ∈ ma_wm CLS PP mm139, w ∈ lw_tbl := wd_in [256, 158, 358, 256, 168] rfl
set_option maxRecDepth 100000 in
theorem wn_139 : ∀ w ∈ ma_wnm "PhaseBook" CLS PP mm139, w ∈ lw_tbl := wd_in [357] rfl
set_option maxRecDepth 100000 in
theorem wc_139 : ∀ w ∈ [Cond.code mm139.1 mm139.2.1 mm139.2.2.1 mm139.2.2.2.1, Cond.initialized mm139.1.cls], w ∈ lw_tbl := wd_in [390, 58] rfl
set_option maxRecDepth 100000 in
theorem wd_140 : ∀ w ∈ ma_wm CLS PP mm140, w ∈ lw_tbl := wd_in [258, 256, 153, 396, 397, 395] rfl
set_option maxRecDepth 100000 in
theorem wn_140 : ∀ w ∈ ma_wnm "PhaseBook" CLS PP mm140, w ∈ lw_tbl := wd_in [] rfl
set_option maxRecDepth 100000 in
theorem wc_140 : ∀ w ∈ [Cond.code mm140.1 mm140.2.1 mm140.2.2.1 mm140.2.2.2.1, Cond.initialized mm140.1.cls], w ∈ lw_tbl := wd_in [394, 58] rfl
set_option maxRecDepth 100000 in
theorem wd_141 : ∀ w ∈ ma_wm CLS PP mm141, w ∈ lw_tbl := wd_in [209, 74, 75, 114, 211, 114, 213, 114, 216, 210, 114, 218] rfl
set_option maxRecDepth 100000 in
theorem wn_141 : ∀ w ∈ ma_wnm "PhaseBook" CLS PP mm141, w ∈ lw_tbl := wd_in [] rfl
set_option maxRecDepth 100000 in
theorem wc_141 : ∀ w ∈ [Cond.code mm141.1 mm141.2.1 mm141.2.2.1 mm141.2.2.2.1, Cond.initialized mm141.1.cls], w ∈ lw_tbl := wd_in [208, 63] rfl
set_option maxRecDepth 100000 in
theorem wd_142 : ∀ w ∈ ma_wm CLS PP mm142, w ∈ lw_tbl := wd_in [218, 216, 216] rfl
set_option maxRecDepth 100000 in
theorem wn_142 : ∀ w ∈ ma_wnm "PhaseBook" CLS PP mm142, w ∈ lw_tbl := wd_in [] rfl
set_option maxRecDepth 100000 in
theorem wc_142 : ∀ w ∈ [Cond.code mm142.1 mm142.2.1 mm142.2.2.1 mm142.2.2.2.1, Cond.initialized mm142.1.cls], w ∈ lw_tbl := wd_in [398, 63] rfl
set_option maxRecDepth 100000 in
theorem wd_143 : ∀ w ∈ ma_wm CLS PP mm143, w ∈ lw_tbl := wd_in [216, 216, 218] rfl
set_option maxRecDepth 100000 in
theorem wn_143 : ∀ w ∈ ma_wnm "PhaseBook" CLS PP mm143, w ∈ lw_tbl := wd_in [] rfl
set_option maxRecDepth 100000 in
theorem wc_143 : ∀ w ∈ [Cond.code mm143.1 mm143.2.1 mm143.2.2.1 mm143.2.2.2.1, Cond.initialized mm143.1.cls], w ∈ lw_tbl := wd_in [645, 63] rfl
set_option maxRecDepth 100000 in
theorem wd_144 : ∀ w ∈ ma_wm CLS PP mm144, w ∈ lw_tbl := wd_in [211, 211, 592, 587, 586, 67, 213, 213, 592, 587, 586, 67, 216, 216, 592, 587, 586, 67, 218, 218, 592, 587, 586, 67] rfl
set_option maxRecDepth 100000 in
theorem wn_144 : ∀ w ∈ ma_wnm "PhaseBook" CLS PP mm144, w ∈ lw_tbl := wd_in [] rfl
set_option maxRecDepth 100000 in
theorem wc_144 : ∀ w ∈ [Cond.code mm144.1 mm144.2.1 mm144.2.2.1 mm144.2.2.2.1, Cond.initialized mm144.1.cls], w ∈ lw_tbl := wd_in [591, 63] rfl
set_option maxRecDepth 100000 in
theorem wd_145 : ∀ w ∈ ma_wm CLS PP mm145, w ∈ lw_tbl := wd_in [141, 74, 75, 228, 142, 143, 62, 145, 237, 204, 205, 63, 207, 240, 231, 234] rfl
set_option maxRecDepth 100000 in
theorem wn_145 : ∀ w ∈ ma_wnm "PhaseBook" CLS PP mm145, w ∈ lw_tbl := wd_in [144, 206] rfl
set_option maxRecDepth 100000 in
theorem wc_145 : ∀ w ∈ [Cond.code mm145.1 mm145.2.1 mm145.2.2.1 mm145.2.2.2.1, Cond.initialized mm145.1.cls], w ∈ lw_tbl := wd_in [140, 61] rfl
set_option maxRecDepth 100000 in
theorem wd_146 : ∀ w ∈ ma_wm CLS PP mm146, w ∈ lw_tbl := wd_in [228, 228, 231, 231, 234, 234, 237, 237, 582, 583, 581, 240, 240, 589, 590, 588] rfl
set_option maxRecDepth 100000 in
theorem wn_146 : ∀ w ∈ ma_wnm "PhaseBook" CLS PP mm146, w ∈ lw_tbl := wd_in [] rfl
set_option maxRecDepth 100000 in
theorem wc_146 : ∀ w ∈ [Cond.code mm146.1 mm146.2.1 mm146.2.2.1 mm146.2.2.2.1, Cond.initialized mm146.1.cls], w ∈ lw_tbl := wd_in [580, 61] rfl
set_option maxRecDepth 100000 in
theorem wd_147 : ∀ w ∈ ma_wm CLS PP mm147, w ∈ lw_tbl := wd_in [311, 74, 75, 312, 114, 315] rfl
set_option maxRecDepth 100000 in
theorem wn_147 : ∀ w ∈ ma_wnm "PhaseBook" CLS PP mm147, w ∈ lw_tbl := wd_in [] rfl
set_option maxRecDepth 100000 in
theorem wc_147 : ∀ w ∈ [Cond.code mm147.1 mm147.2.1 mm147.2.2.1 mm147.2.2.2.1, Cond.initialized mm147.1.cls], w ∈ lw_tbl := wd_in [310, 65] rfl
set_option maxRecDepth 100000 in
theorem wd_148 : ∀ w ∈ ma_wm CLS PP mm148, w ∈ lw_tbl := wd_in [659, 660, 658, 313, 313, 489, 662, 315, 289, 291, 293, 313, 313] rfl
set_option maxRecDepth 100000 in
theorem wn_148 : ∀ w ∈ ma_wnm "PhaseBook" CLS PP mm148, w ∈ lw_tbl := wd_in [] rfl
set_option maxRecDepth 100000 in
theorem wc_148 : ∀ w ∈ [Cond.code mm148.1 mm148.2.1 mm148.2.2.1 mm148.2.2.2.1, Cond.initialized mm148.1.cls], w ∈ lw_tbl := wd_in [657, 65] rfl
set_option maxRecDepth 100000 in
theorem wd_149 : ∀ w ∈ ma_wm CLS PP mm149, w ∈ lw_tbl := wd_in [101, 315, 671, 587, 586, 67, 313] rfl
set_option maxRecDepth 100000 in
theorem wn_149 : ∀ w ∈ ma_wnm "PhaseBook" CLS PP mm149, w ∈ lw_tbl := wd_in [] rfl
set_option maxRecDepth 100000 in
theorem wc_149 : ∀ w ∈ [Cond.code mm149.1 mm149.2.1 mm149.2.2.1 mm149.2.2.2.1, Cond.initialized mm149.1.cls], w ∈ lw_tbl := wd_in [670, 65] rfl
set_option maxRecDepth 100000 in
theorem wd_150 : ∀ w ∈ ma_wm CLS PP mm150, w ∈ lw_tbl := wd_in [] rfl
set_option maxRecDepth 100000 in
theorem wn_150 : ∀ w ∈ ma_wnm "PhaseBook" CLS PP mm150, w ∈ lw_tbl := wd_in [] rfl
set_option maxRecDepth 100000 in
theorem wc_150 : ∀ w ∈ [Cond.code mm150.1 mm150.2.1 mm150.2.2.1 mm150.2.2.2.1, Cond.initialized mm150.1.cls], w ∈ lw_tbl := wd_in [682, 55] rfl
set_option maxRecDepth 100000 in
theorem wd_151 : ∀ w ∈ ma_wm CLS PP mm151, w ∈ lw_tbl := wd_in [] rfl
set_option maxRecDepth 100000 in
theorem wn_151 : ∀ w ∈ ma_wnm "PhaseBook" CLS PP mm151, w ∈ lw_tbl := wd_in [] rfl
set_option maxRecDepth 100000 in
theorem wc_151 : ∀ w ∈ [Cond.code mm151.1 mm151.2.1 mm151.2.2.1 mm151.2.2.2.1, Cond.initialized mm151.1.cls], w ∈ lw_tbl := wd_in [493, 57] rfl
set_option maxRecDepth 100000 in
theorem wf_0 : ∀ w ∈ u_ws RC0 TC0 4, w ∈ lw_tbl := wd_in [326, 328, 330, 332] rfl
set_option maxRecDepth 100000 in
theorem wf_1 : ∀ w ∈ u_ws RC1 TC1 3, w ∈ lw_tbl := wd_in [129, 131, 133] rfl
set_option maxRecDepth 100000 in
theorem wf_2 : ∀ w ∈ u_ws RC2 TC2 11, w ∈ lw_tbl := wd_in [181, 183, 185, 187, 189, 191, 193, 195, 197, 199, 201] rfl
set_option maxRecDepth 100000 in
theorem wf_3 : ∀ w ∈ u_ws RC3 TC3 5, w ∈ lw_tbl := wd_in [295, 297, 299, 301, 303] rfl
set_option maxRecDepth 100000 in
theorem wf_4 : ∀ w ∈ u_ws RC4 TC4 3, w ∈ lw_tbl := wd_in [107, 109, 111] rfl
set_option maxRecDepth 100000 in
theorem wf_5 : ∀ w ∈ u_ws RC5 TC5 6, w ∈ lw_tbl := wd_in [264, 266, 268, 270, 272, 274] rfl
set_option maxRecDepth 100000 in
theorem wf_6 : ∀ w ∈ u_ws RC6 TC6 4, w ∈ lw_tbl := wd_in [219, 221, 223, 225] rfl
set_option maxRecDepth 100000 in
theorem wf_7 : ∀ w ∈ u_ws RC7 TC7 5, w ∈ lw_tbl := wd_in [242, 244, 246, 248, 250] rfl
set_option maxRecDepth 100000 in
theorem wf_8 : ∀ w ∈ u_ws RC8 TC8 2, w ∈ lw_tbl := wd_in [317, 319] rfl
set_option maxRecDepth 100000 in
theorem wf_9 : ∀ w ∈ u_ws RC9 TC9 24, w ∈ lw_tbl := wd_in [720, 722, 724, 726, 728, 730, 732, 734, 736, 738, 740, 742, 744, 746, 748, 750, 752, 754, 756, 758, 760, 762, 764, 766] rfl
theorem Ts_good : Ts.all goodWord = true := by decide +kernel
theorem NS_nest : NS.all ma_nest = true := by decide +kernel
