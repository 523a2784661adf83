/-! 05.names: the classes and the methods as the small machine has them (written by gen1.py out of the listing) -/
def RC0 : String := "PhaseBook"
def RC1 : String := "PhaseBook$Auction"
def RC2 : String := "PhaseBook$Book"
def RC3 : String := "PhaseBook$Feed"
def RC4 : String := "PhaseBook$Levels"
def RC5 : String := "PhaseBook$Market"
def RC6 : String := "PhaseBook$Sessions"
def RC7 : String := "PhaseBook$State"
def RC8 : String := "PhaseBook$Subscriber"
def RC9 : String := "PhaseBookModel"
def TC0 : u_T := fun k => match k with
  | 0 => (RC0, "market", "LPhaseBook$Market;", true)
  | 1 => (RC0, "saved", "LPhaseBook$State;", true)
  | 2 => (RC0, "feed", "LPhaseBook$Feed;", true)
  | 3 => (RC0, "subscriber", "LPhaseBook$Subscriber;", true)
  | _ => (RC0, "", "I", false)
def TC1 : u_T := fun k => match k with
  | 0 => (RC1, "price", "I", false)
  | 1 => (RC1, "volume", "I", false)
  | 2 => (RC1, "imbalance", "I", false)
  | _ => (RC1, "", "I", false)
def TC2 : u_T := fun k => match k with
  | 0 => (RC2, "accepted", "I", false)
  | 1 => (RC2, "owner", "[I", true)
  | 2 => (RC2, "side", "[I", true)
  | 3 => (RC2, "kind", "[I", true)
  | 4 => (RC2, "status", "[I", true)
  | 5 => (RC2, "quantity", "[I", true)
  | 6 => (RC2, "price", "[I", true)
  | 7 => (RC2, "peak", "[I", true)
  | 8 => (RC2, "shownPart", "[I", true)
  | 9 => (RC2, "line", "[[I", true)
  | 10 => (RC2, "lineLength", "[I", true)
  | _ => (RC2, "", "I", false)
def TC3 : u_T := fun k => match k with
  | 0 => (RC3, "count", "I", false)
  | 1 => (RC3, "side", "[I", true)
  | 2 => (RC3, "price", "[I", true)
  | 3 => (RC3, "sum", "[I", true)
  | 4 => (RC3, "told", "[[I", true)
  | _ => (RC3, "", "I", false)
def TC4 : u_T := fun k => match k with
  | 0 => (RC4, "sums", "[[I", true)
  | 1 => (RC4, "lowestChanged", "[I", true)
  | 2 => (RC4, "highestChanged", "[I", true)
  | _ => (RC4, "", "I", false)
def TC5 : u_T := fun k => match k with
  | 0 => (RC5, "band", "I", true)
  | 1 => (RC5, "state", "LPhaseBook$State;", true)
  | 2 => (RC5, "book", "LPhaseBook$Book;", true)
  | 3 => (RC5, "sessions", "LPhaseBook$Sessions;", true)
  | 4 => (RC5, "levels", "LPhaseBook$Levels;", true)
  | 5 => (RC5, "auction", "LPhaseBook$Auction;", true)
  | _ => (RC5, "", "I", false)
def TC6 : u_T := fun k => match k with
  | 0 => (RC6, "expected", "[I", true)
  | 1 => (RC6, "extra", "[I", true)
  | 2 => (RC6, "reportCount", "[I", true)
  | 3 => (RC6, "reports", "[[I", true)
  | _ => (RC6, "", "I", false)
def TC7 : u_T := fun k => match k with
  | 0 => (RC7, "phase", "I", false)
  | 1 => (RC7, "last", "I", false)
  | 2 => (RC7, "reference", "I", false)
  | 3 => (RC7, "book", "LPhaseBook$Book;", true)
  | 4 => (RC7, "sessions", "LPhaseBook$Sessions;", true)
  | _ => (RC7, "", "I", false)
def TC8 : u_T := fun k => match k with
  | 0 => (RC8, "needed", "I", false)
  | 1 => (RC8, "picture", "[[I", true)
  | _ => (RC8, "", "I", false)
def TC9 : u_T := fun k => match k with
  | 0 => (RC9, "band", "I", false)
  | 1 => (RC9, "state", "[I", true)
  | 2 => (RC9, "owner", "[I", true)
  | 3 => (RC9, "side", "[I", true)
  | 4 => (RC9, "kind", "[I", true)
  | 5 => (RC9, "quantity", "[I", true)
  | 6 => (RC9, "status", "[I", true)
  | 7 => (RC9, "price", "[I", true)
  | 8 => (RC9, "peak", "[I", true)
  | 9 => (RC9, "shownPart", "[I", true)
  | 10 => (RC9, "rank", "[I", true)
  | 11 => (RC9, "ranks", "I", false)
  | 12 => (RC9, "reports", "[I", true)
  | 13 => (RC9, "bought", "[I", true)
  | 14 => (RC9, "sold", "[I", true)
  | 15 => (RC9, "auctionPrice", "I", false)
  | 16 => (RC9, "volume", "I", false)
  | 17 => (RC9, "imbalance", "I", false)
  | 18 => (RC9, "before", "[I", true)
  | 19 => (RC9, "picture", "[I", true)
  | 20 => (RC9, "feedLevel", "[I", true)
  | 21 => (RC9, "feedSum", "[I", true)
  | 22 => (RC9, "fed", "I", false)
  | 23 => (RC9, "needed", "I", false)
  | _ => (RC9, "", "I", false)
def CLS : List vw_C := [(RC0, TC0, 4), (RC1, TC1, 3), (RC2, TC2, 11), (RC3, TC3, 5), (RC4, TC4, 3), (RC5, TC5, 6), (RC6, TC6, 4), (RC7, TC7, 5), (RC8, TC8, 2), (RC9, TC9, 24)]
def mm0 : ma_M := (⟨"PhaseBookLaw", "law", "([I)Z"⟩, code, 4, some .boolean, 1, 99, [
  (0, .new 7, 3, 0, 0, 0), (3, .dup, 1, 0, 0, 0), (4, .aload_n 0, 1, 0, 0, 0), (5, .iconst 0, 1, 0, 0, 0), (6, .invokestatic 9, 3, 160, 2, 0), (9, .aload_n 0, 1, 0, 0, 0), (10, .iconst 1, 1, 0, 0, 0), (11, .invokestatic 9, 3, 160, 2, 0),
  (14, .invokespecial 15, 3, 11, 3, 0), (17, .astore_n 1, 1, 0, 0, 0), (18, .new 18, 3, 9, 0, 0), (21, .dup, 1, 0, 0, 0), (22, .aload_n 0, 1, 0, 0, 0), (23, .iconst 0, 1, 0, 0, 0), (24, .invokestatic 9, 3, 160, 2, 0), (27, .aload_n 0, 1, 0, 0, 0),
  (28, .iconst 1, 1, 0, 0, 0), (29, .invokestatic 9, 3, 160, 2, 0), (32, .invokespecial 20, 3, 41, 3, 0), (35, .astore_n 2, 1, 0, 0, 0), (36, .iconst 2, 1, 0, 0, 0), (37, .istore_n 3, 1, 0, 0, 0), (38, .iload_n 3, 1, 0, 0, 0), (39, .aload_n 0, 1, 0, 0, 0),
  (40, .arraylength, 1, 0, 0, 0), (41, .bipush 6, 2, 0, 0, 0), (43, .isub, 1, 0, 0, 0), (44, .if_icmp .gt 636, 3, 0, 0, 0), (47, .aload_n 0, 1, 0, 0, 0), (48, .iload_n 3, 1, 0, 0, 0), (49, .iaload, 1, 0, 0, 0), (50, .bipush 31, 2, 0, 0, 0),
  (52, .iand, 1, 0, 0, 0), (53, .tableswitch 621 0 17 #[87, 120, 183, 226, 289, 312, 325, 338, 361, 394, 417, 450, 483, 526, 539, 562, 575, 608], 87, 0, 0, 0), (140, .aload_n 1, 1, 0, 0, 0), (141, .aload_n 0, 1, 0, 0, 0), (142, .iload_n 3, 1, 0, 0, 0), (143, .iconst 1, 1, 0, 0, 0), (144, .iadd, 1, 0, 0, 0), (145, .iaload, 1, 0, 0, 0),
  (146, .aload_n 0, 1, 0, 0, 0), (147, .iload_n 3, 1, 0, 0, 0), (148, .iconst 2, 1, 0, 0, 0), (149, .iadd, 1, 0, 0, 0), (150, .iaload, 1, 0, 0, 0), (151, .invokevirtual 21, 3, 12, 3, 0), (154, .aload_n 2, 1, 0, 0, 0), (155, .aload_n 0, 1, 0, 0, 0),
  (156, .iload_n 3, 1, 0, 0, 0), (157, .iconst 1, 1, 0, 0, 0), (158, .iadd, 1, 0, 0, 0), (159, .iaload, 1, 0, 0, 0), (160, .aload_n 0, 1, 0, 0, 0), (161, .iload_n 3, 1, 0, 0, 0), (162, .iconst 2, 1, 0, 0, 0), (163, .iadd, 1, 0, 0, 0),
  (164, .iaload, 1, 0, 0, 0), (165, .invokevirtual 25, 3, 74, 3, 9), (168, .if_icmp .eq 506, 3, 0, 0, 0), (171, .iconst 0, 1, 0, 0, 0), (172, .ireturn, 1, 0, 0, 0), (173, .aload_n 1, 1, 0, 0, 0), (174, .aload_n 0, 1, 0, 0, 0), (175, .iload_n 3, 1, 0, 0, 0),
  (176, .iconst 1, 1, 0, 0, 0), (177, .iadd, 1, 0, 0, 0), (178, .iaload, 1, 0, 0, 0), (179, .aload_n 0, 1, 0, 0, 0), (180, .iload_n 3, 1, 0, 0, 0), (181, .iconst 2, 1, 0, 0, 0), (182, .iadd, 1, 0, 0, 0), (183, .iaload, 1, 0, 0, 0),
  (184, .aload_n 0, 1, 0, 0, 0), (185, .iload_n 3, 1, 0, 0, 0), (186, .iconst 3, 1, 0, 0, 0), (187, .iadd, 1, 0, 0, 0), (188, .iaload, 1, 0, 0, 0), (189, .aload_n 0, 1, 0, 0, 0), (190, .iload_n 3, 1, 0, 0, 0), (191, .iconst 4, 1, 0, 0, 0),
  (192, .iadd, 1, 0, 0, 0), (193, .iaload, 1, 0, 0, 0), (194, .aload_n 0, 1, 0, 0, 0), (195, .iload_n 3, 1, 0, 0, 0), (196, .iconst 5, 1, 0, 0, 0), (197, .iadd, 1, 0, 0, 0), (198, .iaload, 1, 0, 0, 0), (199, .invokevirtual 26, 3, 13, 6, 0),
  (202, .aload_n 2, 1, 0, 0, 0), (203, .aload_n 0, 1, 0, 0, 0), (204, .iload_n 3, 1, 0, 0, 0), (205, .iconst 1, 1, 0, 0, 0), (206, .iadd, 1, 0, 0, 0), (207, .iaload, 1, 0, 0, 0), (208, .aload_n 0, 1, 0, 0, 0), (209, .iload_n 3, 1, 0, 0, 0),
  (210, .iconst 2, 1, 0, 0, 0), (211, .iadd, 1, 0, 0, 0), (212, .iaload, 1, 0, 0, 0), (213, .aload_n 0, 1, 0, 0, 0), (214, .iload_n 3, 1, 0, 0, 0), (215, .iconst 3, 1, 0, 0, 0), (216, .iadd, 1, 0, 0, 0), (217, .iaload, 1, 0, 0, 0),
  (218, .aload_n 0, 1, 0, 0, 0), (219, .iload_n 3, 1, 0, 0, 0), (220, .iconst 4, 1, 0, 0, 0), (221, .iadd, 1, 0, 0, 0), (222, .iaload, 1, 0, 0, 0), (223, .aload_n 0, 1, 0, 0, 0), (224, .iload_n 3, 1, 0, 0, 0), (225, .iconst 5, 1, 0, 0, 0),
  (226, .iadd, 1, 0, 0, 0), (227, .iaload, 1, 0, 0, 0), (228, .invokevirtual 30, 3, 76, 6, 9), (231, .if_icmp .eq 443, 3, 0, 0, 0), (234, .iconst 0, 1, 0, 0, 0), (235, .ireturn, 1, 0, 0, 0), (236, .aload_n 1, 1, 0, 0, 0), (237, .aload_n 0, 1, 0, 0, 0),
  (238, .iload_n 3, 1, 0, 0, 0), (239, .iconst 1, 1, 0, 0, 0), (240, .iadd, 1, 0, 0, 0), (241, .iaload, 1, 0, 0, 0), (242, .aload_n 0, 1, 0, 0, 0), (243, .iload_n 3, 1, 0, 0, 0), (244, .iconst 2, 1, 0, 0, 0), (245, .iadd, 1, 0, 0, 0),
  (246, .iaload, 1, 0, 0, 0), (247, .aload_n 0, 1, 0, 0, 0), (248, .iload_n 3, 1, 0, 0, 0), (249, .iconst 3, 1, 0, 0, 0), (250, .iadd, 1, 0, 0, 0), (251, .iaload, 1, 0, 0, 0), (252, .invokevirtual 31, 3, 14, 4, 0), (255, .aload_n 2, 1, 0, 0, 0),
  (256, .aload_n 0, 1, 0, 0, 0), (257, .iload_n 3, 1, 0, 0, 0), (258, .iconst 1, 1, 0, 0, 0), (259, .iadd, 1, 0, 0, 0), (260, .iaload, 1, 0, 0, 0), (261, .aload_n 0, 1, 0, 0, 0), (262, .iload_n 3, 1, 0, 0, 0), (263, .iconst 2, 1, 0, 0, 0),
  (264, .iadd, 1, 0, 0, 0), (265, .iaload, 1, 0, 0, 0), (266, .aload_n 0, 1, 0, 0, 0), (267, .iload_n 3, 1, 0, 0, 0), (268, .iconst 3, 1, 0, 0, 0), (269, .iadd, 1, 0, 0, 0), (270, .iaload, 1, 0, 0, 0), (271, .invokevirtual 35, 3, 78, 4, 9),
  (274, .if_icmp .eq 400, 3, 0, 0, 0), (277, .iconst 0, 1, 0, 0, 0), (278, .ireturn, 1, 0, 0, 0), (279, .aload_n 1, 1, 0, 0, 0), (280, .aload_n 0, 1, 0, 0, 0), (281, .iload_n 3, 1, 0, 0, 0), (282, .iconst 1, 1, 0, 0, 0), (283, .iadd, 1, 0, 0, 0),
  (284, .iaload, 1, 0, 0, 0), (285, .aload_n 0, 1, 0, 0, 0), (286, .iload_n 3, 1, 0, 0, 0), (287, .iconst 2, 1, 0, 0, 0), (288, .iadd, 1, 0, 0, 0), (289, .iaload, 1, 0, 0, 0), (290, .aload_n 0, 1, 0, 0, 0), (291, .iload_n 3, 1, 0, 0, 0),
  (292, .iconst 3, 1, 0, 0, 0), (293, .iadd, 1, 0, 0, 0), (294, .iaload, 1, 0, 0, 0), (295, .aload_n 0, 1, 0, 0, 0), (296, .iload_n 3, 1, 0, 0, 0), (297, .iconst 4, 1, 0, 0, 0), (298, .iadd, 1, 0, 0, 0), (299, .iaload, 1, 0, 0, 0),
  (300, .aload_n 0, 1, 0, 0, 0), (301, .iload_n 3, 1, 0, 0, 0), (302, .iconst 5, 1, 0, 0, 0), (303, .iadd, 1, 0, 0, 0), (304, .iaload, 1, 0, 0, 0), (305, .invokevirtual 36, 3, 15, 6, 0), (308, .aload_n 2, 1, 0, 0, 0), (309, .aload_n 0, 1, 0, 0, 0),
  (310, .iload_n 3, 1, 0, 0, 0), (311, .iconst 1, 1, 0, 0, 0), (312, .iadd, 1, 0, 0, 0), (313, .iaload, 1, 0, 0, 0), (314, .aload_n 0, 1, 0, 0, 0), (315, .iload_n 3, 1, 0, 0, 0), (316, .iconst 2, 1, 0, 0, 0), (317, .iadd, 1, 0, 0, 0),
  (318, .iaload, 1, 0, 0, 0), (319, .aload_n 0, 1, 0, 0, 0), (320, .iload_n 3, 1, 0, 0, 0), (321, .iconst 3, 1, 0, 0, 0), (322, .iadd, 1, 0, 0, 0), (323, .iaload, 1, 0, 0, 0), (324, .aload_n 0, 1, 0, 0, 0), (325, .iload_n 3, 1, 0, 0, 0),
  (326, .iconst 4, 1, 0, 0, 0), (327, .iadd, 1, 0, 0, 0), (328, .iaload, 1, 0, 0, 0), (329, .aload_n 0, 1, 0, 0, 0), (330, .iload_n 3, 1, 0, 0, 0), (331, .iconst 5, 1, 0, 0, 0), (332, .iadd, 1, 0, 0, 0), (333, .iaload, 1, 0, 0, 0),
  (334, .invokevirtual 39, 3, 79, 6, 9), (337, .if_icmp .eq 337, 3, 0, 0, 0), (340, .iconst 0, 1, 0, 0, 0), (341, .ireturn, 1, 0, 0, 0), (342, .aload_n 1, 1, 0, 0, 0), (343, .aload_n 0, 1, 0, 0, 0), (344, .iload_n 3, 1, 0, 0, 0), (345, .iconst 1, 1, 0, 0, 0),
  (346, .iadd, 1, 0, 0, 0), (347, .iaload, 1, 0, 0, 0), (348, .invokevirtual 40, 3, 16, 2, 0), (351, .aload_n 2, 1, 0, 0, 0), (352, .aload_n 0, 1, 0, 0, 0), (353, .iload_n 3, 1, 0, 0, 0), (354, .iconst 1, 1, 0, 0, 0), (355, .iadd, 1, 0, 0, 0),
  (356, .iaload, 1, 0, 0, 0), (357, .invokevirtual 44, 3, 81, 2, 9), (360, .if_icmp .eq 314, 3, 0, 0, 0), (363, .iconst 0, 1, 0, 0, 0), (364, .ireturn, 1, 0, 0, 0), (365, .aload_n 1, 1, 0, 0, 0), (366, .invokevirtual 45, 3, 17, 1, 0), (369, .aload_n 2, 1, 0, 0, 0),
  (370, .invokevirtual 49, 3, 82, 1, 9), (373, .if_icmp .eq 301, 3, 0, 0, 0), (376, .iconst 0, 1, 0, 0, 0), (377, .ireturn, 1, 0, 0, 0), (378, .aload_n 1, 1, 0, 0, 0), (379, .invokevirtual 50, 3, 18, 1, 0), (382, .aload_n 2, 1, 0, 0, 0), (383, .invokevirtual 53, 3, 83, 1, 9),
  (386, .if_icmp .eq 288, 3, 0, 0, 0), (389, .iconst 0, 1, 0, 0, 0), (390, .ireturn, 1, 0, 0, 0), (391, .aload_n 1, 1, 0, 0, 0), (392, .aload_n 0, 1, 0, 0, 0), (393, .iload_n 3, 1, 0, 0, 0), (394, .iconst 1, 1, 0, 0, 0), (395, .iadd, 1, 0, 0, 0),
  (396, .iaload, 1, 0, 0, 0), (397, .invokevirtual 54, 3, 19, 2, 0), (400, .aload_n 2, 1, 0, 0, 0), (401, .aload_n 0, 1, 0, 0, 0), (402, .iload_n 3, 1, 0, 0, 0), (403, .iconst 1, 1, 0, 0, 0), (404, .iadd, 1, 0, 0, 0), (405, .iaload, 1, 0, 0, 0),
  (406, .invokevirtual 58, 3, 84, 2, 9), (409, .if_icmp .eq 265, 3, 0, 0, 0), (412, .iconst 0, 1, 0, 0, 0), (413, .ireturn, 1, 0, 0, 0), (414, .aload_n 1, 1, 0, 0, 0), (415, .aload_n 0, 1, 0, 0, 0), (416, .iload_n 3, 1, 0, 0, 0), (417, .iconst 1, 1, 0, 0, 0),
  (418, .iadd, 1, 0, 0, 0), (419, .iaload, 1, 0, 0, 0), (420, .aload_n 0, 1, 0, 0, 0), (421, .iload_n 3, 1, 0, 0, 0), (422, .iconst 2, 1, 0, 0, 0), (423, .iadd, 1, 0, 0, 0), (424, .iaload, 1, 0, 0, 0), (425, .invokevirtual 59, 3, 20, 3, 0),
  (428, .aload_n 2, 1, 0, 0, 0), (429, .aload_n 0, 1, 0, 0, 0), (430, .iload_n 3, 1, 0, 0, 0), (431, .iconst 1, 1, 0, 0, 0), (432, .iadd, 1, 0, 0, 0), (433, .iaload, 1, 0, 0, 0), (434, .aload_n 0, 1, 0, 0, 0), (435, .iload_n 3, 1, 0, 0, 0),
  (436, .iconst 2, 1, 0, 0, 0), (437, .iadd, 1, 0, 0, 0), (438, .iaload, 1, 0, 0, 0), (439, .invokevirtual 62, 3, 86, 3, 9), (442, .if_icmp .eq 232, 3, 0, 0, 0), (445, .iconst 0, 1, 0, 0, 0), (446, .ireturn, 1, 0, 0, 0), (447, .aload_n 1, 1, 0, 0, 0),
  (448, .aload_n 0, 1, 0, 0, 0), (449, .iload_n 3, 1, 0, 0, 0), (450, .iconst 1, 1, 0, 0, 0), (451, .iadd, 1, 0, 0, 0), (452, .iaload, 1, 0, 0, 0), (453, .invokevirtual 63, 3, 21, 2, 0), (456, .aload_n 2, 1, 0, 0, 0), (457, .aload_n 0, 1, 0, 0, 0),
  (458, .iload_n 3, 1, 0, 0, 0), (459, .iconst 1, 1, 0, 0, 0), (460, .iadd, 1, 0, 0, 0), (461, .iaload, 1, 0, 0, 0), (462, .invokevirtual 66, 3, 87, 2, 9), (465, .if_icmp .eq 209, 3, 0, 0, 0), (468, .iconst 0, 1, 0, 0, 0), (469, .ireturn, 1, 0, 0, 0),
  (470, .aload_n 1, 1, 0, 0, 0), (471, .aload_n 0, 1, 0, 0, 0), (472, .iload_n 3, 1, 0, 0, 0), (473, .iconst 1, 1, 0, 0, 0), (474, .iadd, 1, 0, 0, 0), (475, .iaload, 1, 0, 0, 0), (476, .aload_n 0, 1, 0, 0, 0), (477, .iload_n 3, 1, 0, 0, 0),
  (478, .iconst 2, 1, 0, 0, 0), (479, .iadd, 1, 0, 0, 0), (480, .iaload, 1, 0, 0, 0), (481, .invokevirtual 67, 3, 22, 3, 0), (484, .aload_n 2, 1, 0, 0, 0), (485, .aload_n 0, 1, 0, 0, 0), (486, .iload_n 3, 1, 0, 0, 0), (487, .iconst 1, 1, 0, 0, 0),
  (488, .iadd, 1, 0, 0, 0), (489, .iaload, 1, 0, 0, 0), (490, .aload_n 0, 1, 0, 0, 0), (491, .iload_n 3, 1, 0, 0, 0), (492, .iconst 2, 1, 0, 0, 0), (493, .iadd, 1, 0, 0, 0), (494, .iaload, 1, 0, 0, 0), (495, .invokevirtual 70, 3, 89, 3, 9),
  (498, .if_icmp .eq 176, 3, 0, 0, 0), (501, .iconst 0, 1, 0, 0, 0), (502, .ireturn, 1, 0, 0, 0), (503, .aload_n 1, 1, 0, 0, 0), (504, .aload_n 0, 1, 0, 0, 0), (505, .iload_n 3, 1, 0, 0, 0), (506, .iconst 1, 1, 0, 0, 0), (507, .iadd, 1, 0, 0, 0),
  (508, .iaload, 1, 0, 0, 0), (509, .aload_n 0, 1, 0, 0, 0), (510, .iload_n 3, 1, 0, 0, 0), (511, .iconst 2, 1, 0, 0, 0), (512, .iadd, 1, 0, 0, 0), (513, .iaload, 1, 0, 0, 0), (514, .invokevirtual 71, 3, 23, 3, 0), (517, .aload_n 2, 1, 0, 0, 0),
  (518, .aload_n 0, 1, 0, 0, 0), (519, .iload_n 3, 1, 0, 0, 0), (520, .iconst 1, 1, 0, 0, 0), (521, .iadd, 1, 0, 0, 0), (522, .iaload, 1, 0, 0, 0), (523, .aload_n 0, 1, 0, 0, 0), (524, .iload_n 3, 1, 0, 0, 0), (525, .iconst 2, 1, 0, 0, 0),
  (526, .iadd, 1, 0, 0, 0), (527, .iaload, 1, 0, 0, 0), (528, .invokevirtual 74, 3, 90, 3, 9), (531, .if_icmp .eq 143, 3, 0, 0, 0), (534, .iconst 0, 1, 0, 0, 0), (535, .ireturn, 1, 0, 0, 0), (536, .aload_n 1, 1, 0, 0, 0), (537, .aload_n 0, 1, 0, 0, 0),
  (538, .iload_n 3, 1, 0, 0, 0), (539, .iconst 1, 1, 0, 0, 0), (540, .iadd, 1, 0, 0, 0), (541, .iaload, 1, 0, 0, 0), (542, .aload_n 0, 1, 0, 0, 0), (543, .iload_n 3, 1, 0, 0, 0), (544, .iconst 2, 1, 0, 0, 0), (545, .iadd, 1, 0, 0, 0),
  (546, .iaload, 1, 0, 0, 0), (547, .aload_n 0, 1, 0, 0, 0), (548, .iload_n 3, 1, 0, 0, 0), (549, .iconst 3, 1, 0, 0, 0), (550, .iadd, 1, 0, 0, 0), (551, .iaload, 1, 0, 0, 0), (552, .invokevirtual 75, 3, 24, 4, 0), (555, .aload_n 2, 1, 0, 0, 0),
  (556, .aload_n 0, 1, 0, 0, 0), (557, .iload_n 3, 1, 0, 0, 0), (558, .iconst 1, 1, 0, 0, 0), (559, .iadd, 1, 0, 0, 0), (560, .iaload, 1, 0, 0, 0), (561, .aload_n 0, 1, 0, 0, 0), (562, .iload_n 3, 1, 0, 0, 0), (563, .iconst 2, 1, 0, 0, 0),
  (564, .iadd, 1, 0, 0, 0), (565, .iaload, 1, 0, 0, 0), (566, .aload_n 0, 1, 0, 0, 0), (567, .iload_n 3, 1, 0, 0, 0), (568, .iconst 3, 1, 0, 0, 0), (569, .iadd, 1, 0, 0, 0), (570, .iaload, 1, 0, 0, 0), (571, .invokevirtual 78, 3, 91, 4, 9),
  (574, .if_icmp .eq 100, 3, 0, 0, 0), (577, .iconst 0, 1, 0, 0, 0), (578, .ireturn, 1, 0, 0, 0), (579, .aload_n 1, 1, 0, 0, 0), (580, .invokevirtual 79, 3, 25, 1, 0), (583, .aload_n 2, 1, 0, 0, 0), (584, .invokevirtual 82, 3, 92, 1, 9), (587, .if_icmp .eq 87, 3, 0, 0, 0),
  (590, .iconst 0, 1, 0, 0, 0), (591, .ireturn, 1, 0, 0, 0), (592, .aload_n 1, 1, 0, 0, 0), (593, .aload_n 0, 1, 0, 0, 0), (594, .iload_n 3, 1, 0, 0, 0), (595, .iconst 1, 1, 0, 0, 0), (596, .iadd, 1, 0, 0, 0), (597, .iaload, 1, 0, 0, 0),
  (598, .invokevirtual 83, 3, 26, 2, 0), (601, .aload_n 2, 1, 0, 0, 0), (602, .aload_n 0, 1, 0, 0, 0), (603, .iload_n 3, 1, 0, 0, 0), (604, .iconst 1, 1, 0, 0, 0), (605, .iadd, 1, 0, 0, 0), (606, .iaload, 1, 0, 0, 0), (607, .invokevirtual 86, 3, 93, 2, 9),
  (610, .if_icmp .eq 64, 3, 0, 0, 0), (613, .iconst 0, 1, 0, 0, 0), (614, .ireturn, 1, 0, 0, 0), (615, .aload_n 1, 1, 0, 0, 0), (616, .invokevirtual 87, 3, 27, 1, 0), (619, .aload_n 2, 1, 0, 0, 0), (620, .invokevirtual 90, 3, 94, 1, 9), (623, .if_icmp .eq 51, 3, 0, 0, 0),
  (626, .iconst 0, 1, 0, 0, 0), (627, .ireturn, 1, 0, 0, 0), (628, .aload_n 1, 1, 0, 0, 0), (629, .aload_n 0, 1, 0, 0, 0), (630, .iload_n 3, 1, 0, 0, 0), (631, .iconst 1, 1, 0, 0, 0), (632, .iadd, 1, 0, 0, 0), (633, .iaload, 1, 0, 0, 0),
  (634, .aload_n 0, 1, 0, 0, 0), (635, .iload_n 3, 1, 0, 0, 0), (636, .iconst 2, 1, 0, 0, 0), (637, .iadd, 1, 0, 0, 0), (638, .iaload, 1, 0, 0, 0), (639, .invokevirtual 91, 3, 28, 3, 0), (642, .aload_n 2, 1, 0, 0, 0), (643, .aload_n 0, 1, 0, 0, 0),
  (644, .iload_n 3, 1, 0, 0, 0), (645, .iconst 1, 1, 0, 0, 0), (646, .iadd, 1, 0, 0, 0), (647, .iaload, 1, 0, 0, 0), (648, .aload_n 0, 1, 0, 0, 0), (649, .iload_n 3, 1, 0, 0, 0), (650, .iconst 2, 1, 0, 0, 0), (651, .iadd, 1, 0, 0, 0),
  (652, .iaload, 1, 0, 0, 0), (653, .invokevirtual 94, 3, 95, 3, 9), (656, .if_icmp .eq 18, 3, 0, 0, 0), (659, .iconst 0, 1, 0, 0, 0), (660, .ireturn, 1, 0, 0, 0), (661, .aload_n 1, 1, 0, 0, 0), (662, .invokevirtual 95, 3, 29, 1, 0), (665, .aload_n 2, 1, 0, 0, 0),
  (666, .invokevirtual 98, 3, 96, 1, 9), (669, .if_icmp .eq 5, 3, 0, 0, 0), (672, .iconst 0, 1, 0, 0, 0), (673, .ireturn, 1, 0, 0, 0), (674, .iinc 3 6, 3, 0, 0, 0), (677, .goto (-639), 3, 0, 0, 0), (680, .iconst 1, 1, 0, 0, 0), (681, .ireturn, 1, 0, 0, 0)])
def mm1 : ma_M := (⟨RC0, "<init>", "(II)V"⟩, prog_1_method_1_code, 4, none, 2, 0, [
  (0, .aload_n 0, 1, 0, 0, 0), (1, .invokespecial 3, 3, 5, 0, 0), (4, .iload_n 1, 1, 0, 0, 0), (5, .invokestatic 9, 3, 30, 1, 0), (8, .istore_n 3, 1, 0, 0, 0), (9, .aload_n 0, 1, 0, 0, 0), (10, .new 13, 3, 5, 0, 0), (13, .dup, 1, 0, 0, 0),
  (14, .iload_n 3, 1, 0, 0, 0), (15, .iload_n 2, 1, 0, 0, 0), (16, .invokestatic 9, 3, 30, 1, 0), (19, .invokespecial 15, 3, 120, 3, 0), (22, .putfield 18, 3, 0, 0, 0), (25, .aload_n 0, 1, 0, 0, 0), (26, .new 22, 3, 7, 0, 0), (29, .dup, 1, 0, 0, 0),
  (30, .iload_n 3, 1, 0, 0, 0), (31, .invokespecial 24, 3, 155, 2, 0), (34, .putfield 27, 3, 0, 1, 0), (37, .aload_n 0, 1, 0, 0, 0), (38, .new 31, 3, 3, 0, 0), (41, .dup, 1, 0, 0, 0), (42, .invokespecial 33, 3, 112, 1, 100), (45, .putfield 34, 3, 0, 2, 0),
  (48, .aload_n 0, 1, 0, 0, 0), (49, .new 38, 3, 8, 0, 0), (52, .dup, 1, 0, 0, 0), (53, .invokespecial 40, 3, 157, 1, 100), (56, .putfield 41, 3, 0, 3, 0), (59, .return_, 1, 0, 0, 0)])
def mm2 : ma_M := (⟨RC0, "extra", "(II)I"⟩, prog_1_method_2_code, 5, some .int, 2, 0, [
  (0, .iload_n 1, 1, 0, 0, 0), (1, .invokestatic 45, 3, 31, 1, 0), (4, .ifCond .ne 5, 3, 0, 0, 0), (7, .iconst (-1), 1, 0, 0, 0), (8, .ireturn, 1, 0, 0, 0), (9, .aload_n 0, 1, 0, 0, 0), (10, .getfield 18, 3, 0, 0, 0), (13, .getfield 49, 3, 5, 3, 0),
  (16, .getfield 53, 3, 6, 1, 0), (19, .astore_n 3, 1, 0, 0, 0), (20, .aload_n 3, 1, 0, 0, 0), (21, .iload_n 1, 1, 0, 0, 0), (22, .iaload, 1, 0, 0, 0), (23, .istore 4, 2, 0, 0, 0), (25, .aload_n 3, 1, 0, 0, 0), (26, .iload_n 1, 1, 0, 0, 0),
  (27, .iload_n 2, 1, 0, 0, 0), (28, .iastore, 1, 0, 0, 0), (29, .iload 4, 2, 0, 0, 0), (31, .ireturn, 1, 0, 0, 0)])
def mm3 : ma_M := (⟨RC0, "order", "(IIIII)I"⟩, prog_1_method_3_code, 8, some .int, 5, 0, [
  (0, .aload_n 0, 1, 0, 0, 0), (1, .iload_n 1, 1, 0, 0, 0), (2, .iload_n 2, 1, 0, 0, 0), (3, .invokevirtual 59, 3, 39, 3, 0), (6, .istore 6, 2, 0, 0, 0), (8, .iload 6, 2, 0, 0, 0), (10, .ifCond .eq 6, 3, 0, 0, 0), (13, .iload 6, 2, 0, 0, 0),
  (15, .ireturn, 1, 0, 0, 0), (16, .bipush (-4), 2, 0, 0, 0), (18, .istore 7, 2, 0, 0, 0), (20, .aload_n 0, 1, 0, 0, 0), (21, .getfield 18, 3, 0, 0, 0), (24, .iload_n 1, 1, 0, 0, 0), (25, .iload_n 3, 1, 0, 0, 0), (26, .iload 4, 2, 0, 0, 0),
  (28, .iload 5, 2, 0, 0, 0), (30, .invokevirtual 63, 3, 121, 5, 5), (33, .ifCond .eq 18, 3, 0, 0, 0), (36, .aload_n 0, 1, 0, 0, 0), (37, .getfield 18, 3, 0, 0, 0), (40, .iload_n 1, 1, 0, 0, 0), (41, .iload_n 3, 1, 0, 0, 0), (42, .iload 4, 2, 0, 0, 0),
  (44, .iload 5, 2, 0, 0, 0), (46, .invokevirtual 67, 3, 124, 5, 5), (49, .istore 7, 2, 0, 0, 0), (51, .aload_n 0, 1, 0, 0, 0), (52, .iload_n 1, 1, 0, 0, 0), (53, .iload 7, 2, 0, 0, 0), (55, .invokevirtual 71, 3, 40, 3, 0), (58, .ireturn, 1, 0, 0, 0)])
def mm4 : ma_M := (⟨RC0, "cancel", "(III)I"⟩, prog_1_method_4_code, 6, some .int, 3, 0, [
  (0, .aload_n 0, 1, 0, 0, 0), (1, .iload_n 1, 1, 0, 0, 0), (2, .iload_n 2, 1, 0, 0, 0), (3, .invokevirtual 59, 3, 39, 3, 0), (6, .istore 4, 2, 0, 0, 0), (8, .iload 4, 2, 0, 0, 0), (10, .ifCond .eq 6, 3, 0, 0, 0), (13, .iload 4, 2, 0, 0, 0),
  (15, .ireturn, 1, 0, 0, 0), (16, .bipush (-4), 2, 0, 0, 0), (18, .istore 5, 2, 0, 0, 0), (20, .aload_n 0, 1, 0, 0, 0), (21, .getfield 18, 3, 0, 0, 0), (24, .iload_n 1, 1, 0, 0, 0), (25, .iload_n 3, 1, 0, 0, 0), (26, .invokevirtual 74, 3, 125, 3, 5),
  (29, .ifCond .eq 14, 3, 0, 0, 0), (32, .aload_n 0, 1, 0, 0, 0), (33, .getfield 18, 3, 0, 0, 0), (36, .iload_n 3, 1, 0, 0, 0), (37, .invokevirtual 78, 3, 126, 2, 5), (40, .iconst 0, 1, 0, 0, 0), (41, .istore 5, 2, 0, 0, 0), (43, .aload_n 0, 1, 0, 0, 0),
  (44, .iload_n 1, 1, 0, 0, 0), (45, .iload 5, 2, 0, 0, 0), (47, .invokevirtual 71, 3, 40, 3, 0), (50, .ireturn, 1, 0, 0, 0)])
def mm5 : ma_M := (⟨RC0, "replace", "(IIIII)I"⟩, prog_1_method_5_code, 8, some .int, 5, 0, [
  (0, .aload_n 0, 1, 0, 0, 0), (1, .iload_n 1, 1, 0, 0, 0), (2, .iload_n 2, 1, 0, 0, 0), (3, .invokevirtual 59, 3, 39, 3, 0), (6, .istore 6, 2, 0, 0, 0), (8, .iload 6, 2, 0, 0, 0), (10, .ifCond .eq 6, 3, 0, 0, 0), (13, .iload 6, 2, 0, 0, 0),
  (15, .ireturn, 1, 0, 0, 0), (16, .bipush (-4), 2, 0, 0, 0), (18, .istore 7, 2, 0, 0, 0), (20, .aload_n 0, 1, 0, 0, 0), (21, .getfield 18, 3, 0, 0, 0), (24, .iload_n 1, 1, 0, 0, 0), (25, .iload_n 3, 1, 0, 0, 0), (26, .iload 4, 2, 0, 0, 0),
  (28, .iload 5, 2, 0, 0, 0), (30, .invokevirtual 81, 3, 127, 5, 5), (33, .ifCond .eq 18, 3, 0, 0, 0), (36, .aload_n 0, 1, 0, 0, 0), (37, .getfield 18, 3, 0, 0, 0), (40, .iload_n 3, 1, 0, 0, 0), (41, .iload 4, 2, 0, 0, 0), (43, .iload 5, 2, 0, 0, 0),
  (45, .invokevirtual 84, 3, 128, 4, 5), (48, .iconst 0, 1, 0, 0, 0), (49, .istore 7, 2, 0, 0, 0), (51, .aload_n 0, 1, 0, 0, 0), (52, .iload_n 1, 1, 0, 0, 0), (53, .iload 7, 2, 0, 0, 0), (55, .invokevirtual 71, 3, 40, 3, 0), (58, .ireturn, 1, 0, 0, 0)])
def mm6 : ma_M := (⟨RC0, "phase", "(I)Z"⟩, prog_1_method_6_code, 2, some .boolean, 1, 0, [
  (0, .aload_n 0, 1, 0, 0, 0), (1, .getfield 18, 3, 0, 0, 0), (4, .iload_n 1, 1, 0, 0, 0), (5, .invokevirtual 88, 3, 129, 2, 5), (8, .ifCond .ne 5, 3, 0, 0, 0), (11, .iconst 0, 1, 0, 0, 0), (12, .ireturn, 1, 0, 0, 0), (13, .aload_n 0, 1, 0, 0, 0),
  (14, .getfield 18, 3, 0, 0, 0), (17, .iload_n 1, 1, 0, 0, 0), (18, .invokevirtual 91, 3, 130, 2, 5), (21, .aload_n 0, 1, 0, 0, 0), (22, .getfield 18, 3, 0, 0, 0), (25, .invokevirtual 94, 3, 131, 1, 5), (28, .aload_n 0, 1, 0, 0, 0), (29, .getfield 34, 3, 0, 2, 0),
  (32, .aload_n 0, 1, 0, 0, 0), (33, .getfield 18, 3, 0, 0, 0), (36, .getfield 97, 3, 5, 4, 0), (39, .invokevirtual 101, 3, 114, 2, 3), (42, .iconst 1, 1, 0, 0, 0), (43, .ireturn, 1, 0, 0, 0)])
def mm7 : ma_M := (⟨RC0, "save", "()I"⟩, prog_1_method_7_code, 1, some .int, 0, 0, [
  (0, .aload_n 0, 1, 0, 0, 0), (1, .getfield 27, 3, 0, 1, 0), (4, .aload_n 0, 1, 0, 0, 0), (5, .getfield 18, 3, 0, 0, 0), (8, .getfield 105, 3, 5, 1, 0), (11, .invokevirtual 108, 3, 156, 2, 7), (14, .aload_n 0, 1, 0, 0, 0), (15, .getfield 27, 3, 0, 1, 0),
  (18, .getfield 112, 3, 7, 3, 0), (21, .getfield 116, 3, 2, 0, 0), (24, .ireturn, 1, 0, 0, 0)])
def mm8 : ma_M := (⟨RC0, "crash", "()I"⟩, prog_1_method_8_code, 1, some .int, 0, 0, [
  (0, .aload_n 0, 1, 0, 0, 0), (1, .getfield 18, 3, 0, 0, 0), (4, .aload_n 0, 1, 0, 0, 0), (5, .getfield 27, 3, 0, 1, 0), (8, .invokevirtual 122, 3, 132, 2, 5), (11, .aload_n 0, 1, 0, 0, 0), (12, .getfield 34, 3, 0, 2, 0), (15, .aload_n 0, 1, 0, 0, 0),
  (16, .getfield 18, 3, 0, 0, 0), (19, .getfield 97, 3, 5, 4, 0), (22, .invokevirtual 101, 3, 114, 2, 3), (25, .aload_n 0, 1, 0, 0, 0), (26, .getfield 18, 3, 0, 0, 0), (29, .getfield 125, 3, 5, 2, 0), (32, .getfield 116, 3, 2, 0, 0), (35, .ireturn, 1, 0, 0, 0)])
def mm9 : ma_M := (⟨RC0, "market", "(I)I"⟩, prog_1_method_9_code, 3, some .int, 1, 0, [
  (0, .aload_n 0, 1, 0, 0, 0), (1, .getfield 18, 3, 0, 0, 0), (4, .getfield 126, 3, 5, 5, 0), (7, .astore_n 2, 1, 0, 0, 0), (8, .iload_n 1, 1, 0, 0, 0), (9, .tableswitch 165 0 6 #[43, 54, 65, 76, 87, 113, 139], 43, 0, 0, 0), (52, .aload_n 0, 1, 0, 0, 0), (53, .getfield 18, 3, 0, 0, 0),
  (56, .getfield 105, 3, 5, 1, 0), (59, .getfield 130, 3, 7, 0, 0), (62, .ireturn, 1, 0, 0, 0), (63, .aload_n 0, 1, 0, 0, 0), (64, .getfield 18, 3, 0, 0, 0), (67, .getfield 105, 3, 5, 1, 0), (70, .getfield 133, 3, 7, 1, 0), (73, .ireturn, 1, 0, 0, 0),
  (74, .aload_n 0, 1, 0, 0, 0), (75, .getfield 18, 3, 0, 0, 0), (78, .getfield 105, 3, 5, 1, 0), (81, .getfield 136, 3, 7, 2, 0), (84, .ireturn, 1, 0, 0, 0), (85, .aload_n 0, 1, 0, 0, 0), (86, .getfield 18, 3, 0, 0, 0), (89, .getfield 125, 3, 5, 2, 0),
  (92, .invokevirtual 139, 3, 105, 1, 2), (95, .ireturn, 1, 0, 0, 0), (96, .aload_n 2, 1, 0, 0, 0), (97, .aload_n 0, 1, 0, 0, 0), (98, .getfield 18, 3, 0, 0, 0), (101, .getfield 125, 3, 5, 2, 0), (104, .aload_n 0, 1, 0, 0, 0), (105, .getfield 18, 3, 0, 0, 0),
  (108, .getfield 105, 3, 5, 1, 0), (111, .getfield 136, 3, 7, 2, 0), (114, .invokevirtual 143, 3, 98, 3, 1), (117, .aload_n 2, 1, 0, 0, 0), (118, .getfield 149, 3, 1, 0, 0), (121, .ireturn, 1, 0, 0, 0), (122, .aload_n 2, 1, 0, 0, 0), (123, .aload_n 0, 1, 0, 0, 0),
  (124, .getfield 18, 3, 0, 0, 0), (127, .getfield 125, 3, 5, 2, 0), (130, .aload_n 0, 1, 0, 0, 0), (131, .getfield 18, 3, 0, 0, 0), (134, .getfield 105, 3, 5, 1, 0), (137, .getfield 136, 3, 7, 2, 0), (140, .invokevirtual 143, 3, 98, 3, 1), (143, .aload_n 2, 1, 0, 0, 0),
  (144, .getfield 152, 3, 1, 1, 0), (147, .ireturn, 1, 0, 0, 0), (148, .aload_n 2, 1, 0, 0, 0), (149, .aload_n 0, 1, 0, 0, 0), (150, .getfield 18, 3, 0, 0, 0), (153, .getfield 125, 3, 5, 2, 0), (156, .aload_n 0, 1, 0, 0, 0), (157, .getfield 18, 3, 0, 0, 0),
  (160, .getfield 105, 3, 5, 1, 0), (163, .getfield 136, 3, 7, 2, 0), (166, .invokevirtual 143, 3, 98, 3, 1), (169, .aload_n 2, 1, 0, 0, 0), (170, .getfield 155, 3, 1, 2, 0), (173, .ireturn, 1, 0, 0, 0), (174, .iconst (-1), 1, 0, 0, 0), (175, .ireturn, 1, 0, 0, 0)])
def mm10 : ma_M := (⟨RC0, "shown", "(II)I"⟩, prog_1_method_10_code, 3, some .int, 2, 0, [
  (0, .iload_n 1, 1, 0, 0, 0), (1, .invokestatic 158, 3, 32, 1, 0), (4, .ifCond .eq 27, 3, 0, 0, 0), (7, .iload_n 2, 1, 0, 0, 0), (8, .invokestatic 161, 3, 33, 1, 0), (11, .ifCond .eq 20, 3, 0, 0, 0), (14, .aload_n 0, 1, 0, 0, 0), (15, .getfield 18, 3, 0, 0, 0),
  (18, .getfield 97, 3, 5, 4, 0), (21, .getfield 164, 3, 4, 0, 0), (24, .iload_n 1, 1, 0, 0, 0), (25, .aaload, 1, 0, 0, 0), (26, .iload_n 2, 1, 0, 0, 0), (27, .iaload, 1, 0, 0, 0), (28, .goto 4, 3, 0, 0, 0), (31, .iconst 0, 1, 0, 0, 0),
  (32, .ireturn, 1, 0, 0, 0)])
def mm11 : ma_M := (⟨RC0, "best", "(I)I"⟩, prog_1_method_11_code, 2, some .int, 1, 0, [
  (0, .iload_n 1, 1, 0, 0, 0), (1, .invokestatic 158, 3, 32, 1, 0), (4, .ifCond .eq 17, 3, 0, 0, 0), (7, .aload_n 0, 1, 0, 0, 0), (8, .getfield 18, 3, 0, 0, 0), (11, .getfield 125, 3, 5, 2, 0), (14, .iload_n 1, 1, 0, 0, 0), (15, .invokevirtual 170, 3, 107, 2, 2),
  (18, .goto 4, 3, 0, 0, 0), (21, .iconst 0, 1, 0, 0, 0), (22, .ireturn, 1, 0, 0, 0)])
def mm12 : ma_M := (⟨RC0, "about", "(II)I"⟩, prog_1_method_12_code, 5, some .int, 2, 0, [
  (0, .aload_n 0, 1, 0, 0, 0), (1, .getfield 18, 3, 0, 0, 0), (4, .getfield 125, 3, 5, 2, 0), (7, .astore_n 3, 1, 0, 0, 0), (8, .aload_n 3, 1, 0, 0, 0), (9, .iload_n 1, 1, 0, 0, 0), (10, .invokevirtual 173, 3, 103, 2, 2), (13, .ifCond .ne 5, 3, 0, 0, 0),
  (16, .iconst (-1), 1, 0, 0, 0), (17, .ireturn, 1, 0, 0, 0), (18, .aload_n 3, 1, 0, 0, 0), (19, .getfield 176, 3, 2, 4, 0), (22, .iload_n 1, 1, 0, 0, 0), (23, .iaload, 1, 0, 0, 0), (24, .istore 4, 2, 0, 0, 0), (26, .iload_n 2, 1, 0, 0, 0),
  (27, .tableswitch 93 0 5 #[37, 40, 47, 63, 70, 77], 37, 0, 0, 0), (64, .iload 4, 2, 0, 0, 0), (66, .ireturn, 1, 0, 0, 0), (67, .aload_n 3, 1, 0, 0, 0), (68, .getfield 179, 3, 2, 5, 0), (71, .iload_n 1, 1, 0, 0, 0), (72, .iaload, 1, 0, 0, 0), (73, .ireturn, 1, 0, 0, 0),
  (74, .iload 4, 2, 0, 0, 0), (76, .ifCond .ne 7, 3, 0, 0, 0), (79, .iconst 0, 1, 0, 0, 0), (80, .goto 9, 3, 0, 0, 0), (83, .aload_n 3, 1, 0, 0, 0), (84, .getfield 182, 3, 2, 6, 0), (87, .iload_n 1, 1, 0, 0, 0), (88, .iaload, 1, 0, 0, 0),
  (89, .ireturn, 1, 0, 0, 0), (90, .aload_n 3, 1, 0, 0, 0), (91, .getfield 184, 3, 2, 8, 0), (94, .iload_n 1, 1, 0, 0, 0), (95, .iaload, 1, 0, 0, 0), (96, .ireturn, 1, 0, 0, 0), (97, .aload_n 3, 1, 0, 0, 0), (98, .getfield 187, 3, 2, 1, 0),
  (101, .iload_n 1, 1, 0, 0, 0), (102, .iaload, 1, 0, 0, 0), (103, .ireturn, 1, 0, 0, 0), (104, .iload 4, 2, 0, 0, 0), (106, .iconst 1, 1, 0, 0, 0), (107, .if_icmp .ne 11, 3, 0, 0, 0), (110, .aload_n 3, 1, 0, 0, 0), (111, .iload_n 1, 1, 0, 0, 0),
  (112, .invokevirtual 190, 3, 108, 2, 2), (115, .goto 4, 3, 0, 0, 0), (118, .iconst (-1), 1, 0, 0, 0), (119, .ireturn, 1, 0, 0, 0), (120, .iconst (-1), 1, 0, 0, 0), (121, .ireturn, 1, 0, 0, 0)])
def mm13 : ma_M := (⟨RC0, "session", "(II)I"⟩, prog_1_method_13_code, 3, some .int, 2, 0, [
  (0, .iload_n 1, 1, 0, 0, 0), (1, .invokestatic 45, 3, 31, 1, 0), (4, .ifCond .ne 5, 3, 0, 0, 0), (7, .iconst (-1), 1, 0, 0, 0), (8, .ireturn, 1, 0, 0, 0), (9, .iload_n 2, 1, 0, 0, 0), (10, .lookupswitch 52 #[(0, 26), (1, 39)], 26, 0, 0, 0), (36, .aload_n 0, 1, 0, 0, 0),
  (37, .getfield 18, 3, 0, 0, 0), (40, .getfield 49, 3, 5, 3, 0), (43, .getfield 193, 3, 6, 0, 0), (46, .iload_n 1, 1, 0, 0, 0), (47, .iaload, 1, 0, 0, 0), (48, .ireturn, 1, 0, 0, 0), (49, .aload_n 0, 1, 0, 0, 0), (50, .getfield 18, 3, 0, 0, 0),
  (53, .getfield 49, 3, 5, 3, 0), (56, .getfield 196, 3, 6, 2, 0), (59, .iload_n 1, 1, 0, 0, 0), (60, .iaload, 1, 0, 0, 0), (61, .ireturn, 1, 0, 0, 0), (62, .iconst (-1), 1, 0, 0, 0), (63, .ireturn, 1, 0, 0, 0)])
def mm14 : ma_M := (⟨RC0, "report", "(III)I"⟩, prog_1_method_14_code, 4, some .int, 3, 0, [
  (0, .iload_n 1, 1, 0, 0, 0), (1, .invokestatic 45, 3, 31, 1, 0), (4, .ifCond .eq 12, 3, 0, 0, 0), (7, .iload_n 3, 1, 0, 0, 0), (8, .ifCond .lt 8, 3, 0, 0, 0), (11, .iload_n 3, 1, 0, 0, 0), (12, .iconst 4, 1, 0, 0, 0), (13, .if_icmp .lt 5, 3, 0, 0, 0),
  (16, .iconst (-1), 1, 0, 0, 0), (17, .ireturn, 1, 0, 0, 0), (18, .aload_n 0, 1, 0, 0, 0), (19, .getfield 18, 3, 0, 0, 0), (22, .getfield 49, 3, 5, 3, 0), (25, .iload_n 1, 1, 0, 0, 0), (26, .iload_n 2, 1, 0, 0, 0), (27, .iload_n 3, 1, 0, 0, 0),
  (28, .invokevirtual 199, 3, 153, 4, 6), (31, .ireturn, 1, 0, 0, 0)])
def mm15 : ma_M := (⟨RC0, "feed", "()I"⟩, prog_1_method_15_code, 1, some .int, 0, 0, [
  (0, .aload_n 0, 1, 0, 0, 0), (1, .getfield 34, 3, 0, 2, 0), (4, .getfield 203, 3, 3, 0, 0), (7, .ireturn, 1, 0, 0, 0)])
def mm16 : ma_M := (⟨RC0, "take", "(I)I"⟩, prog_1_method_16_code, 2, some .int, 1, 0, [
  (0, .aload_n 0, 1, 0, 0, 0), (1, .getfield 41, 3, 0, 3, 0), (4, .aload_n 0, 1, 0, 0, 0), (5, .getfield 34, 3, 0, 2, 0), (8, .iload_n 1, 1, 0, 0, 0), (9, .invokevirtual 206, 3, 158, 3, 8), (12, .ireturn, 1, 0, 0, 0)])
def mm17 : ma_M := (⟨RC0, "refresh", "()I"⟩, prog_1_method_17_code, 1, some .int, 0, 0, [
  (0, .aload_n 0, 1, 0, 0, 0), (1, .getfield 41, 3, 0, 3, 0), (4, .aload_n 0, 1, 0, 0, 0), (5, .getfield 18, 3, 0, 0, 0), (8, .getfield 97, 3, 5, 4, 0), (11, .aload_n 0, 1, 0, 0, 0), (12, .getfield 34, 3, 0, 2, 0), (15, .getfield 203, 3, 3, 0, 0),
  (18, .invokevirtual 210, 3, 159, 3, 8), (21, .aload_n 0, 1, 0, 0, 0), (22, .getfield 41, 3, 0, 3, 0), (25, .getfield 214, 3, 8, 0, 0), (28, .ireturn, 1, 0, 0, 0)])
def mm18 : ma_M := (⟨RC0, "seen", "(II)I"⟩, prog_1_method_18_code, 3, some .int, 2, 0, [
  (0, .iload_n 1, 1, 0, 0, 0), (1, .invokestatic 158, 3, 32, 1, 0), (4, .ifCond .eq 24, 3, 0, 0, 0), (7, .iload_n 2, 1, 0, 0, 0), (8, .invokestatic 161, 3, 33, 1, 0), (11, .ifCond .eq 17, 3, 0, 0, 0), (14, .aload_n 0, 1, 0, 0, 0), (15, .getfield 41, 3, 0, 3, 0),
  (18, .getfield 217, 3, 8, 1, 0), (21, .iload_n 1, 1, 0, 0, 0), (22, .aaload, 1, 0, 0, 0), (23, .iload_n 2, 1, 0, 0, 0), (24, .iaload, 1, 0, 0, 0), (25, .goto 4, 3, 0, 0, 0), (28, .iconst 0, 1, 0, 0, 0), (29, .ireturn, 1, 0, 0, 0)])
def mm19 : ma_M := (⟨RC0, "next", "()I"⟩, prog_1_method_19_code, 1, some .int, 0, 0, [
  (0, .aload_n 0, 1, 0, 0, 0), (1, .getfield 41, 3, 0, 3, 0), (4, .getfield 214, 3, 8, 0, 0), (7, .ireturn, 1, 0, 0, 0)])
def mm20 : ma_M := (⟨RC0, "nearestPrice", "(I)I"⟩, prog_1_method_20_code, 1, some .int, 1, 99, [
  (0, .iconst 1, 1, 0, 0, 0), (1, .sipush 999, 3, 0, 0, 0), (4, .iload_n 0, 1, 0, 0, 0), (5, .invokestatic 220, 3, 2, 0, 0), (8, .invokestatic 225, 3, 1, 0, 0), (11, .ireturn, 1, 0, 0, 0)])
def mm21 : ma_M := (⟨RC0, "isSession", "(I)Z"⟩, prog_1_method_21_code, 1, some .boolean, 1, 99, [
  (0, .iload_n 0, 1, 0, 0, 0), (1, .ifCond .lt 12, 3, 0, 0, 0), (4, .iload_n 0, 1, 0, 0, 0), (5, .iconst 4, 1, 0, 0, 0), (6, .if_icmp .ge 7, 3, 0, 0, 0), (9, .iconst 1, 1, 0, 0, 0), (10, .goto 4, 3, 0, 0, 0), (13, .iconst 0, 1, 0, 0, 0),
  (14, .ireturn, 1, 0, 0, 0)])
def mm22 : ma_M := (⟨RC0, "isSide", "(I)Z"⟩, prog_1_method_22_code, 1, some .boolean, 1, 99, [
  (0, .iload_n 0, 1, 0, 0, 0), (1, .ifCond .eq 8, 3, 0, 0, 0), (4, .iload_n 0, 1, 0, 0, 0), (5, .iconst 1, 1, 0, 0, 0), (6, .if_icmp .ne 7, 3, 0, 0, 0), (9, .iconst 1, 1, 0, 0, 0), (10, .goto 4, 3, 0, 0, 0), (13, .iconst 0, 1, 0, 0, 0),
  (14, .ireturn, 1, 0, 0, 0)])
def mm23 : ma_M := (⟨RC0, "isPrice", "(I)Z"⟩, prog_1_method_23_code, 1, some .boolean, 1, 99, [
  (0, .iload_n 0, 1, 0, 0, 0), (1, .iconst 1, 1, 0, 0, 0), (2, .if_icmp .lt 14, 3, 0, 0, 0), (5, .iload_n 0, 1, 0, 0, 0), (6, .sipush 999, 3, 0, 0, 0), (9, .if_icmp .gt 7, 3, 0, 0, 0), (12, .iconst 1, 1, 0, 0, 0), (13, .goto 4, 3, 0, 0, 0),
  (16, .iconst 0, 1, 0, 0, 0), (17, .ireturn, 1, 0, 0, 0)])
def mm24 : ma_M := (⟨RC0, "isQuantity", "(I)Z"⟩, prog_1_method_24_code, 1, some .boolean, 1, 99, [
  (0, .iload_n 0, 1, 0, 0, 0), (1, .iconst 1, 1, 0, 0, 0), (2, .if_icmp .lt 14, 3, 0, 0, 0), (5, .iload_n 0, 1, 0, 0, 0), (6, .sipush 1000, 3, 0, 0, 0), (9, .if_icmp .gt 7, 3, 0, 0, 0), (12, .iconst 1, 1, 0, 0, 0), (13, .goto 4, 3, 0, 0, 0),
  (16, .iconst 0, 1, 0, 0, 0), (17, .ireturn, 1, 0, 0, 0)])
def mm25 : ma_M := (⟨RC0, "isCall", "(I)Z"⟩, prog_1_method_25_code, 1, some .boolean, 1, 99, [
  (0, .iload_n 0, 1, 0, 0, 0), (1, .iconst 1, 1, 0, 0, 0), (2, .if_icmp .eq 13, 3, 0, 0, 0), (5, .iload_n 0, 1, 0, 0, 0), (6, .iconst 3, 1, 0, 0, 0), (7, .if_icmp .eq 8, 3, 0, 0, 0), (10, .iload_n 0, 1, 0, 0, 0), (11, .iconst 4, 1, 0, 0, 0),
  (12, .if_icmp .ne 7, 3, 0, 0, 0), (15, .iconst 1, 1, 0, 0, 0), (16, .goto 4, 3, 0, 0, 0), (19, .iconst 0, 1, 0, 0, 0), (20, .ireturn, 1, 0, 0, 0)])
def mm26 : ma_M := (⟨RC0, "mayRest", "(I)Z"⟩, prog_1_method_26_code, 1, some .boolean, 1, 99, [
  (0, .iload_n 0, 1, 0, 0, 0), (1, .ifCond .eq 8, 3, 0, 0, 0), (4, .iload_n 0, 1, 0, 0, 0), (5, .iconst 5, 1, 0, 0, 0), (6, .if_icmp .ne 7, 3, 0, 0, 0), (9, .iconst 1, 1, 0, 0, 0), (10, .goto 4, 3, 0, 0, 0), (13, .iconst 0, 1, 0, 0, 0),
  (14, .ireturn, 1, 0, 0, 0)])
def mm27 : ma_M := (⟨RC0, "hasLimit", "(I)Z"⟩, prog_1_method_27_code, 1, some .boolean, 1, 99, [
  (0, .iload_n 0, 1, 0, 0, 0), (1, .iconst 1, 1, 0, 0, 0), (2, .if_icmp .eq 12, 3, 0, 0, 0), (5, .iload_n 0, 1, 0, 0, 0), (6, .iconst 4, 1, 0, 0, 0), (7, .if_icmp .eq 7, 3, 0, 0, 0), (10, .iconst 1, 1, 0, 0, 0), (11, .goto 4, 3, 0, 0, 0),
  (14, .iconst 0, 1, 0, 0, 0), (15, .ireturn, 1, 0, 0, 0)])
def mm28 : ma_M := (⟨RC0, "isPeakEnough", "(II)Z"⟩, prog_1_method_28_code, 2, some .boolean, 2, 99, [
  (0, .bipush 10, 2, 0, 0, 0), (2, .iload_n 0, 1, 0, 0, 0), (3, .imul, 1, 0, 0, 0), (4, .iload_n 1, 1, 0, 0, 0), (5, .if_icmp .lt 7, 3, 0, 0, 0), (8, .iconst 1, 1, 0, 0, 0), (9, .goto 4, 3, 0, 0, 0), (12, .iconst 0, 1, 0, 0, 0),
  (13, .ireturn, 1, 0, 0, 0)])
def mm29 : ma_M := (⟨RC0, "hear", "(II)I"⟩, prog_1_method_29_code, 4, some .int, 2, 0, [
  (0, .iload_n 1, 1, 0, 0, 0), (1, .invokestatic 45, 3, 31, 1, 0), (4, .ifCond .ne 5, 3, 0, 0, 0), (7, .iconst (-1), 1, 0, 0, 0), (8, .ireturn, 1, 0, 0, 0), (9, .aload_n 0, 1, 0, 0, 0), (10, .getfield 18, 3, 0, 0, 0), (13, .getfield 49, 3, 5, 3, 0),
  (16, .getfield 193, 3, 6, 0, 0), (19, .astore_n 3, 1, 0, 0, 0), (20, .iload_n 2, 1, 0, 0, 0), (21, .aload_n 3, 1, 0, 0, 0), (22, .iload_n 1, 1, 0, 0, 0), (23, .iaload, 1, 0, 0, 0), (24, .if_icmp .le 6, 3, 0, 0, 0), (27, .bipush (-2), 2, 0, 0, 0),
  (29, .ireturn, 1, 0, 0, 0), (30, .iload_n 2, 1, 0, 0, 0), (31, .aload_n 3, 1, 0, 0, 0), (32, .iload_n 1, 1, 0, 0, 0), (33, .iaload, 1, 0, 0, 0), (34, .if_icmp .ge 6, 3, 0, 0, 0), (37, .bipush (-3), 2, 0, 0, 0), (39, .ireturn, 1, 0, 0, 0),
  (40, .aload_n 3, 1, 0, 0, 0), (41, .iload_n 1, 1, 0, 0, 0), (42, .dup2, 1, 0, 0, 0), (43, .iaload, 1, 0, 0, 0), (44, .iconst 1, 1, 0, 0, 0), (45, .iadd, 1, 0, 0, 0), (46, .iastore, 1, 0, 0, 0), (47, .iconst 0, 1, 0, 0, 0),
  (48, .ireturn, 1, 0, 0, 0)])
def mm30 : ma_M := (⟨RC0, "endMessage", "(II)I"⟩, prog_1_method_30_code, 3, some .int, 2, 0, [
  (0, .iload_n 2, 1, 0, 0, 0), (1, .bipush (-4), 2, 0, 0, 0), (3, .if_icmp .ne 18, 3, 0, 0, 0), (6, .aload_n 0, 1, 0, 0, 0), (7, .getfield 18, 3, 0, 0, 0), (10, .getfield 49, 3, 5, 3, 0), (13, .iload_n 1, 1, 0, 0, 0), (14, .iconst 4, 1, 0, 0, 0),
  (15, .iconst (-1), 1, 0, 0, 0), (16, .iconst 0, 1, 0, 0, 0), (17, .iconst 0, 1, 0, 0, 0), (18, .invokevirtual 228, 3, 152, 6, 6), (21, .aload_n 0, 1, 0, 0, 0), (22, .getfield 18, 3, 0, 0, 0), (25, .invokevirtual 94, 3, 131, 1, 5), (28, .aload_n 0, 1, 0, 0, 0),
  (29, .getfield 34, 3, 0, 2, 0), (32, .aload_n 0, 1, 0, 0, 0), (33, .getfield 18, 3, 0, 0, 0), (36, .getfield 97, 3, 5, 4, 0), (39, .invokevirtual 101, 3, 114, 2, 3), (42, .iload_n 2, 1, 0, 0, 0), (43, .ireturn, 1, 0, 0, 0)])
def mm31 : ma_M := (⟨RC9, "<init>", "(II)V"⟩, prog_11_method_1_code, 4, none, 2, 9, [
  (0, .aload_n 0, 1, 0, 0, 0), (1, .invokespecial 1, 3, 5, 0, 0), (4, .aload_n 0, 1, 0, 0, 0), (5, .bipush 32, 2, 0, 0, 0), (7, .newarray .int, 2, 0, 0, 0), (9, .putfield 7, 3, 9, 1, 0), (12, .aload_n 0, 1, 0, 0, 0), (13, .sipush 400, 3, 0, 0, 0),
  (16, .newarray .int, 2, 0, 0, 0), (18, .putfield 13, 3, 9, 2, 0), (21, .aload_n 0, 1, 0, 0, 0), (22, .sipush 400, 3, 0, 0, 0), (25, .newarray .int, 2, 0, 0, 0), (27, .putfield 16, 3, 9, 3, 0), (30, .aload_n 0, 1, 0, 0, 0), (31, .sipush 400, 3, 0, 0, 0),
  (34, .newarray .int, 2, 0, 0, 0), (36, .putfield 19, 3, 9, 4, 0), (39, .aload_n 0, 1, 0, 0, 0), (40, .sipush 400, 3, 0, 0, 0), (43, .newarray .int, 2, 0, 0, 0), (45, .putfield 22, 3, 9, 5, 0), (48, .aload_n 0, 1, 0, 0, 0), (49, .sipush 400, 3, 0, 0, 0),
  (52, .newarray .int, 2, 0, 0, 0), (54, .putfield 25, 3, 9, 6, 0), (57, .aload_n 0, 1, 0, 0, 0), (58, .sipush 400, 3, 0, 0, 0), (61, .newarray .int, 2, 0, 0, 0), (63, .putfield 28, 3, 9, 7, 0), (66, .aload_n 0, 1, 0, 0, 0), (67, .sipush 400, 3, 0, 0, 0),
  (70, .newarray .int, 2, 0, 0, 0), (72, .putfield 31, 3, 9, 8, 0), (75, .aload_n 0, 1, 0, 0, 0), (76, .sipush 400, 3, 0, 0, 0), (79, .newarray .int, 2, 0, 0, 0), (81, .putfield 34, 3, 9, 9, 0), (84, .aload_n 0, 1, 0, 0, 0), (85, .sipush 400, 3, 0, 0, 0),
  (88, .newarray .int, 2, 0, 0, 0), (90, .putfield 37, 3, 9, 10, 0), (93, .aload_n 0, 1, 0, 0, 0), (94, .sipush 1024, 3, 0, 0, 0), (97, .newarray .int, 2, 0, 0, 0), (99, .putfield 40, 3, 9, 12, 0), (102, .aload_n 0, 1, 0, 0, 0), (103, .sipush 1001, 3, 0, 0, 0),
  (106, .newarray .int, 2, 0, 0, 0), (108, .putfield 43, 3, 9, 13, 0), (111, .aload_n 0, 1, 0, 0, 0), (112, .sipush 1001, 3, 0, 0, 0), (115, .newarray .int, 2, 0, 0, 0), (117, .putfield 46, 3, 9, 14, 0), (120, .aload_n 0, 1, 0, 0, 0), (121, .sipush 2000, 3, 0, 0, 0),
  (124, .newarray .int, 2, 0, 0, 0), (126, .putfield 49, 3, 9, 18, 0), (129, .aload_n 0, 1, 0, 0, 0), (130, .sipush 2000, 3, 0, 0, 0), (133, .newarray .int, 2, 0, 0, 0), (135, .putfield 52, 3, 9, 19, 0), (138, .aload_n 0, 1, 0, 0, 0), (139, .bipush 64, 2, 0, 0, 0),
  (141, .newarray .int, 2, 0, 0, 0), (143, .putfield 55, 3, 9, 20, 0), (146, .aload_n 0, 1, 0, 0, 0), (147, .bipush 64, 2, 0, 0, 0), (149, .newarray .int, 2, 0, 0, 0), (151, .putfield 58, 3, 9, 21, 0), (154, .aload_n 0, 1, 0, 0, 0), (155, .iload_n 2, 1, 0, 0, 0),
  (156, .invokestatic 61, 3, 42, 1, 0), (159, .putfield 65, 3, 9, 0, 0), (162, .aload_n 0, 1, 0, 0, 0), (163, .getfield 7, 3, 9, 1, 0), (166, .iconst 1, 1, 0, 0, 0), (167, .iload_n 1, 1, 0, 0, 0), (168, .invokestatic 61, 3, 42, 1, 0), (171, .iastore, 1, 0, 0, 0),
  (172, .aload_n 0, 1, 0, 0, 0), (173, .getfield 7, 3, 9, 1, 0), (176, .iconst 2, 1, 0, 0, 0), (177, .aload_n 0, 1, 0, 0, 0), (178, .getfield 7, 3, 9, 1, 0), (181, .iconst 1, 1, 0, 0, 0), (182, .iaload, 1, 0, 0, 0), (183, .iastore, 1, 0, 0, 0),
  (184, .iconst 4, 1, 0, 0, 0), (185, .istore_n 3, 1, 0, 0, 0), (186, .iload_n 3, 1, 0, 0, 0), (187, .bipush 8, 2, 0, 0, 0), (189, .if_icmp .ge 16, 3, 0, 0, 0), (192, .aload_n 0, 1, 0, 0, 0), (193, .getfield 7, 3, 9, 1, 0), (196, .iload_n 3, 1, 0, 0, 0),
  (197, .iconst 1, 1, 0, 0, 0), (198, .iastore, 1, 0, 0, 0), (199, .iinc 3 1, 3, 0, 0, 0), (202, .goto (-16), 3, 0, 0, 0), (205, .aload_n 0, 1, 0, 0, 0), (206, .iconst 0, 1, 0, 0, 0), (207, .iconst 1, 1, 0, 0, 0), (208, .invokevirtual 69, 3, 45, 3, 9),
  (211, .return_, 1, 0, 0, 0)])
def mm32 : ma_M := (⟨RC9, "clamp", "(I)I"⟩, prog_11_method_2_code, 1, some .int, 1, 99, [
  (0, .iload_n 0, 1, 0, 0, 0), (1, .iconst 1, 1, 0, 0, 0), (2, .if_icmp .ge 7, 3, 0, 0, 0), (5, .iconst 1, 1, 0, 0, 0), (6, .goto 17, 3, 0, 0, 0), (9, .iload_n 0, 1, 0, 0, 0), (10, .sipush 999, 3, 0, 0, 0), (13, .if_icmp .le 9, 3, 0, 0, 0),
  (16, .sipush 999, 3, 0, 0, 0), (19, .goto 4, 3, 0, 0, 0), (22, .iload_n 0, 1, 0, 0, 0), (23, .ireturn, 1, 0, 0, 0)])
def mm33 : ma_M := (⟨RC9, "least", "(II)I"⟩, prog_11_method_3_code, 2, some .int, 2, 99, [
  (0, .iload_n 0, 1, 0, 0, 0), (1, .iload_n 1, 1, 0, 0, 0), (2, .if_icmp .ge 7, 3, 0, 0, 0), (5, .iload_n 0, 1, 0, 0, 0), (6, .goto 4, 3, 0, 0, 0), (9, .iload_n 1, 1, 0, 0, 0), (10, .ireturn, 1, 0, 0, 0)])
def mm34 : ma_M := (⟨RC9, "in", "(III)Z"⟩, prog_11_method_4_code, 3, some .boolean, 3, 99, [
  (0, .iload_n 0, 1, 0, 0, 0), (1, .iload_n 1, 1, 0, 0, 0), (2, .if_icmp .lt 12, 3, 0, 0, 0), (5, .iload_n 0, 1, 0, 0, 0), (6, .iload_n 2, 1, 0, 0, 0), (7, .if_icmp .gt 7, 3, 0, 0, 0), (10, .iconst 1, 1, 0, 0, 0), (11, .goto 4, 3, 0, 0, 0),
  (14, .iconst 0, 1, 0, 0, 0), (15, .ireturn, 1, 0, 0, 0)])
def mm35 : ma_M := (⟨RC9, "copy", "(II)V"⟩, prog_11_method_5_code, 6, none, 2, 9, [
  (0, .iconst 0, 1, 0, 0, 0), (1, .istore_n 3, 1, 0, 0, 0), (2, .iload_n 3, 1, 0, 0, 0), (3, .bipush 16, 2, 0, 0, 0), (5, .if_icmp .ge 31, 3, 0, 0, 0), (8, .aload_n 0, 1, 0, 0, 0), (9, .getfield 7, 3, 9, 1, 0), (12, .bipush 16, 2, 0, 0, 0),
  (14, .iload_n 2, 1, 0, 0, 0), (15, .imul, 1, 0, 0, 0), (16, .iload_n 3, 1, 0, 0, 0), (17, .iadd, 1, 0, 0, 0), (18, .aload_n 0, 1, 0, 0, 0), (19, .getfield 7, 3, 9, 1, 0), (22, .bipush 16, 2, 0, 0, 0), (24, .iload_n 1, 1, 0, 0, 0),
  (25, .imul, 1, 0, 0, 0), (26, .iload_n 3, 1, 0, 0, 0), (27, .iadd, 1, 0, 0, 0), (28, .iaload, 1, 0, 0, 0), (29, .iastore, 1, 0, 0, 0), (30, .iinc 3 1, 3, 0, 0, 0), (33, .goto (-31), 3, 0, 0, 0), (36, .iconst 0, 1, 0, 0, 0),
  (37, .istore_n 3, 1, 0, 0, 0), (38, .iload_n 3, 1, 0, 0, 0), (39, .sipush 200, 3, 0, 0, 0), (42, .if_icmp .ge 153, 3, 0, 0, 0), (45, .sipush 200, 3, 0, 0, 0), (48, .iload_n 1, 1, 0, 0, 0), (49, .imul, 1, 0, 0, 0), (50, .iload_n 3, 1, 0, 0, 0),
  (51, .iadd, 1, 0, 0, 0), (52, .istore 4, 2, 0, 0, 0), (54, .sipush 200, 3, 0, 0, 0), (57, .iload_n 2, 1, 0, 0, 0), (58, .imul, 1, 0, 0, 0), (59, .iload_n 3, 1, 0, 0, 0), (60, .iadd, 1, 0, 0, 0), (61, .istore 5, 2, 0, 0, 0),
  (63, .aload_n 0, 1, 0, 0, 0), (64, .getfield 13, 3, 9, 2, 0), (67, .iload 5, 2, 0, 0, 0), (69, .aload_n 0, 1, 0, 0, 0), (70, .getfield 13, 3, 9, 2, 0), (73, .iload 4, 2, 0, 0, 0), (75, .iaload, 1, 0, 0, 0), (76, .iastore, 1, 0, 0, 0),
  (77, .aload_n 0, 1, 0, 0, 0), (78, .getfield 16, 3, 9, 3, 0), (81, .iload 5, 2, 0, 0, 0), (83, .aload_n 0, 1, 0, 0, 0), (84, .getfield 16, 3, 9, 3, 0), (87, .iload 4, 2, 0, 0, 0), (89, .iaload, 1, 0, 0, 0), (90, .iastore, 1, 0, 0, 0),
  (91, .aload_n 0, 1, 0, 0, 0), (92, .getfield 19, 3, 9, 4, 0), (95, .iload 5, 2, 0, 0, 0), (97, .aload_n 0, 1, 0, 0, 0), (98, .getfield 19, 3, 9, 4, 0), (101, .iload 4, 2, 0, 0, 0), (103, .iaload, 1, 0, 0, 0), (104, .iastore, 1, 0, 0, 0),
  (105, .aload_n 0, 1, 0, 0, 0), (106, .getfield 22, 3, 9, 5, 0), (109, .iload 5, 2, 0, 0, 0), (111, .aload_n 0, 1, 0, 0, 0), (112, .getfield 22, 3, 9, 5, 0), (115, .iload 4, 2, 0, 0, 0), (117, .iaload, 1, 0, 0, 0), (118, .iastore, 1, 0, 0, 0),
  (119, .aload_n 0, 1, 0, 0, 0), (120, .getfield 25, 3, 9, 6, 0), (123, .iload 5, 2, 0, 0, 0), (125, .aload_n 0, 1, 0, 0, 0), (126, .getfield 25, 3, 9, 6, 0), (129, .iload 4, 2, 0, 0, 0), (131, .iaload, 1, 0, 0, 0), (132, .iastore, 1, 0, 0, 0),
  (133, .aload_n 0, 1, 0, 0, 0), (134, .getfield 28, 3, 9, 7, 0), (137, .iload 5, 2, 0, 0, 0), (139, .aload_n 0, 1, 0, 0, 0), (140, .getfield 28, 3, 9, 7, 0), (143, .iload 4, 2, 0, 0, 0), (145, .iaload, 1, 0, 0, 0), (146, .iastore, 1, 0, 0, 0),
  (147, .aload_n 0, 1, 0, 0, 0), (148, .getfield 31, 3, 9, 8, 0), (151, .iload 5, 2, 0, 0, 0), (153, .aload_n 0, 1, 0, 0, 0), (154, .getfield 31, 3, 9, 8, 0), (157, .iload 4, 2, 0, 0, 0), (159, .iaload, 1, 0, 0, 0), (160, .iastore, 1, 0, 0, 0),
  (161, .aload_n 0, 1, 0, 0, 0), (162, .getfield 34, 3, 9, 9, 0), (165, .iload 5, 2, 0, 0, 0), (167, .aload_n 0, 1, 0, 0, 0), (168, .getfield 34, 3, 9, 9, 0), (171, .iload 4, 2, 0, 0, 0), (173, .iaload, 1, 0, 0, 0), (174, .iastore, 1, 0, 0, 0),
  (175, .aload_n 0, 1, 0, 0, 0), (176, .getfield 37, 3, 9, 10, 0), (179, .iload 5, 2, 0, 0, 0), (181, .aload_n 0, 1, 0, 0, 0), (182, .getfield 37, 3, 9, 10, 0), (185, .iload 4, 2, 0, 0, 0), (187, .iaload, 1, 0, 0, 0), (188, .iastore, 1, 0, 0, 0),
  (189, .iinc 3 1, 3, 0, 0, 0), (192, .goto (-154), 3, 0, 0, 0), (195, .iconst 0, 1, 0, 0, 0), (196, .istore_n 3, 1, 0, 0, 0), (197, .iload_n 3, 1, 0, 0, 0), (198, .sipush 512, 3, 0, 0, 0), (201, .if_icmp .ge 33, 3, 0, 0, 0), (204, .aload_n 0, 1, 0, 0, 0),
  (205, .getfield 40, 3, 9, 12, 0), (208, .sipush 512, 3, 0, 0, 0), (211, .iload_n 2, 1, 0, 0, 0), (212, .imul, 1, 0, 0, 0), (213, .iload_n 3, 1, 0, 0, 0), (214, .iadd, 1, 0, 0, 0), (215, .aload_n 0, 1, 0, 0, 0), (216, .getfield 40, 3, 9, 12, 0),
  (219, .sipush 512, 3, 0, 0, 0), (222, .iload_n 1, 1, 0, 0, 0), (223, .imul, 1, 0, 0, 0), (224, .iload_n 3, 1, 0, 0, 0), (225, .iadd, 1, 0, 0, 0), (226, .iaload, 1, 0, 0, 0), (227, .iastore, 1, 0, 0, 0), (228, .iinc 3 1, 3, 0, 0, 0),
  (231, .goto (-34), 3, 0, 0, 0), (234, .return_, 1, 0, 0, 0)])
def mm36 : ma_M := (⟨RC9, "isCall", "()Z"⟩, prog_11_method_6_code, 1, some .boolean, 0, 9, [
  (0, .aload_n 0, 1, 0, 0, 0), (1, .getfield 7, 3, 9, 1, 0), (4, .iconst 0, 1, 0, 0, 0), (5, .iaload, 1, 0, 0, 0), (6, .iconst 1, 1, 0, 0, 0), (7, .if_icmp .eq 23, 3, 0, 0, 0), (10, .aload_n 0, 1, 0, 0, 0), (11, .getfield 7, 3, 9, 1, 0),
  (14, .iconst 0, 1, 0, 0, 0), (15, .iaload, 1, 0, 0, 0), (16, .iconst 3, 1, 0, 0, 0), (17, .if_icmp .eq 13, 3, 0, 0, 0), (20, .aload_n 0, 1, 0, 0, 0), (21, .getfield 7, 3, 9, 1, 0), (24, .iconst 0, 1, 0, 0, 0), (25, .iaload, 1, 0, 0, 0),
  (26, .iconst 4, 1, 0, 0, 0), (27, .if_icmp .ne 7, 3, 0, 0, 0), (30, .iconst 1, 1, 0, 0, 0), (31, .goto 4, 3, 0, 0, 0), (34, .iconst 0, 1, 0, 0, 0), (35, .ireturn, 1, 0, 0, 0)])
def mm37 : ma_M := (⟨RC9, "openOrders", "()I"⟩, prog_11_method_7_code, 3, some .int, 0, 9, [
  (0, .iconst 0, 1, 0, 0, 0), (1, .istore_n 1, 1, 0, 0, 0), (2, .iconst 0, 1, 0, 0, 0), (3, .istore_n 2, 1, 0, 0, 0), (4, .iload_n 2, 1, 0, 0, 0), (5, .aload_n 0, 1, 0, 0, 0), (6, .getfield 7, 3, 9, 1, 0), (9, .iconst 3, 1, 0, 0, 0),
  (10, .iaload, 1, 0, 0, 0), (11, .if_icmp .ge 26, 3, 0, 0, 0), (14, .iload_n 1, 1, 0, 0, 0), (15, .aload_n 0, 1, 0, 0, 0), (16, .getfield 25, 3, 9, 6, 0), (19, .iload_n 2, 1, 0, 0, 0), (20, .iaload, 1, 0, 0, 0), (21, .ifCond .eq 7, 3, 0, 0, 0),
  (24, .iconst 1, 1, 0, 0, 0), (25, .goto 4, 3, 0, 0, 0), (28, .iconst 0, 1, 0, 0, 0), (29, .iadd, 1, 0, 0, 0), (30, .istore_n 1, 1, 0, 0, 0), (31, .iinc 2 1, 3, 0, 0, 0), (34, .goto (-30), 3, 0, 0, 0), (37, .iload_n 1, 1, 0, 0, 0),
  (38, .ireturn, 1, 0, 0, 0)])
def mm38 : ma_M := (⟨RC9, "tell", "(IIIII)V"⟩, prog_11_method_8_code, 7, none, 5, 9, [
  (0, .sipush 128, 3, 0, 0, 0), (3, .iload_n 1, 1, 0, 0, 0), (4, .imul, 1, 0, 0, 0), (5, .iconst 4, 1, 0, 0, 0), (6, .aload_n 0, 1, 0, 0, 0), (7, .getfield 7, 3, 9, 1, 0), (10, .bipush 12, 2, 0, 0, 0), (12, .iload_n 1, 1, 0, 0, 0),
  (13, .iadd, 1, 0, 0, 0), (14, .iaload, 1, 0, 0, 0), (15, .bipush 32, 2, 0, 0, 0), (17, .irem, 1, 0, 0, 0), (18, .imul, 1, 0, 0, 0), (19, .iadd, 1, 0, 0, 0), (20, .istore 6, 2, 0, 0, 0), (22, .aload_n 0, 1, 0, 0, 0),
  (23, .getfield 40, 3, 9, 12, 0), (26, .iload 6, 2, 0, 0, 0), (28, .iload_n 2, 1, 0, 0, 0), (29, .iastore, 1, 0, 0, 0), (30, .aload_n 0, 1, 0, 0, 0), (31, .getfield 40, 3, 9, 12, 0), (34, .iload 6, 2, 0, 0, 0), (36, .iconst 1, 1, 0, 0, 0),
  (37, .iadd, 1, 0, 0, 0), (38, .iload_n 3, 1, 0, 0, 0), (39, .iastore, 1, 0, 0, 0), (40, .aload_n 0, 1, 0, 0, 0), (41, .getfield 40, 3, 9, 12, 0), (44, .iload 6, 2, 0, 0, 0), (46, .iconst 2, 1, 0, 0, 0), (47, .iadd, 1, 0, 0, 0),
  (48, .iload 4, 2, 0, 0, 0), (50, .iastore, 1, 0, 0, 0), (51, .aload_n 0, 1, 0, 0, 0), (52, .getfield 40, 3, 9, 12, 0), (55, .iload 6, 2, 0, 0, 0), (57, .iconst 3, 1, 0, 0, 0), (58, .iadd, 1, 0, 0, 0), (59, .iload 5, 2, 0, 0, 0),
  (61, .iastore, 1, 0, 0, 0), (62, .aload_n 0, 1, 0, 0, 0), (63, .getfield 7, 3, 9, 1, 0), (66, .bipush 12, 2, 0, 0, 0), (68, .iload_n 1, 1, 0, 0, 0), (69, .iadd, 1, 0, 0, 0), (70, .dup2, 1, 0, 0, 0), (71, .iaload, 1, 0, 0, 0),
  (72, .iconst 1, 1, 0, 0, 0), (73, .iadd, 1, 0, 0, 0), (74, .iastore, 1, 0, 0, 0), (75, .return_, 1, 0, 0, 0)])
def mm39 : ma_M := (⟨RC9, "told", "(I)I"⟩, prog_11_method_9_code, 2, some .int, 1, 9, [
  (0, .aload_n 0, 1, 0, 0, 0), (1, .getfield 19, 3, 9, 4, 0), (4, .iload_n 1, 1, 0, 0, 0), (5, .iaload, 1, 0, 0, 0), (6, .iconst 1, 1, 0, 0, 0), (7, .if_icmp .eq 13, 3, 0, 0, 0), (10, .aload_n 0, 1, 0, 0, 0), (11, .getfield 19, 3, 9, 4, 0),
  (14, .iload_n 1, 1, 0, 0, 0), (15, .iaload, 1, 0, 0, 0), (16, .iconst 4, 1, 0, 0, 0), (17, .if_icmp .ne 7, 3, 0, 0, 0), (20, .iconst 0, 1, 0, 0, 0), (21, .goto 9, 3, 0, 0, 0), (24, .aload_n 0, 1, 0, 0, 0), (25, .getfield 28, 3, 9, 7, 0),
  (28, .iload_n 1, 1, 0, 0, 0), (29, .iaload, 1, 0, 0, 0), (30, .ireturn, 1, 0, 0, 0)])
def mm40 : ma_M := (⟨RC9, "leave", "(I)V"⟩, prog_11_method_10_code, 2, none, 1, 9, [
  (0, .aload_n 0, 1, 0, 0, 0), (1, .getfield 25, 3, 9, 6, 0), (4, .iload_n 1, 1, 0, 0, 0), (5, .iconst 0, 1, 0, 0, 0), (6, .iastore, 1, 0, 0, 0), (7, .aload_n 0, 1, 0, 0, 0), (8, .getfield 34, 3, 9, 9, 0), (11, .iload_n 1, 1, 0, 0, 0),
  (12, .iconst 0, 1, 0, 0, 0), (13, .iastore, 1, 0, 0, 0), (14, .aload_n 0, 1, 0, 0, 0), (15, .getfield 22, 3, 9, 5, 0), (18, .iload_n 1, 1, 0, 0, 0), (19, .iconst 0, 1, 0, 0, 0), (20, .iastore, 1, 0, 0, 0), (21, .return_, 1, 0, 0, 0)])
def mm41 : ma_M := (⟨RC9, "drop", "(I)V"⟩, prog_11_method_11_code, 2, none, 1, 9, [
  (0, .aload_n 0, 1, 0, 0, 0), (1, .aload_n 0, 1, 0, 0, 0), (2, .getfield 13, 3, 9, 2, 0), (5, .iload_n 1, 1, 0, 0, 0), (6, .iaload, 1, 0, 0, 0), (7, .iconst 3, 1, 0, 0, 0), (8, .iload_n 1, 1, 0, 0, 0), (9, .aload_n 0, 1, 0, 0, 0),
  (10, .getfield 22, 3, 9, 5, 0), (13, .iload_n 1, 1, 0, 0, 0), (14, .iaload, 1, 0, 0, 0), (15, .aload_n 0, 1, 0, 0, 0), (16, .iload_n 1, 1, 0, 0, 0), (17, .invokevirtual 73, 3, 49, 2, 9), (20, .invokevirtual 76, 3, 48, 6, 9), (23, .aload_n 0, 1, 0, 0, 0),
  (24, .iload_n 1, 1, 0, 0, 0), (25, .invokevirtual 80, 3, 50, 2, 9), (28, .return_, 1, 0, 0, 0)])
def mm42 : ma_M := (⟨RC9, "wild", "(I)Z"⟩, prog_11_method_12_code, 3, some .boolean, 1, 9, [
  (0, .iload_n 1, 1, 0, 0, 0), (1, .aload_n 0, 1, 0, 0, 0), (2, .getfield 7, 3, 9, 1, 0), (5, .iconst 2, 1, 0, 0, 0), (6, .iaload, 1, 0, 0, 0), (7, .isub, 1, 0, 0, 0), (8, .istore_n 2, 1, 0, 0, 0), (9, .iload_n 2, 1, 0, 0, 0),
  (10, .aload_n 0, 1, 0, 0, 0), (11, .getfield 65, 3, 9, 0, 0), (14, .if_icmp .gt 12, 3, 0, 0, 0), (17, .iload_n 2, 1, 0, 0, 0), (18, .ineg, 1, 0, 0, 0), (19, .aload_n 0, 1, 0, 0, 0), (20, .getfield 65, 3, 9, 0, 0), (23, .if_icmp .le 7, 3, 0, 0, 0),
  (26, .iconst 1, 1, 0, 0, 0), (27, .goto 4, 3, 0, 0, 0), (30, .iconst 0, 1, 0, 0, 0), (31, .ireturn, 1, 0, 0, 0)])
def mm43 : ma_M := (⟨RC9, "ahead", "(II)Z"⟩, prog_11_method_13_code, 3, some .boolean, 2, 9, [
  (0, .aload_n 0, 1, 0, 0, 0), (1, .getfield 28, 3, 9, 7, 0), (4, .iload_n 1, 1, 0, 0, 0), (5, .iaload, 1, 0, 0, 0), (6, .aload_n 0, 1, 0, 0, 0), (7, .getfield 28, 3, 9, 7, 0), (10, .iload_n 2, 1, 0, 0, 0), (11, .iaload, 1, 0, 0, 0),
  (12, .if_icmp .eq 56, 3, 0, 0, 0), (15, .aload_n 0, 1, 0, 0, 0), (16, .getfield 16, 3, 9, 3, 0), (19, .iload_n 1, 1, 0, 0, 0), (20, .iaload, 1, 0, 0, 0), (21, .ifCond .ne 26, 3, 0, 0, 0), (24, .aload_n 0, 1, 0, 0, 0), (25, .getfield 28, 3, 9, 7, 0),
  (28, .iload_n 1, 1, 0, 0, 0), (29, .iaload, 1, 0, 0, 0), (30, .aload_n 0, 1, 0, 0, 0), (31, .getfield 28, 3, 9, 7, 0), (34, .iload_n 2, 1, 0, 0, 0), (35, .iaload, 1, 0, 0, 0), (36, .if_icmp .le 7, 3, 0, 0, 0), (39, .iconst 1, 1, 0, 0, 0),
  (40, .goto 27, 3, 0, 0, 0), (43, .iconst 0, 1, 0, 0, 0), (44, .goto 23, 3, 0, 0, 0), (47, .aload_n 0, 1, 0, 0, 0), (48, .getfield 28, 3, 9, 7, 0), (51, .iload_n 1, 1, 0, 0, 0), (52, .iaload, 1, 0, 0, 0), (53, .aload_n 0, 1, 0, 0, 0),
  (54, .getfield 28, 3, 9, 7, 0), (57, .iload_n 2, 1, 0, 0, 0), (58, .iaload, 1, 0, 0, 0), (59, .if_icmp .ge 7, 3, 0, 0, 0), (62, .iconst 1, 1, 0, 0, 0), (63, .goto 4, 3, 0, 0, 0), (66, .iconst 0, 1, 0, 0, 0), (67, .ireturn, 1, 0, 0, 0),
  (68, .aload_n 0, 1, 0, 0, 0), (69, .getfield 37, 3, 9, 10, 0), (72, .iload_n 1, 1, 0, 0, 0), (73, .iaload, 1, 0, 0, 0), (74, .aload_n 0, 1, 0, 0, 0), (75, .getfield 37, 3, 9, 10, 0), (78, .iload_n 2, 1, 0, 0, 0), (79, .iaload, 1, 0, 0, 0),
  (80, .if_icmp .ge 7, 3, 0, 0, 0), (83, .iconst 1, 1, 0, 0, 0), (84, .goto 4, 3, 0, 0, 0), (87, .iconst 0, 1, 0, 0, 0), (88, .ireturn, 1, 0, 0, 0)])
def mm44 : ma_M := (⟨RC9, "bestBehind", "(II)I"⟩, prog_11_method_14_code, 6, some .int, 2, 9, [
  (0, .iconst (-1), 1, 0, 0, 0), (1, .istore_n 3, 1, 0, 0, 0), (2, .iconst 0, 1, 0, 0, 0), (3, .istore 4, 2, 0, 0, 0), (5, .iload 4, 2, 0, 0, 0), (7, .aload_n 0, 1, 0, 0, 0), (8, .getfield 7, 3, 9, 1, 0), (11, .iconst 3, 1, 0, 0, 0),
  (12, .iaload, 1, 0, 0, 0), (13, .if_icmp .ge 84, 3, 0, 0, 0), (16, .aload_n 0, 1, 0, 0, 0), (17, .getfield 25, 3, 9, 6, 0), (20, .iload 4, 2, 0, 0, 0), (22, .iaload, 1, 0, 0, 0), (23, .iconst 1, 1, 0, 0, 0), (24, .if_icmp .ne 38, 3, 0, 0, 0),
  (27, .aload_n 0, 1, 0, 0, 0), (28, .getfield 16, 3, 9, 3, 0), (31, .iload 4, 2, 0, 0, 0), (33, .iaload, 1, 0, 0, 0), (34, .iload_n 1, 1, 0, 0, 0), (35, .if_icmp .ne 27, 3, 0, 0, 0), (38, .iload_n 2, 1, 0, 0, 0), (39, .ifCond .lt 19, 3, 0, 0, 0),
  (42, .iload 4, 2, 0, 0, 0), (44, .iload_n 2, 1, 0, 0, 0), (45, .if_icmp .eq 17, 3, 0, 0, 0), (48, .aload_n 0, 1, 0, 0, 0), (49, .iload_n 2, 1, 0, 0, 0), (50, .iload 4, 2, 0, 0, 0), (52, .invokevirtual 84, 3, 53, 3, 9), (55, .ifCond .eq 7, 3, 0, 0, 0),
  (58, .iconst 1, 1, 0, 0, 0), (59, .goto 4, 3, 0, 0, 0), (62, .iconst 0, 1, 0, 0, 0), (63, .istore 5, 2, 0, 0, 0), (65, .iload 5, 2, 0, 0, 0), (67, .ifCond .eq 22, 3, 0, 0, 0), (70, .iload_n 3, 1, 0, 0, 0), (71, .ifCond .lt 13, 3, 0, 0, 0),
  (74, .aload_n 0, 1, 0, 0, 0), (75, .iload 4, 2, 0, 0, 0), (77, .iload_n 3, 1, 0, 0, 0), (78, .invokevirtual 84, 3, 53, 3, 9), (81, .ifCond .eq 8, 3, 0, 0, 0), (84, .iload 4, 2, 0, 0, 0), (86, .goto 4, 3, 0, 0, 0), (89, .iload_n 3, 1, 0, 0, 0),
  (90, .istore_n 3, 1, 0, 0, 0), (91, .iinc 4 1, 3, 0, 0, 0), (94, .goto (-89), 3, 0, 0, 0), (97, .iload_n 3, 1, 0, 0, 0), (98, .ireturn, 1, 0, 0, 0)])
def mm45 : ma_M := (⟨RC9, "meets", "(II)Z"⟩, prog_11_method_15_code, 3, some .boolean, 2, 9, [
  (0, .aload_n 0, 1, 0, 0, 0), (1, .iload_n 2, 1, 0, 0, 0), (2, .invokevirtual 73, 3, 49, 2, 9), (5, .ifCond .eq 45, 3, 0, 0, 0), (8, .aload_n 0, 1, 0, 0, 0), (9, .getfield 16, 3, 9, 3, 0), (12, .iload_n 2, 1, 0, 0, 0), (13, .iaload, 1, 0, 0, 0),
  (14, .ifCond .ne 21, 3, 0, 0, 0), (17, .aload_n 0, 1, 0, 0, 0), (18, .getfield 28, 3, 9, 7, 0), (21, .iload_n 1, 1, 0, 0, 0), (22, .iaload, 1, 0, 0, 0), (23, .aload_n 0, 1, 0, 0, 0), (24, .getfield 28, 3, 9, 7, 0), (27, .iload_n 2, 1, 0, 0, 0),
  (28, .iaload, 1, 0, 0, 0), (29, .if_icmp .gt 25, 3, 0, 0, 0), (32, .goto 18, 3, 0, 0, 0), (35, .aload_n 0, 1, 0, 0, 0), (36, .getfield 28, 3, 9, 7, 0), (39, .iload_n 1, 1, 0, 0, 0), (40, .iaload, 1, 0, 0, 0), (41, .aload_n 0, 1, 0, 0, 0),
  (42, .getfield 28, 3, 9, 7, 0), (45, .iload_n 2, 1, 0, 0, 0), (46, .iaload, 1, 0, 0, 0), (47, .if_icmp .lt 7, 3, 0, 0, 0), (50, .iconst 1, 1, 0, 0, 0), (51, .goto 4, 3, 0, 0, 0), (54, .iconst 0, 1, 0, 0, 0), (55, .ireturn, 1, 0, 0, 0)])
def mm46 : ma_M := (⟨RC9, "rest", "(I)V"⟩, prog_11_method_16_code, 2, none, 1, 9, [
  (0, .aload_n 0, 1, 0, 0, 0), (1, .getfield 25, 3, 9, 6, 0), (4, .iload_n 1, 1, 0, 0, 0), (5, .iconst 1, 1, 0, 0, 0), (6, .iastore, 1, 0, 0, 0), (7, .aload_n 0, 1, 0, 0, 0), (8, .getfield 34, 3, 9, 9, 0), (11, .iload_n 1, 1, 0, 0, 0),
  (12, .aload_n 0, 1, 0, 0, 0), (13, .getfield 31, 3, 9, 8, 0), (16, .iload_n 1, 1, 0, 0, 0), (17, .iaload, 1, 0, 0, 0), (18, .aload_n 0, 1, 0, 0, 0), (19, .getfield 22, 3, 9, 5, 0), (22, .iload_n 1, 1, 0, 0, 0), (23, .iaload, 1, 0, 0, 0),
  (24, .invokestatic 88, 3, 43, 2, 0), (27, .iastore, 1, 0, 0, 0), (28, .aload_n 0, 1, 0, 0, 0), (29, .dup, 1, 0, 0, 0), (30, .getfield 92, 3, 9, 11, 0), (33, .iconst 1, 1, 0, 0, 0), (34, .iadd, 1, 0, 0, 0), (35, .putfield 92, 3, 9, 11, 0),
  (38, .aload_n 0, 1, 0, 0, 0), (39, .getfield 37, 3, 9, 10, 0), (42, .iload_n 1, 1, 0, 0, 0), (43, .aload_n 0, 1, 0, 0, 0), (44, .getfield 92, 3, 9, 11, 0), (47, .iastore, 1, 0, 0, 0), (48, .return_, 1, 0, 0, 0)])
def mm47 : ma_M := (⟨RC9, "enough", "(I)Z"⟩, prog_11_method_17_code, 4, some .boolean, 1, 9, [
  (0, .iconst 0, 1, 0, 0, 0), (1, .istore_n 2, 1, 0, 0, 0), (2, .aload_n 0, 1, 0, 0, 0), (3, .iconst 1, 1, 0, 0, 0), (4, .aload_n 0, 1, 0, 0, 0), (5, .getfield 16, 3, 9, 3, 0), (8, .iload_n 1, 1, 0, 0, 0), (9, .iaload, 1, 0, 0, 0),
  (10, .isub, 1, 0, 0, 0), (11, .iconst (-1), 1, 0, 0, 0), (12, .invokevirtual 95, 3, 54, 3, 9), (15, .istore_n 3, 1, 0, 0, 0), (16, .iload_n 3, 1, 0, 0, 0), (17, .ifCond .lt 70, 3, 0, 0, 0), (20, .aload_n 0, 1, 0, 0, 0), (21, .iload_n 3, 1, 0, 0, 0),
  (22, .iload_n 1, 1, 0, 0, 0), (23, .invokevirtual 98, 3, 55, 3, 9), (26, .ifCond .eq 61, 3, 0, 0, 0), (29, .aload_n 0, 1, 0, 0, 0), (30, .aload_n 0, 1, 0, 0, 0), (31, .getfield 28, 3, 9, 7, 0), (34, .iload_n 3, 1, 0, 0, 0), (35, .iaload, 1, 0, 0, 0),
  (36, .invokevirtual 101, 3, 52, 2, 9), (39, .ifCond .ne 48, 3, 0, 0, 0), (42, .iload_n 2, 1, 0, 0, 0), (43, .aload_n 0, 1, 0, 0, 0), (44, .getfield 13, 3, 9, 2, 0), (47, .iload_n 3, 1, 0, 0, 0), (48, .iaload, 1, 0, 0, 0), (49, .aload_n 0, 1, 0, 0, 0),
  (50, .getfield 13, 3, 9, 2, 0), (53, .iload_n 1, 1, 0, 0, 0), (54, .iaload, 1, 0, 0, 0), (55, .if_icmp .ne 7, 3, 0, 0, 0), (58, .iconst 0, 1, 0, 0, 0), (59, .goto 9, 3, 0, 0, 0), (62, .aload_n 0, 1, 0, 0, 0), (63, .getfield 22, 3, 9, 5, 0),
  (66, .iload_n 3, 1, 0, 0, 0), (67, .iaload, 1, 0, 0, 0), (68, .iadd, 1, 0, 0, 0), (69, .istore_n 2, 1, 0, 0, 0), (70, .aload_n 0, 1, 0, 0, 0), (71, .iconst 1, 1, 0, 0, 0), (72, .aload_n 0, 1, 0, 0, 0), (73, .getfield 16, 3, 9, 3, 0),
  (76, .iload_n 1, 1, 0, 0, 0), (77, .iaload, 1, 0, 0, 0), (78, .isub, 1, 0, 0, 0), (79, .iload_n 3, 1, 0, 0, 0), (80, .invokevirtual 95, 3, 54, 3, 9), (83, .istore_n 3, 1, 0, 0, 0), (84, .goto (-68), 3, 0, 0, 0), (87, .iload_n 2, 1, 0, 0, 0),
  (88, .aload_n 0, 1, 0, 0, 0), (89, .getfield 22, 3, 9, 5, 0), (92, .iload_n 1, 1, 0, 0, 0), (93, .iaload, 1, 0, 0, 0), (94, .if_icmp .lt 7, 3, 0, 0, 0), (97, .iconst 1, 1, 0, 0, 0), (98, .goto 4, 3, 0, 0, 0), (101, .iconst 0, 1, 0, 0, 0),
  (102, .ireturn, 1, 0, 0, 0)])
def mm48 : ma_M := (⟨RC9, "trade", "(II)V"⟩, prog_11_method_18_code, 5, none, 2, 9, [
  (0, .aload_n 0, 1, 0, 0, 0), (1, .getfield 22, 3, 9, 5, 0), (4, .iload_n 2, 1, 0, 0, 0), (5, .iaload, 1, 0, 0, 0), (6, .aload_n 0, 1, 0, 0, 0), (7, .getfield 34, 3, 9, 9, 0), (10, .iload_n 1, 1, 0, 0, 0), (11, .iaload, 1, 0, 0, 0),
  (12, .invokestatic 88, 3, 43, 2, 0), (15, .istore_n 3, 1, 0, 0, 0), (16, .aload_n 0, 1, 0, 0, 0), (17, .getfield 28, 3, 9, 7, 0), (20, .iload_n 1, 1, 0, 0, 0), (21, .iaload, 1, 0, 0, 0), (22, .istore 4, 2, 0, 0, 0), (24, .aload_n 0, 1, 0, 0, 0),
  (25, .getfield 7, 3, 9, 1, 0), (28, .iconst 1, 1, 0, 0, 0), (29, .iload 4, 2, 0, 0, 0), (31, .iastore, 1, 0, 0, 0), (32, .aload_n 0, 1, 0, 0, 0), (33, .aload_n 0, 1, 0, 0, 0), (34, .getfield 13, 3, 9, 2, 0), (37, .iload_n 1, 1, 0, 0, 0),
  (38, .iaload, 1, 0, 0, 0), (39, .iconst 2, 1, 0, 0, 0), (40, .iload_n 1, 1, 0, 0, 0), (41, .iload_n 3, 1, 0, 0, 0), (42, .iload 4, 2, 0, 0, 0), (44, .invokevirtual 76, 3, 48, 6, 9), (47, .aload_n 0, 1, 0, 0, 0), (48, .aload_n 0, 1, 0, 0, 0),
  (49, .getfield 13, 3, 9, 2, 0), (52, .iload_n 2, 1, 0, 0, 0), (53, .iaload, 1, 0, 0, 0), (54, .iconst 2, 1, 0, 0, 0), (55, .iload_n 2, 1, 0, 0, 0), (56, .iload_n 3, 1, 0, 0, 0), (57, .iload 4, 2, 0, 0, 0), (59, .invokevirtual 76, 3, 48, 6, 9),
  (62, .aload_n 0, 1, 0, 0, 0), (63, .getfield 22, 3, 9, 5, 0), (66, .iload_n 2, 1, 0, 0, 0), (67, .dup2, 1, 0, 0, 0), (68, .iaload, 1, 0, 0, 0), (69, .iload_n 3, 1, 0, 0, 0), (70, .isub, 1, 0, 0, 0), (71, .iastore, 1, 0, 0, 0),
  (72, .aload_n 0, 1, 0, 0, 0), (73, .getfield 22, 3, 9, 5, 0), (76, .iload_n 1, 1, 0, 0, 0), (77, .dup2, 1, 0, 0, 0), (78, .iaload, 1, 0, 0, 0), (79, .iload_n 3, 1, 0, 0, 0), (80, .isub, 1, 0, 0, 0), (81, .iastore, 1, 0, 0, 0),
  (82, .aload_n 0, 1, 0, 0, 0), (83, .getfield 34, 3, 9, 9, 0), (86, .iload_n 1, 1, 0, 0, 0), (87, .dup2, 1, 0, 0, 0), (88, .iaload, 1, 0, 0, 0), (89, .iload_n 3, 1, 0, 0, 0), (90, .isub, 1, 0, 0, 0), (91, .iastore, 1, 0, 0, 0),
  (92, .aload_n 0, 1, 0, 0, 0), (93, .getfield 22, 3, 9, 5, 0), (96, .iload_n 1, 1, 0, 0, 0), (97, .iaload, 1, 0, 0, 0), (98, .ifCond .ne 11, 3, 0, 0, 0), (101, .aload_n 0, 1, 0, 0, 0), (102, .iload_n 1, 1, 0, 0, 0), (103, .invokevirtual 80, 3, 50, 2, 9),
  (106, .goto 17, 3, 0, 0, 0), (109, .aload_n 0, 1, 0, 0, 0), (110, .getfield 34, 3, 9, 9, 0), (113, .iload_n 1, 1, 0, 0, 0), (114, .iaload, 1, 0, 0, 0), (115, .ifCond .ne 8, 3, 0, 0, 0), (118, .aload_n 0, 1, 0, 0, 0), (119, .iload_n 1, 1, 0, 0, 0),
  (120, .invokevirtual 105, 3, 56, 2, 9), (123, .return_, 1, 0, 0, 0)])
def mm49 : ma_M := (⟨RC9, "match", "(I)V"⟩, prog_11_method_19_code, 4, none, 1, 9, [
  (0, .aload_n 0, 1, 0, 0, 0), (1, .getfield 19, 3, 9, 4, 0), (4, .iload_n 1, 1, 0, 0, 0), (5, .iaload, 1, 0, 0, 0), (6, .iconst 3, 1, 0, 0, 0), (7, .if_icmp .ne 11, 3, 0, 0, 0), (10, .aload_n 0, 1, 0, 0, 0), (11, .iload_n 1, 1, 0, 0, 0),
  (12, .invokevirtual 108, 3, 57, 2, 9), (15, .ifCond .eq 7, 3, 0, 0, 0), (18, .iconst 1, 1, 0, 0, 0), (19, .goto 4, 3, 0, 0, 0), (22, .iconst 0, 1, 0, 0, 0), (23, .istore_n 2, 1, 0, 0, 0), (24, .iload_n 2, 1, 0, 0, 0), (25, .ifCond .eq 111, 3, 0, 0, 0),
  (28, .aload_n 0, 1, 0, 0, 0), (29, .getfield 22, 3, 9, 5, 0), (32, .iload_n 1, 1, 0, 0, 0), (33, .iaload, 1, 0, 0, 0), (34, .ifCond .le 102, 3, 0, 0, 0), (37, .aload_n 0, 1, 0, 0, 0), (38, .iconst 1, 1, 0, 0, 0), (39, .aload_n 0, 1, 0, 0, 0),
  (40, .getfield 16, 3, 9, 3, 0), (43, .iload_n 1, 1, 0, 0, 0), (44, .iaload, 1, 0, 0, 0), (45, .isub, 1, 0, 0, 0), (46, .iconst (-1), 1, 0, 0, 0), (47, .invokevirtual 95, 3, 54, 3, 9), (50, .istore_n 3, 1, 0, 0, 0), (51, .iload_n 3, 1, 0, 0, 0),
  (52, .ifCond .lt 16, 3, 0, 0, 0), (55, .aload_n 0, 1, 0, 0, 0), (56, .iload_n 3, 1, 0, 0, 0), (57, .iload_n 1, 1, 0, 0, 0), (58, .invokevirtual 98, 3, 55, 3, 9), (61, .ifCond .eq 7, 3, 0, 0, 0), (64, .iconst 1, 1, 0, 0, 0), (65, .goto 4, 3, 0, 0, 0),
  (68, .iconst 0, 1, 0, 0, 0), (69, .istore_n 2, 1, 0, 0, 0), (70, .iload_n 2, 1, 0, 0, 0), (71, .ifCond .eq 25, 3, 0, 0, 0), (74, .aload_n 0, 1, 0, 0, 0), (75, .aload_n 0, 1, 0, 0, 0), (76, .getfield 28, 3, 9, 7, 0), (79, .iload_n 3, 1, 0, 0, 0),
  (80, .iaload, 1, 0, 0, 0), (81, .invokevirtual 101, 3, 52, 2, 9), (84, .ifCond .eq 12, 3, 0, 0, 0), (87, .aload_n 0, 1, 0, 0, 0), (88, .getfield 7, 3, 9, 1, 0), (91, .iconst 0, 1, 0, 0, 0), (92, .iconst 4, 1, 0, 0, 0), (93, .iastore, 1, 0, 0, 0),
  (94, .iconst 0, 1, 0, 0, 0), (95, .istore_n 2, 1, 0, 0, 0), (96, .iload_n 2, 1, 0, 0, 0), (97, .ifCond .eq 26, 3, 0, 0, 0), (100, .aload_n 0, 1, 0, 0, 0), (101, .getfield 13, 3, 9, 2, 0), (104, .iload_n 3, 1, 0, 0, 0), (105, .iaload, 1, 0, 0, 0),
  (106, .aload_n 0, 1, 0, 0, 0), (107, .getfield 13, 3, 9, 2, 0), (110, .iload_n 1, 1, 0, 0, 0), (111, .iaload, 1, 0, 0, 0), (112, .if_icmp .ne 11, 3, 0, 0, 0), (115, .aload_n 0, 1, 0, 0, 0), (116, .iload_n 3, 1, 0, 0, 0), (117, .invokevirtual 111, 3, 51, 2, 9),
  (120, .goto 13, 3, 0, 0, 0), (123, .iload_n 2, 1, 0, 0, 0), (124, .ifCond .eq 9, 3, 0, 0, 0), (127, .aload_n 0, 1, 0, 0, 0), (128, .iload_n 3, 1, 0, 0, 0), (129, .iload_n 1, 1, 0, 0, 0), (130, .invokevirtual 114, 3, 58, 3, 9), (133, .goto (-109), 3, 0, 0, 0),
  (136, .aload_n 0, 1, 0, 0, 0), (137, .getfield 22, 3, 9, 5, 0), (140, .iload_n 1, 1, 0, 0, 0), (141, .iaload, 1, 0, 0, 0), (142, .ifCond .ne 11, 3, 0, 0, 0), (145, .aload_n 0, 1, 0, 0, 0), (146, .iload_n 1, 1, 0, 0, 0), (147, .invokevirtual 80, 3, 50, 2, 9),
  (150, .goto 35, 3, 0, 0, 0), (153, .aload_n 0, 1, 0, 0, 0), (154, .getfield 19, 3, 9, 4, 0), (157, .iload_n 1, 1, 0, 0, 0), (158, .iaload, 1, 0, 0, 0), (159, .ifCond .eq 13, 3, 0, 0, 0), (162, .aload_n 0, 1, 0, 0, 0), (163, .getfield 19, 3, 9, 4, 0),
  (166, .iload_n 1, 1, 0, 0, 0), (167, .iaload, 1, 0, 0, 0), (168, .iconst 5, 1, 0, 0, 0), (169, .if_icmp .ne 11, 3, 0, 0, 0), (172, .aload_n 0, 1, 0, 0, 0), (173, .iload_n 1, 1, 0, 0, 0), (174, .invokevirtual 105, 3, 56, 2, 9), (177, .goto 8, 3, 0, 0, 0),
  (180, .aload_n 0, 1, 0, 0, 0), (181, .iload_n 1, 1, 0, 0, 0), (182, .invokevirtual 111, 3, 51, 2, 9), (185, .return_, 1, 0, 0, 0)])
def mm50 : ma_M := (⟨RC9, "comeIn", "(I)V"⟩, prog_11_method_20_code, 2, none, 1, 9, [
  (0, .aload_n 0, 1, 0, 0, 0), (1, .getfield 19, 3, 9, 4, 0), (4, .iload_n 1, 1, 0, 0, 0), (5, .iaload, 1, 0, 0, 0), (6, .iconst 4, 1, 0, 0, 0), (7, .if_icmp .ne 13, 3, 0, 0, 0), (10, .aload_n 0, 1, 0, 0, 0), (11, .getfield 25, 3, 9, 6, 0),
  (14, .iload_n 1, 1, 0, 0, 0), (15, .iconst 2, 1, 0, 0, 0), (16, .iastore, 1, 0, 0, 0), (17, .goto 23, 3, 0, 0, 0), (20, .aload_n 0, 1, 0, 0, 0), (21, .invokevirtual 117, 3, 46, 1, 9), (24, .ifCond .eq 11, 3, 0, 0, 0), (27, .aload_n 0, 1, 0, 0, 0),
  (28, .iload_n 1, 1, 0, 0, 0), (29, .invokevirtual 105, 3, 56, 2, 9), (32, .goto 8, 3, 0, 0, 0), (35, .aload_n 0, 1, 0, 0, 0), (36, .iload_n 1, 1, 0, 0, 0), (37, .invokevirtual 121, 3, 59, 2, 9), (40, .return_, 1, 0, 0, 0)])
def mm51 : ma_M := (⟨RC9, "setOff", "()I"⟩, prog_11_method_21_code, 2, some .int, 0, 9, [
  (0, .iconst 0, 1, 0, 0, 0), (1, .istore_n 1, 1, 0, 0, 0), (2, .iload_n 1, 1, 0, 0, 0), (3, .aload_n 0, 1, 0, 0, 0), (4, .getfield 7, 3, 9, 1, 0), (7, .iconst 3, 1, 0, 0, 0), (8, .iaload, 1, 0, 0, 0), (9, .if_icmp .ge 63, 3, 0, 0, 0),
  (12, .aload_n 0, 1, 0, 0, 0), (13, .getfield 25, 3, 9, 6, 0), (16, .iload_n 1, 1, 0, 0, 0), (17, .iaload, 1, 0, 0, 0), (18, .iconst 2, 1, 0, 0, 0), (19, .if_icmp .ne 47, 3, 0, 0, 0), (22, .aload_n 0, 1, 0, 0, 0), (23, .getfield 16, 3, 9, 3, 0),
  (26, .iload_n 1, 1, 0, 0, 0), (27, .iaload, 1, 0, 0, 0), (28, .ifCond .ne 21, 3, 0, 0, 0), (31, .aload_n 0, 1, 0, 0, 0), (32, .getfield 28, 3, 9, 7, 0), (35, .iload_n 1, 1, 0, 0, 0), (36, .iaload, 1, 0, 0, 0), (37, .aload_n 0, 1, 0, 0, 0),
  (38, .getfield 7, 3, 9, 1, 0), (41, .iconst 1, 1, 0, 0, 0), (42, .iaload, 1, 0, 0, 0), (43, .if_icmp .gt 23, 3, 0, 0, 0), (46, .goto 18, 3, 0, 0, 0), (49, .aload_n 0, 1, 0, 0, 0), (50, .getfield 28, 3, 9, 7, 0), (53, .iload_n 1, 1, 0, 0, 0),
  (54, .iaload, 1, 0, 0, 0), (55, .aload_n 0, 1, 0, 0, 0), (56, .getfield 7, 3, 9, 1, 0), (59, .iconst 1, 1, 0, 0, 0), (60, .iaload, 1, 0, 0, 0), (61, .if_icmp .lt 5, 3, 0, 0, 0), (64, .iload_n 1, 1, 0, 0, 0), (65, .ireturn, 1, 0, 0, 0),
  (66, .iinc 1 1, 3, 0, 0, 0), (69, .goto (-67), 3, 0, 0, 0), (72, .iconst (-1), 1, 0, 0, 0), (73, .ireturn, 1, 0, 0, 0)])
def mm52 : ma_M := (⟨RC9, "stops", "()V"⟩, prog_11_method_22_code, 2, none, 0, 9, [
  (0, .aload_n 0, 1, 0, 0, 0), (1, .getfield 7, 3, 9, 1, 0), (4, .iconst 0, 1, 0, 0, 0), (5, .iaload, 1, 0, 0, 0), (6, .iconst 2, 1, 0, 0, 0), (7, .if_icmp .ne 10, 3, 0, 0, 0), (10, .aload_n 0, 1, 0, 0, 0), (11, .invokevirtual 124, 3, 61, 1, 9),
  (14, .goto 4, 3, 0, 0, 0), (17, .iconst (-1), 1, 0, 0, 0), (18, .istore_n 1, 1, 0, 0, 0), (19, .iload_n 1, 1, 0, 0, 0), (20, .ifCond .lt 44, 3, 0, 0, 0), (23, .aload_n 0, 1, 0, 0, 0), (24, .getfield 19, 3, 9, 4, 0), (27, .iload_n 1, 1, 0, 0, 0),
  (28, .iconst 1, 1, 0, 0, 0), (29, .iastore, 1, 0, 0, 0), (30, .aload_n 0, 1, 0, 0, 0), (31, .getfield 25, 3, 9, 6, 0), (34, .iload_n 1, 1, 0, 0, 0), (35, .iconst 0, 1, 0, 0, 0), (36, .iastore, 1, 0, 0, 0), (37, .aload_n 0, 1, 0, 0, 0),
  (38, .iload_n 1, 1, 0, 0, 0), (39, .invokevirtual 121, 3, 59, 2, 9), (42, .aload_n 0, 1, 0, 0, 0), (43, .getfield 7, 3, 9, 1, 0), (46, .iconst 0, 1, 0, 0, 0), (47, .iaload, 1, 0, 0, 0), (48, .iconst 2, 1, 0, 0, 0), (49, .if_icmp .ne 10, 3, 0, 0, 0),
  (52, .aload_n 0, 1, 0, 0, 0), (53, .invokevirtual 124, 3, 61, 1, 9), (56, .goto 4, 3, 0, 0, 0), (59, .iconst (-1), 1, 0, 0, 0), (60, .istore_n 1, 1, 0, 0, 0), (61, .goto (-42), 3, 0, 0, 0), (64, .return_, 1, 0, 0, 0)])
def mm53 : ma_M := (⟨RC9, "sums", "()V"⟩, prog_11_method_23_code, 2, none, 0, 9, [
  (0, .iconst 0, 1, 0, 0, 0), (1, .istore_n 1, 1, 0, 0, 0), (2, .iload_n 1, 1, 0, 0, 0), (3, .sipush 1000, 3, 0, 0, 0), (6, .if_icmp .gt 23, 3, 0, 0, 0), (9, .aload_n 0, 1, 0, 0, 0), (10, .getfield 43, 3, 9, 13, 0), (13, .iload_n 1, 1, 0, 0, 0),
  (14, .iconst 0, 1, 0, 0, 0), (15, .iastore, 1, 0, 0, 0), (16, .aload_n 0, 1, 0, 0, 0), (17, .getfield 46, 3, 9, 14, 0), (20, .iload_n 1, 1, 0, 0, 0), (21, .iconst 0, 1, 0, 0, 0), (22, .iastore, 1, 0, 0, 0), (23, .iinc 1 1, 3, 0, 0, 0),
  (26, .goto (-24), 3, 0, 0, 0), (29, .iconst 0, 1, 0, 0, 0), (30, .istore_n 1, 1, 0, 0, 0), (31, .iload_n 1, 1, 0, 0, 0), (32, .aload_n 0, 1, 0, 0, 0), (33, .getfield 7, 3, 9, 1, 0), (36, .iconst 3, 1, 0, 0, 0), (37, .iaload, 1, 0, 0, 0),
  (38, .if_icmp .ge 86, 3, 0, 0, 0), (41, .aload_n 0, 1, 0, 0, 0), (42, .getfield 25, 3, 9, 6, 0), (45, .iload_n 1, 1, 0, 0, 0), (46, .iaload, 1, 0, 0, 0), (47, .iconst 1, 1, 0, 0, 0), (48, .if_icmp .ne 70, 3, 0, 0, 0), (51, .aload_n 0, 1, 0, 0, 0),
  (52, .getfield 43, 3, 9, 13, 0), (55, .aload_n 0, 1, 0, 0, 0), (56, .getfield 28, 3, 9, 7, 0), (59, .iload_n 1, 1, 0, 0, 0), (60, .iaload, 1, 0, 0, 0), (61, .dup2, 1, 0, 0, 0), (62, .iaload, 1, 0, 0, 0), (63, .aload_n 0, 1, 0, 0, 0),
  (64, .getfield 16, 3, 9, 3, 0), (67, .iload_n 1, 1, 0, 0, 0), (68, .iaload, 1, 0, 0, 0), (69, .ifCond .ne 12, 3, 0, 0, 0), (72, .aload_n 0, 1, 0, 0, 0), (73, .getfield 22, 3, 9, 5, 0), (76, .iload_n 1, 1, 0, 0, 0), (77, .iaload, 1, 0, 0, 0),
  (78, .goto 4, 3, 0, 0, 0), (81, .iconst 0, 1, 0, 0, 0), (82, .iadd, 1, 0, 0, 0), (83, .iastore, 1, 0, 0, 0), (84, .aload_n 0, 1, 0, 0, 0), (85, .getfield 46, 3, 9, 14, 0), (88, .aload_n 0, 1, 0, 0, 0), (89, .getfield 28, 3, 9, 7, 0),
  (92, .iload_n 1, 1, 0, 0, 0), (93, .iaload, 1, 0, 0, 0), (94, .dup2, 1, 0, 0, 0), (95, .iaload, 1, 0, 0, 0), (96, .aload_n 0, 1, 0, 0, 0), (97, .getfield 16, 3, 9, 3, 0), (100, .iload_n 1, 1, 0, 0, 0), (101, .iaload, 1, 0, 0, 0),
  (102, .iconst 1, 1, 0, 0, 0), (103, .if_icmp .ne 12, 3, 0, 0, 0), (106, .aload_n 0, 1, 0, 0, 0), (107, .getfield 22, 3, 9, 5, 0), (110, .iload_n 1, 1, 0, 0, 0), (111, .iaload, 1, 0, 0, 0), (112, .goto 4, 3, 0, 0, 0), (115, .iconst 0, 1, 0, 0, 0),
  (116, .iadd, 1, 0, 0, 0), (117, .iastore, 1, 0, 0, 0), (118, .iinc 1 1, 3, 0, 0, 0), (121, .goto (-90), 3, 0, 0, 0), (124, .iconst 1, 1, 0, 0, 0), (125, .istore_n 1, 1, 0, 0, 0), (126, .iload_n 1, 1, 0, 0, 0), (127, .sipush 1000, 3, 0, 0, 0),
  (130, .if_icmp .ge 49, 3, 0, 0, 0), (133, .aload_n 0, 1, 0, 0, 0), (134, .getfield 46, 3, 9, 14, 0), (137, .iload_n 1, 1, 0, 0, 0), (138, .dup2, 1, 0, 0, 0), (139, .iaload, 1, 0, 0, 0), (140, .aload_n 0, 1, 0, 0, 0), (141, .getfield 46, 3, 9, 14, 0),
  (144, .iload_n 1, 1, 0, 0, 0), (145, .iconst 1, 1, 0, 0, 0), (146, .isub, 1, 0, 0, 0), (147, .iaload, 1, 0, 0, 0), (148, .iadd, 1, 0, 0, 0), (149, .iastore, 1, 0, 0, 0), (150, .aload_n 0, 1, 0, 0, 0), (151, .getfield 43, 3, 9, 13, 0),
  (154, .sipush 999, 3, 0, 0, 0), (157, .iload_n 1, 1, 0, 0, 0), (158, .isub, 1, 0, 0, 0), (159, .dup2, 1, 0, 0, 0), (160, .iaload, 1, 0, 0, 0), (161, .aload_n 0, 1, 0, 0, 0), (162, .getfield 43, 3, 9, 13, 0), (165, .sipush 1000, 3, 0, 0, 0),
  (168, .iload_n 1, 1, 0, 0, 0), (169, .isub, 1, 0, 0, 0), (170, .iaload, 1, 0, 0, 0), (171, .iadd, 1, 0, 0, 0), (172, .iastore, 1, 0, 0, 0), (173, .iinc 1 1, 3, 0, 0, 0), (176, .goto (-50), 3, 0, 0, 0), (179, .return_, 1, 0, 0, 0)])
def mm54 : ma_M := (⟨RC9, "apart", "(II)I"⟩, prog_11_method_24_code, 2, some .int, 2, 99, [
  (0, .iload_n 0, 1, 0, 0, 0), (1, .iload_n 1, 1, 0, 0, 0), (2, .if_icmp .le 9, 3, 0, 0, 0), (5, .iload_n 0, 1, 0, 0, 0), (6, .iload_n 1, 1, 0, 0, 0), (7, .isub, 1, 0, 0, 0), (8, .goto 6, 3, 0, 0, 0), (11, .iload_n 1, 1, 0, 0, 0),
  (12, .iload_n 0, 1, 0, 0, 0), (13, .isub, 1, 0, 0, 0), (14, .ireturn, 1, 0, 0, 0)])
def mm55 : ma_M := (⟨RC9, "weigh", "()V"⟩, prog_11_method_25_code, 6, none, 0, 9, [
  (0, .aload_n 0, 1, 0, 0, 0), (1, .invokevirtual 128, 3, 63, 1, 9), (4, .aload_n 0, 1, 0, 0, 0), (5, .iconst 0, 1, 0, 0, 0), (6, .putfield 131, 3, 9, 16, 0), (9, .aload_n 0, 1, 0, 0, 0), (10, .iconst 0, 1, 0, 0, 0), (11, .putfield 134, 3, 9, 17, 0),
  (14, .aload_n 0, 1, 0, 0, 0), (15, .iconst 0, 1, 0, 0, 0), (16, .putfield 137, 3, 9, 15, 0), (19, .iconst 1, 1, 0, 0, 0), (20, .istore_n 1, 1, 0, 0, 0), (21, .iload_n 1, 1, 0, 0, 0), (22, .sipush 1000, 3, 0, 0, 0), (25, .if_icmp .ge 134, 3, 0, 0, 0),
  (28, .aload_n 0, 1, 0, 0, 0), (29, .getfield 43, 3, 9, 13, 0), (32, .iload_n 1, 1, 0, 0, 0), (33, .iaload, 1, 0, 0, 0), (34, .aload_n 0, 1, 0, 0, 0), (35, .getfield 46, 3, 9, 14, 0), (38, .iload_n 1, 1, 0, 0, 0), (39, .iaload, 1, 0, 0, 0),
  (40, .invokestatic 88, 3, 43, 2, 0), (43, .istore_n 2, 1, 0, 0, 0), (44, .aload_n 0, 1, 0, 0, 0), (45, .getfield 43, 3, 9, 13, 0), (48, .iload_n 1, 1, 0, 0, 0), (49, .iaload, 1, 0, 0, 0), (50, .aload_n 0, 1, 0, 0, 0), (51, .getfield 46, 3, 9, 14, 0),
  (54, .iload_n 1, 1, 0, 0, 0), (55, .iaload, 1, 0, 0, 0), (56, .invokestatic 140, 3, 64, 2, 0), (59, .istore_n 3, 1, 0, 0, 0), (60, .iload_n 1, 1, 0, 0, 0), (61, .aload_n 0, 1, 0, 0, 0), (62, .getfield 7, 3, 9, 1, 0), (65, .iconst 2, 1, 0, 0, 0),
  (66, .iaload, 1, 0, 0, 0), (67, .invokestatic 140, 3, 64, 2, 0), (70, .istore 4, 2, 0, 0, 0), (72, .iload_n 2, 1, 0, 0, 0), (73, .aload_n 0, 1, 0, 0, 0), (74, .getfield 131, 3, 9, 16, 0), (77, .if_icmp .gt 45, 3, 0, 0, 0), (80, .iload_n 2, 1, 0, 0, 0),
  (81, .aload_n 0, 1, 0, 0, 0), (82, .getfield 131, 3, 9, 16, 0), (85, .if_icmp .ne 41, 3, 0, 0, 0), (88, .iload_n 3, 1, 0, 0, 0), (89, .aload_n 0, 1, 0, 0, 0), (90, .getfield 134, 3, 9, 17, 0), (93, .if_icmp .lt 29, 3, 0, 0, 0), (96, .iload_n 3, 1, 0, 0, 0),
  (97, .aload_n 0, 1, 0, 0, 0), (98, .getfield 134, 3, 9, 17, 0), (101, .if_icmp .ne 25, 3, 0, 0, 0), (104, .iload 4, 2, 0, 0, 0), (106, .aload_n 0, 1, 0, 0, 0), (107, .getfield 137, 3, 9, 15, 0), (110, .aload_n 0, 1, 0, 0, 0), (111, .getfield 7, 3, 9, 1, 0),
  (114, .iconst 2, 1, 0, 0, 0), (115, .iaload, 1, 0, 0, 0), (116, .invokestatic 140, 3, 64, 2, 0), (119, .if_icmp .gt 7, 3, 0, 0, 0), (122, .iconst 1, 1, 0, 0, 0), (123, .goto 4, 3, 0, 0, 0), (126, .iconst 0, 1, 0, 0, 0), (127, .istore 5, 2, 0, 0, 0),
  (129, .iload_n 2, 1, 0, 0, 0), (130, .ifCond .le 23, 3, 0, 0, 0), (133, .iload 5, 2, 0, 0, 0), (135, .ifCond .eq 18, 3, 0, 0, 0), (138, .aload_n 0, 1, 0, 0, 0), (139, .iload_n 1, 1, 0, 0, 0), (140, .putfield 137, 3, 9, 15, 0), (143, .aload_n 0, 1, 0, 0, 0),
  (144, .iload_n 2, 1, 0, 0, 0), (145, .putfield 131, 3, 9, 16, 0), (148, .aload_n 0, 1, 0, 0, 0), (149, .iload_n 3, 1, 0, 0, 0), (150, .putfield 134, 3, 9, 17, 0), (153, .iinc 1 1, 3, 0, 0, 0), (156, .goto (-135), 3, 0, 0, 0), (159, .return_, 1, 0, 0, 0)])
def mm56 : ma_M := (⟨RC9, "fill", "(I)V"⟩, prog_11_method_26_code, 6, none, 1, 9, [
  (0, .aload_n 0, 1, 0, 0, 0), (1, .getfield 131, 3, 9, 16, 0), (4, .istore_n 2, 1, 0, 0, 0), (5, .aload_n 0, 1, 0, 0, 0), (6, .iload_n 1, 1, 0, 0, 0), (7, .iconst (-1), 1, 0, 0, 0), (8, .invokevirtual 95, 3, 54, 3, 9), (11, .istore_n 3, 1, 0, 0, 0),
  (12, .iload_n 2, 1, 0, 0, 0), (13, .ifCond .le 105, 3, 0, 0, 0), (16, .iload_n 3, 1, 0, 0, 0), (17, .ifCond .lt 101, 3, 0, 0, 0), (20, .aload_n 0, 1, 0, 0, 0), (21, .iload_n 1, 1, 0, 0, 0), (22, .iload_n 3, 1, 0, 0, 0), (23, .invokevirtual 95, 3, 54, 3, 9),
  (26, .istore 4, 2, 0, 0, 0), (28, .iload_n 2, 1, 0, 0, 0), (29, .aload_n 0, 1, 0, 0, 0), (30, .getfield 22, 3, 9, 5, 0), (33, .iload_n 3, 1, 0, 0, 0), (34, .iaload, 1, 0, 0, 0), (35, .invokestatic 88, 3, 43, 2, 0), (38, .istore 5, 2, 0, 0, 0),
  (40, .aload_n 0, 1, 0, 0, 0), (41, .aload_n 0, 1, 0, 0, 0), (42, .getfield 13, 3, 9, 2, 0), (45, .iload_n 3, 1, 0, 0, 0), (46, .iaload, 1, 0, 0, 0), (47, .iconst 2, 1, 0, 0, 0), (48, .iload_n 3, 1, 0, 0, 0), (49, .iload 5, 2, 0, 0, 0),
  (51, .aload_n 0, 1, 0, 0, 0), (52, .getfield 137, 3, 9, 15, 0), (55, .invokevirtual 76, 3, 48, 6, 9), (58, .iload_n 2, 1, 0, 0, 0), (59, .iload 5, 2, 0, 0, 0), (61, .isub, 1, 0, 0, 0), (62, .istore_n 2, 1, 0, 0, 0), (63, .aload_n 0, 1, 0, 0, 0),
  (64, .getfield 22, 3, 9, 5, 0), (67, .iload_n 3, 1, 0, 0, 0), (68, .dup2, 1, 0, 0, 0), (69, .iaload, 1, 0, 0, 0), (70, .iload 5, 2, 0, 0, 0), (72, .isub, 1, 0, 0, 0), (73, .iastore, 1, 0, 0, 0), (74, .aload_n 0, 1, 0, 0, 0),
  (75, .getfield 22, 3, 9, 5, 0), (78, .iload_n 3, 1, 0, 0, 0), (79, .iaload, 1, 0, 0, 0), (80, .ifCond .ne 11, 3, 0, 0, 0), (83, .aload_n 0, 1, 0, 0, 0), (84, .iload_n 3, 1, 0, 0, 0), (85, .invokevirtual 80, 3, 50, 2, 9), (88, .goto 24, 3, 0, 0, 0),
  (91, .aload_n 0, 1, 0, 0, 0), (92, .getfield 34, 3, 9, 9, 0), (95, .iload_n 3, 1, 0, 0, 0), (96, .aload_n 0, 1, 0, 0, 0), (97, .getfield 31, 3, 9, 8, 0), (100, .iload_n 3, 1, 0, 0, 0), (101, .iaload, 1, 0, 0, 0), (102, .aload_n 0, 1, 0, 0, 0),
  (103, .getfield 22, 3, 9, 5, 0), (106, .iload_n 3, 1, 0, 0, 0), (107, .iaload, 1, 0, 0, 0), (108, .invokestatic 88, 3, 43, 2, 0), (111, .iastore, 1, 0, 0, 0), (112, .iload 4, 2, 0, 0, 0), (114, .istore_n 3, 1, 0, 0, 0), (115, .goto (-103), 3, 0, 0, 0),
  (118, .return_, 1, 0, 0, 0)])
def mm57 : ma_M := (⟨RC9, "auction", "()V"⟩, prog_11_method_27_code, 1, none, 0, 9, [
  (0, .aload_n 0, 1, 0, 0, 0), (1, .invokevirtual 143, 3, 65, 1, 9), (4, .aload_n 0, 1, 0, 0, 0), (5, .getfield 131, 3, 9, 16, 0), (8, .ifCond .ne 4, 3, 0, 0, 0), (11, .return_, 1, 0, 0, 0), (12, .aload_n 0, 1, 0, 0, 0), (13, .iconst 0, 1, 0, 0, 0),
  (14, .invokevirtual 146, 3, 66, 2, 9), (17, .aload_n 0, 1, 0, 0, 0), (18, .iconst 1, 1, 0, 0, 0), (19, .invokevirtual 146, 3, 66, 2, 9), (22, .aload_n 0, 1, 0, 0, 0), (23, .getfield 7, 3, 9, 1, 0), (26, .iconst 1, 1, 0, 0, 0), (27, .aload_n 0, 1, 0, 0, 0),
  (28, .getfield 137, 3, 9, 15, 0), (31, .iastore, 1, 0, 0, 0), (32, .aload_n 0, 1, 0, 0, 0), (33, .getfield 7, 3, 9, 1, 0), (36, .iconst 2, 1, 0, 0, 0), (37, .aload_n 0, 1, 0, 0, 0), (38, .getfield 137, 3, 9, 15, 0), (41, .iastore, 1, 0, 0, 0),
  (42, .return_, 1, 0, 0, 0)])
def mm58 : ma_M := (⟨RC9, "level", "(II)I"⟩, prog_11_method_28_code, 5, some .int, 2, 9, [
  (0, .iconst 0, 1, 0, 0, 0), (1, .istore_n 3, 1, 0, 0, 0), (2, .iconst 0, 1, 0, 0, 0), (3, .istore 4, 2, 0, 0, 0), (5, .iload 4, 2, 0, 0, 0), (7, .aload_n 0, 1, 0, 0, 0), (8, .getfield 7, 3, 9, 1, 0), (11, .iconst 3, 1, 0, 0, 0),
  (12, .iaload, 1, 0, 0, 0), (13, .if_icmp .ge 56, 3, 0, 0, 0), (16, .iload_n 3, 1, 0, 0, 0), (17, .aload_n 0, 1, 0, 0, 0), (18, .getfield 25, 3, 9, 6, 0), (21, .iload 4, 2, 0, 0, 0), (23, .iaload, 1, 0, 0, 0), (24, .iconst 1, 1, 0, 0, 0),
  (25, .if_icmp .ne 35, 3, 0, 0, 0), (28, .aload_n 0, 1, 0, 0, 0), (29, .getfield 16, 3, 9, 3, 0), (32, .iload 4, 2, 0, 0, 0), (34, .iaload, 1, 0, 0, 0), (35, .iload_n 1, 1, 0, 0, 0), (36, .if_icmp .ne 24, 3, 0, 0, 0), (39, .aload_n 0, 1, 0, 0, 0),
  (40, .getfield 28, 3, 9, 7, 0), (43, .iload 4, 2, 0, 0, 0), (45, .iaload, 1, 0, 0, 0), (46, .iload_n 2, 1, 0, 0, 0), (47, .if_icmp .ne 13, 3, 0, 0, 0), (50, .aload_n 0, 1, 0, 0, 0), (51, .getfield 34, 3, 9, 9, 0), (54, .iload 4, 2, 0, 0, 0),
  (56, .iaload, 1, 0, 0, 0), (57, .goto 4, 3, 0, 0, 0), (60, .iconst 0, 1, 0, 0, 0), (61, .iadd, 1, 0, 0, 0), (62, .istore_n 3, 1, 0, 0, 0), (63, .iinc 4 1, 3, 0, 0, 0), (66, .goto (-61), 3, 0, 0, 0), (69, .iload_n 3, 1, 0, 0, 0),
  (70, .ireturn, 1, 0, 0, 0)])
def mm59 : ma_M := (⟨RC9, "look", "()V"⟩, prog_11_method_29_code, 2, none, 0, 9, [
  (0, .iconst 0, 1, 0, 0, 0), (1, .istore_n 1, 1, 0, 0, 0), (2, .iload_n 1, 1, 0, 0, 0), (3, .sipush 2000, 3, 0, 0, 0), (6, .if_icmp .ge 16, 3, 0, 0, 0), (9, .aload_n 0, 1, 0, 0, 0), (10, .getfield 49, 3, 9, 18, 0), (13, .iload_n 1, 1, 0, 0, 0),
  (14, .iconst 0, 1, 0, 0, 0), (15, .iastore, 1, 0, 0, 0), (16, .iinc 1 1, 3, 0, 0, 0), (19, .goto (-17), 3, 0, 0, 0), (22, .iconst 0, 1, 0, 0, 0), (23, .istore_n 1, 1, 0, 0, 0), (24, .iload_n 1, 1, 0, 0, 0), (25, .aload_n 0, 1, 0, 0, 0),
  (26, .getfield 7, 3, 9, 1, 0), (29, .iconst 3, 1, 0, 0, 0), (30, .iaload, 1, 0, 0, 0), (31, .if_icmp .ge 50, 3, 0, 0, 0), (34, .aload_n 0, 1, 0, 0, 0), (35, .getfield 25, 3, 9, 6, 0), (38, .iload_n 1, 1, 0, 0, 0), (39, .iaload, 1, 0, 0, 0),
  (40, .iconst 1, 1, 0, 0, 0), (41, .if_icmp .ne 34, 3, 0, 0, 0), (44, .aload_n 0, 1, 0, 0, 0), (45, .getfield 49, 3, 9, 18, 0), (48, .sipush 1000, 3, 0, 0, 0), (51, .aload_n 0, 1, 0, 0, 0), (52, .getfield 16, 3, 9, 3, 0), (55, .iload_n 1, 1, 0, 0, 0),
  (56, .iaload, 1, 0, 0, 0), (57, .imul, 1, 0, 0, 0), (58, .aload_n 0, 1, 0, 0, 0), (59, .getfield 28, 3, 9, 7, 0), (62, .iload_n 1, 1, 0, 0, 0), (63, .iaload, 1, 0, 0, 0), (64, .iadd, 1, 0, 0, 0), (65, .dup2, 1, 0, 0, 0),
  (66, .iaload, 1, 0, 0, 0), (67, .aload_n 0, 1, 0, 0, 0), (68, .getfield 34, 3, 9, 9, 0), (71, .iload_n 1, 1, 0, 0, 0), (72, .iaload, 1, 0, 0, 0), (73, .iadd, 1, 0, 0, 0), (74, .iastore, 1, 0, 0, 0), (75, .iinc 1 1, 3, 0, 0, 0),
  (78, .goto (-54), 3, 0, 0, 0), (81, .return_, 1, 0, 0, 0)])
def mm60 : ma_M := (⟨RC9, "publish", "()V"⟩, prog_11_method_30_code, 2, none, 0, 9, [
  (0, .iconst 0, 1, 0, 0, 0), (1, .istore_n 1, 1, 0, 0, 0), (2, .iload_n 1, 1, 0, 0, 0), (3, .aload_n 0, 1, 0, 0, 0), (4, .getfield 7, 3, 9, 1, 0), (7, .iconst 3, 1, 0, 0, 0), (8, .iaload, 1, 0, 0, 0), (9, .if_icmp .ge 50, 3, 0, 0, 0),
  (12, .aload_n 0, 1, 0, 0, 0), (13, .getfield 25, 3, 9, 6, 0), (16, .iload_n 1, 1, 0, 0, 0), (17, .iaload, 1, 0, 0, 0), (18, .iconst 1, 1, 0, 0, 0), (19, .if_icmp .ne 34, 3, 0, 0, 0), (22, .aload_n 0, 1, 0, 0, 0), (23, .getfield 49, 3, 9, 18, 0),
  (26, .sipush 1000, 3, 0, 0, 0), (29, .aload_n 0, 1, 0, 0, 0), (30, .getfield 16, 3, 9, 3, 0), (33, .iload_n 1, 1, 0, 0, 0), (34, .iaload, 1, 0, 0, 0), (35, .imul, 1, 0, 0, 0), (36, .aload_n 0, 1, 0, 0, 0), (37, .getfield 28, 3, 9, 7, 0),
  (40, .iload_n 1, 1, 0, 0, 0), (41, .iaload, 1, 0, 0, 0), (42, .iadd, 1, 0, 0, 0), (43, .dup2, 1, 0, 0, 0), (44, .iaload, 1, 0, 0, 0), (45, .aload_n 0, 1, 0, 0, 0), (46, .getfield 34, 3, 9, 9, 0), (49, .iload_n 1, 1, 0, 0, 0),
  (50, .iaload, 1, 0, 0, 0), (51, .isub, 1, 0, 0, 0), (52, .iastore, 1, 0, 0, 0), (53, .iinc 1 1, 3, 0, 0, 0), (56, .goto (-54), 3, 0, 0, 0), (59, .iconst 0, 1, 0, 0, 0), (60, .istore_n 1, 1, 0, 0, 0), (61, .iload_n 1, 1, 0, 0, 0),
  (62, .sipush 2000, 3, 0, 0, 0), (65, .if_icmp .ge 67, 3, 0, 0, 0), (68, .aload_n 0, 1, 0, 0, 0), (69, .getfield 49, 3, 9, 18, 0), (72, .iload_n 1, 1, 0, 0, 0), (73, .iaload, 1, 0, 0, 0), (74, .ifCond .eq 52, 3, 0, 0, 0), (77, .aload_n 0, 1, 0, 0, 0),
  (78, .getfield 55, 3, 9, 20, 0), (81, .aload_n 0, 1, 0, 0, 0), (82, .getfield 149, 3, 9, 22, 0), (85, .bipush 64, 2, 0, 0, 0), (87, .irem, 1, 0, 0, 0), (88, .iload_n 1, 1, 0, 0, 0), (89, .iastore, 1, 0, 0, 0), (90, .aload_n 0, 1, 0, 0, 0),
  (91, .getfield 58, 3, 9, 21, 0), (94, .aload_n 0, 1, 0, 0, 0), (95, .getfield 149, 3, 9, 22, 0), (98, .bipush 64, 2, 0, 0, 0), (100, .irem, 1, 0, 0, 0), (101, .aload_n 0, 1, 0, 0, 0), (102, .iload_n 1, 1, 0, 0, 0), (103, .sipush 1000, 3, 0, 0, 0),
  (106, .idiv, 1, 0, 0, 0), (107, .iload_n 1, 1, 0, 0, 0), (108, .sipush 1000, 3, 0, 0, 0), (111, .irem, 1, 0, 0, 0), (112, .invokevirtual 152, 3, 68, 3, 9), (115, .iastore, 1, 0, 0, 0), (116, .aload_n 0, 1, 0, 0, 0), (117, .dup, 1, 0, 0, 0),
  (118, .getfield 149, 3, 9, 22, 0), (121, .iconst 1, 1, 0, 0, 0), (122, .iadd, 1, 0, 0, 0), (123, .putfield 149, 3, 9, 22, 0), (126, .iinc 1 1, 3, 0, 0, 0), (129, .goto (-68), 3, 0, 0, 0), (132, .return_, 1, 0, 0, 0)])
def mm61 : ma_M := (⟨RC9, "begin", "(II)I"⟩, prog_11_method_31_code, 3, some .int, 2, 9, [
  (0, .iload_n 1, 1, 0, 0, 0), (1, .iconst 0, 1, 0, 0, 0), (2, .iconst 3, 1, 0, 0, 0), (3, .invokestatic 155, 3, 44, 3, 0), (6, .ifCond .ne 5, 3, 0, 0, 0), (9, .iconst (-1), 1, 0, 0, 0), (10, .ireturn, 1, 0, 0, 0), (11, .iload_n 2, 1, 0, 0, 0),
  (12, .aload_n 0, 1, 0, 0, 0), (13, .getfield 7, 3, 9, 1, 0), (16, .iconst 4, 1, 0, 0, 0), (17, .iload_n 1, 1, 0, 0, 0), (18, .iadd, 1, 0, 0, 0), (19, .iaload, 1, 0, 0, 0), (20, .if_icmp .eq 23, 3, 0, 0, 0), (23, .iload_n 2, 1, 0, 0, 0),
  (24, .aload_n 0, 1, 0, 0, 0), (25, .getfield 7, 3, 9, 1, 0), (28, .iconst 4, 1, 0, 0, 0), (29, .iload_n 1, 1, 0, 0, 0), (30, .iadd, 1, 0, 0, 0), (31, .iaload, 1, 0, 0, 0), (32, .if_icmp .le 8, 3, 0, 0, 0), (35, .bipush (-2), 2, 0, 0, 0),
  (37, .goto 5, 3, 0, 0, 0), (40, .bipush (-3), 2, 0, 0, 0), (42, .ireturn, 1, 0, 0, 0), (43, .aload_n 0, 1, 0, 0, 0), (44, .getfield 7, 3, 9, 1, 0), (47, .iconst 4, 1, 0, 0, 0), (48, .iload_n 1, 1, 0, 0, 0), (49, .iadd, 1, 0, 0, 0),
  (50, .dup2, 1, 0, 0, 0), (51, .iaload, 1, 0, 0, 0), (52, .iconst 1, 1, 0, 0, 0), (53, .iadd, 1, 0, 0, 0), (54, .iastore, 1, 0, 0, 0), (55, .aload_n 0, 1, 0, 0, 0), (56, .invokevirtual 159, 3, 69, 1, 9), (59, .iconst 0, 1, 0, 0, 0),
  (60, .ireturn, 1, 0, 0, 0)])
def mm62 : ma_M := (⟨RC9, "reject", "(I)I"⟩, prog_11_method_32_code, 2, some .int, 1, 9, [
  (0, .aload_n 0, 1, 0, 0, 0), (1, .iload_n 1, 1, 0, 0, 0), (2, .iconst 4, 1, 0, 0, 0), (3, .iconst (-1), 1, 0, 0, 0), (4, .iconst 0, 1, 0, 0, 0), (5, .iconst 0, 1, 0, 0, 0), (6, .invokevirtual 76, 3, 48, 6, 9), (9, .aload_n 0, 1, 0, 0, 0),
  (10, .bipush (-4), 2, 0, 0, 0), (12, .invokevirtual 162, 3, 73, 2, 9), (15, .ireturn, 1, 0, 0, 0)])
def mm63 : ma_M := (⟨RC9, "end", "(I)I"⟩, prog_11_method_33_code, 2, some .int, 1, 9, [
  (0, .aload_n 0, 1, 0, 0, 0), (1, .invokevirtual 165, 3, 62, 1, 9), (4, .aload_n 0, 1, 0, 0, 0), (5, .invokevirtual 168, 3, 70, 1, 9), (8, .iload_n 1, 1, 0, 0, 0), (9, .ireturn, 1, 0, 0, 0)])
def mm64 : ma_M := (⟨RC9, "extra", "(II)I"⟩, prog_11_method_34_code, 4, some .int, 2, 9, [
  (0, .iload_n 1, 1, 0, 0, 0), (1, .iconst 0, 1, 0, 0, 0), (2, .iconst 3, 1, 0, 0, 0), (3, .invokestatic 155, 3, 44, 3, 0), (6, .ifCond .ne 5, 3, 0, 0, 0), (9, .iconst (-1), 1, 0, 0, 0), (10, .ireturn, 1, 0, 0, 0), (11, .aload_n 0, 1, 0, 0, 0),
  (12, .getfield 7, 3, 9, 1, 0), (15, .bipush 8, 2, 0, 0, 0), (17, .iload_n 1, 1, 0, 0, 0), (18, .iadd, 1, 0, 0, 0), (19, .iaload, 1, 0, 0, 0), (20, .istore_n 3, 1, 0, 0, 0), (21, .aload_n 0, 1, 0, 0, 0), (22, .getfield 7, 3, 9, 1, 0),
  (25, .bipush 8, 2, 0, 0, 0), (27, .iload_n 1, 1, 0, 0, 0), (28, .iadd, 1, 0, 0, 0), (29, .iload_n 2, 1, 0, 0, 0), (30, .iastore, 1, 0, 0, 0), (31, .iload_n 3, 1, 0, 0, 0), (32, .ireturn, 1, 0, 0, 0)])
def mm65 : ma_M := (⟨RC9, "good", "(IIII)Z"⟩, prog_11_method_35_code, 6, some .boolean, 4, 9, [
  (0, .iload_n 1, 1, 0, 0, 0), (1, .iconst 0, 1, 0, 0, 0), (2, .iconst 5, 1, 0, 0, 0), (3, .invokestatic 155, 3, 44, 3, 0), (6, .ifCond .eq 35, 3, 0, 0, 0), (9, .iload_n 2, 1, 0, 0, 0), (10, .iconst 1, 1, 0, 0, 0), (11, .sipush 1000, 3, 0, 0, 0),
  (14, .invokestatic 155, 3, 44, 3, 0), (17, .ifCond .eq 24, 3, 0, 0, 0), (20, .iload_n 1, 1, 0, 0, 0), (21, .iconst 1, 1, 0, 0, 0), (22, .if_icmp .eq 21, 3, 0, 0, 0), (25, .iload_n 1, 1, 0, 0, 0), (26, .iconst 4, 1, 0, 0, 0), (27, .if_icmp .eq 16, 3, 0, 0, 0),
  (30, .iload_n 3, 1, 0, 0, 0), (31, .iconst 1, 1, 0, 0, 0), (32, .sipush 999, 3, 0, 0, 0), (35, .invokestatic 155, 3, 44, 3, 0), (38, .ifCond .ne 5, 3, 0, 0, 0), (41, .iconst 0, 1, 0, 0, 0), (42, .ireturn, 1, 0, 0, 0), (43, .iload_n 1, 1, 0, 0, 0),
  (44, .iconst 4, 1, 0, 0, 0), (45, .if_icmp .ne 15, 3, 0, 0, 0), (48, .iload 4, 2, 0, 0, 0), (50, .iconst 1, 1, 0, 0, 0), (51, .sipush 999, 3, 0, 0, 0), (54, .invokestatic 155, 3, 44, 3, 0), (57, .ifCond .eq 27, 3, 0, 0, 0), (60, .iload_n 1, 1, 0, 0, 0),
  (61, .iconst 5, 1, 0, 0, 0), (62, .if_icmp .ne 24, 3, 0, 0, 0), (65, .iload 4, 2, 0, 0, 0), (67, .iconst 1, 1, 0, 0, 0), (68, .iload_n 2, 1, 0, 0, 0), (69, .invokestatic 155, 3, 44, 3, 0), (72, .ifCond .eq 12, 3, 0, 0, 0), (75, .bipush 10, 2, 0, 0, 0),
  (77, .iload 4, 2, 0, 0, 0), (79, .imul, 1, 0, 0, 0), (80, .iload_n 2, 1, 0, 0, 0), (81, .if_icmp .ge 5, 3, 0, 0, 0), (84, .iconst 0, 1, 0, 0, 0), (85, .ireturn, 1, 0, 0, 0), (86, .iload_n 1, 1, 0, 0, 0), (87, .iconst 1, 1, 0, 0, 0),
  (88, .if_icmp .lt 12, 3, 0, 0, 0), (91, .iload_n 1, 1, 0, 0, 0), (92, .iconst 3, 1, 0, 0, 0), (93, .if_icmp .gt 7, 3, 0, 0, 0), (96, .iconst 1, 1, 0, 0, 0), (97, .goto 4, 3, 0, 0, 0), (100, .iconst 0, 1, 0, 0, 0), (101, .istore 5, 2, 0, 0, 0),
  (103, .aload_n 0, 1, 0, 0, 0), (104, .getfield 7, 3, 9, 1, 0), (107, .iconst 0, 1, 0, 0, 0), (108, .iaload, 1, 0, 0, 0), (109, .ifCond .eq 40, 3, 0, 0, 0), (112, .aload_n 0, 1, 0, 0, 0), (113, .invokevirtual 117, 3, 46, 1, 9), (116, .ifCond .eq 8, 3, 0, 0, 0),
  (119, .iload 5, 2, 0, 0, 0), (121, .ifCond .ne 28, 3, 0, 0, 0), (124, .aload_n 0, 1, 0, 0, 0), (125, .invokevirtual 171, 3, 47, 1, 9), (128, .bipush 40, 2, 0, 0, 0), (130, .if_icmp .ge 19, 3, 0, 0, 0), (133, .aload_n 0, 1, 0, 0, 0), (134, .getfield 7, 3, 9, 1, 0),
  (137, .iconst 3, 1, 0, 0, 0), (138, .iaload, 1, 0, 0, 0), (139, .sipush 200, 3, 0, 0, 0), (142, .if_icmp .ge 7, 3, 0, 0, 0), (145, .iconst 1, 1, 0, 0, 0), (146, .goto 4, 3, 0, 0, 0), (149, .iconst 0, 1, 0, 0, 0), (150, .ireturn, 1, 0, 0, 0)])
def mm66 : ma_M := (⟨RC9, "order", "(IIIII)I"⟩, prog_11_method_36_code, 10, some .int, 5, 9, [
  (0, .aload_n 0, 1, 0, 0, 0), (1, .iload_n 1, 1, 0, 0, 0), (2, .iload_n 2, 1, 0, 0, 0), (3, .invokevirtual 174, 3, 71, 3, 9), (6, .istore 6, 2, 0, 0, 0), (8, .iload 6, 2, 0, 0, 0), (10, .ifCond .eq 6, 3, 0, 0, 0), (13, .iload 6, 2, 0, 0, 0),
  (15, .ireturn, 1, 0, 0, 0), (16, .iload_n 3, 1, 0, 0, 0), (17, .iconst 0, 1, 0, 0, 0), (18, .bipush 11, 2, 0, 0, 0), (20, .invokestatic 155, 3, 44, 3, 0), (23, .ifCond .eq 9, 3, 0, 0, 0), (26, .iload_n 3, 1, 0, 0, 0), (27, .iconst 2, 1, 0, 0, 0),
  (28, .idiv, 1, 0, 0, 0), (29, .goto 4, 3, 0, 0, 0), (32, .iconst (-1), 1, 0, 0, 0), (33, .istore 7, 2, 0, 0, 0), (35, .aload_n 0, 1, 0, 0, 0), (36, .getfield 7, 3, 9, 1, 0), (39, .bipush 8, 2, 0, 0, 0), (41, .iload_n 1, 1, 0, 0, 0),
  (42, .iadd, 1, 0, 0, 0), (43, .iaload, 1, 0, 0, 0), (44, .istore 8, 2, 0, 0, 0), (46, .aload_n 0, 1, 0, 0, 0), (47, .iload 7, 2, 0, 0, 0), (49, .iload 4, 2, 0, 0, 0), (51, .iload 5, 2, 0, 0, 0), (53, .iload 8, 2, 0, 0, 0),
  (55, .invokevirtual 177, 3, 75, 5, 9), (58, .ifCond .ne 9, 3, 0, 0, 0), (61, .aload_n 0, 1, 0, 0, 0), (62, .iload_n 1, 1, 0, 0, 0), (63, .invokevirtual 181, 3, 72, 2, 9), (66, .ireturn, 1, 0, 0, 0), (67, .aload_n 0, 1, 0, 0, 0), (68, .getfield 7, 3, 9, 1, 0),
  (71, .iconst 3, 1, 0, 0, 0), (72, .iaload, 1, 0, 0, 0), (73, .istore 9, 2, 0, 0, 0), (75, .aload_n 0, 1, 0, 0, 0), (76, .getfield 7, 3, 9, 1, 0), (79, .iconst 3, 1, 0, 0, 0), (80, .dup2, 1, 0, 0, 0), (81, .iaload, 1, 0, 0, 0),
  (82, .iconst 1, 1, 0, 0, 0), (83, .iadd, 1, 0, 0, 0), (84, .iastore, 1, 0, 0, 0), (85, .aload_n 0, 1, 0, 0, 0), (86, .getfield 13, 3, 9, 2, 0), (89, .iload 9, 2, 0, 0, 0), (91, .iload_n 1, 1, 0, 0, 0), (92, .iastore, 1, 0, 0, 0),
  (93, .aload_n 0, 1, 0, 0, 0), (94, .getfield 16, 3, 9, 3, 0), (97, .iload 9, 2, 0, 0, 0), (99, .iload_n 3, 1, 0, 0, 0), (100, .iconst 2, 1, 0, 0, 0), (101, .irem, 1, 0, 0, 0), (102, .iastore, 1, 0, 0, 0), (103, .aload_n 0, 1, 0, 0, 0),
  (104, .getfield 19, 3, 9, 4, 0), (107, .iload 9, 2, 0, 0, 0), (109, .iload 7, 2, 0, 0, 0), (111, .iastore, 1, 0, 0, 0), (112, .aload_n 0, 1, 0, 0, 0), (113, .getfield 22, 3, 9, 5, 0), (116, .iload 9, 2, 0, 0, 0), (118, .iload 4, 2, 0, 0, 0),
  (120, .iastore, 1, 0, 0, 0), (121, .aload_n 0, 1, 0, 0, 0), (122, .getfield 25, 3, 9, 6, 0), (125, .iload 9, 2, 0, 0, 0), (127, .iconst 0, 1, 0, 0, 0), (128, .iastore, 1, 0, 0, 0), (129, .aload_n 0, 1, 0, 0, 0), (130, .getfield 28, 3, 9, 7, 0),
  (133, .iload 9, 2, 0, 0, 0), (135, .iload 7, 2, 0, 0, 0), (137, .iconst 4, 1, 0, 0, 0), (138, .if_icmp .ne 8, 3, 0, 0, 0), (141, .iload 8, 2, 0, 0, 0), (143, .goto 5, 3, 0, 0, 0), (146, .iload 5, 2, 0, 0, 0), (148, .iastore, 1, 0, 0, 0),
  (149, .aload_n 0, 1, 0, 0, 0), (150, .getfield 31, 3, 9, 8, 0), (153, .iload 9, 2, 0, 0, 0), (155, .iload 7, 2, 0, 0, 0), (157, .iconst 5, 1, 0, 0, 0), (158, .if_icmp .ne 8, 3, 0, 0, 0), (161, .iload 8, 2, 0, 0, 0), (163, .goto 6, 3, 0, 0, 0),
  (166, .sipush 1000, 3, 0, 0, 0), (169, .iastore, 1, 0, 0, 0), (170, .aload_n 0, 1, 0, 0, 0), (171, .getfield 34, 3, 9, 9, 0), (174, .iload 9, 2, 0, 0, 0), (176, .iconst 0, 1, 0, 0, 0), (177, .iastore, 1, 0, 0, 0), (178, .aload_n 0, 1, 0, 0, 0),
  (179, .iload_n 1, 1, 0, 0, 0), (180, .iconst 1, 1, 0, 0, 0), (181, .iload 9, 2, 0, 0, 0), (183, .iload 4, 2, 0, 0, 0), (185, .aload_n 0, 1, 0, 0, 0), (186, .iload 9, 2, 0, 0, 0), (188, .invokevirtual 73, 3, 49, 2, 9), (191, .invokevirtual 76, 3, 48, 6, 9),
  (194, .aload_n 0, 1, 0, 0, 0), (195, .iload 9, 2, 0, 0, 0), (197, .invokevirtual 184, 3, 60, 2, 9), (200, .aload_n 0, 1, 0, 0, 0), (201, .iload 9, 2, 0, 0, 0), (203, .invokevirtual 162, 3, 73, 2, 9), (206, .ireturn, 1, 0, 0, 0)])
def mm67 : ma_M := (⟨RC9, "isOwn", "(II)Z"⟩, prog_11_method_37_code, 3, some .boolean, 2, 9, [
  (0, .iload_n 2, 1, 0, 0, 0), (1, .iconst 0, 1, 0, 0, 0), (2, .aload_n 0, 1, 0, 0, 0), (3, .getfield 7, 3, 9, 1, 0), (6, .iconst 3, 1, 0, 0, 0), (7, .iaload, 1, 0, 0, 0), (8, .iconst 1, 1, 0, 0, 0), (9, .isub, 1, 0, 0, 0),
  (10, .invokestatic 155, 3, 44, 3, 0), (13, .ifCond .eq 26, 3, 0, 0, 0), (16, .aload_n 0, 1, 0, 0, 0), (17, .getfield 25, 3, 9, 6, 0), (20, .iload_n 2, 1, 0, 0, 0), (21, .iaload, 1, 0, 0, 0), (22, .ifCond .eq 17, 3, 0, 0, 0), (25, .aload_n 0, 1, 0, 0, 0),
  (26, .getfield 13, 3, 9, 2, 0), (29, .iload_n 2, 1, 0, 0, 0), (30, .iaload, 1, 0, 0, 0), (31, .iload_n 1, 1, 0, 0, 0), (32, .if_icmp .ne 7, 3, 0, 0, 0), (35, .iconst 1, 1, 0, 0, 0), (36, .goto 4, 3, 0, 0, 0), (39, .iconst 0, 1, 0, 0, 0),
  (40, .ireturn, 1, 0, 0, 0)])
def mm68 : ma_M := (⟨RC9, "cancel", "(III)I"⟩, prog_11_method_38_code, 5, some .int, 3, 9, [
  (0, .aload_n 0, 1, 0, 0, 0), (1, .iload_n 1, 1, 0, 0, 0), (2, .iload_n 2, 1, 0, 0, 0), (3, .invokevirtual 174, 3, 71, 3, 9), (6, .istore 4, 2, 0, 0, 0), (8, .iload 4, 2, 0, 0, 0), (10, .ifCond .eq 6, 3, 0, 0, 0), (13, .iload 4, 2, 0, 0, 0),
  (15, .ireturn, 1, 0, 0, 0), (16, .aload_n 0, 1, 0, 0, 0), (17, .iload_n 1, 1, 0, 0, 0), (18, .iload_n 3, 1, 0, 0, 0), (19, .invokevirtual 187, 3, 77, 3, 9), (22, .ifCond .ne 9, 3, 0, 0, 0), (25, .aload_n 0, 1, 0, 0, 0), (26, .iload_n 1, 1, 0, 0, 0),
  (27, .invokevirtual 181, 3, 72, 2, 9), (30, .ireturn, 1, 0, 0, 0), (31, .aload_n 0, 1, 0, 0, 0), (32, .iload_n 3, 1, 0, 0, 0), (33, .invokevirtual 111, 3, 51, 2, 9), (36, .aload_n 0, 1, 0, 0, 0), (37, .iconst 0, 1, 0, 0, 0), (38, .invokevirtual 162, 3, 73, 2, 9),
  (41, .ireturn, 1, 0, 0, 0)])
def mm69 : ma_M := (⟨RC9, "replace", "(IIIII)I"⟩, prog_11_method_39_code, 8, some .int, 5, 9, [
  (0, .aload_n 0, 1, 0, 0, 0), (1, .iload_n 1, 1, 0, 0, 0), (2, .iload_n 2, 1, 0, 0, 0), (3, .invokevirtual 174, 3, 71, 3, 9), (6, .istore 6, 2, 0, 0, 0), (8, .iload 6, 2, 0, 0, 0), (10, .ifCond .eq 6, 3, 0, 0, 0), (13, .iload 6, 2, 0, 0, 0),
  (15, .ireturn, 1, 0, 0, 0), (16, .aload_n 0, 1, 0, 0, 0), (17, .iload_n 1, 1, 0, 0, 0), (18, .iload_n 3, 1, 0, 0, 0), (19, .invokevirtual 187, 3, 77, 3, 9), (22, .ifCond .eq 37, 3, 0, 0, 0), (25, .aload_n 0, 1, 0, 0, 0), (26, .getfield 25, 3, 9, 6, 0),
  (29, .iload_n 3, 1, 0, 0, 0), (30, .iaload, 1, 0, 0, 0), (31, .iconst 1, 1, 0, 0, 0), (32, .if_icmp .ne 27, 3, 0, 0, 0), (35, .iload 4, 2, 0, 0, 0), (37, .iconst 1, 1, 0, 0, 0), (38, .sipush 1000, 3, 0, 0, 0), (41, .invokestatic 155, 3, 44, 3, 0),
  (44, .ifCond .eq 15, 3, 0, 0, 0), (47, .iload 5, 2, 0, 0, 0), (49, .iconst 1, 1, 0, 0, 0), (50, .sipush 999, 3, 0, 0, 0), (53, .invokestatic 155, 3, 44, 3, 0), (56, .ifCond .ne 9, 3, 0, 0, 0), (59, .aload_n 0, 1, 0, 0, 0), (60, .iload_n 1, 1, 0, 0, 0),
  (61, .invokevirtual 181, 3, 72, 2, 9), (64, .ireturn, 1, 0, 0, 0), (65, .aload_n 0, 1, 0, 0, 0), (66, .getfield 19, 3, 9, 4, 0), (69, .iload_n 3, 1, 0, 0, 0), (70, .iaload, 1, 0, 0, 0), (71, .iconst 5, 1, 0, 0, 0), (72, .if_icmp .ne 23, 3, 0, 0, 0),
  (75, .bipush 10, 2, 0, 0, 0), (77, .aload_n 0, 1, 0, 0, 0), (78, .getfield 31, 3, 9, 8, 0), (81, .iload_n 3, 1, 0, 0, 0), (82, .iaload, 1, 0, 0, 0), (83, .imul, 1, 0, 0, 0), (84, .iload 4, 2, 0, 0, 0), (86, .if_icmp .ge 9, 3, 0, 0, 0),
  (89, .aload_n 0, 1, 0, 0, 0), (90, .iload_n 1, 1, 0, 0, 0), (91, .invokevirtual 181, 3, 72, 2, 9), (94, .ireturn, 1, 0, 0, 0), (95, .aload_n 0, 1, 0, 0, 0), (96, .iload_n 1, 1, 0, 0, 0), (97, .iconst 5, 1, 0, 0, 0), (98, .iload_n 3, 1, 0, 0, 0),
  (99, .iload 4, 2, 0, 0, 0), (101, .iload 5, 2, 0, 0, 0), (103, .invokevirtual 76, 3, 48, 6, 9), (106, .iload 5, 2, 0, 0, 0), (108, .aload_n 0, 1, 0, 0, 0), (109, .getfield 28, 3, 9, 7, 0), (112, .iload_n 3, 1, 0, 0, 0), (113, .iaload, 1, 0, 0, 0),
  (114, .if_icmp .ne 18, 3, 0, 0, 0), (117, .iload 4, 2, 0, 0, 0), (119, .aload_n 0, 1, 0, 0, 0), (120, .getfield 22, 3, 9, 5, 0), (123, .iload_n 3, 1, 0, 0, 0), (124, .iaload, 1, 0, 0, 0), (125, .if_icmp .gt 7, 3, 0, 0, 0), (128, .iconst 1, 1, 0, 0, 0),
  (129, .goto 4, 3, 0, 0, 0), (132, .iconst 0, 1, 0, 0, 0), (133, .istore 7, 2, 0, 0, 0), (135, .aload_n 0, 1, 0, 0, 0), (136, .getfield 22, 3, 9, 5, 0), (139, .iload_n 3, 1, 0, 0, 0), (140, .iload 4, 2, 0, 0, 0), (142, .iastore, 1, 0, 0, 0),
  (143, .aload_n 0, 1, 0, 0, 0), (144, .getfield 28, 3, 9, 7, 0), (147, .iload_n 3, 1, 0, 0, 0), (148, .iload 5, 2, 0, 0, 0), (150, .iastore, 1, 0, 0, 0), (151, .iload 7, 2, 0, 0, 0), (153, .ifCond .eq 23, 3, 0, 0, 0), (156, .aload_n 0, 1, 0, 0, 0),
  (157, .getfield 34, 3, 9, 9, 0), (160, .iload_n 3, 1, 0, 0, 0), (161, .aload_n 0, 1, 0, 0, 0), (162, .getfield 34, 3, 9, 9, 0), (165, .iload_n 3, 1, 0, 0, 0), (166, .iaload, 1, 0, 0, 0), (167, .iload 4, 2, 0, 0, 0), (169, .invokestatic 88, 3, 43, 2, 0),
  (172, .iastore, 1, 0, 0, 0), (173, .goto 22, 3, 0, 0, 0), (176, .aload_n 0, 1, 0, 0, 0), (177, .getfield 25, 3, 9, 6, 0), (180, .iload_n 3, 1, 0, 0, 0), (181, .iconst 0, 1, 0, 0, 0), (182, .iastore, 1, 0, 0, 0), (183, .aload_n 0, 1, 0, 0, 0),
  (184, .getfield 34, 3, 9, 9, 0), (187, .iload_n 3, 1, 0, 0, 0), (188, .iconst 0, 1, 0, 0, 0), (189, .iastore, 1, 0, 0, 0), (190, .aload_n 0, 1, 0, 0, 0), (191, .iload_n 3, 1, 0, 0, 0), (192, .invokevirtual 184, 3, 60, 2, 9), (195, .aload_n 0, 1, 0, 0, 0),
  (196, .iconst 0, 1, 0, 0, 0), (197, .invokevirtual 162, 3, 73, 2, 9), (200, .ireturn, 1, 0, 0, 0)])
def mm70 : ma_M := (⟨RC9, "isStep", "(II)Z"⟩, prog_11_method_40_code, 2, some .boolean, 2, 99, [
  (0, .iload_n 0, 1, 0, 0, 0), (1, .ifCond .ne 8, 3, 0, 0, 0), (4, .iload_n 1, 1, 0, 0, 0), (5, .iconst 1, 1, 0, 0, 0), (6, .if_icmp .eq 47, 3, 0, 0, 0), (9, .iload_n 0, 1, 0, 0, 0), (10, .iconst 1, 1, 0, 0, 0), (11, .if_icmp .ne 8, 3, 0, 0, 0),
  (14, .iload_n 1, 1, 0, 0, 0), (15, .iconst 2, 1, 0, 0, 0), (16, .if_icmp .eq 37, 3, 0, 0, 0), (19, .iload_n 0, 1, 0, 0, 0), (20, .iconst 2, 1, 0, 0, 0), (21, .if_icmp .ne 13, 3, 0, 0, 0), (24, .iload_n 1, 1, 0, 0, 0), (25, .iconst 3, 1, 0, 0, 0),
  (26, .if_icmp .eq 27, 3, 0, 0, 0), (29, .iload_n 1, 1, 0, 0, 0), (30, .iconst 4, 1, 0, 0, 0), (31, .if_icmp .eq 22, 3, 0, 0, 0), (34, .iload_n 0, 1, 0, 0, 0), (35, .iconst 4, 1, 0, 0, 0), (36, .if_icmp .ne 8, 3, 0, 0, 0), (39, .iload_n 1, 1, 0, 0, 0),
  (40, .iconst 2, 1, 0, 0, 0), (41, .if_icmp .eq 12, 3, 0, 0, 0), (44, .iload_n 0, 1, 0, 0, 0), (45, .iconst 3, 1, 0, 0, 0), (46, .if_icmp .ne 11, 3, 0, 0, 0), (49, .iload_n 1, 1, 0, 0, 0), (50, .ifCond .ne 7, 3, 0, 0, 0), (53, .iconst 1, 1, 0, 0, 0),
  (54, .goto 4, 3, 0, 0, 0), (57, .iconst 0, 1, 0, 0, 0), (58, .ireturn, 1, 0, 0, 0)])
def mm71 : ma_M := (⟨RC9, "phase", "(I)Z"⟩, prog_11_method_41_code, 3, some .boolean, 1, 9, [
  (0, .aload_n 0, 1, 0, 0, 0), (1, .getfield 7, 3, 9, 1, 0), (4, .iconst 0, 1, 0, 0, 0), (5, .iaload, 1, 0, 0, 0), (6, .iload_n 1, 1, 0, 0, 0), (7, .invokestatic 190, 3, 80, 2, 0), (10, .ifCond .ne 5, 3, 0, 0, 0), (13, .iconst 0, 1, 0, 0, 0),
  (14, .ireturn, 1, 0, 0, 0), (15, .aload_n 0, 1, 0, 0, 0), (16, .invokevirtual 159, 3, 69, 1, 9), (19, .aload_n 0, 1, 0, 0, 0), (20, .invokevirtual 117, 3, 46, 1, 9), (23, .ifCond .eq 7, 3, 0, 0, 0), (26, .aload_n 0, 1, 0, 0, 0), (27, .invokevirtual 193, 3, 67, 1, 9),
  (30, .aload_n 0, 1, 0, 0, 0), (31, .getfield 7, 3, 9, 1, 0), (34, .iconst 0, 1, 0, 0, 0), (35, .iload_n 1, 1, 0, 0, 0), (36, .iastore, 1, 0, 0, 0), (37, .iconst 0, 1, 0, 0, 0), (38, .istore_n 2, 1, 0, 0, 0), (39, .iload_n 2, 1, 0, 0, 0),
  (40, .aload_n 0, 1, 0, 0, 0), (41, .getfield 7, 3, 9, 1, 0), (44, .iconst 3, 1, 0, 0, 0), (45, .iaload, 1, 0, 0, 0), (46, .if_icmp .ge 27, 3, 0, 0, 0), (49, .iload_n 1, 1, 0, 0, 0), (50, .ifCond .ne 23, 3, 0, 0, 0), (53, .aload_n 0, 1, 0, 0, 0),
  (54, .getfield 25, 3, 9, 6, 0), (57, .iload_n 2, 1, 0, 0, 0), (58, .iaload, 1, 0, 0, 0), (59, .ifCond .eq 8, 3, 0, 0, 0), (62, .aload_n 0, 1, 0, 0, 0), (63, .iload_n 2, 1, 0, 0, 0), (64, .invokevirtual 111, 3, 51, 2, 9), (67, .iinc 2 1, 3, 0, 0, 0),
  (70, .goto (-31), 3, 0, 0, 0), (73, .aload_n 0, 1, 0, 0, 0), (74, .iconst 0, 1, 0, 0, 0), (75, .invokevirtual 162, 3, 73, 2, 9), (78, .istore_n 2, 1, 0, 0, 0), (79, .iload_n 2, 1, 0, 0, 0), (80, .ifCond .ne 7, 3, 0, 0, 0), (83, .iconst 1, 1, 0, 0, 0),
  (84, .goto 4, 3, 0, 0, 0), (87, .iconst 0, 1, 0, 0, 0), (88, .ireturn, 1, 0, 0, 0)])
def mm72 : ma_M := (⟨RC9, "save", "()I"⟩, prog_11_method_42_code, 1, some .int, 0, 9, [
  (0, .aload_n 0, 1, 0, 0, 0), (1, .iconst 0, 1, 0, 0, 0), (2, .iconst 1, 1, 0, 0, 0), (3, .invokevirtual 69, 3, 45, 3, 9), (6, .aload_n 0, 1, 0, 0, 0), (7, .getfield 7, 3, 9, 1, 0), (10, .iconst 3, 1, 0, 0, 0), (11, .iaload, 1, 0, 0, 0),
  (12, .ireturn, 1, 0, 0, 0)])
def mm73 : ma_M := (⟨RC9, "crash", "()I"⟩, prog_11_method_43_code, 1, some .int, 0, 9, [
  (0, .aload_n 0, 1, 0, 0, 0), (1, .invokevirtual 159, 3, 69, 1, 9), (4, .aload_n 0, 1, 0, 0, 0), (5, .iconst 1, 1, 0, 0, 0), (6, .iconst 0, 1, 0, 0, 0), (7, .invokevirtual 69, 3, 45, 3, 9), (10, .aload_n 0, 1, 0, 0, 0), (11, .invokevirtual 168, 3, 70, 1, 9),
  (14, .aload_n 0, 1, 0, 0, 0), (15, .getfield 7, 3, 9, 1, 0), (18, .iconst 3, 1, 0, 0, 0), (19, .iaload, 1, 0, 0, 0), (20, .ireturn, 1, 0, 0, 0)])
def mm74 : ma_M := (⟨RC9, "market", "(I)I"⟩, prog_11_method_44_code, 2, some .int, 1, 9, [
  (0, .iload_n 1, 1, 0, 0, 0), (1, .iconst 4, 1, 0, 0, 0), (2, .if_icmp .lt 13, 3, 0, 0, 0), (5, .iload_n 1, 1, 0, 0, 0), (6, .bipush 6, 2, 0, 0, 0), (8, .if_icmp .gt 7, 3, 0, 0, 0), (11, .aload_n 0, 1, 0, 0, 0), (12, .invokevirtual 143, 3, 65, 1, 9),
  (15, .iload_n 1, 1, 0, 0, 0), (16, .tableswitch 71 0 6 #[44, 44, 44, 51, 56, 61, 66], 44, 0, 0, 0), (60, .aload_n 0, 1, 0, 0, 0), (61, .getfield 7, 3, 9, 1, 0), (64, .iload_n 1, 1, 0, 0, 0), (65, .iaload, 1, 0, 0, 0), (66, .ireturn, 1, 0, 0, 0), (67, .aload_n 0, 1, 0, 0, 0),
  (68, .invokevirtual 171, 3, 47, 1, 9), (71, .ireturn, 1, 0, 0, 0), (72, .aload_n 0, 1, 0, 0, 0), (73, .getfield 137, 3, 9, 15, 0), (76, .ireturn, 1, 0, 0, 0), (77, .aload_n 0, 1, 0, 0, 0), (78, .getfield 131, 3, 9, 16, 0), (81, .ireturn, 1, 0, 0, 0),
  (82, .aload_n 0, 1, 0, 0, 0), (83, .getfield 134, 3, 9, 17, 0), (86, .ireturn, 1, 0, 0, 0), (87, .iconst (-1), 1, 0, 0, 0), (88, .ireturn, 1, 0, 0, 0)])
def mm75 : ma_M := (⟨RC9, "isLevel", "(II)Z"⟩, prog_11_method_45_code, 2, some .boolean, 2, 99, [
  (0, .iload_n 0, 1, 0, 0, 0), (1, .iconst 0, 1, 0, 0, 0), (2, .iconst 1, 1, 0, 0, 0), (3, .invokestatic 155, 3, 44, 3, 0), (6, .ifCond .eq 18, 3, 0, 0, 0), (9, .iload_n 1, 1, 0, 0, 0), (10, .iconst 1, 1, 0, 0, 0), (11, .sipush 999, 3, 0, 0, 0),
  (14, .invokestatic 155, 3, 44, 3, 0), (17, .ifCond .eq 7, 3, 0, 0, 0), (20, .iconst 1, 1, 0, 0, 0), (21, .goto 4, 3, 0, 0, 0), (24, .iconst 0, 1, 0, 0, 0), (25, .ireturn, 1, 0, 0, 0)])
def mm76 : ma_M := (⟨RC9, "shown", "(II)I"⟩, prog_11_method_46_code, 3, some .int, 2, 9, [
  (0, .iload_n 1, 1, 0, 0, 0), (1, .iload_n 2, 1, 0, 0, 0), (2, .invokestatic 196, 3, 85, 2, 0), (5, .ifCond .eq 12, 3, 0, 0, 0), (8, .aload_n 0, 1, 0, 0, 0), (9, .iload_n 1, 1, 0, 0, 0), (10, .iload_n 2, 1, 0, 0, 0), (11, .invokevirtual 152, 3, 68, 3, 9),
  (14, .goto 4, 3, 0, 0, 0), (17, .iconst 0, 1, 0, 0, 0), (18, .ireturn, 1, 0, 0, 0)])
def mm77 : ma_M := (⟨RC9, "best", "(I)I"⟩, prog_11_method_47_code, 3, some .int, 1, 9, [
  (0, .iload_n 1, 1, 0, 0, 0), (1, .iconst 0, 1, 0, 0, 0), (2, .iconst 1, 1, 0, 0, 0), (3, .invokestatic 155, 3, 44, 3, 0), (6, .ifCond .eq 12, 3, 0, 0, 0), (9, .aload_n 0, 1, 0, 0, 0), (10, .iload_n 1, 1, 0, 0, 0), (11, .iconst (-1), 1, 0, 0, 0),
  (12, .invokevirtual 95, 3, 54, 3, 9), (15, .goto 4, 3, 0, 0, 0), (18, .iconst (-1), 1, 0, 0, 0), (19, .istore_n 2, 1, 0, 0, 0), (20, .iload_n 2, 1, 0, 0, 0), (21, .ifCond .ge 7, 3, 0, 0, 0), (24, .iconst 0, 1, 0, 0, 0), (25, .goto 9, 3, 0, 0, 0),
  (28, .aload_n 0, 1, 0, 0, 0), (29, .getfield 28, 3, 9, 7, 0), (32, .iload_n 2, 1, 0, 0, 0), (33, .iaload, 1, 0, 0, 0), (34, .ireturn, 1, 0, 0, 0)])
def mm78 : ma_M := (⟨RC9, "placeOf", "(I)I"⟩, prog_11_method_48_code, 4, some .int, 1, 9, [
  (0, .iconst 0, 1, 0, 0, 0), (1, .istore_n 2, 1, 0, 0, 0), (2, .iconst 0, 1, 0, 0, 0), (3, .istore_n 3, 1, 0, 0, 0), (4, .iload_n 3, 1, 0, 0, 0), (5, .aload_n 0, 1, 0, 0, 0), (6, .getfield 7, 3, 9, 1, 0), (9, .iconst 3, 1, 0, 0, 0),
  (10, .iaload, 1, 0, 0, 0), (11, .if_icmp .ge 56, 3, 0, 0, 0), (14, .iload_n 2, 1, 0, 0, 0), (15, .aload_n 0, 1, 0, 0, 0), (16, .getfield 25, 3, 9, 6, 0), (19, .iload_n 3, 1, 0, 0, 0), (20, .iaload, 1, 0, 0, 0), (21, .iconst 1, 1, 0, 0, 0),
  (22, .if_icmp .ne 36, 3, 0, 0, 0), (25, .aload_n 0, 1, 0, 0, 0), (26, .getfield 16, 3, 9, 3, 0), (29, .iload_n 3, 1, 0, 0, 0), (30, .iaload, 1, 0, 0, 0), (31, .aload_n 0, 1, 0, 0, 0), (32, .getfield 16, 3, 9, 3, 0), (35, .iload_n 1, 1, 0, 0, 0),
  (36, .iaload, 1, 0, 0, 0), (37, .if_icmp .ne 21, 3, 0, 0, 0), (40, .iload_n 3, 1, 0, 0, 0), (41, .iload_n 1, 1, 0, 0, 0), (42, .if_icmp .eq 16, 3, 0, 0, 0), (45, .aload_n 0, 1, 0, 0, 0), (46, .iload_n 3, 1, 0, 0, 0), (47, .iload_n 1, 1, 0, 0, 0),
  (48, .invokevirtual 84, 3, 53, 3, 9), (51, .ifCond .eq 7, 3, 0, 0, 0), (54, .iconst 1, 1, 0, 0, 0), (55, .goto 4, 3, 0, 0, 0), (58, .iconst 0, 1, 0, 0, 0), (59, .iadd, 1, 0, 0, 0), (60, .istore_n 2, 1, 0, 0, 0), (61, .iinc 3 1, 3, 0, 0, 0),
  (64, .goto (-60), 3, 0, 0, 0), (67, .iload_n 2, 1, 0, 0, 0), (68, .ireturn, 1, 0, 0, 0)])
def mm79 : ma_M := (⟨RC9, "about", "(II)I"⟩, prog_11_method_49_code, 3, some .int, 2, 9, [
  (0, .iload_n 1, 1, 0, 0, 0), (1, .iconst 0, 1, 0, 0, 0), (2, .aload_n 0, 1, 0, 0, 0), (3, .getfield 7, 3, 9, 1, 0), (6, .iconst 3, 1, 0, 0, 0), (7, .iaload, 1, 0, 0, 0), (8, .iconst 1, 1, 0, 0, 0), (9, .isub, 1, 0, 0, 0),
  (10, .invokestatic 155, 3, 44, 3, 0), (13, .ifCond .ne 5, 3, 0, 0, 0), (16, .iconst (-1), 1, 0, 0, 0), (17, .ireturn, 1, 0, 0, 0), (18, .iload_n 2, 1, 0, 0, 0), (19, .tableswitch 105 0 5 #[37, 44, 51, 71, 78, 85], 37, 0, 0, 0), (56, .aload_n 0, 1, 0, 0, 0), (57, .getfield 25, 3, 9, 6, 0),
  (60, .iload_n 1, 1, 0, 0, 0), (61, .iaload, 1, 0, 0, 0), (62, .ireturn, 1, 0, 0, 0), (63, .aload_n 0, 1, 0, 0, 0), (64, .getfield 22, 3, 9, 5, 0), (67, .iload_n 1, 1, 0, 0, 0), (68, .iaload, 1, 0, 0, 0), (69, .ireturn, 1, 0, 0, 0),
  (70, .aload_n 0, 1, 0, 0, 0), (71, .getfield 25, 3, 9, 6, 0), (74, .iload_n 1, 1, 0, 0, 0), (75, .iaload, 1, 0, 0, 0), (76, .ifCond .ne 7, 3, 0, 0, 0), (79, .iconst 0, 1, 0, 0, 0), (80, .goto 9, 3, 0, 0, 0), (83, .aload_n 0, 1, 0, 0, 0),
  (84, .getfield 28, 3, 9, 7, 0), (87, .iload_n 1, 1, 0, 0, 0), (88, .iaload, 1, 0, 0, 0), (89, .ireturn, 1, 0, 0, 0), (90, .aload_n 0, 1, 0, 0, 0), (91, .getfield 34, 3, 9, 9, 0), (94, .iload_n 1, 1, 0, 0, 0), (95, .iaload, 1, 0, 0, 0),
  (96, .ireturn, 1, 0, 0, 0), (97, .aload_n 0, 1, 0, 0, 0), (98, .getfield 13, 3, 9, 2, 0), (101, .iload_n 1, 1, 0, 0, 0), (102, .iaload, 1, 0, 0, 0), (103, .ireturn, 1, 0, 0, 0), (104, .aload_n 0, 1, 0, 0, 0), (105, .getfield 25, 3, 9, 6, 0),
  (108, .iload_n 1, 1, 0, 0, 0), (109, .iaload, 1, 0, 0, 0), (110, .iconst 1, 1, 0, 0, 0), (111, .if_icmp .ne 11, 3, 0, 0, 0), (114, .aload_n 0, 1, 0, 0, 0), (115, .iload_n 1, 1, 0, 0, 0), (116, .invokevirtual 199, 3, 88, 2, 9), (119, .goto 4, 3, 0, 0, 0),
  (122, .iconst (-1), 1, 0, 0, 0), (123, .ireturn, 1, 0, 0, 0), (124, .iconst (-1), 1, 0, 0, 0), (125, .ireturn, 1, 0, 0, 0)])
def mm80 : ma_M := (⟨RC9, "session", "(II)I"⟩, prog_11_method_50_code, 3, some .int, 2, 9, [
  (0, .iload_n 1, 1, 0, 0, 0), (1, .iconst 0, 1, 0, 0, 0), (2, .iconst 3, 1, 0, 0, 0), (3, .invokestatic 155, 3, 44, 3, 0), (6, .ifCond .eq 12, 3, 0, 0, 0), (9, .iload_n 2, 1, 0, 0, 0), (10, .iconst 0, 1, 0, 0, 0), (11, .iconst 1, 1, 0, 0, 0),
  (12, .invokestatic 155, 3, 44, 3, 0), (15, .ifCond .ne 7, 3, 0, 0, 0), (18, .iconst (-1), 1, 0, 0, 0), (19, .goto 20, 3, 0, 0, 0), (22, .aload_n 0, 1, 0, 0, 0), (23, .getfield 7, 3, 9, 1, 0), (26, .iload_n 2, 1, 0, 0, 0), (27, .ifCond .ne 7, 3, 0, 0, 0),
  (30, .iconst 4, 1, 0, 0, 0), (31, .goto 5, 3, 0, 0, 0), (34, .bipush 12, 2, 0, 0, 0), (36, .iload_n 1, 1, 0, 0, 0), (37, .iadd, 1, 0, 0, 0), (38, .iaload, 1, 0, 0, 0), (39, .ireturn, 1, 0, 0, 0)])
def mm81 : ma_M := (⟨RC9, "report", "(III)I"⟩, prog_11_method_51_code, 5, some .int, 3, 9, [
  (0, .iload_n 1, 1, 0, 0, 0), (1, .iconst 0, 1, 0, 0, 0), (2, .iconst 3, 1, 0, 0, 0), (3, .invokestatic 155, 3, 44, 3, 0), (6, .ifCond .eq 35, 3, 0, 0, 0), (9, .iload_n 2, 1, 0, 0, 0), (10, .iconst 0, 1, 0, 0, 0), (11, .bipush 31, 2, 0, 0, 0),
  (13, .invokestatic 155, 3, 44, 3, 0), (16, .ifCond .eq 25, 3, 0, 0, 0), (19, .iload_n 3, 1, 0, 0, 0), (20, .iconst 0, 1, 0, 0, 0), (21, .iconst 3, 1, 0, 0, 0), (22, .invokestatic 155, 3, 44, 3, 0), (25, .ifCond .eq 16, 3, 0, 0, 0), (28, .iload_n 2, 1, 0, 0, 0),
  (29, .aload_n 0, 1, 0, 0, 0), (30, .getfield 7, 3, 9, 1, 0), (33, .bipush 12, 2, 0, 0, 0), (35, .iload_n 1, 1, 0, 0, 0), (36, .iadd, 1, 0, 0, 0), (37, .iaload, 1, 0, 0, 0), (38, .if_icmp .lt 5, 3, 0, 0, 0), (41, .iconst (-1), 1, 0, 0, 0),
  (42, .ireturn, 1, 0, 0, 0), (43, .aload_n 0, 1, 0, 0, 0), (44, .getfield 7, 3, 9, 1, 0), (47, .bipush 12, 2, 0, 0, 0), (49, .iload_n 1, 1, 0, 0, 0), (50, .iadd, 1, 0, 0, 0), (51, .iaload, 1, 0, 0, 0), (52, .iconst 1, 1, 0, 0, 0),
  (53, .isub, 1, 0, 0, 0), (54, .iload_n 2, 1, 0, 0, 0), (55, .isub, 1, 0, 0, 0), (56, .istore 4, 2, 0, 0, 0), (58, .aload_n 0, 1, 0, 0, 0), (59, .getfield 40, 3, 9, 12, 0), (62, .sipush 128, 3, 0, 0, 0), (65, .iload_n 1, 1, 0, 0, 0),
  (66, .imul, 1, 0, 0, 0), (67, .iconst 4, 1, 0, 0, 0), (68, .iload 4, 2, 0, 0, 0), (70, .bipush 32, 2, 0, 0, 0), (72, .irem, 1, 0, 0, 0), (73, .imul, 1, 0, 0, 0), (74, .iadd, 1, 0, 0, 0), (75, .iload_n 3, 1, 0, 0, 0),
  (76, .iadd, 1, 0, 0, 0), (77, .iaload, 1, 0, 0, 0), (78, .ireturn, 1, 0, 0, 0)])
def mm82 : ma_M := (⟨RC9, "feed", "()I"⟩, prog_11_method_52_code, 1, some .int, 0, 9, [
  (0, .aload_n 0, 1, 0, 0, 0), (1, .getfield 149, 3, 9, 22, 0), (4, .ireturn, 1, 0, 0, 0)])
def mm83 : ma_M := (⟨RC9, "take", "(I)I"⟩, prog_11_method_53_code, 2, some .int, 1, 9, [
  (0, .iload_n 1, 1, 0, 0, 0), (1, .ifCond .lt 22, 3, 0, 0, 0), (4, .iload_n 1, 1, 0, 0, 0), (5, .aload_n 0, 1, 0, 0, 0), (6, .getfield 149, 3, 9, 22, 0), (9, .if_icmp .ge 14, 3, 0, 0, 0), (12, .iload_n 1, 1, 0, 0, 0), (13, .aload_n 0, 1, 0, 0, 0),
  (14, .getfield 149, 3, 9, 22, 0), (17, .bipush 64, 2, 0, 0, 0), (19, .isub, 1, 0, 0, 0), (20, .if_icmp .ge 5, 3, 0, 0, 0), (23, .iconst (-1), 1, 0, 0, 0), (24, .ireturn, 1, 0, 0, 0), (25, .iload_n 1, 1, 0, 0, 0), (26, .aload_n 0, 1, 0, 0, 0),
  (27, .getfield 202, 3, 9, 23, 0), (30, .if_icmp .eq 18, 3, 0, 0, 0), (33, .iload_n 1, 1, 0, 0, 0), (34, .aload_n 0, 1, 0, 0, 0), (35, .getfield 202, 3, 9, 23, 0), (38, .if_icmp .ge 7, 3, 0, 0, 0), (41, .iconst 0, 1, 0, 0, 0), (42, .goto 5, 3, 0, 0, 0),
  (45, .bipush (-2), 2, 0, 0, 0), (47, .ireturn, 1, 0, 0, 0), (48, .aload_n 0, 1, 0, 0, 0), (49, .getfield 52, 3, 9, 19, 0), (52, .aload_n 0, 1, 0, 0, 0), (53, .getfield 55, 3, 9, 20, 0), (56, .iload_n 1, 1, 0, 0, 0), (57, .bipush 64, 2, 0, 0, 0),
  (59, .irem, 1, 0, 0, 0), (60, .iaload, 1, 0, 0, 0), (61, .aload_n 0, 1, 0, 0, 0), (62, .getfield 58, 3, 9, 21, 0), (65, .iload_n 1, 1, 0, 0, 0), (66, .bipush 64, 2, 0, 0, 0), (68, .irem, 1, 0, 0, 0), (69, .iaload, 1, 0, 0, 0),
  (70, .iastore, 1, 0, 0, 0), (71, .aload_n 0, 1, 0, 0, 0), (72, .dup, 1, 0, 0, 0), (73, .getfield 202, 3, 9, 23, 0), (76, .iconst 1, 1, 0, 0, 0), (77, .iadd, 1, 0, 0, 0), (78, .putfield 202, 3, 9, 23, 0), (81, .iconst 1, 1, 0, 0, 0),
  (82, .ireturn, 1, 0, 0, 0)])
def mm84 : ma_M := (⟨RC9, "refresh", "()I"⟩, prog_11_method_54_code, 2, some .int, 0, 9, [
  (0, .iconst 0, 1, 0, 0, 0), (1, .istore_n 1, 1, 0, 0, 0), (2, .iload_n 1, 1, 0, 0, 0), (3, .sipush 2000, 3, 0, 0, 0), (6, .if_icmp .ge 16, 3, 0, 0, 0), (9, .aload_n 0, 1, 0, 0, 0), (10, .getfield 52, 3, 9, 19, 0), (13, .iload_n 1, 1, 0, 0, 0),
  (14, .iconst 0, 1, 0, 0, 0), (15, .iastore, 1, 0, 0, 0), (16, .iinc 1 1, 3, 0, 0, 0), (19, .goto (-17), 3, 0, 0, 0), (22, .iconst 0, 1, 0, 0, 0), (23, .istore_n 1, 1, 0, 0, 0), (24, .iload_n 1, 1, 0, 0, 0), (25, .aload_n 0, 1, 0, 0, 0),
  (26, .getfield 7, 3, 9, 1, 0), (29, .iconst 3, 1, 0, 0, 0), (30, .iaload, 1, 0, 0, 0), (31, .if_icmp .ge 50, 3, 0, 0, 0), (34, .aload_n 0, 1, 0, 0, 0), (35, .getfield 25, 3, 9, 6, 0), (38, .iload_n 1, 1, 0, 0, 0), (39, .iaload, 1, 0, 0, 0),
  (40, .iconst 1, 1, 0, 0, 0), (41, .if_icmp .ne 34, 3, 0, 0, 0), (44, .aload_n 0, 1, 0, 0, 0), (45, .getfield 52, 3, 9, 19, 0), (48, .sipush 1000, 3, 0, 0, 0), (51, .aload_n 0, 1, 0, 0, 0), (52, .getfield 16, 3, 9, 3, 0), (55, .iload_n 1, 1, 0, 0, 0),
  (56, .iaload, 1, 0, 0, 0), (57, .imul, 1, 0, 0, 0), (58, .aload_n 0, 1, 0, 0, 0), (59, .getfield 28, 3, 9, 7, 0), (62, .iload_n 1, 1, 0, 0, 0), (63, .iaload, 1, 0, 0, 0), (64, .iadd, 1, 0, 0, 0), (65, .dup2, 1, 0, 0, 0),
  (66, .iaload, 1, 0, 0, 0), (67, .aload_n 0, 1, 0, 0, 0), (68, .getfield 34, 3, 9, 9, 0), (71, .iload_n 1, 1, 0, 0, 0), (72, .iaload, 1, 0, 0, 0), (73, .iadd, 1, 0, 0, 0), (74, .iastore, 1, 0, 0, 0), (75, .iinc 1 1, 3, 0, 0, 0),
  (78, .goto (-54), 3, 0, 0, 0), (81, .aload_n 0, 1, 0, 0, 0), (82, .aload_n 0, 1, 0, 0, 0), (83, .getfield 149, 3, 9, 22, 0), (86, .putfield 202, 3, 9, 23, 0), (89, .aload_n 0, 1, 0, 0, 0), (90, .getfield 202, 3, 9, 23, 0), (93, .ireturn, 1, 0, 0, 0)])
def mm85 : ma_M := (⟨RC9, "seen", "(II)I"⟩, prog_11_method_55_code, 3, some .int, 2, 9, [
  (0, .iload_n 1, 1, 0, 0, 0), (1, .iload_n 2, 1, 0, 0, 0), (2, .invokestatic 196, 3, 85, 2, 0), (5, .ifCond .eq 18, 3, 0, 0, 0), (8, .aload_n 0, 1, 0, 0, 0), (9, .getfield 52, 3, 9, 19, 0), (12, .sipush 1000, 3, 0, 0, 0), (15, .iload_n 1, 1, 0, 0, 0),
  (16, .imul, 1, 0, 0, 0), (17, .iload_n 2, 1, 0, 0, 0), (18, .iadd, 1, 0, 0, 0), (19, .iaload, 1, 0, 0, 0), (20, .goto 4, 3, 0, 0, 0), (23, .iconst 0, 1, 0, 0, 0), (24, .ireturn, 1, 0, 0, 0)])
def mm86 : ma_M := (⟨RC9, "next", "()I"⟩, prog_11_method_56_code, 1, some .int, 0, 9, [
  (0, .aload_n 0, 1, 0, 0, 0), (1, .getfield 202, 3, 9, 23, 0), (4, .ireturn, 1, 0, 0, 0)])
def mm87 : ma_M := (⟨RC1, "<init>", "()V"⟩, prog_2_method_1_code, 1, none, 0, 1, [
  (0, .aload_n 0, 1, 0, 0, 0), (1, .invokespecial 3, 3, 5, 0, 0), (4, .return_, 1, 0, 0, 0)])
def mm88 : ma_M := (⟨RC1, "findPrice", "(LPhaseBook$Book;I)V"⟩, prog_2_method_2_code, 12, none, 2, 1, [
  (0, .aload_n 0, 1, 0, 0, 0), (1, .iconst 0, 1, 0, 0, 0), (2, .putfield 9, 3, 1, 0, 0), (5, .aload_n 0, 1, 0, 0, 0), (6, .iconst 0, 1, 0, 0, 0), (7, .putfield 15, 3, 1, 1, 0), (10, .aload_n 0, 1, 0, 0, 0), (11, .iconst 0, 1, 0, 0, 0),
  (12, .putfield 18, 3, 1, 2, 0), (15, .aload_n 1, 1, 0, 0, 0), (16, .iconst 1, 1, 0, 0, 0), (17, .invokevirtual 21, 3, 107, 2, 2), (20, .istore_n 3, 1, 0, 0, 0), (21, .iload_n 3, 1, 0, 0, 0), (22, .ifCond .ne 4, 3, 0, 0, 0), (25, .return_, 1, 0, 0, 0),
  (26, .aload_n 1, 1, 0, 0, 0), (27, .getfield 27, 3, 2, 9, 0), (30, .iconst 0, 1, 0, 0, 0), (31, .aaload, 1, 0, 0, 0), (32, .astore 4, 2, 0, 0, 0), (34, .aload_n 1, 1, 0, 0, 0), (35, .getfield 27, 3, 2, 9, 0), (38, .iconst 1, 1, 0, 0, 0),
  (39, .aaload, 1, 0, 0, 0), (40, .astore 5, 2, 0, 0, 0), (42, .aload_n 1, 1, 0, 0, 0), (43, .getfield 31, 3, 2, 10, 0), (46, .iconst 0, 1, 0, 0, 0), (47, .iaload, 1, 0, 0, 0), (48, .istore 6, 2, 0, 0, 0), (50, .iconst 0, 1, 0, 0, 0),
  (51, .istore 7, 2, 0, 0, 0), (53, .aload_n 1, 1, 0, 0, 0), (54, .aload 4, 2, 0, 0, 0), (56, .iload 6, 2, 0, 0, 0), (58, .invokestatic 35, 3, 99, 3, 0), (61, .istore 8, 2, 0, 0, 0), (63, .iconst 0, 1, 0, 0, 0), (64, .istore 9, 2, 0, 0, 0),
  (66, .aload_n 1, 1, 0, 0, 0), (67, .iconst 0, 1, 0, 0, 0), (68, .invokevirtual 21, 3, 107, 2, 2), (71, .istore 10, 2, 0, 0, 0), (73, .iload_n 3, 1, 0, 0, 0), (74, .istore 11, 2, 0, 0, 0), (76, .iload 11, 2, 0, 0, 0), (78, .iload 10, 2, 0, 0, 0),
  (80, .if_icmp .gt 110, 3, 0, 0, 0), (83, .iload 6, 2, 0, 0, 0), (85, .ifCond .le 41, 3, 0, 0, 0), (88, .aload_n 1, 1, 0, 0, 0), (89, .getfield 39, 3, 2, 6, 0), (92, .aload 4, 2, 0, 0, 0), (94, .iload 6, 2, 0, 0, 0), (96, .iconst 1, 1, 0, 0, 0),
  (97, .isub, 1, 0, 0, 0), (98, .iaload, 1, 0, 0, 0), (99, .iaload, 1, 0, 0, 0), (100, .iload 11, 2, 0, 0, 0), (102, .if_icmp .ge 24, 3, 0, 0, 0), (105, .iinc 6 (-1), 3, 0, 0, 0), (108, .iload 8, 2, 0, 0, 0), (110, .aload_n 1, 1, 0, 0, 0),
  (111, .getfield 41, 3, 2, 5, 0), (114, .aload 4, 2, 0, 0, 0), (116, .iload 6, 2, 0, 0, 0), (118, .iaload, 1, 0, 0, 0), (119, .iaload, 1, 0, 0, 0), (120, .isub, 1, 0, 0, 0), (121, .istore 8, 2, 0, 0, 0), (123, .goto (-40), 3, 0, 0, 0),
  (126, .iload 7, 2, 0, 0, 0), (128, .aload_n 1, 1, 0, 0, 0), (129, .getfield 31, 3, 2, 10, 0), (132, .iconst 1, 1, 0, 0, 0), (133, .iaload, 1, 0, 0, 0), (134, .if_icmp .ge 39, 3, 0, 0, 0), (137, .aload_n 1, 1, 0, 0, 0), (138, .getfield 39, 3, 2, 6, 0),
  (141, .aload 5, 2, 0, 0, 0), (143, .iload 7, 2, 0, 0, 0), (145, .iaload, 1, 0, 0, 0), (146, .iaload, 1, 0, 0, 0), (147, .iload 11, 2, 0, 0, 0), (149, .if_icmp .gt 24, 3, 0, 0, 0), (152, .iload 9, 2, 0, 0, 0), (154, .aload_n 1, 1, 0, 0, 0),
  (155, .getfield 41, 3, 2, 5, 0), (158, .aload 5, 2, 0, 0, 0), (160, .iload 7, 2, 0, 0, 0), (162, .iaload, 1, 0, 0, 0), (163, .iaload, 1, 0, 0, 0), (164, .iadd, 1, 0, 0, 0), (165, .istore 9, 2, 0, 0, 0), (167, .iinc 7 1, 3, 0, 0, 0),
  (170, .goto (-44), 3, 0, 0, 0), (173, .aload_n 0, 1, 0, 0, 0), (174, .iload 11, 2, 0, 0, 0), (176, .iload 8, 2, 0, 0, 0), (178, .iload 9, 2, 0, 0, 0), (180, .iload_n 2, 1, 0, 0, 0), (181, .invokevirtual 44, 3, 100, 5, 1), (184, .iinc 11 1, 3, 0, 0, 0),
  (187, .goto (-111), 3, 0, 0, 0), (190, .return_, 1, 0, 0, 0)])
def mm89 : ma_M := (⟨RC1, "sumOf", "(LPhaseBook$Book;[II)I"⟩, prog_2_method_3_code, 5, some .int, 3, 99, [
  (0, .iconst 0, 1, 0, 0, 0), (1, .istore_n 3, 1, 0, 0, 0), (2, .iconst 0, 1, 0, 0, 0), (3, .istore 4, 2, 0, 0, 0), (5, .iload 4, 2, 0, 0, 0), (7, .iload_n 2, 1, 0, 0, 0), (8, .if_icmp .ge 21, 3, 0, 0, 0), (11, .iload_n 3, 1, 0, 0, 0),
  (12, .aload_n 0, 1, 0, 0, 0), (13, .getfield 41, 3, 2, 5, 0), (16, .aload_n 1, 1, 0, 0, 0), (17, .iload 4, 2, 0, 0, 0), (19, .iaload, 1, 0, 0, 0), (20, .iaload, 1, 0, 0, 0), (21, .iadd, 1, 0, 0, 0), (22, .istore_n 3, 1, 0, 0, 0),
  (23, .iinc 4 1, 3, 0, 0, 0), (26, .goto (-21), 3, 0, 0, 0), (29, .iload_n 3, 1, 0, 0, 0), (30, .ireturn, 1, 0, 0, 0)])
def mm90 : ma_M := (⟨RC1, "weigh", "(IIII)V"⟩, prog_2_method_4_code, 7, none, 4, 1, [
  (0, .iload_n 2, 1, 0, 0, 0), (1, .iload_n 3, 1, 0, 0, 0), (2, .invokestatic 48, 3, 2, 0, 0), (5, .istore 5, 2, 0, 0, 0), (7, .iload_n 2, 1, 0, 0, 0), (8, .iload_n 3, 1, 0, 0, 0), (9, .isub, 1, 0, 0, 0), (10, .invokestatic 54, 3, 3, 0, 0),
  (13, .istore 6, 2, 0, 0, 0), (15, .aload_n 0, 1, 0, 0, 0), (16, .iload_n 1, 1, 0, 0, 0), (17, .iload 5, 2, 0, 0, 0), (19, .iload 6, 2, 0, 0, 0), (21, .iload 4, 2, 0, 0, 0), (23, .invokevirtual 57, 3, 101, 5, 1), (26, .ifCond .eq 20, 3, 0, 0, 0),
  (29, .aload_n 0, 1, 0, 0, 0), (30, .iload_n 1, 1, 0, 0, 0), (31, .putfield 9, 3, 1, 0, 0), (34, .aload_n 0, 1, 0, 0, 0), (35, .iload 5, 2, 0, 0, 0), (37, .putfield 15, 3, 1, 1, 0), (40, .aload_n 0, 1, 0, 0, 0), (41, .iload 6, 2, 0, 0, 0),
  (43, .putfield 18, 3, 1, 2, 0), (46, .return_, 1, 0, 0, 0)])
def mm91 : ma_M := (⟨RC1, "isBetter", "(IIII)Z"⟩, prog_2_method_5_code, 5, some .boolean, 4, 1, [
  (0, .iload_n 2, 1, 0, 0, 0), (1, .aload_n 0, 1, 0, 0, 0), (2, .getfield 15, 3, 1, 1, 0), (5, .if_icmp .eq 17, 3, 0, 0, 0), (8, .iload_n 2, 1, 0, 0, 0), (9, .aload_n 0, 1, 0, 0, 0), (10, .getfield 15, 3, 1, 1, 0), (13, .if_icmp .le 7, 3, 0, 0, 0),
  (16, .iconst 1, 1, 0, 0, 0), (17, .goto 4, 3, 0, 0, 0), (20, .iconst 0, 1, 0, 0, 0), (21, .ireturn, 1, 0, 0, 0), (22, .iload_n 3, 1, 0, 0, 0), (23, .aload_n 0, 1, 0, 0, 0), (24, .getfield 18, 3, 1, 2, 0), (27, .if_icmp .eq 17, 3, 0, 0, 0),
  (30, .iload_n 3, 1, 0, 0, 0), (31, .aload_n 0, 1, 0, 0, 0), (32, .getfield 18, 3, 1, 2, 0), (35, .if_icmp .ge 7, 3, 0, 0, 0), (38, .iconst 1, 1, 0, 0, 0), (39, .goto 4, 3, 0, 0, 0), (42, .iconst 0, 1, 0, 0, 0), (43, .ireturn, 1, 0, 0, 0),
  (44, .iload_n 1, 1, 0, 0, 0), (45, .iload 4, 2, 0, 0, 0), (47, .isub, 1, 0, 0, 0), (48, .invokestatic 54, 3, 3, 0, 0), (51, .aload_n 0, 1, 0, 0, 0), (52, .getfield 9, 3, 1, 0, 0), (55, .iload 4, 2, 0, 0, 0), (57, .isub, 1, 0, 0, 0),
  (58, .invokestatic 54, 3, 3, 0, 0), (61, .if_icmp .gt 7, 3, 0, 0, 0), (64, .iconst 1, 1, 0, 0, 0), (65, .goto 4, 3, 0, 0, 0), (68, .iconst 0, 1, 0, 0, 0), (69, .ireturn, 1, 0, 0, 0)])
def mm92 : ma_M := (⟨RC2, "<init>", "()V"⟩, prog_3_method_1_code, 1, none, 0, 2, [
  (0, .aload_n 0, 1, 0, 0, 0), (1, .invokespecial 3, 3, 5, 0, 0), (4, .aload_n 0, 1, 0, 0, 0), (5, .sipush 200, 3, 0, 0, 0), (8, .newarray .int, 2, 0, 0, 0), (10, .putfield 9, 3, 2, 1, 0), (13, .aload_n 0, 1, 0, 0, 0), (14, .sipush 200, 3, 0, 0, 0),
  (17, .newarray .int, 2, 0, 0, 0), (19, .putfield 15, 3, 2, 2, 0), (22, .aload_n 0, 1, 0, 0, 0), (23, .sipush 200, 3, 0, 0, 0), (26, .newarray .int, 2, 0, 0, 0), (28, .putfield 18, 3, 2, 3, 0), (31, .aload_n 0, 1, 0, 0, 0), (32, .sipush 200, 3, 0, 0, 0),
  (35, .newarray .int, 2, 0, 0, 0), (37, .putfield 21, 3, 2, 4, 0), (40, .aload_n 0, 1, 0, 0, 0), (41, .sipush 200, 3, 0, 0, 0), (44, .newarray .int, 2, 0, 0, 0), (46, .putfield 24, 3, 2, 5, 0), (49, .aload_n 0, 1, 0, 0, 0), (50, .sipush 200, 3, 0, 0, 0),
  (53, .newarray .int, 2, 0, 0, 0), (55, .putfield 27, 3, 2, 6, 0), (58, .aload_n 0, 1, 0, 0, 0), (59, .sipush 200, 3, 0, 0, 0), (62, .newarray .int, 2, 0, 0, 0), (64, .putfield 30, 3, 2, 7, 0), (67, .aload_n 0, 1, 0, 0, 0), (68, .sipush 200, 3, 0, 0, 0),
  (71, .newarray .int, 2, 0, 0, 0), (73, .putfield 33, 3, 2, 8, 0), (76, .aload_n 0, 1, 0, 0, 0), (77, .iconst 2, 1, 0, 0, 0), (78, .bipush 40, 2, 0, 0, 0), (80, .multianewarray 36 2, 4, 0, 0, 0), (84, .putfield 38, 3, 2, 9, 0), (87, .aload_n 0, 1, 0, 0, 0),
  (88, .iconst 2, 1, 0, 0, 0), (89, .newarray .int, 2, 0, 0, 0), (91, .putfield 41, 3, 2, 10, 0), (94, .return_, 1, 0, 0, 0)])
def mm93 : ma_M := (⟨RC2, "has", "(I)Z"⟩, prog_3_method_2_code, 2, some .boolean, 1, 2, [
  (0, .iload_n 1, 1, 0, 0, 0), (1, .ifCond .lt 15, 3, 0, 0, 0), (4, .iload_n 1, 1, 0, 0, 0), (5, .aload_n 0, 1, 0, 0, 0), (6, .getfield 44, 3, 2, 0, 0), (9, .if_icmp .ge 7, 3, 0, 0, 0), (12, .iconst 1, 1, 0, 0, 0), (13, .goto 4, 3, 0, 0, 0),
  (16, .iconst 0, 1, 0, 0, 0), (17, .ireturn, 1, 0, 0, 0)])
def mm94 : ma_M := (⟨RC2, "isOf", "(II)Z"⟩, prog_3_method_3_code, 3, some .boolean, 2, 2, [
  (0, .aload_n 0, 1, 0, 0, 0), (1, .iload_n 2, 1, 0, 0, 0), (2, .invokevirtual 48, 3, 103, 2, 2), (5, .ifCond .eq 17, 3, 0, 0, 0), (8, .aload_n 0, 1, 0, 0, 0), (9, .getfield 9, 3, 2, 1, 0), (12, .iload_n 2, 1, 0, 0, 0), (13, .iaload, 1, 0, 0, 0),
  (14, .iload_n 1, 1, 0, 0, 0), (15, .if_icmp .ne 7, 3, 0, 0, 0), (18, .iconst 1, 1, 0, 0, 0), (19, .goto 4, 3, 0, 0, 0), (22, .iconst 0, 1, 0, 0, 0), (23, .ireturn, 1, 0, 0, 0)])
def mm95 : ma_M := (⟨RC2, "countOpen", "()I"⟩, prog_3_method_4_code, 3, some .int, 0, 2, [
  (0, .iconst 0, 1, 0, 0, 0), (1, .istore_n 1, 1, 0, 0, 0), (2, .iconst 0, 1, 0, 0, 0), (3, .istore_n 2, 1, 0, 0, 0), (4, .iload_n 2, 1, 0, 0, 0), (5, .aload_n 0, 1, 0, 0, 0), (6, .getfield 44, 3, 2, 0, 0), (9, .if_icmp .ge 21, 3, 0, 0, 0),
  (12, .aload_n 0, 1, 0, 0, 0), (13, .getfield 21, 3, 2, 4, 0), (16, .iload_n 2, 1, 0, 0, 0), (17, .iaload, 1, 0, 0, 0), (18, .ifCond .eq 6, 3, 0, 0, 0), (21, .iinc 1 1, 3, 0, 0, 0), (24, .iinc 2 1, 3, 0, 0, 0), (27, .goto (-23), 3, 0, 0, 0),
  (30, .iload_n 1, 1, 0, 0, 0), (31, .ireturn, 1, 0, 0, 0)])
def mm96 : ma_M := (⟨RC2, "bestOrder", "(I)I"⟩, prog_3_method_5_code, 2, some .int, 1, 2, [
  (0, .aload_n 0, 1, 0, 0, 0), (1, .getfield 41, 3, 2, 10, 0), (4, .iload_n 1, 1, 0, 0, 0), (5, .iaload, 1, 0, 0, 0), (6, .ifCond .ne 7, 3, 0, 0, 0), (9, .iconst (-1), 1, 0, 0, 0), (10, .goto 11, 3, 0, 0, 0), (13, .aload_n 0, 1, 0, 0, 0),
  (14, .getfield 38, 3, 2, 9, 0), (17, .iload_n 1, 1, 0, 0, 0), (18, .aaload, 1, 0, 0, 0), (19, .iconst 0, 1, 0, 0, 0), (20, .iaload, 1, 0, 0, 0), (21, .ireturn, 1, 0, 0, 0)])
def mm97 : ma_M := (⟨RC2, "bestPrice", "(I)I"⟩, prog_3_method_6_code, 3, some .int, 1, 2, [
  (0, .aload_n 0, 1, 0, 0, 0), (1, .iload_n 1, 1, 0, 0, 0), (2, .invokevirtual 52, 3, 106, 2, 2), (5, .istore_n 2, 1, 0, 0, 0), (6, .iload_n 2, 1, 0, 0, 0), (7, .iconst (-1), 1, 0, 0, 0), (8, .if_icmp .ne 7, 3, 0, 0, 0), (11, .iconst 0, 1, 0, 0, 0),
  (12, .goto 9, 3, 0, 0, 0), (15, .aload_n 0, 1, 0, 0, 0), (16, .getfield 27, 3, 2, 6, 0), (19, .iload_n 2, 1, 0, 0, 0), (20, .iaload, 1, 0, 0, 0), (21, .ireturn, 1, 0, 0, 0)])
def mm98 : ma_M := (⟨RC2, "placeOf", "(I)I"⟩, prog_3_method_7_code, 5, some .int, 1, 2, [
  (0, .aload_n 0, 1, 0, 0, 0), (1, .getfield 38, 3, 2, 9, 0), (4, .aload_n 0, 1, 0, 0, 0), (5, .getfield 15, 3, 2, 2, 0), (8, .iload_n 1, 1, 0, 0, 0), (9, .iaload, 1, 0, 0, 0), (10, .aaload, 1, 0, 0, 0), (11, .astore_n 2, 1, 0, 0, 0),
  (12, .aload_n 0, 1, 0, 0, 0), (13, .getfield 41, 3, 2, 10, 0), (16, .aload_n 0, 1, 0, 0, 0), (17, .getfield 15, 3, 2, 2, 0), (20, .iload_n 1, 1, 0, 0, 0), (21, .iaload, 1, 0, 0, 0), (22, .iaload, 1, 0, 0, 0), (23, .istore_n 3, 1, 0, 0, 0),
  (24, .iconst 0, 1, 0, 0, 0), (25, .istore 4, 2, 0, 0, 0), (27, .iload 4, 2, 0, 0, 0), (29, .iload_n 3, 1, 0, 0, 0), (30, .if_icmp .ge 20, 3, 0, 0, 0), (33, .aload_n 2, 1, 0, 0, 0), (34, .iload 4, 2, 0, 0, 0), (36, .iaload, 1, 0, 0, 0),
  (37, .iload_n 1, 1, 0, 0, 0), (38, .if_icmp .ne 6, 3, 0, 0, 0), (41, .iload 4, 2, 0, 0, 0), (43, .ireturn, 1, 0, 0, 0), (44, .iinc 4 1, 3, 0, 0, 0), (47, .goto (-20), 3, 0, 0, 0), (50, .iconst (-1), 1, 0, 0, 0), (51, .ireturn, 1, 0, 0, 0)])
def mm99 : ma_M := (⟨RC2, "joinLine", "(I)V"⟩, prog_3_method_8_code, 7, none, 1, 2, [
  (0, .aload_n 0, 1, 0, 0, 0), (1, .getfield 15, 3, 2, 2, 0), (4, .iload_n 1, 1, 0, 0, 0), (5, .iaload, 1, 0, 0, 0), (6, .istore_n 2, 1, 0, 0, 0), (7, .aload_n 0, 1, 0, 0, 0), (8, .getfield 38, 3, 2, 9, 0), (11, .iload_n 2, 1, 0, 0, 0),
  (12, .aaload, 1, 0, 0, 0), (13, .astore_n 3, 1, 0, 0, 0), (14, .iload_n 2, 1, 0, 0, 0), (15, .ifCond .ne 7, 3, 0, 0, 0), (18, .iconst 1, 1, 0, 0, 0), (19, .goto 4, 3, 0, 0, 0), (22, .iconst (-1), 1, 0, 0, 0), (23, .istore 4, 2, 0, 0, 0),
  (25, .iload 4, 2, 0, 0, 0), (27, .aload_n 0, 1, 0, 0, 0), (28, .getfield 27, 3, 2, 6, 0), (31, .iload_n 1, 1, 0, 0, 0), (32, .iaload, 1, 0, 0, 0), (33, .imul, 1, 0, 0, 0), (34, .istore 5, 2, 0, 0, 0), (36, .aload_n 0, 1, 0, 0, 0),
  (37, .getfield 41, 3, 2, 10, 0), (40, .iload_n 2, 1, 0, 0, 0), (41, .iaload, 1, 0, 0, 0), (42, .istore 6, 2, 0, 0, 0), (44, .iload 6, 2, 0, 0, 0), (46, .ifCond .le 38, 3, 0, 0, 0), (49, .iload 5, 2, 0, 0, 0), (51, .iload 4, 2, 0, 0, 0),
  (53, .aload_n 0, 1, 0, 0, 0), (54, .getfield 27, 3, 2, 6, 0), (57, .aload_n 3, 1, 0, 0, 0), (58, .iload 6, 2, 0, 0, 0), (60, .iconst 1, 1, 0, 0, 0), (61, .isub, 1, 0, 0, 0), (62, .iaload, 1, 0, 0, 0), (63, .iaload, 1, 0, 0, 0),
  (64, .imul, 1, 0, 0, 0), (65, .if_icmp .le 19, 3, 0, 0, 0), (68, .aload_n 3, 1, 0, 0, 0), (69, .iload 6, 2, 0, 0, 0), (71, .aload_n 3, 1, 0, 0, 0), (72, .iload 6, 2, 0, 0, 0), (74, .iconst 1, 1, 0, 0, 0), (75, .isub, 1, 0, 0, 0),
  (76, .iaload, 1, 0, 0, 0), (77, .iastore, 1, 0, 0, 0), (78, .iinc 6 (-1), 3, 0, 0, 0), (81, .goto (-37), 3, 0, 0, 0), (84, .aload_n 3, 1, 0, 0, 0), (85, .iload 6, 2, 0, 0, 0), (87, .iload_n 1, 1, 0, 0, 0), (88, .iastore, 1, 0, 0, 0),
  (89, .aload_n 0, 1, 0, 0, 0), (90, .getfield 41, 3, 2, 10, 0), (93, .iload_n 2, 1, 0, 0, 0), (94, .dup2, 1, 0, 0, 0), (95, .iaload, 1, 0, 0, 0), (96, .iconst 1, 1, 0, 0, 0), (97, .iadd, 1, 0, 0, 0), (98, .iastore, 1, 0, 0, 0),
  (99, .return_, 1, 0, 0, 0)])
def mm100 : ma_M := (⟨RC2, "leaveLine", "(I)V"⟩, prog_3_method_9_code, 6, none, 1, 2, [
  (0, .aload_n 0, 1, 0, 0, 0), (1, .getfield 15, 3, 2, 2, 0), (4, .iload_n 1, 1, 0, 0, 0), (5, .iaload, 1, 0, 0, 0), (6, .istore_n 2, 1, 0, 0, 0), (7, .aload_n 0, 1, 0, 0, 0), (8, .getfield 38, 3, 2, 9, 0), (11, .iload_n 2, 1, 0, 0, 0),
  (12, .aaload, 1, 0, 0, 0), (13, .astore_n 3, 1, 0, 0, 0), (14, .iconst 0, 1, 0, 0, 0), (15, .istore 4, 2, 0, 0, 0), (17, .iconst 0, 1, 0, 0, 0), (18, .istore 5, 2, 0, 0, 0), (20, .iload 5, 2, 0, 0, 0), (22, .aload_n 0, 1, 0, 0, 0),
  (23, .getfield 41, 3, 2, 10, 0), (26, .iload_n 2, 1, 0, 0, 0), (27, .iaload, 1, 0, 0, 0), (28, .if_icmp .ge 28, 3, 0, 0, 0), (31, .aload_n 3, 1, 0, 0, 0), (32, .iload 5, 2, 0, 0, 0), (34, .iaload, 1, 0, 0, 0), (35, .iload_n 1, 1, 0, 0, 0),
  (36, .if_icmp .eq 14, 3, 0, 0, 0), (39, .aload_n 3, 1, 0, 0, 0), (40, .iload 4, 2, 0, 0, 0), (42, .aload_n 3, 1, 0, 0, 0), (43, .iload 5, 2, 0, 0, 0), (45, .iaload, 1, 0, 0, 0), (46, .iastore, 1, 0, 0, 0), (47, .iinc 4 1, 3, 0, 0, 0),
  (50, .iinc 5 1, 3, 0, 0, 0), (53, .goto (-33), 3, 0, 0, 0), (56, .aload_n 0, 1, 0, 0, 0), (57, .getfield 41, 3, 2, 10, 0), (60, .iload_n 2, 1, 0, 0, 0), (61, .iload 4, 2, 0, 0, 0), (63, .iastore, 1, 0, 0, 0), (64, .return_, 1, 0, 0, 0)])
def mm101 : ma_M := (⟨RC2, "copyFrom", "(LPhaseBook$Book;)V"⟩, prog_3_method_10_code, 3, none, 1, 2, [
  (0, .aload_n 0, 1, 0, 0, 0), (1, .aload_n 1, 1, 0, 0, 0), (2, .getfield 44, 3, 2, 0, 0), (5, .putfield 44, 3, 2, 0, 0), (8, .aload_n 1, 1, 0, 0, 0), (9, .getfield 9, 3, 2, 1, 0), (12, .iconst 0, 1, 0, 0, 0), (13, .aload_n 0, 1, 0, 0, 0),
  (14, .getfield 9, 3, 2, 1, 0), (17, .iconst 0, 1, 0, 0, 0), (18, .aload_n 0, 1, 0, 0, 0), (19, .getfield 44, 3, 2, 0, 0), (22, .invokestatic 56, 3, 4, 0, 0), (25, .aload_n 1, 1, 0, 0, 0), (26, .getfield 15, 3, 2, 2, 0), (29, .iconst 0, 1, 0, 0, 0),
  (30, .aload_n 0, 1, 0, 0, 0), (31, .getfield 15, 3, 2, 2, 0), (34, .iconst 0, 1, 0, 0, 0), (35, .aload_n 0, 1, 0, 0, 0), (36, .getfield 44, 3, 2, 0, 0), (39, .invokestatic 56, 3, 4, 0, 0), (42, .aload_n 1, 1, 0, 0, 0), (43, .getfield 18, 3, 2, 3, 0),
  (46, .iconst 0, 1, 0, 0, 0), (47, .aload_n 0, 1, 0, 0, 0), (48, .getfield 18, 3, 2, 3, 0), (51, .iconst 0, 1, 0, 0, 0), (52, .aload_n 0, 1, 0, 0, 0), (53, .getfield 44, 3, 2, 0, 0), (56, .invokestatic 56, 3, 4, 0, 0), (59, .aload_n 1, 1, 0, 0, 0),
  (60, .getfield 21, 3, 2, 4, 0), (63, .iconst 0, 1, 0, 0, 0), (64, .aload_n 0, 1, 0, 0, 0), (65, .getfield 21, 3, 2, 4, 0), (68, .iconst 0, 1, 0, 0, 0), (69, .aload_n 0, 1, 0, 0, 0), (70, .getfield 44, 3, 2, 0, 0), (73, .invokestatic 56, 3, 4, 0, 0),
  (76, .aload_n 1, 1, 0, 0, 0), (77, .getfield 24, 3, 2, 5, 0), (80, .iconst 0, 1, 0, 0, 0), (81, .aload_n 0, 1, 0, 0, 0), (82, .getfield 24, 3, 2, 5, 0), (85, .iconst 0, 1, 0, 0, 0), (86, .aload_n 0, 1, 0, 0, 0), (87, .getfield 44, 3, 2, 0, 0),
  (90, .invokestatic 56, 3, 4, 0, 0), (93, .aload_n 1, 1, 0, 0, 0), (94, .getfield 27, 3, 2, 6, 0), (97, .iconst 0, 1, 0, 0, 0), (98, .aload_n 0, 1, 0, 0, 0), (99, .getfield 27, 3, 2, 6, 0), (102, .iconst 0, 1, 0, 0, 0), (103, .aload_n 0, 1, 0, 0, 0),
  (104, .getfield 44, 3, 2, 0, 0), (107, .invokestatic 56, 3, 4, 0, 0), (110, .aload_n 1, 1, 0, 0, 0), (111, .getfield 30, 3, 2, 7, 0), (114, .iconst 0, 1, 0, 0, 0), (115, .aload_n 0, 1, 0, 0, 0), (116, .getfield 30, 3, 2, 7, 0), (119, .iconst 0, 1, 0, 0, 0),
  (120, .aload_n 0, 1, 0, 0, 0), (121, .getfield 44, 3, 2, 0, 0), (124, .invokestatic 56, 3, 4, 0, 0), (127, .aload_n 1, 1, 0, 0, 0), (128, .getfield 33, 3, 2, 8, 0), (131, .iconst 0, 1, 0, 0, 0), (132, .aload_n 0, 1, 0, 0, 0), (133, .getfield 33, 3, 2, 8, 0),
  (136, .iconst 0, 1, 0, 0, 0), (137, .aload_n 0, 1, 0, 0, 0), (138, .getfield 44, 3, 2, 0, 0), (141, .invokestatic 56, 3, 4, 0, 0), (144, .iconst 0, 1, 0, 0, 0), (145, .istore_n 2, 1, 0, 0, 0), (146, .iload_n 2, 1, 0, 0, 0), (147, .iconst 2, 1, 0, 0, 0),
  (148, .if_icmp .ge 44, 3, 0, 0, 0), (151, .aload_n 0, 1, 0, 0, 0), (152, .getfield 41, 3, 2, 10, 0), (155, .iload_n 2, 1, 0, 0, 0), (156, .aload_n 1, 1, 0, 0, 0), (157, .getfield 41, 3, 2, 10, 0), (160, .iload_n 2, 1, 0, 0, 0), (161, .iaload, 1, 0, 0, 0),
  (162, .iastore, 1, 0, 0, 0), (163, .aload_n 1, 1, 0, 0, 0), (164, .getfield 38, 3, 2, 9, 0), (167, .iload_n 2, 1, 0, 0, 0), (168, .aaload, 1, 0, 0, 0), (169, .iconst 0, 1, 0, 0, 0), (170, .aload_n 0, 1, 0, 0, 0), (171, .getfield 38, 3, 2, 9, 0),
  (174, .iload_n 2, 1, 0, 0, 0), (175, .aaload, 1, 0, 0, 0), (176, .iconst 0, 1, 0, 0, 0), (177, .aload_n 0, 1, 0, 0, 0), (178, .getfield 41, 3, 2, 10, 0), (181, .iload_n 2, 1, 0, 0, 0), (182, .iaload, 1, 0, 0, 0), (183, .invokestatic 56, 3, 4, 0, 0),
  (186, .iinc 2 1, 3, 0, 0, 0), (189, .goto (-43), 3, 0, 0, 0), (192, .return_, 1, 0, 0, 0)])
def mm102 : ma_M := (⟨RC3, "<init>", "()V"⟩, prog_4_method_1_code, 1, none, 0, 3, [
  (0, .aload_n 0, 1, 0, 0, 0), (1, .invokespecial 3, 3, 5, 0, 0), (4, .aload_n 0, 1, 0, 0, 0), (5, .bipush 64, 2, 0, 0, 0), (7, .newarray .int, 2, 0, 0, 0), (9, .putfield 9, 3, 3, 1, 0), (12, .aload_n 0, 1, 0, 0, 0), (13, .bipush 64, 2, 0, 0, 0),
  (15, .newarray .int, 2, 0, 0, 0), (17, .putfield 15, 3, 3, 2, 0), (20, .aload_n 0, 1, 0, 0, 0), (21, .bipush 64, 2, 0, 0, 0), (23, .newarray .int, 2, 0, 0, 0), (25, .putfield 18, 3, 3, 3, 0), (28, .aload_n 0, 1, 0, 0, 0), (29, .iconst 2, 1, 0, 0, 0),
  (30, .sipush 1000, 3, 0, 0, 0), (33, .multianewarray 21 2, 4, 0, 0, 0), (37, .putfield 23, 3, 3, 4, 0), (40, .return_, 1, 0, 0, 0)])
def mm103 : ma_M := (⟨RC3, "keeps", "(I)Z"⟩, prog_4_method_2_code, 2, some .boolean, 1, 3, [
  (0, .iload_n 1, 1, 0, 0, 0), (1, .ifCond .lt 26, 3, 0, 0, 0), (4, .iload_n 1, 1, 0, 0, 0), (5, .aload_n 0, 1, 0, 0, 0), (6, .getfield 26, 3, 3, 0, 0), (9, .if_icmp .ge 18, 3, 0, 0, 0), (12, .iload_n 1, 1, 0, 0, 0), (13, .aload_n 0, 1, 0, 0, 0),
  (14, .getfield 26, 3, 3, 0, 0), (17, .bipush 64, 2, 0, 0, 0), (19, .isub, 1, 0, 0, 0), (20, .if_icmp .lt 7, 3, 0, 0, 0), (23, .iconst 1, 1, 0, 0, 0), (24, .goto 4, 3, 0, 0, 0), (27, .iconst 0, 1, 0, 0, 0), (28, .ireturn, 1, 0, 0, 0)])
def mm104 : ma_M := (⟨RC3, "tellChanges", "(LPhaseBook$Levels;)V"⟩, prog_4_method_3_code, 6, none, 1, 3, [
  (0, .iconst 0, 1, 0, 0, 0), (1, .istore_n 2, 1, 0, 0, 0), (2, .iload_n 2, 1, 0, 0, 0), (3, .iconst 2, 1, 0, 0, 0), (4, .if_icmp .ge 77, 3, 0, 0, 0), (7, .aload_n 1, 1, 0, 0, 0), (8, .getfield 30, 3, 4, 0, 0), (11, .iload_n 2, 1, 0, 0, 0),
  (12, .aaload, 1, 0, 0, 0), (13, .astore_n 3, 1, 0, 0, 0), (14, .aload_n 1, 1, 0, 0, 0), (15, .getfield 35, 3, 4, 2, 0), (18, .iload_n 2, 1, 0, 0, 0), (19, .iaload, 1, 0, 0, 0), (20, .istore 4, 2, 0, 0, 0), (22, .aload_n 1, 1, 0, 0, 0),
  (23, .getfield 38, 3, 4, 1, 0), (26, .iload_n 2, 1, 0, 0, 0), (27, .iaload, 1, 0, 0, 0), (28, .istore 5, 2, 0, 0, 0), (30, .iload 5, 2, 0, 0, 0), (32, .iload 4, 2, 0, 0, 0), (34, .if_icmp .gt 36, 3, 0, 0, 0), (37, .aload_n 3, 1, 0, 0, 0),
  (38, .iload 5, 2, 0, 0, 0), (40, .iaload, 1, 0, 0, 0), (41, .aload_n 0, 1, 0, 0, 0), (42, .getfield 23, 3, 3, 4, 0), (45, .iload_n 2, 1, 0, 0, 0), (46, .aaload, 1, 0, 0, 0), (47, .iload 5, 2, 0, 0, 0), (49, .iaload, 1, 0, 0, 0),
  (50, .if_icmp .eq 14, 3, 0, 0, 0), (53, .aload_n 0, 1, 0, 0, 0), (54, .iload_n 2, 1, 0, 0, 0), (55, .iload 5, 2, 0, 0, 0), (57, .aload_n 3, 1, 0, 0, 0), (58, .iload 5, 2, 0, 0, 0), (60, .iaload, 1, 0, 0, 0), (61, .invokevirtual 41, 3, 115, 4, 3),
  (64, .iinc 5 1, 3, 0, 0, 0), (67, .goto (-37), 3, 0, 0, 0), (70, .aload_n 1, 1, 0, 0, 0), (71, .iload_n 2, 1, 0, 0, 0), (72, .invokevirtual 45, 3, 119, 2, 4), (75, .iinc 2 1, 3, 0, 0, 0), (78, .goto (-76), 3, 0, 0, 0), (81, .return_, 1, 0, 0, 0)])
def mm105 : ma_M := (⟨RC3, "tell", "(III)V"⟩, prog_4_method_4_code, 5, none, 3, 3, [
  (0, .aload_n 0, 1, 0, 0, 0), (1, .getfield 26, 3, 3, 0, 0), (4, .invokestatic 49, 3, 116, 1, 0), (7, .istore 4, 2, 0, 0, 0), (9, .aload_n 0, 1, 0, 0, 0), (10, .getfield 9, 3, 3, 1, 0), (13, .iload 4, 2, 0, 0, 0), (15, .iload_n 1, 1, 0, 0, 0),
  (16, .iastore, 1, 0, 0, 0), (17, .aload_n 0, 1, 0, 0, 0), (18, .getfield 15, 3, 3, 2, 0), (21, .iload 4, 2, 0, 0, 0), (23, .iload_n 2, 1, 0, 0, 0), (24, .iastore, 1, 0, 0, 0), (25, .aload_n 0, 1, 0, 0, 0), (26, .getfield 18, 3, 3, 3, 0),
  (29, .iload 4, 2, 0, 0, 0), (31, .iload_n 3, 1, 0, 0, 0), (32, .iastore, 1, 0, 0, 0), (33, .aload_n 0, 1, 0, 0, 0), (34, .getfield 23, 3, 3, 4, 0), (37, .iload_n 1, 1, 0, 0, 0), (38, .aaload, 1, 0, 0, 0), (39, .iload_n 2, 1, 0, 0, 0),
  (40, .iload_n 3, 1, 0, 0, 0), (41, .iastore, 1, 0, 0, 0), (42, .aload_n 0, 1, 0, 0, 0), (43, .dup, 1, 0, 0, 0), (44, .getfield 26, 3, 3, 0, 0), (47, .iconst 1, 1, 0, 0, 0), (48, .iadd, 1, 0, 0, 0), (49, .putfield 26, 3, 3, 0, 0),
  (52, .return_, 1, 0, 0, 0)])
def mm106 : ma_M := (⟨RC3, "slotOf", "(I)I"⟩, prog_4_method_5_code, 1, some .int, 1, 99, [
  (0, .iload_n 0, 1, 0, 0, 0), (1, .bipush 64, 2, 0, 0, 0), (3, .invokestatic 53, 3, 161, 2, 0), (6, .ireturn, 1, 0, 0, 0)])
def mm107 : ma_M := (⟨RC4, "<init>", "()V"⟩, prog_5_method_1_code, 1, none, 0, 4, [
  (0, .aload_n 0, 1, 0, 0, 0), (1, .invokespecial 3, 3, 5, 0, 0), (4, .aload_n 0, 1, 0, 0, 0), (5, .iconst 2, 1, 0, 0, 0), (6, .sipush 1000, 3, 0, 0, 0), (9, .multianewarray 9 2, 4, 0, 0, 0), (13, .putfield 11, 3, 4, 0, 0), (16, .aload_n 0, 1, 0, 0, 0),
  (17, .iconst 2, 1, 0, 0, 0), (18, .newarray .int, 2, 0, 0, 0), (20, .dup, 1, 0, 0, 0), (21, .iconst 0, 1, 0, 0, 0), (22, .sipush 1000, 3, 0, 0, 0), (25, .iastore, 1, 0, 0, 0), (26, .dup, 1, 0, 0, 0), (27, .iconst 1, 1, 0, 0, 0),
  (28, .sipush 1000, 3, 0, 0, 0), (31, .iastore, 1, 0, 0, 0), (32, .putfield 16, 3, 4, 1, 0), (35, .aload_n 0, 1, 0, 0, 0), (36, .iconst 2, 1, 0, 0, 0), (37, .newarray .int, 2, 0, 0, 0), (39, .putfield 20, 3, 4, 2, 0), (42, .return_, 1, 0, 0, 0)])
def mm108 : ma_M := (⟨RC4, "change", "(III)V"⟩, prog_5_method_2_code, 4, none, 3, 4, [
  (0, .aload_n 0, 1, 0, 0, 0), (1, .getfield 11, 3, 4, 0, 0), (4, .iload_n 1, 1, 0, 0, 0), (5, .aaload, 1, 0, 0, 0), (6, .iload_n 2, 1, 0, 0, 0), (7, .dup2, 1, 0, 0, 0), (8, .iaload, 1, 0, 0, 0), (9, .iload_n 3, 1, 0, 0, 0),
  (10, .iadd, 1, 0, 0, 0), (11, .iastore, 1, 0, 0, 0), (12, .iload_n 2, 1, 0, 0, 0), (13, .aload_n 0, 1, 0, 0, 0), (14, .getfield 16, 3, 4, 1, 0), (17, .iload_n 1, 1, 0, 0, 0), (18, .iaload, 1, 0, 0, 0), (19, .if_icmp .ge 10, 3, 0, 0, 0),
  (22, .aload_n 0, 1, 0, 0, 0), (23, .getfield 16, 3, 4, 1, 0), (26, .iload_n 1, 1, 0, 0, 0), (27, .iload_n 2, 1, 0, 0, 0), (28, .iastore, 1, 0, 0, 0), (29, .iload_n 2, 1, 0, 0, 0), (30, .aload_n 0, 1, 0, 0, 0), (31, .getfield 20, 3, 4, 2, 0),
  (34, .iload_n 1, 1, 0, 0, 0), (35, .iaload, 1, 0, 0, 0), (36, .if_icmp .le 10, 3, 0, 0, 0), (39, .aload_n 0, 1, 0, 0, 0), (40, .getfield 20, 3, 4, 2, 0), (43, .iload_n 1, 1, 0, 0, 0), (44, .iload_n 2, 1, 0, 0, 0), (45, .iastore, 1, 0, 0, 0),
  (46, .return_, 1, 0, 0, 0)])
def mm109 : ma_M := (⟨RC4, "forgetChanges", "(I)V"⟩, prog_5_method_3_code, 2, none, 1, 4, [
  (0, .aload_n 0, 1, 0, 0, 0), (1, .getfield 16, 3, 4, 1, 0), (4, .iload_n 1, 1, 0, 0, 0), (5, .sipush 1000, 3, 0, 0, 0), (8, .iastore, 1, 0, 0, 0), (9, .aload_n 0, 1, 0, 0, 0), (10, .getfield 20, 3, 4, 2, 0), (13, .iload_n 1, 1, 0, 0, 0),
  (14, .iconst 0, 1, 0, 0, 0), (15, .iastore, 1, 0, 0, 0), (16, .return_, 1, 0, 0, 0)])
def mm110 : ma_M := (⟨RC5, "<init>", "(II)V"⟩, prog_6_method_1_code, 3, none, 2, 5, [
  (0, .aload_n 0, 1, 0, 0, 0), (1, .invokespecial 3, 3, 5, 0, 0), (4, .aload_n 0, 1, 0, 0, 0), (5, .new 9, 3, 4, 0, 0), (8, .dup, 1, 0, 0, 0), (9, .invokespecial 11, 3, 117, 1, 100), (12, .putfield 12, 3, 5, 4, 0), (15, .aload_n 0, 1, 0, 0, 0),
  (16, .new 18, 3, 1, 0, 0), (19, .dup, 1, 0, 0, 0), (20, .invokespecial 20, 3, 97, 1, 100), (23, .putfield 21, 3, 5, 5, 0), (26, .aload_n 0, 1, 0, 0, 0), (27, .iload_n 2, 1, 0, 0, 0), (28, .putfield 25, 3, 5, 0, 0), (31, .aload_n 0, 1, 0, 0, 0),
  (32, .new 29, 3, 7, 0, 0), (35, .dup, 1, 0, 0, 0), (36, .iload_n 1, 1, 0, 0, 0), (37, .invokespecial 31, 3, 155, 2, 0), (40, .putfield 34, 3, 5, 1, 0), (43, .aload_n 0, 1, 0, 0, 0), (44, .aload_n 0, 1, 0, 0, 0), (45, .getfield 34, 3, 5, 1, 0),
  (48, .getfield 38, 3, 7, 3, 0), (51, .putfield 42, 3, 5, 2, 0), (54, .aload_n 0, 1, 0, 0, 0), (55, .aload_n 0, 1, 0, 0, 0), (56, .getfield 34, 3, 5, 1, 0), (59, .getfield 43, 3, 7, 4, 0), (62, .putfield 47, 3, 5, 3, 0), (65, .return_, 1, 0, 0, 0)])
def mm111 : ma_M := (⟨RC5, "mayAccept", "(IIII)Z"⟩, prog_6_method_2_code, 6, some .boolean, 4, 5, [
  (0, .iload_n 2, 1, 0, 0, 0), (1, .ifCond .lt 16, 3, 0, 0, 0), (4, .iload_n 2, 1, 0, 0, 0), (5, .bipush 11, 2, 0, 0, 0), (7, .if_icmp .gt 10, 3, 0, 0, 0), (10, .iload_n 3, 1, 0, 0, 0), (11, .invokestatic 48, 3, 34, 1, 100), (14, .ifCond .ne 5, 3, 0, 0, 0),
  (17, .iconst 0, 1, 0, 0, 0), (18, .ireturn, 1, 0, 0, 0), (19, .iload_n 2, 1, 0, 0, 0), (20, .iconst 2, 1, 0, 0, 0), (21, .idiv, 1, 0, 0, 0), (22, .istore 5, 2, 0, 0, 0), (24, .iload 5, 2, 0, 0, 0), (26, .invokestatic 52, 3, 37, 1, 100),
  (29, .ifCond .eq 11, 3, 0, 0, 0), (32, .iload 4, 2, 0, 0, 0), (34, .invokestatic 55, 3, 33, 1, 100), (37, .ifCond .eq 59, 3, 0, 0, 0), (40, .iload 5, 2, 0, 0, 0), (42, .aload_n 0, 1, 0, 0, 0), (43, .getfield 47, 3, 5, 3, 0), (46, .getfield 58, 3, 6, 1, 0),
  (49, .iload_n 1, 1, 0, 0, 0), (50, .iaload, 1, 0, 0, 0), (51, .iload_n 3, 1, 0, 0, 0), (52, .invokestatic 64, 3, 122, 3, 0), (55, .ifCond .eq 41, 3, 0, 0, 0), (58, .aload_n 0, 1, 0, 0, 0), (59, .iload 5, 2, 0, 0, 0), (61, .invokevirtual 68, 3, 123, 2, 5),
  (64, .ifCond .eq 32, 3, 0, 0, 0), (67, .aload_n 0, 1, 0, 0, 0), (68, .getfield 42, 3, 5, 2, 0), (71, .getfield 71, 3, 2, 0, 0), (74, .sipush 200, 3, 0, 0, 0), (77, .if_icmp .ge 19, 3, 0, 0, 0), (80, .aload_n 0, 1, 0, 0, 0), (81, .getfield 42, 3, 5, 2, 0),
  (84, .invokevirtual 76, 3, 105, 1, 2), (87, .bipush 40, 2, 0, 0, 0), (89, .if_icmp .ge 7, 3, 0, 0, 0), (92, .iconst 1, 1, 0, 0, 0), (93, .goto 4, 3, 0, 0, 0), (96, .iconst 0, 1, 0, 0, 0), (97, .ireturn, 1, 0, 0, 0)])
def mm112 : ma_M := (⟨RC5, "isExtraFit", "(III)Z"⟩, prog_6_method_3_code, 3, some .boolean, 3, 99, [
  (0, .iload_n 0, 1, 0, 0, 0), (1, .iconst 4, 1, 0, 0, 0), (2, .if_icmp .ne 8, 3, 0, 0, 0), (5, .iload_n 1, 1, 0, 0, 0), (6, .invokestatic 55, 3, 33, 1, 100), (9, .ireturn, 1, 0, 0, 0), (10, .iload_n 0, 1, 0, 0, 0), (11, .iconst 5, 1, 0, 0, 0),
  (12, .if_icmp .ne 27, 3, 0, 0, 0), (15, .iload_n 1, 1, 0, 0, 0), (16, .iconst 1, 1, 0, 0, 0), (17, .if_icmp .lt 20, 3, 0, 0, 0), (20, .iload_n 1, 1, 0, 0, 0), (21, .iload_n 2, 1, 0, 0, 0), (22, .if_icmp .gt 15, 3, 0, 0, 0), (25, .iload_n 1, 1, 0, 0, 0),
  (26, .iload_n 2, 1, 0, 0, 0), (27, .invokestatic 80, 3, 38, 2, 100), (30, .ifCond .eq 7, 3, 0, 0, 0), (33, .iconst 1, 1, 0, 0, 0), (34, .goto 4, 3, 0, 0, 0), (37, .iconst 0, 1, 0, 0, 0), (38, .ireturn, 1, 0, 0, 0), (39, .iconst 1, 1, 0, 0, 0),
  (40, .ireturn, 1, 0, 0, 0)])
def mm113 : ma_M := (⟨RC5, "isTakenNow", "(I)Z"⟩, prog_6_method_4_code, 2, some .boolean, 1, 5, [
  (0, .aload_n 0, 1, 0, 0, 0), (1, .getfield 34, 3, 5, 1, 0), (4, .getfield 84, 3, 7, 0, 0), (7, .iconst 2, 1, 0, 0, 0), (8, .if_icmp .eq 28, 3, 0, 0, 0), (11, .aload_n 0, 1, 0, 0, 0), (12, .getfield 34, 3, 5, 1, 0), (15, .getfield 84, 3, 7, 0, 0),
  (18, .invokestatic 87, 3, 35, 1, 100), (21, .ifCond .eq 19, 3, 0, 0, 0), (24, .iload_n 1, 1, 0, 0, 0), (25, .invokestatic 90, 3, 36, 1, 100), (28, .ifCond .ne 8, 3, 0, 0, 0), (31, .iload_n 1, 1, 0, 0, 0), (32, .iconst 4, 1, 0, 0, 0), (33, .if_icmp .ne 7, 3, 0, 0, 0),
  (36, .iconst 1, 1, 0, 0, 0), (37, .goto 4, 3, 0, 0, 0), (40, .iconst 0, 1, 0, 0, 0), (41, .ireturn, 1, 0, 0, 0)])
def mm114 : ma_M := (⟨RC5, "accept", "(IIII)I"⟩, prog_6_method_5_code, 8, some .int, 4, 5, [
  (0, .aload_n 0, 1, 0, 0, 0), (1, .getfield 42, 3, 5, 2, 0), (4, .getfield 71, 3, 2, 0, 0), (7, .istore 5, 2, 0, 0, 0), (9, .iload_n 2, 1, 0, 0, 0), (10, .iconst 2, 1, 0, 0, 0), (11, .idiv, 1, 0, 0, 0), (12, .istore 6, 2, 0, 0, 0),
  (14, .aload_n 0, 1, 0, 0, 0), (15, .getfield 47, 3, 5, 3, 0), (18, .getfield 58, 3, 6, 1, 0), (21, .iload_n 1, 1, 0, 0, 0), (22, .iaload, 1, 0, 0, 0), (23, .istore 7, 2, 0, 0, 0), (25, .aload_n 0, 1, 0, 0, 0), (26, .getfield 42, 3, 5, 2, 0),
  (29, .dup, 1, 0, 0, 0), (30, .getfield 71, 3, 2, 0, 0), (33, .iconst 1, 1, 0, 0, 0), (34, .iadd, 1, 0, 0, 0), (35, .putfield 71, 3, 2, 0, 0), (38, .aload_n 0, 1, 0, 0, 0), (39, .getfield 42, 3, 5, 2, 0), (42, .getfield 93, 3, 2, 1, 0),
  (45, .iload 5, 2, 0, 0, 0), (47, .iload_n 1, 1, 0, 0, 0), (48, .iastore, 1, 0, 0, 0), (49, .aload_n 0, 1, 0, 0, 0), (50, .getfield 42, 3, 5, 2, 0), (53, .getfield 96, 3, 2, 2, 0), (56, .iload 5, 2, 0, 0, 0), (58, .iload_n 2, 1, 0, 0, 0),
  (59, .iconst 2, 1, 0, 0, 0), (60, .irem, 1, 0, 0, 0), (61, .iastore, 1, 0, 0, 0), (62, .aload_n 0, 1, 0, 0, 0), (63, .getfield 42, 3, 5, 2, 0), (66, .getfield 99, 3, 2, 3, 0), (69, .iload 5, 2, 0, 0, 0), (71, .iload 6, 2, 0, 0, 0),
  (73, .iastore, 1, 0, 0, 0), (74, .aload_n 0, 1, 0, 0, 0), (75, .getfield 42, 3, 5, 2, 0), (78, .getfield 102, 3, 2, 4, 0), (81, .iload 5, 2, 0, 0, 0), (83, .iconst 0, 1, 0, 0, 0), (84, .iastore, 1, 0, 0, 0), (85, .aload_n 0, 1, 0, 0, 0),
  (86, .getfield 42, 3, 5, 2, 0), (89, .getfield 105, 3, 2, 5, 0), (92, .iload 5, 2, 0, 0, 0), (94, .iload_n 3, 1, 0, 0, 0), (95, .iastore, 1, 0, 0, 0), (96, .aload_n 0, 1, 0, 0, 0), (97, .getfield 42, 3, 5, 2, 0), (100, .getfield 108, 3, 2, 6, 0),
  (103, .iload 5, 2, 0, 0, 0), (105, .iload 6, 2, 0, 0, 0), (107, .iconst 4, 1, 0, 0, 0), (108, .if_icmp .ne 8, 3, 0, 0, 0), (111, .iload 7, 2, 0, 0, 0), (113, .goto 5, 3, 0, 0, 0), (116, .iload 4, 2, 0, 0, 0), (118, .iastore, 1, 0, 0, 0),
  (119, .aload_n 0, 1, 0, 0, 0), (120, .getfield 42, 3, 5, 2, 0), (123, .getfield 111, 3, 2, 7, 0), (126, .iload 5, 2, 0, 0, 0), (128, .iload 6, 2, 0, 0, 0), (130, .iconst 5, 1, 0, 0, 0), (131, .if_icmp .ne 8, 3, 0, 0, 0), (134, .iload 7, 2, 0, 0, 0),
  (136, .goto 6, 3, 0, 0, 0), (139, .sipush 1000, 3, 0, 0, 0), (142, .iastore, 1, 0, 0, 0), (143, .aload_n 0, 1, 0, 0, 0), (144, .getfield 42, 3, 5, 2, 0), (147, .getfield 114, 3, 2, 8, 0), (150, .iload 5, 2, 0, 0, 0), (152, .iconst 0, 1, 0, 0, 0),
  (153, .iastore, 1, 0, 0, 0), (154, .aload_n 0, 1, 0, 0, 0), (155, .iload 5, 2, 0, 0, 0), (157, .iconst 1, 1, 0, 0, 0), (158, .iload_n 3, 1, 0, 0, 0), (159, .aload_n 0, 1, 0, 0, 0), (160, .iload 5, 2, 0, 0, 0), (162, .invokevirtual 117, 3, 149, 2, 5),
  (165, .invokevirtual 121, 3, 150, 5, 5), (168, .aload_n 0, 1, 0, 0, 0), (169, .iload 5, 2, 0, 0, 0), (171, .invokevirtual 125, 3, 133, 2, 5), (174, .iload 5, 2, 0, 0, 0), (176, .ireturn, 1, 0, 0, 0)])
def mm115 : ma_M := (⟨RC5, "mayCancel", "(II)Z"⟩, prog_6_method_6_code, 3, some .boolean, 2, 5, [
  (0, .aload_n 0, 1, 0, 0, 0), (1, .getfield 42, 3, 5, 2, 0), (4, .iload_n 1, 1, 0, 0, 0), (5, .iload_n 2, 1, 0, 0, 0), (6, .invokevirtual 128, 3, 104, 3, 2), (9, .ifCond .eq 19, 3, 0, 0, 0), (12, .aload_n 0, 1, 0, 0, 0), (13, .getfield 42, 3, 5, 2, 0),
  (16, .getfield 102, 3, 2, 4, 0), (19, .iload_n 2, 1, 0, 0, 0), (20, .iaload, 1, 0, 0, 0), (21, .ifCond .eq 7, 3, 0, 0, 0), (24, .iconst 1, 1, 0, 0, 0), (25, .goto 4, 3, 0, 0, 0), (28, .iconst 0, 1, 0, 0, 0), (29, .ireturn, 1, 0, 0, 0)])
def mm116 : ma_M := (⟨RC5, "cancelOrder", "(I)V"⟩, prog_6_method_7_code, 2, none, 1, 5, [
  (0, .aload_n 0, 1, 0, 0, 0), (1, .iload_n 1, 1, 0, 0, 0), (2, .iconst 3, 1, 0, 0, 0), (3, .aload_n 0, 1, 0, 0, 0), (4, .getfield 42, 3, 5, 2, 0), (7, .getfield 105, 3, 2, 5, 0), (10, .iload_n 1, 1, 0, 0, 0), (11, .iaload, 1, 0, 0, 0),
  (12, .aload_n 0, 1, 0, 0, 0), (13, .iload_n 1, 1, 0, 0, 0), (14, .invokevirtual 117, 3, 149, 2, 5), (17, .invokevirtual 121, 3, 150, 5, 5), (20, .aload_n 0, 1, 0, 0, 0), (21, .getfield 42, 3, 5, 2, 0), (24, .getfield 102, 3, 2, 4, 0), (27, .iload_n 1, 1, 0, 0, 0),
  (28, .iaload, 1, 0, 0, 0), (29, .iconst 1, 1, 0, 0, 0), (30, .if_icmp .ne 8, 3, 0, 0, 0), (33, .aload_n 0, 1, 0, 0, 0), (34, .iload_n 1, 1, 0, 0, 0), (35, .invokevirtual 131, 3, 146, 2, 5), (38, .aload_n 0, 1, 0, 0, 0), (39, .getfield 42, 3, 5, 2, 0),
  (42, .getfield 102, 3, 2, 4, 0), (45, .iload_n 1, 1, 0, 0, 0), (46, .iconst 0, 1, 0, 0, 0), (47, .iastore, 1, 0, 0, 0), (48, .aload_n 0, 1, 0, 0, 0), (49, .getfield 42, 3, 5, 2, 0), (52, .getfield 105, 3, 2, 5, 0), (55, .iload_n 1, 1, 0, 0, 0),
  (56, .iconst 0, 1, 0, 0, 0), (57, .iastore, 1, 0, 0, 0), (58, .return_, 1, 0, 0, 0)])
def mm117 : ma_M := (⟨RC5, "mayReplace", "(IIII)Z"⟩, prog_6_method_8_code, 5, some .boolean, 4, 5, [
  (0, .aload_n 0, 1, 0, 0, 0), (1, .getfield 42, 3, 5, 2, 0), (4, .iload_n 1, 1, 0, 0, 0), (5, .iload_n 2, 1, 0, 0, 0), (6, .invokevirtual 128, 3, 104, 3, 2), (9, .ifCond .eq 51, 3, 0, 0, 0), (12, .aload_n 0, 1, 0, 0, 0), (13, .getfield 42, 3, 5, 2, 0),
  (16, .getfield 102, 3, 2, 4, 0), (19, .iload_n 2, 1, 0, 0, 0), (20, .iaload, 1, 0, 0, 0), (21, .iconst 1, 1, 0, 0, 0), (22, .if_icmp .ne 38, 3, 0, 0, 0), (25, .iload_n 3, 1, 0, 0, 0), (26, .invokestatic 48, 3, 34, 1, 100), (29, .ifCond .eq 31, 3, 0, 0, 0),
  (32, .iload 4, 2, 0, 0, 0), (34, .invokestatic 55, 3, 33, 1, 100), (37, .ifCond .eq 23, 3, 0, 0, 0), (40, .aload_n 0, 1, 0, 0, 0), (41, .getfield 42, 3, 5, 2, 0), (44, .getfield 111, 3, 2, 7, 0), (47, .iload_n 2, 1, 0, 0, 0), (48, .iaload, 1, 0, 0, 0),
  (49, .iload_n 3, 1, 0, 0, 0), (50, .invokestatic 80, 3, 38, 2, 100), (53, .ifCond .eq 7, 3, 0, 0, 0), (56, .iconst 1, 1, 0, 0, 0), (57, .goto 4, 3, 0, 0, 0), (60, .iconst 0, 1, 0, 0, 0), (61, .ireturn, 1, 0, 0, 0)])
def mm118 : ma_M := (⟨RC5, "replaceOrder", "(III)V"⟩, prog_6_method_9_code, 4, none, 3, 5, [
  (0, .aload_n 0, 1, 0, 0, 0), (1, .iload_n 1, 1, 0, 0, 0), (2, .iconst 5, 1, 0, 0, 0), (3, .iload_n 2, 1, 0, 0, 0), (4, .iload_n 3, 1, 0, 0, 0), (5, .invokevirtual 121, 3, 150, 5, 5), (8, .iload_n 3, 1, 0, 0, 0), (9, .aload_n 0, 1, 0, 0, 0),
  (10, .getfield 42, 3, 5, 2, 0), (13, .getfield 108, 3, 2, 6, 0), (16, .iload_n 1, 1, 0, 0, 0), (17, .iaload, 1, 0, 0, 0), (18, .if_icmp .ne 45, 3, 0, 0, 0), (21, .iload_n 2, 1, 0, 0, 0), (22, .aload_n 0, 1, 0, 0, 0), (23, .getfield 42, 3, 5, 2, 0),
  (26, .getfield 105, 3, 2, 5, 0), (29, .iload_n 1, 1, 0, 0, 0), (30, .iaload, 1, 0, 0, 0), (31, .if_icmp .gt 32, 3, 0, 0, 0), (34, .aload_n 0, 1, 0, 0, 0), (35, .getfield 42, 3, 5, 2, 0), (38, .getfield 105, 3, 2, 5, 0), (41, .iload_n 1, 1, 0, 0, 0),
  (42, .iload_n 2, 1, 0, 0, 0), (43, .iastore, 1, 0, 0, 0), (44, .aload_n 0, 1, 0, 0, 0), (45, .iload_n 1, 1, 0, 0, 0), (46, .aload_n 0, 1, 0, 0, 0), (47, .getfield 42, 3, 5, 2, 0), (50, .getfield 114, 3, 2, 8, 0), (53, .iload_n 1, 1, 0, 0, 0),
  (54, .iaload, 1, 0, 0, 0), (55, .iload_n 2, 1, 0, 0, 0), (56, .invokestatic 134, 3, 2, 0, 0), (59, .invokevirtual 140, 3, 147, 3, 5), (62, .return_, 1, 0, 0, 0), (63, .aload_n 0, 1, 0, 0, 0), (64, .iload_n 1, 1, 0, 0, 0), (65, .invokevirtual 131, 3, 146, 2, 5),
  (68, .aload_n 0, 1, 0, 0, 0), (69, .getfield 42, 3, 5, 2, 0), (72, .getfield 105, 3, 2, 5, 0), (75, .iload_n 1, 1, 0, 0, 0), (76, .iload_n 2, 1, 0, 0, 0), (77, .iastore, 1, 0, 0, 0), (78, .aload_n 0, 1, 0, 0, 0), (79, .getfield 42, 3, 5, 2, 0),
  (82, .getfield 108, 3, 2, 6, 0), (85, .iload_n 1, 1, 0, 0, 0), (86, .iload_n 3, 1, 0, 0, 0), (87, .iastore, 1, 0, 0, 0), (88, .aload_n 0, 1, 0, 0, 0), (89, .iload_n 1, 1, 0, 0, 0), (90, .invokevirtual 125, 3, 133, 2, 5), (93, .return_, 1, 0, 0, 0)])
def mm119 : ma_M := (⟨RC5, "mayStepTo", "(I)Z"⟩, prog_6_method_10_code, 2, some .boolean, 1, 5, [
  (0, .aload_n 0, 1, 0, 0, 0), (1, .getfield 34, 3, 5, 1, 0), (4, .getfield 84, 3, 7, 0, 0), (7, .tableswitch 66 0 3 #[29, 66, 40, 56], 29, 0, 0, 0), (36, .iload_n 1, 1, 0, 0, 0), (37, .iconst 1, 1, 0, 0, 0), (38, .if_icmp .ne 7, 3, 0, 0, 0), (41, .iconst 1, 1, 0, 0, 0),
  (42, .goto 4, 3, 0, 0, 0), (45, .iconst 0, 1, 0, 0, 0), (46, .ireturn, 1, 0, 0, 0), (47, .iload_n 1, 1, 0, 0, 0), (48, .iconst 3, 1, 0, 0, 0), (49, .if_icmp .eq 8, 3, 0, 0, 0), (52, .iload_n 1, 1, 0, 0, 0), (53, .iconst 4, 1, 0, 0, 0),
  (54, .if_icmp .ne 7, 3, 0, 0, 0), (57, .iconst 1, 1, 0, 0, 0), (58, .goto 4, 3, 0, 0, 0), (61, .iconst 0, 1, 0, 0, 0), (62, .ireturn, 1, 0, 0, 0), (63, .iload_n 1, 1, 0, 0, 0), (64, .ifCond .ne 7, 3, 0, 0, 0), (67, .iconst 1, 1, 0, 0, 0),
  (68, .goto 4, 3, 0, 0, 0), (71, .iconst 0, 1, 0, 0, 0), (72, .ireturn, 1, 0, 0, 0), (73, .iload_n 1, 1, 0, 0, 0), (74, .iconst 2, 1, 0, 0, 0), (75, .if_icmp .ne 7, 3, 0, 0, 0), (78, .iconst 1, 1, 0, 0, 0), (79, .goto 4, 3, 0, 0, 0),
  (82, .iconst 0, 1, 0, 0, 0), (83, .ireturn, 1, 0, 0, 0)])
def mm120 : ma_M := (⟨RC5, "stepTo", "(I)V"⟩, prog_6_method_11_code, 2, none, 1, 5, [
  (0, .aload_n 0, 1, 0, 0, 0), (1, .getfield 34, 3, 5, 1, 0), (4, .getfield 84, 3, 7, 0, 0), (7, .invokestatic 87, 3, 35, 1, 100), (10, .ifCond .eq 7, 3, 0, 0, 0), (13, .aload_n 0, 1, 0, 0, 0), (14, .invokevirtual 144, 3, 138, 1, 5), (17, .aload_n 0, 1, 0, 0, 0),
  (18, .getfield 34, 3, 5, 1, 0), (21, .iload_n 1, 1, 0, 0, 0), (22, .putfield 84, 3, 7, 0, 0), (25, .iload_n 1, 1, 0, 0, 0), (26, .ifCond .ne 7, 3, 0, 0, 0), (29, .aload_n 0, 1, 0, 0, 0), (30, .invokevirtual 147, 3, 140, 1, 5), (33, .return_, 1, 0, 0, 0)])
def mm121 : ma_M := (⟨RC5, "releaseStops", "()V"⟩, prog_6_method_12_code, 3, none, 0, 5, [
  (0, .iconst 0, 1, 0, 0, 0), (1, .istore_n 1, 1, 0, 0, 0), (2, .iload_n 1, 1, 0, 0, 0), (3, .bipush 40, 2, 0, 0, 0), (5, .if_icmp .ge 61, 3, 0, 0, 0), (8, .aload_n 0, 1, 0, 0, 0), (9, .getfield 34, 3, 5, 1, 0), (12, .getfield 84, 3, 7, 0, 0),
  (15, .iconst 2, 1, 0, 0, 0), (16, .if_icmp .ne 50, 3, 0, 0, 0), (19, .aload_n 0, 1, 0, 0, 0), (20, .invokevirtual 150, 3, 141, 1, 5), (23, .istore_n 2, 1, 0, 0, 0), (24, .iload_n 2, 1, 0, 0, 0), (25, .iconst (-1), 1, 0, 0, 0), (26, .if_icmp .ne 4, 3, 0, 0, 0),
  (29, .return_, 1, 0, 0, 0), (30, .aload_n 0, 1, 0, 0, 0), (31, .getfield 42, 3, 5, 2, 0), (34, .getfield 102, 3, 2, 4, 0), (37, .iload_n 2, 1, 0, 0, 0), (38, .iconst 0, 1, 0, 0, 0), (39, .iastore, 1, 0, 0, 0), (40, .aload_n 0, 1, 0, 0, 0),
  (41, .getfield 42, 3, 5, 2, 0), (44, .getfield 99, 3, 2, 3, 0), (47, .iload_n 2, 1, 0, 0, 0), (48, .iconst 1, 1, 0, 0, 0), (49, .iastore, 1, 0, 0, 0), (50, .aload_n 0, 1, 0, 0, 0), (51, .iload_n 2, 1, 0, 0, 0), (52, .invokevirtual 153, 3, 136, 2, 5),
  (55, .aload_n 0, 1, 0, 0, 0), (56, .iload_n 2, 1, 0, 0, 0), (57, .invokevirtual 156, 3, 134, 2, 5), (60, .iinc 1 1, 3, 0, 0, 0), (63, .goto (-61), 3, 0, 0, 0), (66, .return_, 1, 0, 0, 0)])
def mm122 : ma_M := (⟨RC5, "becomeAgain", "(LPhaseBook$State;)V"⟩, prog_6_method_13_code, 2, none, 1, 5, [
  (0, .aload_n 0, 1, 0, 0, 0), (1, .iconst (-1), 1, 0, 0, 0), (2, .invokevirtual 159, 3, 148, 2, 5), (5, .aload_n 0, 1, 0, 0, 0), (6, .getfield 34, 3, 5, 1, 0), (9, .aload_n 1, 1, 0, 0, 0), (10, .invokevirtual 162, 3, 156, 2, 7), (13, .aload_n 0, 1, 0, 0, 0),
  (14, .iconst 1, 1, 0, 0, 0), (15, .invokevirtual 159, 3, 148, 2, 5), (18, .return_, 1, 0, 0, 0)])
def mm123 : ma_M := (⟨RC5, "comeIn", "(I)V"⟩, prog_6_method_14_code, 3, none, 1, 5, [
  (0, .aload_n 0, 1, 0, 0, 0), (1, .getfield 42, 3, 5, 2, 0), (4, .getfield 99, 3, 2, 3, 0), (7, .iload_n 1, 1, 0, 0, 0), (8, .iaload, 1, 0, 0, 0), (9, .istore_n 2, 1, 0, 0, 0), (10, .iload_n 2, 1, 0, 0, 0), (11, .iconst 4, 1, 0, 0, 0),
  (12, .if_icmp .ne 14, 3, 0, 0, 0), (15, .aload_n 0, 1, 0, 0, 0), (16, .getfield 42, 3, 5, 2, 0), (19, .getfield 102, 3, 2, 4, 0), (22, .iload_n 1, 1, 0, 0, 0), (23, .iconst 2, 1, 0, 0, 0), (24, .iastore, 1, 0, 0, 0), (25, .return_, 1, 0, 0, 0),
  (26, .aload_n 0, 1, 0, 0, 0), (27, .getfield 34, 3, 5, 1, 0), (30, .getfield 84, 3, 7, 0, 0), (33, .iconst 2, 1, 0, 0, 0), (34, .if_icmp .ne 21, 3, 0, 0, 0), (37, .iload_n 2, 1, 0, 0, 0), (38, .iconst 3, 1, 0, 0, 0), (39, .if_icmp .ne 11, 3, 0, 0, 0),
  (42, .aload_n 0, 1, 0, 0, 0), (43, .iload_n 1, 1, 0, 0, 0), (44, .invokevirtual 166, 3, 135, 2, 5), (47, .ifCond .eq 8, 3, 0, 0, 0), (50, .aload_n 0, 1, 0, 0, 0), (51, .iload_n 1, 1, 0, 0, 0), (52, .invokevirtual 153, 3, 136, 2, 5), (55, .aload_n 0, 1, 0, 0, 0),
  (56, .iload_n 1, 1, 0, 0, 0), (57, .invokevirtual 156, 3, 134, 2, 5), (60, .return_, 1, 0, 0, 0)])
def mm124 : ma_M := (⟨RC5, "settleRest", "(I)V"⟩, prog_6_method_15_code, 2, none, 1, 5, [
  (0, .aload_n 0, 1, 0, 0, 0), (1, .getfield 42, 3, 5, 2, 0), (4, .getfield 105, 3, 2, 5, 0), (7, .iload_n 1, 1, 0, 0, 0), (8, .iaload, 1, 0, 0, 0), (9, .ifCond .ne 4, 3, 0, 0, 0), (12, .return_, 1, 0, 0, 0), (13, .aload_n 0, 1, 0, 0, 0),
  (14, .getfield 42, 3, 5, 2, 0), (17, .getfield 99, 3, 2, 3, 0), (20, .iload_n 1, 1, 0, 0, 0), (21, .iaload, 1, 0, 0, 0), (22, .invokestatic 90, 3, 36, 1, 100), (25, .ifCond .eq 11, 3, 0, 0, 0), (28, .aload_n 0, 1, 0, 0, 0), (29, .iload_n 1, 1, 0, 0, 0),
  (30, .invokevirtual 169, 3, 145, 2, 5), (33, .goto 8, 3, 0, 0, 0), (36, .aload_n 0, 1, 0, 0, 0), (37, .iload_n 1, 1, 0, 0, 0), (38, .invokevirtual 172, 3, 126, 2, 5), (41, .return_, 1, 0, 0, 0)])
def mm125 : ma_M := (⟨RC5, "isWhollyTradable", "(I)Z"⟩, prog_6_method_16_code, 6, some .boolean, 1, 5, [
  (0, .iconst 1, 1, 0, 0, 0), (1, .aload_n 0, 1, 0, 0, 0), (2, .getfield 42, 3, 5, 2, 0), (5, .getfield 96, 3, 2, 2, 0), (8, .iload_n 1, 1, 0, 0, 0), (9, .iaload, 1, 0, 0, 0), (10, .isub, 1, 0, 0, 0), (11, .istore_n 2, 1, 0, 0, 0),
  (12, .iconst 0, 1, 0, 0, 0), (13, .istore_n 3, 1, 0, 0, 0), (14, .iconst 0, 1, 0, 0, 0), (15, .istore 4, 2, 0, 0, 0), (17, .iload 4, 2, 0, 0, 0), (19, .aload_n 0, 1, 0, 0, 0), (20, .getfield 42, 3, 5, 2, 0), (23, .getfield 175, 3, 2, 10, 0),
  (26, .iload_n 2, 1, 0, 0, 0), (27, .iaload, 1, 0, 0, 0), (28, .if_icmp .ge 96, 3, 0, 0, 0), (31, .aload_n 0, 1, 0, 0, 0), (32, .getfield 42, 3, 5, 2, 0), (35, .getfield 178, 3, 2, 9, 0), (38, .iload_n 2, 1, 0, 0, 0), (39, .aaload, 1, 0, 0, 0),
  (40, .iload 4, 2, 0, 0, 0), (42, .iaload, 1, 0, 0, 0), (43, .istore 5, 2, 0, 0, 0), (45, .aload_n 0, 1, 0, 0, 0), (46, .aload_n 0, 1, 0, 0, 0), (47, .getfield 42, 3, 5, 2, 0), (50, .getfield 108, 3, 2, 6, 0), (53, .iload 5, 2, 0, 0, 0),
  (55, .iaload, 1, 0, 0, 0), (56, .iload_n 1, 1, 0, 0, 0), (57, .invokevirtual 182, 3, 143, 3, 5), (60, .ifCond .eq 64, 3, 0, 0, 0), (63, .aload_n 0, 1, 0, 0, 0), (64, .aload_n 0, 1, 0, 0, 0), (65, .getfield 42, 3, 5, 2, 0), (68, .getfield 108, 3, 2, 6, 0),
  (71, .iload 5, 2, 0, 0, 0), (73, .iaload, 1, 0, 0, 0), (74, .invokevirtual 185, 3, 144, 2, 5), (77, .ifCond .eq 6, 3, 0, 0, 0), (80, .goto 44, 3, 0, 0, 0), (83, .aload_n 0, 1, 0, 0, 0), (84, .getfield 42, 3, 5, 2, 0), (87, .getfield 93, 3, 2, 1, 0),
  (90, .iload 5, 2, 0, 0, 0), (92, .iaload, 1, 0, 0, 0), (93, .aload_n 0, 1, 0, 0, 0), (94, .getfield 42, 3, 5, 2, 0), (97, .getfield 93, 3, 2, 1, 0), (100, .iload_n 1, 1, 0, 0, 0), (101, .iaload, 1, 0, 0, 0), (102, .if_icmp .eq 16, 3, 0, 0, 0),
  (105, .iload_n 3, 1, 0, 0, 0), (106, .aload_n 0, 1, 0, 0, 0), (107, .getfield 42, 3, 5, 2, 0), (110, .getfield 105, 3, 2, 5, 0), (113, .iload 5, 2, 0, 0, 0), (115, .iaload, 1, 0, 0, 0), (116, .iadd, 1, 0, 0, 0), (117, .istore_n 3, 1, 0, 0, 0),
  (118, .iinc 4 1, 3, 0, 0, 0), (121, .goto (-104), 3, 0, 0, 0), (124, .iload_n 3, 1, 0, 0, 0), (125, .aload_n 0, 1, 0, 0, 0), (126, .getfield 42, 3, 5, 2, 0), (129, .getfield 105, 3, 2, 5, 0), (132, .iload_n 1, 1, 0, 0, 0), (133, .iaload, 1, 0, 0, 0),
  (134, .if_icmp .lt 7, 3, 0, 0, 0), (137, .iconst 1, 1, 0, 0, 0), (138, .goto 4, 3, 0, 0, 0), (141, .iconst 0, 1, 0, 0, 0), (142, .ireturn, 1, 0, 0, 0)])
def mm126 : ma_M := (⟨RC5, "match", "(I)V"⟩, prog_6_method_17_code, 5, none, 1, 5, [
  (0, .iconst 1, 1, 0, 0, 0), (1, .aload_n 0, 1, 0, 0, 0), (2, .getfield 42, 3, 5, 2, 0), (5, .getfield 96, 3, 2, 2, 0), (8, .iload_n 1, 1, 0, 0, 0), (9, .iaload, 1, 0, 0, 0), (10, .isub, 1, 0, 0, 0), (11, .istore_n 2, 1, 0, 0, 0),
  (12, .iconst 0, 1, 0, 0, 0), (13, .istore_n 3, 1, 0, 0, 0), (14, .iload_n 3, 1, 0, 0, 0), (15, .sipush 1040, 3, 0, 0, 0), (18, .if_icmp .ge 120, 3, 0, 0, 0), (21, .aload_n 0, 1, 0, 0, 0), (22, .getfield 42, 3, 5, 2, 0), (25, .getfield 105, 3, 2, 5, 0),
  (28, .iload_n 1, 1, 0, 0, 0), (29, .iaload, 1, 0, 0, 0), (30, .ifCond .le 108, 3, 0, 0, 0), (33, .aload_n 0, 1, 0, 0, 0), (34, .getfield 42, 3, 5, 2, 0), (37, .iload_n 2, 1, 0, 0, 0), (38, .invokevirtual 188, 3, 106, 2, 2), (41, .istore 4, 2, 0, 0, 0),
  (43, .iload 4, 2, 0, 0, 0), (45, .iconst (-1), 1, 0, 0, 0), (46, .if_icmp .eq 21, 3, 0, 0, 0), (49, .aload_n 0, 1, 0, 0, 0), (50, .aload_n 0, 1, 0, 0, 0), (51, .getfield 42, 3, 5, 2, 0), (54, .getfield 108, 3, 2, 6, 0), (57, .iload 4, 2, 0, 0, 0),
  (59, .iaload, 1, 0, 0, 0), (60, .iload_n 1, 1, 0, 0, 0), (61, .invokevirtual 182, 3, 143, 3, 5), (64, .ifCond .ne 4, 3, 0, 0, 0), (67, .return_, 1, 0, 0, 0), (68, .aload_n 0, 1, 0, 0, 0), (69, .aload_n 0, 1, 0, 0, 0), (70, .getfield 42, 3, 5, 2, 0),
  (73, .getfield 108, 3, 2, 6, 0), (76, .iload 4, 2, 0, 0, 0), (78, .iaload, 1, 0, 0, 0), (79, .invokevirtual 185, 3, 144, 2, 5), (82, .ifCond .eq 12, 3, 0, 0, 0), (85, .aload_n 0, 1, 0, 0, 0), (86, .getfield 34, 3, 5, 1, 0), (89, .iconst 4, 1, 0, 0, 0),
  (90, .putfield 84, 3, 7, 0, 0), (93, .return_, 1, 0, 0, 0), (94, .aload_n 0, 1, 0, 0, 0), (95, .getfield 42, 3, 5, 2, 0), (98, .getfield 93, 3, 2, 1, 0), (101, .iload 4, 2, 0, 0, 0), (103, .iaload, 1, 0, 0, 0), (104, .aload_n 0, 1, 0, 0, 0),
  (105, .getfield 42, 3, 5, 2, 0), (108, .getfield 93, 3, 2, 1, 0), (111, .iload_n 1, 1, 0, 0, 0), (112, .iaload, 1, 0, 0, 0), (113, .if_icmp .ne 12, 3, 0, 0, 0), (116, .aload_n 0, 1, 0, 0, 0), (117, .iload 4, 2, 0, 0, 0), (119, .invokevirtual 172, 3, 126, 2, 5),
  (122, .goto 10, 3, 0, 0, 0), (125, .aload_n 0, 1, 0, 0, 0), (126, .iload_n 1, 1, 0, 0, 0), (127, .iload 4, 2, 0, 0, 0), (129, .invokevirtual 191, 3, 137, 3, 5), (132, .iinc 3 1, 3, 0, 0, 0), (135, .goto (-121), 3, 0, 0, 0), (138, .return_, 1, 0, 0, 0)])
def mm127 : ma_M := (⟨RC5, "trade", "(II)V"⟩, prog_6_method_18_code, 6, none, 2, 5, [
  (0, .aload_n 0, 1, 0, 0, 0), (1, .getfield 42, 3, 5, 2, 0), (4, .getfield 108, 3, 2, 6, 0), (7, .iload_n 2, 1, 0, 0, 0), (8, .iaload, 1, 0, 0, 0), (9, .istore_n 3, 1, 0, 0, 0), (10, .aload_n 0, 1, 0, 0, 0), (11, .getfield 42, 3, 5, 2, 0),
  (14, .getfield 105, 3, 2, 5, 0), (17, .iload_n 1, 1, 0, 0, 0), (18, .iaload, 1, 0, 0, 0), (19, .aload_n 0, 1, 0, 0, 0), (20, .getfield 42, 3, 5, 2, 0), (23, .getfield 114, 3, 2, 8, 0), (26, .iload_n 2, 1, 0, 0, 0), (27, .iaload, 1, 0, 0, 0),
  (28, .invokestatic 134, 3, 2, 0, 0), (31, .istore 4, 2, 0, 0, 0), (33, .aload_n 0, 1, 0, 0, 0), (34, .getfield 42, 3, 5, 2, 0), (37, .getfield 114, 3, 2, 8, 0), (40, .iload_n 2, 1, 0, 0, 0), (41, .iaload, 1, 0, 0, 0), (42, .iload 4, 2, 0, 0, 0),
  (44, .isub, 1, 0, 0, 0), (45, .istore 5, 2, 0, 0, 0), (47, .aload_n 0, 1, 0, 0, 0), (48, .getfield 34, 3, 5, 1, 0), (51, .iload_n 3, 1, 0, 0, 0), (52, .putfield 194, 3, 7, 1, 0), (55, .aload_n 0, 1, 0, 0, 0), (56, .getfield 42, 3, 5, 2, 0),
  (59, .getfield 105, 3, 2, 5, 0), (62, .iload_n 1, 1, 0, 0, 0), (63, .dup2, 1, 0, 0, 0), (64, .iaload, 1, 0, 0, 0), (65, .iload 4, 2, 0, 0, 0), (67, .isub, 1, 0, 0, 0), (68, .iastore, 1, 0, 0, 0), (69, .aload_n 0, 1, 0, 0, 0),
  (70, .getfield 42, 3, 5, 2, 0), (73, .getfield 105, 3, 2, 5, 0), (76, .iload_n 2, 1, 0, 0, 0), (77, .dup2, 1, 0, 0, 0), (78, .iaload, 1, 0, 0, 0), (79, .iload 4, 2, 0, 0, 0), (81, .isub, 1, 0, 0, 0), (82, .iastore, 1, 0, 0, 0),
  (83, .aload_n 0, 1, 0, 0, 0), (84, .iload_n 2, 1, 0, 0, 0), (85, .iconst 2, 1, 0, 0, 0), (86, .iload 4, 2, 0, 0, 0), (88, .iload_n 3, 1, 0, 0, 0), (89, .invokevirtual 121, 3, 150, 5, 5), (92, .aload_n 0, 1, 0, 0, 0), (93, .iload_n 1, 1, 0, 0, 0),
  (94, .iconst 2, 1, 0, 0, 0), (95, .iload 4, 2, 0, 0, 0), (97, .iload_n 3, 1, 0, 0, 0), (98, .invokevirtual 121, 3, 150, 5, 5), (101, .iload 5, 2, 0, 0, 0), (103, .ifCond .le 11, 3, 0, 0, 0), (106, .aload_n 0, 1, 0, 0, 0), (107, .iload_n 2, 1, 0, 0, 0),
  (108, .iload 5, 2, 0, 0, 0), (110, .invokevirtual 140, 3, 147, 3, 5), (113, .return_, 1, 0, 0, 0), (114, .aload_n 0, 1, 0, 0, 0), (115, .iload_n 2, 1, 0, 0, 0), (116, .invokevirtual 131, 3, 146, 2, 5), (119, .aload_n 0, 1, 0, 0, 0), (120, .getfield 42, 3, 5, 2, 0),
  (123, .getfield 105, 3, 2, 5, 0), (126, .iload_n 2, 1, 0, 0, 0), (127, .iaload, 1, 0, 0, 0), (128, .ifCond .le 8, 3, 0, 0, 0), (131, .aload_n 0, 1, 0, 0, 0), (132, .iload_n 2, 1, 0, 0, 0), (133, .invokevirtual 169, 3, 145, 2, 5), (136, .return_, 1, 0, 0, 0)])
def mm128 : ma_M := (⟨RC5, "holdAuction", "()V"⟩, prog_6_method_19_code, 1, none, 0, 5, [
  (0, .aload_n 0, 1, 0, 0, 0), (1, .getfield 21, 3, 5, 5, 0), (4, .aload_n 0, 1, 0, 0, 0), (5, .getfield 42, 3, 5, 2, 0), (8, .aload_n 0, 1, 0, 0, 0), (9, .getfield 34, 3, 5, 1, 0), (12, .getfield 197, 3, 7, 2, 0), (15, .invokevirtual 200, 3, 98, 3, 1),
  (18, .aload_n 0, 1, 0, 0, 0), (19, .getfield 21, 3, 5, 5, 0), (22, .getfield 204, 3, 1, 1, 0), (25, .ifCond .ne 4, 3, 0, 0, 0), (28, .return_, 1, 0, 0, 0), (29, .aload_n 0, 1, 0, 0, 0), (30, .iconst 0, 1, 0, 0, 0), (31, .invokevirtual 207, 3, 139, 2, 5),
  (34, .aload_n 0, 1, 0, 0, 0), (35, .iconst 1, 1, 0, 0, 0), (36, .invokevirtual 207, 3, 139, 2, 5), (39, .aload_n 0, 1, 0, 0, 0), (40, .getfield 34, 3, 5, 1, 0), (43, .aload_n 0, 1, 0, 0, 0), (44, .getfield 21, 3, 5, 5, 0), (47, .getfield 210, 3, 1, 0, 0),
  (50, .putfield 194, 3, 7, 1, 0), (53, .aload_n 0, 1, 0, 0, 0), (54, .getfield 34, 3, 5, 1, 0), (57, .aload_n 0, 1, 0, 0, 0), (58, .getfield 21, 3, 5, 5, 0), (61, .getfield 210, 3, 1, 0, 0), (64, .putfield 197, 3, 7, 2, 0), (67, .return_, 1, 0, 0, 0)])
def mm129 : ma_M := (⟨RC5, "tradeInAuction", "(I)V"⟩, prog_6_method_20_code, 6, none, 1, 5, [
  (0, .aload_n 0, 1, 0, 0, 0), (1, .getfield 21, 3, 5, 5, 0), (4, .getfield 204, 3, 1, 1, 0), (7, .istore_n 2, 1, 0, 0, 0), (8, .iconst 0, 1, 0, 0, 0), (9, .istore_n 3, 1, 0, 0, 0), (10, .iload_n 3, 1, 0, 0, 0), (11, .bipush 40, 2, 0, 0, 0),
  (13, .if_icmp .ge 133, 3, 0, 0, 0), (16, .iload_n 2, 1, 0, 0, 0), (17, .ifCond .le 129, 3, 0, 0, 0), (20, .aload_n 0, 1, 0, 0, 0), (21, .getfield 42, 3, 5, 2, 0), (24, .iload_n 1, 1, 0, 0, 0), (25, .invokevirtual 188, 3, 106, 2, 2), (28, .istore 4, 2, 0, 0, 0),
  (30, .iload 4, 2, 0, 0, 0), (32, .iconst (-1), 1, 0, 0, 0), (33, .if_icmp .ne 4, 3, 0, 0, 0), (36, .return_, 1, 0, 0, 0), (37, .iload_n 2, 1, 0, 0, 0), (38, .aload_n 0, 1, 0, 0, 0), (39, .getfield 42, 3, 5, 2, 0), (42, .getfield 105, 3, 2, 5, 0),
  (45, .iload 4, 2, 0, 0, 0), (47, .iaload, 1, 0, 0, 0), (48, .invokestatic 134, 3, 2, 0, 0), (51, .istore 5, 2, 0, 0, 0), (53, .iload_n 2, 1, 0, 0, 0), (54, .iload 5, 2, 0, 0, 0), (56, .isub, 1, 0, 0, 0), (57, .istore_n 2, 1, 0, 0, 0),
  (58, .aload_n 0, 1, 0, 0, 0), (59, .getfield 42, 3, 5, 2, 0), (62, .getfield 105, 3, 2, 5, 0), (65, .iload 4, 2, 0, 0, 0), (67, .dup2, 1, 0, 0, 0), (68, .iaload, 1, 0, 0, 0), (69, .iload 5, 2, 0, 0, 0), (71, .isub, 1, 0, 0, 0),
  (72, .iastore, 1, 0, 0, 0), (73, .aload_n 0, 1, 0, 0, 0), (74, .iload 4, 2, 0, 0, 0), (76, .iconst 2, 1, 0, 0, 0), (77, .iload 5, 2, 0, 0, 0), (79, .aload_n 0, 1, 0, 0, 0), (80, .getfield 21, 3, 5, 5, 0), (83, .getfield 210, 3, 1, 0, 0),
  (86, .invokevirtual 121, 3, 150, 5, 5), (89, .aload_n 0, 1, 0, 0, 0), (90, .getfield 42, 3, 5, 2, 0), (93, .getfield 105, 3, 2, 5, 0), (96, .iload 4, 2, 0, 0, 0), (98, .iaload, 1, 0, 0, 0), (99, .ifCond .ne 12, 3, 0, 0, 0), (102, .aload_n 0, 1, 0, 0, 0),
  (103, .iload 4, 2, 0, 0, 0), (105, .invokevirtual 131, 3, 146, 2, 5), (108, .goto 32, 3, 0, 0, 0), (111, .aload_n 0, 1, 0, 0, 0), (112, .iload 4, 2, 0, 0, 0), (114, .aload_n 0, 1, 0, 0, 0), (115, .getfield 42, 3, 5, 2, 0), (118, .getfield 111, 3, 2, 7, 0),
  (121, .iload 4, 2, 0, 0, 0), (123, .iaload, 1, 0, 0, 0), (124, .aload_n 0, 1, 0, 0, 0), (125, .getfield 42, 3, 5, 2, 0), (128, .getfield 105, 3, 2, 5, 0), (131, .iload 4, 2, 0, 0, 0), (133, .iaload, 1, 0, 0, 0), (134, .invokestatic 134, 3, 2, 0, 0),
  (137, .invokevirtual 140, 3, 147, 3, 5), (140, .iinc 3 1, 3, 0, 0, 0), (143, .goto (-133), 3, 0, 0, 0), (146, .return_, 1, 0, 0, 0)])
def mm130 : ma_M := (⟨RC5, "cancelAll", "()V"⟩, prog_6_method_21_code, 2, none, 0, 5, [
  (0, .iconst 0, 1, 0, 0, 0), (1, .istore_n 1, 1, 0, 0, 0), (2, .iload_n 1, 1, 0, 0, 0), (3, .aload_n 0, 1, 0, 0, 0), (4, .getfield 42, 3, 5, 2, 0), (7, .getfield 71, 3, 2, 0, 0), (10, .if_icmp .ge 26, 3, 0, 0, 0), (13, .aload_n 0, 1, 0, 0, 0),
  (14, .getfield 42, 3, 5, 2, 0), (17, .getfield 102, 3, 2, 4, 0), (20, .iload_n 1, 1, 0, 0, 0), (21, .iaload, 1, 0, 0, 0), (22, .ifCond .eq 8, 3, 0, 0, 0), (25, .aload_n 0, 1, 0, 0, 0), (26, .iload_n 1, 1, 0, 0, 0), (27, .invokevirtual 172, 3, 126, 2, 5),
  (30, .iinc 1 1, 3, 0, 0, 0), (33, .goto (-31), 3, 0, 0, 0), (36, .return_, 1, 0, 0, 0)])
def mm131 : ma_M := (⟨RC5, "lowestDueStop", "()I"⟩, prog_6_method_22_code, 2, some .int, 0, 5, [
  (0, .iconst 0, 1, 0, 0, 0), (1, .istore_n 1, 1, 0, 0, 0), (2, .iload_n 1, 1, 0, 0, 0), (3, .aload_n 0, 1, 0, 0, 0), (4, .getfield 42, 3, 5, 2, 0), (7, .getfield 71, 3, 2, 0, 0), (10, .if_icmp .ge 32, 3, 0, 0, 0), (13, .aload_n 0, 1, 0, 0, 0),
  (14, .getfield 42, 3, 5, 2, 0), (17, .getfield 102, 3, 2, 4, 0), (20, .iload_n 1, 1, 0, 0, 0), (21, .iaload, 1, 0, 0, 0), (22, .iconst 2, 1, 0, 0, 0), (23, .if_icmp .ne 13, 3, 0, 0, 0), (26, .aload_n 0, 1, 0, 0, 0), (27, .iload_n 1, 1, 0, 0, 0),
  (28, .invokevirtual 212, 3, 142, 2, 5), (31, .ifCond .eq 5, 3, 0, 0, 0), (34, .iload_n 1, 1, 0, 0, 0), (35, .ireturn, 1, 0, 0, 0), (36, .iinc 1 1, 3, 0, 0, 0), (39, .goto (-37), 3, 0, 0, 0), (42, .iconst (-1), 1, 0, 0, 0), (43, .ireturn, 1, 0, 0, 0)])
def mm132 : ma_M := (⟨RC5, "isDue", "(I)Z"⟩, prog_6_method_23_code, 3, some .boolean, 1, 5, [
  (0, .aload_n 0, 1, 0, 0, 0), (1, .getfield 42, 3, 5, 2, 0), (4, .getfield 108, 3, 2, 6, 0), (7, .iload_n 1, 1, 0, 0, 0), (8, .iaload, 1, 0, 0, 0), (9, .istore_n 2, 1, 0, 0, 0), (10, .aload_n 0, 1, 0, 0, 0), (11, .getfield 42, 3, 5, 2, 0),
  (14, .getfield 96, 3, 2, 2, 0), (17, .iload_n 1, 1, 0, 0, 0), (18, .iaload, 1, 0, 0, 0), (19, .ifCond .ne 22, 3, 0, 0, 0), (22, .iload_n 2, 1, 0, 0, 0), (23, .aload_n 0, 1, 0, 0, 0), (24, .getfield 34, 3, 5, 1, 0), (27, .getfield 194, 3, 7, 1, 0),
  (30, .if_icmp .gt 7, 3, 0, 0, 0), (33, .iconst 1, 1, 0, 0, 0), (34, .goto 23, 3, 0, 0, 0), (37, .iconst 0, 1, 0, 0, 0), (38, .goto 19, 3, 0, 0, 0), (41, .iload_n 2, 1, 0, 0, 0), (42, .aload_n 0, 1, 0, 0, 0), (43, .getfield 34, 3, 5, 1, 0),
  (46, .getfield 194, 3, 7, 1, 0), (49, .if_icmp .lt 7, 3, 0, 0, 0), (52, .iconst 1, 1, 0, 0, 0), (53, .goto 4, 3, 0, 0, 0), (56, .iconst 0, 1, 0, 0, 0), (57, .ireturn, 1, 0, 0, 0)])
def mm133 : ma_M := (⟨RC5, "meets", "(II)Z"⟩, prog_6_method_24_code, 4, some .boolean, 2, 5, [
  (0, .aload_n 0, 1, 0, 0, 0), (1, .getfield 42, 3, 5, 2, 0), (4, .getfield 99, 3, 2, 3, 0), (7, .iload_n 2, 1, 0, 0, 0), (8, .iaload, 1, 0, 0, 0), (9, .invokestatic 52, 3, 37, 1, 100), (12, .ifCond .ne 5, 3, 0, 0, 0), (15, .iconst 1, 1, 0, 0, 0),
  (16, .ireturn, 1, 0, 0, 0), (17, .aload_n 0, 1, 0, 0, 0), (18, .getfield 42, 3, 5, 2, 0), (21, .getfield 108, 3, 2, 6, 0), (24, .iload_n 2, 1, 0, 0, 0), (25, .iaload, 1, 0, 0, 0), (26, .istore_n 3, 1, 0, 0, 0), (27, .aload_n 0, 1, 0, 0, 0),
  (28, .getfield 42, 3, 5, 2, 0), (31, .getfield 96, 3, 2, 2, 0), (34, .iload_n 2, 1, 0, 0, 0), (35, .iaload, 1, 0, 0, 0), (36, .ifCond .ne 16, 3, 0, 0, 0), (39, .iload_n 1, 1, 0, 0, 0), (40, .iload_n 3, 1, 0, 0, 0), (41, .if_icmp .gt 7, 3, 0, 0, 0),
  (44, .iconst 1, 1, 0, 0, 0), (45, .goto 17, 3, 0, 0, 0), (48, .iconst 0, 1, 0, 0, 0), (49, .goto 13, 3, 0, 0, 0), (52, .iload_n 1, 1, 0, 0, 0), (53, .iload_n 3, 1, 0, 0, 0), (54, .if_icmp .lt 7, 3, 0, 0, 0), (57, .iconst 1, 1, 0, 0, 0),
  (58, .goto 4, 3, 0, 0, 0), (61, .iconst 0, 1, 0, 0, 0), (62, .ireturn, 1, 0, 0, 0)])
def mm134 : ma_M := (⟨RC5, "isWild", "(I)Z"⟩, prog_6_method_25_code, 2, some .boolean, 1, 5, [
  (0, .iload_n 1, 1, 0, 0, 0), (1, .aload_n 0, 1, 0, 0, 0), (2, .getfield 34, 3, 5, 1, 0), (5, .getfield 197, 3, 7, 2, 0), (8, .isub, 1, 0, 0, 0), (9, .invokestatic 215, 3, 3, 0, 0), (12, .aload_n 0, 1, 0, 0, 0), (13, .getfield 25, 3, 5, 0, 0),
  (16, .if_icmp .le 7, 3, 0, 0, 0), (19, .iconst 1, 1, 0, 0, 0), (20, .goto 4, 3, 0, 0, 0), (23, .iconst 0, 1, 0, 0, 0), (24, .ireturn, 1, 0, 0, 0)])
def mm135 : ma_M := (⟨RC5, "rest", "(I)V"⟩, prog_6_method_26_code, 3, none, 1, 5, [
  (0, .aload_n 0, 1, 0, 0, 0), (1, .getfield 42, 3, 5, 2, 0), (4, .getfield 111, 3, 2, 7, 0), (7, .iload_n 1, 1, 0, 0, 0), (8, .iaload, 1, 0, 0, 0), (9, .aload_n 0, 1, 0, 0, 0), (10, .getfield 42, 3, 5, 2, 0), (13, .getfield 105, 3, 2, 5, 0),
  (16, .iload_n 1, 1, 0, 0, 0), (17, .iaload, 1, 0, 0, 0), (18, .invokestatic 134, 3, 2, 0, 0), (21, .istore_n 2, 1, 0, 0, 0), (22, .aload_n 0, 1, 0, 0, 0), (23, .getfield 42, 3, 5, 2, 0), (26, .getfield 102, 3, 2, 4, 0), (29, .iload_n 1, 1, 0, 0, 0),
  (30, .iconst 1, 1, 0, 0, 0), (31, .iastore, 1, 0, 0, 0), (32, .aload_n 0, 1, 0, 0, 0), (33, .getfield 42, 3, 5, 2, 0), (36, .getfield 114, 3, 2, 8, 0), (39, .iload_n 1, 1, 0, 0, 0), (40, .iload_n 2, 1, 0, 0, 0), (41, .iastore, 1, 0, 0, 0),
  (42, .aload_n 0, 1, 0, 0, 0), (43, .getfield 42, 3, 5, 2, 0), (46, .iload_n 1, 1, 0, 0, 0), (47, .invokevirtual 218, 3, 109, 2, 2), (50, .aload_n 0, 1, 0, 0, 0), (51, .getfield 12, 3, 5, 4, 0), (54, .aload_n 0, 1, 0, 0, 0), (55, .getfield 42, 3, 5, 2, 0),
  (58, .getfield 96, 3, 2, 2, 0), (61, .iload_n 1, 1, 0, 0, 0), (62, .iaload, 1, 0, 0, 0), (63, .aload_n 0, 1, 0, 0, 0), (64, .getfield 42, 3, 5, 2, 0), (67, .getfield 108, 3, 2, 6, 0), (70, .iload_n 1, 1, 0, 0, 0), (71, .iaload, 1, 0, 0, 0),
  (72, .iload_n 2, 1, 0, 0, 0), (73, .invokevirtual 221, 3, 118, 4, 4), (76, .return_, 1, 0, 0, 0)])
def mm136 : ma_M := (⟨RC5, "takeOut", "(I)V"⟩, prog_6_method_27_code, 2, none, 1, 5, [
  (0, .aload_n 0, 1, 0, 0, 0), (1, .getfield 12, 3, 5, 4, 0), (4, .aload_n 0, 1, 0, 0, 0), (5, .getfield 42, 3, 5, 2, 0), (8, .getfield 96, 3, 2, 2, 0), (11, .iload_n 1, 1, 0, 0, 0), (12, .iaload, 1, 0, 0, 0), (13, .aload_n 0, 1, 0, 0, 0),
  (14, .getfield 42, 3, 5, 2, 0), (17, .getfield 108, 3, 2, 6, 0), (20, .iload_n 1, 1, 0, 0, 0), (21, .iaload, 1, 0, 0, 0), (22, .aload_n 0, 1, 0, 0, 0), (23, .getfield 42, 3, 5, 2, 0), (26, .getfield 114, 3, 2, 8, 0), (29, .iload_n 1, 1, 0, 0, 0),
  (30, .iaload, 1, 0, 0, 0), (31, .ineg, 1, 0, 0, 0), (32, .invokevirtual 221, 3, 118, 4, 4), (35, .aload_n 0, 1, 0, 0, 0), (36, .getfield 42, 3, 5, 2, 0), (39, .iload_n 1, 1, 0, 0, 0), (40, .invokevirtual 225, 3, 110, 2, 2), (43, .aload_n 0, 1, 0, 0, 0),
  (44, .getfield 42, 3, 5, 2, 0), (47, .getfield 114, 3, 2, 8, 0), (50, .iload_n 1, 1, 0, 0, 0), (51, .iconst 0, 1, 0, 0, 0), (52, .iastore, 1, 0, 0, 0), (53, .aload_n 0, 1, 0, 0, 0), (54, .getfield 42, 3, 5, 2, 0), (57, .getfield 102, 3, 2, 4, 0),
  (60, .iload_n 1, 1, 0, 0, 0), (61, .iconst 0, 1, 0, 0, 0), (62, .iastore, 1, 0, 0, 0), (63, .return_, 1, 0, 0, 0)])
def mm137 : ma_M := (⟨RC5, "show", "(II)V"⟩, prog_6_method_28_code, 3, none, 2, 5, [
  (0, .aload_n 0, 1, 0, 0, 0), (1, .getfield 12, 3, 5, 4, 0), (4, .aload_n 0, 1, 0, 0, 0), (5, .getfield 42, 3, 5, 2, 0), (8, .getfield 96, 3, 2, 2, 0), (11, .iload_n 1, 1, 0, 0, 0), (12, .iaload, 1, 0, 0, 0), (13, .aload_n 0, 1, 0, 0, 0),
  (14, .getfield 42, 3, 5, 2, 0), (17, .getfield 108, 3, 2, 6, 0), (20, .iload_n 1, 1, 0, 0, 0), (21, .iaload, 1, 0, 0, 0), (22, .iload_n 2, 1, 0, 0, 0), (23, .aload_n 0, 1, 0, 0, 0), (24, .getfield 42, 3, 5, 2, 0), (27, .getfield 114, 3, 2, 8, 0),
  (30, .iload_n 1, 1, 0, 0, 0), (31, .iaload, 1, 0, 0, 0), (32, .isub, 1, 0, 0, 0), (33, .invokevirtual 221, 3, 118, 4, 4), (36, .aload_n 0, 1, 0, 0, 0), (37, .getfield 42, 3, 5, 2, 0), (40, .getfield 114, 3, 2, 8, 0), (43, .iload_n 1, 1, 0, 0, 0),
  (44, .iload_n 2, 1, 0, 0, 0), (45, .iastore, 1, 0, 0, 0), (46, .return_, 1, 0, 0, 0)])
def mm138 : ma_M := (⟨RC5, "moveLevels", "(I)V"⟩, prog_6_method_29_code, 5, none, 1, 5, [
  (0, .iconst 0, 1, 0, 0, 0), (1, .istore_n 2, 1, 0, 0, 0), (2, .iload_n 2, 1, 0, 0, 0), (3, .iconst 2, 1, 0, 0, 0), (4, .if_icmp .ge 73, 3, 0, 0, 0), (7, .iconst 0, 1, 0, 0, 0), (8, .istore_n 3, 1, 0, 0, 0), (9, .iload_n 3, 1, 0, 0, 0),
  (10, .aload_n 0, 1, 0, 0, 0), (11, .getfield 42, 3, 5, 2, 0), (14, .getfield 175, 3, 2, 10, 0), (17, .iload_n 2, 1, 0, 0, 0), (18, .iaload, 1, 0, 0, 0), (19, .if_icmp .ge 52, 3, 0, 0, 0), (22, .aload_n 0, 1, 0, 0, 0), (23, .getfield 42, 3, 5, 2, 0),
  (26, .getfield 178, 3, 2, 9, 0), (29, .iload_n 2, 1, 0, 0, 0), (30, .aaload, 1, 0, 0, 0), (31, .iload_n 3, 1, 0, 0, 0), (32, .iaload, 1, 0, 0, 0), (33, .istore 4, 2, 0, 0, 0), (35, .aload_n 0, 1, 0, 0, 0), (36, .getfield 12, 3, 5, 4, 0),
  (39, .iload_n 2, 1, 0, 0, 0), (40, .aload_n 0, 1, 0, 0, 0), (41, .getfield 42, 3, 5, 2, 0), (44, .getfield 108, 3, 2, 6, 0), (47, .iload 4, 2, 0, 0, 0), (49, .iaload, 1, 0, 0, 0), (50, .iload_n 1, 1, 0, 0, 0), (51, .aload_n 0, 1, 0, 0, 0),
  (52, .getfield 42, 3, 5, 2, 0), (55, .getfield 114, 3, 2, 8, 0), (58, .iload 4, 2, 0, 0, 0), (60, .iaload, 1, 0, 0, 0), (61, .imul, 1, 0, 0, 0), (62, .invokevirtual 221, 3, 118, 4, 4), (65, .iinc 3 1, 3, 0, 0, 0), (68, .goto (-59), 3, 0, 0, 0),
  (71, .iinc 2 1, 3, 0, 0, 0), (74, .goto (-72), 3, 0, 0, 0), (77, .return_, 1, 0, 0, 0)])
def mm139 : ma_M := (⟨RC5, "priceToTell", "(I)I"⟩, prog_6_method_30_code, 2, some .int, 1, 5, [
  (0, .aload_n 0, 1, 0, 0, 0), (1, .getfield 42, 3, 5, 2, 0), (4, .getfield 99, 3, 2, 3, 0), (7, .iload_n 1, 1, 0, 0, 0), (8, .iaload, 1, 0, 0, 0), (9, .invokestatic 52, 3, 37, 1, 100), (12, .ifCond .eq 15, 3, 0, 0, 0), (15, .aload_n 0, 1, 0, 0, 0),
  (16, .getfield 42, 3, 5, 2, 0), (19, .getfield 108, 3, 2, 6, 0), (22, .iload_n 1, 1, 0, 0, 0), (23, .iaload, 1, 0, 0, 0), (24, .goto 4, 3, 0, 0, 0), (27, .iconst 0, 1, 0, 0, 0), (28, .ireturn, 1, 0, 0, 0)])
def mm140 : ma_M := (⟨RC5, "tellOwner", "(IIII)V"⟩, prog_6_method_31_code, 5, none, 4, 5, [
  (0, .aload_n 0, 1, 0, 0, 0), (1, .getfield 47, 3, 5, 3, 0), (4, .aload_n 0, 1, 0, 0, 0), (5, .getfield 42, 3, 5, 2, 0), (8, .getfield 93, 3, 2, 1, 0), (11, .iload_n 1, 1, 0, 0, 0), (12, .iaload, 1, 0, 0, 0), (13, .iload_n 2, 1, 0, 0, 0),
  (14, .iload_n 1, 1, 0, 0, 0), (15, .iload_n 3, 1, 0, 0, 0), (16, .iload 4, 2, 0, 0, 0), (18, .invokevirtual 228, 3, 152, 6, 6), (21, .return_, 1, 0, 0, 0)])
def mm141 : ma_M := (⟨RC6, "<init>", "()V"⟩, prog_7_method_1_code, 1, none, 0, 6, [
  (0, .aload_n 0, 1, 0, 0, 0), (1, .invokespecial 3, 3, 5, 0, 0), (4, .aload_n 0, 1, 0, 0, 0), (5, .iconst 4, 1, 0, 0, 0), (6, .newarray .int, 2, 0, 0, 0), (8, .dup, 1, 0, 0, 0), (9, .iconst 0, 1, 0, 0, 0), (10, .iconst 1, 1, 0, 0, 0),
  (11, .iastore, 1, 0, 0, 0), (12, .dup, 1, 0, 0, 0), (13, .iconst 1, 1, 0, 0, 0), (14, .iconst 1, 1, 0, 0, 0), (15, .iastore, 1, 0, 0, 0), (16, .dup, 1, 0, 0, 0), (17, .iconst 2, 1, 0, 0, 0), (18, .iconst 1, 1, 0, 0, 0),
  (19, .iastore, 1, 0, 0, 0), (20, .dup, 1, 0, 0, 0), (21, .iconst 3, 1, 0, 0, 0), (22, .iconst 1, 1, 0, 0, 0), (23, .iastore, 1, 0, 0, 0), (24, .putfield 9, 3, 6, 0, 0), (27, .aload_n 0, 1, 0, 0, 0), (28, .iconst 4, 1, 0, 0, 0),
  (29, .newarray .int, 2, 0, 0, 0), (31, .putfield 15, 3, 6, 1, 0), (34, .aload_n 0, 1, 0, 0, 0), (35, .iconst 4, 1, 0, 0, 0), (36, .newarray .int, 2, 0, 0, 0), (38, .putfield 18, 3, 6, 2, 0), (41, .aload_n 0, 1, 0, 0, 0), (42, .iconst 4, 1, 0, 0, 0),
  (43, .sipush 128, 3, 0, 0, 0), (46, .multianewarray 21 2, 4, 0, 0, 0), (50, .putfield 23, 3, 6, 3, 0), (53, .return_, 1, 0, 0, 0)])
def mm142 : ma_M := (⟨RC6, "addReport", "(IIIII)V"⟩, prog_7_method_2_code, 8, none, 5, 6, [
  (0, .aload_n 0, 1, 0, 0, 0), (1, .getfield 23, 3, 6, 3, 0), (4, .iload_n 1, 1, 0, 0, 0), (5, .aaload, 1, 0, 0, 0), (6, .astore 6, 2, 0, 0, 0), (8, .aload_n 0, 1, 0, 0, 0), (9, .getfield 18, 3, 6, 2, 0), (12, .iload_n 1, 1, 0, 0, 0),
  (13, .iaload, 1, 0, 0, 0), (14, .bipush 31, 2, 0, 0, 0), (16, .iand, 1, 0, 0, 0), (17, .iconst 4, 1, 0, 0, 0), (18, .imul, 1, 0, 0, 0), (19, .istore 7, 2, 0, 0, 0), (21, .aload 6, 2, 0, 0, 0), (23, .iload 7, 2, 0, 0, 0),
  (25, .iload_n 2, 1, 0, 0, 0), (26, .iastore, 1, 0, 0, 0), (27, .aload 6, 2, 0, 0, 0), (29, .iload 7, 2, 0, 0, 0), (31, .iconst 1, 1, 0, 0, 0), (32, .iadd, 1, 0, 0, 0), (33, .iload_n 3, 1, 0, 0, 0), (34, .iastore, 1, 0, 0, 0),
  (35, .aload 6, 2, 0, 0, 0), (37, .iload 7, 2, 0, 0, 0), (39, .iconst 2, 1, 0, 0, 0), (40, .iadd, 1, 0, 0, 0), (41, .iload 4, 2, 0, 0, 0), (43, .iastore, 1, 0, 0, 0), (44, .aload 6, 2, 0, 0, 0), (46, .iload 7, 2, 0, 0, 0),
  (48, .iconst 3, 1, 0, 0, 0), (49, .iadd, 1, 0, 0, 0), (50, .iload 5, 2, 0, 0, 0), (52, .iastore, 1, 0, 0, 0), (53, .aload_n 0, 1, 0, 0, 0), (54, .getfield 18, 3, 6, 2, 0), (57, .iload_n 1, 1, 0, 0, 0), (58, .dup2, 1, 0, 0, 0),
  (59, .iaload, 1, 0, 0, 0), (60, .iconst 1, 1, 0, 0, 0), (61, .iadd, 1, 0, 0, 0), (62, .iastore, 1, 0, 0, 0), (63, .return_, 1, 0, 0, 0)])
def mm143 : ma_M := (⟨RC6, "lookBack", "(III)I"⟩, prog_7_method_3_code, 5, some .int, 3, 6, [
  (0, .iload_n 2, 1, 0, 0, 0), (1, .ifCond .lt 19, 3, 0, 0, 0), (4, .iload_n 2, 1, 0, 0, 0), (5, .bipush 32, 2, 0, 0, 0), (7, .if_icmp .ge 13, 3, 0, 0, 0), (10, .iload_n 2, 1, 0, 0, 0), (11, .aload_n 0, 1, 0, 0, 0), (12, .getfield 18, 3, 6, 2, 0),
  (15, .iload_n 1, 1, 0, 0, 0), (16, .iaload, 1, 0, 0, 0), (17, .if_icmp .lt 5, 3, 0, 0, 0), (20, .iconst (-1), 1, 0, 0, 0), (21, .ireturn, 1, 0, 0, 0), (22, .aload_n 0, 1, 0, 0, 0), (23, .getfield 18, 3, 6, 2, 0), (26, .iload_n 1, 1, 0, 0, 0),
  (27, .iaload, 1, 0, 0, 0), (28, .iconst 1, 1, 0, 0, 0), (29, .isub, 1, 0, 0, 0), (30, .iload_n 2, 1, 0, 0, 0), (31, .isub, 1, 0, 0, 0), (32, .bipush 31, 2, 0, 0, 0), (34, .iand, 1, 0, 0, 0), (35, .iconst 4, 1, 0, 0, 0),
  (36, .imul, 1, 0, 0, 0), (37, .istore 4, 2, 0, 0, 0), (39, .aload_n 0, 1, 0, 0, 0), (40, .getfield 23, 3, 6, 3, 0), (43, .iload_n 1, 1, 0, 0, 0), (44, .aaload, 1, 0, 0, 0), (45, .iload 4, 2, 0, 0, 0), (47, .iload_n 3, 1, 0, 0, 0),
  (48, .iadd, 1, 0, 0, 0), (49, .iaload, 1, 0, 0, 0), (50, .ireturn, 1, 0, 0, 0)])
def mm144 : ma_M := (⟨RC6, "copyFrom", "(LPhaseBook$Sessions;)V"⟩, prog_7_method_4_code, 3, none, 1, 6, [
  (0, .aload_n 1, 1, 0, 0, 0), (1, .getfield 9, 3, 6, 0, 0), (4, .iconst 0, 1, 0, 0, 0), (5, .aload_n 0, 1, 0, 0, 0), (6, .getfield 9, 3, 6, 0, 0), (9, .iconst 0, 1, 0, 0, 0), (10, .iconst 4, 1, 0, 0, 0), (11, .invokestatic 26, 3, 4, 0, 0),
  (14, .aload_n 1, 1, 0, 0, 0), (15, .getfield 15, 3, 6, 1, 0), (18, .iconst 0, 1, 0, 0, 0), (19, .aload_n 0, 1, 0, 0, 0), (20, .getfield 15, 3, 6, 1, 0), (23, .iconst 0, 1, 0, 0, 0), (24, .iconst 4, 1, 0, 0, 0), (25, .invokestatic 26, 3, 4, 0, 0),
  (28, .aload_n 1, 1, 0, 0, 0), (29, .getfield 18, 3, 6, 2, 0), (32, .iconst 0, 1, 0, 0, 0), (33, .aload_n 0, 1, 0, 0, 0), (34, .getfield 18, 3, 6, 2, 0), (37, .iconst 0, 1, 0, 0, 0), (38, .iconst 4, 1, 0, 0, 0), (39, .invokestatic 26, 3, 4, 0, 0),
  (42, .iconst 0, 1, 0, 0, 0), (43, .istore_n 2, 1, 0, 0, 0), (44, .iload_n 2, 1, 0, 0, 0), (45, .iconst 4, 1, 0, 0, 0), (46, .if_icmp .ge 29, 3, 0, 0, 0), (49, .aload_n 1, 1, 0, 0, 0), (50, .getfield 23, 3, 6, 3, 0), (53, .iload_n 2, 1, 0, 0, 0),
  (54, .aaload, 1, 0, 0, 0), (55, .iconst 0, 1, 0, 0, 0), (56, .aload_n 0, 1, 0, 0, 0), (57, .getfield 23, 3, 6, 3, 0), (60, .iload_n 2, 1, 0, 0, 0), (61, .aaload, 1, 0, 0, 0), (62, .iconst 0, 1, 0, 0, 0), (63, .sipush 128, 3, 0, 0, 0),
  (66, .invokestatic 26, 3, 4, 0, 0), (69, .iinc 2 1, 3, 0, 0, 0), (72, .goto (-28), 3, 0, 0, 0), (75, .return_, 1, 0, 0, 0)])
def mm145 : ma_M := (⟨RC7, "<init>", "(I)V"⟩, prog_8_method_1_code, 2, none, 1, 7, [
  (0, .aload_n 0, 1, 0, 0, 0), (1, .invokespecial 3, 3, 5, 0, 0), (4, .aload_n 0, 1, 0, 0, 0), (5, .iconst 0, 1, 0, 0, 0), (6, .putfield 9, 3, 7, 0, 0), (9, .aload_n 0, 1, 0, 0, 0), (10, .new 15, 3, 2, 0, 0), (13, .dup, 1, 0, 0, 0),
  (14, .invokespecial 17, 3, 102, 1, 100), (17, .putfield 18, 3, 7, 3, 0), (20, .aload_n 0, 1, 0, 0, 0), (21, .new 22, 3, 6, 0, 0), (24, .dup, 1, 0, 0, 0), (25, .invokespecial 24, 3, 151, 1, 100), (28, .putfield 25, 3, 7, 4, 0), (31, .aload_n 0, 1, 0, 0, 0),
  (32, .iload_n 1, 1, 0, 0, 0), (33, .putfield 29, 3, 7, 1, 0), (36, .aload_n 0, 1, 0, 0, 0), (37, .iload_n 1, 1, 0, 0, 0), (38, .putfield 32, 3, 7, 2, 0), (41, .return_, 1, 0, 0, 0)])
def mm146 : ma_M := (⟨RC7, "copyFrom", "(LPhaseBook$State;)V"⟩, prog_8_method_2_code, 2, none, 1, 7, [
  (0, .aload_n 0, 1, 0, 0, 0), (1, .aload_n 1, 1, 0, 0, 0), (2, .getfield 9, 3, 7, 0, 0), (5, .putfield 9, 3, 7, 0, 0), (8, .aload_n 0, 1, 0, 0, 0), (9, .aload_n 1, 1, 0, 0, 0), (10, .getfield 29, 3, 7, 1, 0), (13, .putfield 29, 3, 7, 1, 0),
  (16, .aload_n 0, 1, 0, 0, 0), (17, .aload_n 1, 1, 0, 0, 0), (18, .getfield 32, 3, 7, 2, 0), (21, .putfield 32, 3, 7, 2, 0), (24, .aload_n 0, 1, 0, 0, 0), (25, .getfield 18, 3, 7, 3, 0), (28, .aload_n 1, 1, 0, 0, 0), (29, .getfield 18, 3, 7, 3, 0),
  (32, .invokevirtual 35, 3, 111, 2, 2), (35, .aload_n 0, 1, 0, 0, 0), (36, .getfield 25, 3, 7, 4, 0), (39, .aload_n 1, 1, 0, 0, 0), (40, .getfield 25, 3, 7, 4, 0), (43, .invokevirtual 39, 3, 154, 2, 6), (46, .return_, 1, 0, 0, 0)])
def mm147 : ma_M := (⟨RC8, "<init>", "()V"⟩, prog_9_method_1_code, 1, none, 0, 8, [
  (0, .aload_n 0, 1, 0, 0, 0), (1, .invokespecial 3, 3, 5, 0, 0), (4, .aload_n 0, 1, 0, 0, 0), (5, .iconst 2, 1, 0, 0, 0), (6, .sipush 1000, 3, 0, 0, 0), (9, .multianewarray 9 2, 4, 0, 0, 0), (13, .putfield 11, 3, 8, 1, 0), (16, .return_, 1, 0, 0, 0)])
def mm148 : ma_M := (⟨RC8, "receive", "(LPhaseBook$Feed;I)I"⟩, prog_9_method_2_code, 4, some .int, 2, 8, [
  (0, .aload_n 1, 1, 0, 0, 0), (1, .iload_n 2, 1, 0, 0, 0), (2, .invokevirtual 16, 3, 113, 2, 3), (5, .ifCond .ne 5, 3, 0, 0, 0), (8, .iconst (-1), 1, 0, 0, 0), (9, .ireturn, 1, 0, 0, 0), (10, .iload_n 2, 1, 0, 0, 0), (11, .aload_n 0, 1, 0, 0, 0),
  (12, .getfield 22, 3, 8, 0, 0), (15, .if_icmp .eq 18, 3, 0, 0, 0), (18, .iload_n 2, 1, 0, 0, 0), (19, .aload_n 0, 1, 0, 0, 0), (20, .getfield 22, 3, 8, 0, 0), (23, .if_icmp .le 8, 3, 0, 0, 0), (26, .bipush (-2), 2, 0, 0, 0), (28, .goto 4, 3, 0, 0, 0),
  (31, .iconst 0, 1, 0, 0, 0), (32, .ireturn, 1, 0, 0, 0), (33, .iload_n 2, 1, 0, 0, 0), (34, .invokestatic 26, 3, 116, 1, 0), (37, .istore_n 3, 1, 0, 0, 0), (38, .aload_n 0, 1, 0, 0, 0), (39, .getfield 11, 3, 8, 1, 0), (42, .aload_n 1, 1, 0, 0, 0),
  (43, .getfield 30, 3, 3, 1, 0), (46, .iload_n 3, 1, 0, 0, 0), (47, .iaload, 1, 0, 0, 0), (48, .aaload, 1, 0, 0, 0), (49, .aload_n 1, 1, 0, 0, 0), (50, .getfield 34, 3, 3, 2, 0), (53, .iload_n 3, 1, 0, 0, 0), (54, .iaload, 1, 0, 0, 0),
  (55, .aload_n 1, 1, 0, 0, 0), (56, .getfield 37, 3, 3, 3, 0), (59, .iload_n 3, 1, 0, 0, 0), (60, .iaload, 1, 0, 0, 0), (61, .iastore, 1, 0, 0, 0), (62, .aload_n 0, 1, 0, 0, 0), (63, .dup, 1, 0, 0, 0), (64, .getfield 22, 3, 8, 0, 0),
  (67, .iconst 1, 1, 0, 0, 0), (68, .iadd, 1, 0, 0, 0), (69, .putfield 22, 3, 8, 0, 0), (72, .iconst 1, 1, 0, 0, 0), (73, .ireturn, 1, 0, 0, 0)])
def mm149 : ma_M := (⟨RC8, "lookAt", "(LPhaseBook$Levels;I)V"⟩, prog_9_method_3_code, 4, none, 2, 8, [
  (0, .iconst 0, 1, 0, 0, 0), (1, .istore_n 3, 1, 0, 0, 0), (2, .iload_n 3, 1, 0, 0, 0), (3, .iconst 2, 1, 0, 0, 0), (4, .if_icmp .ge 29, 3, 0, 0, 0), (7, .aload_n 1, 1, 0, 0, 0), (8, .getfield 40, 3, 4, 0, 0), (11, .iload_n 3, 1, 0, 0, 0),
  (12, .aaload, 1, 0, 0, 0), (13, .iconst 0, 1, 0, 0, 0), (14, .aload_n 0, 1, 0, 0, 0), (15, .getfield 11, 3, 8, 1, 0), (18, .iload_n 3, 1, 0, 0, 0), (19, .aaload, 1, 0, 0, 0), (20, .iconst 0, 1, 0, 0, 0), (21, .sipush 1000, 3, 0, 0, 0),
  (24, .invokestatic 45, 3, 4, 0, 0), (27, .iinc 3 1, 3, 0, 0, 0), (30, .goto (-28), 3, 0, 0, 0), (33, .aload_n 0, 1, 0, 0, 0), (34, .iload_n 2, 1, 0, 0, 0), (35, .putfield 22, 3, 8, 0, 0), (38, .return_, 1, 0, 0, 0)])
def mm150 : ma_M := (⟨"PhaseBookLaw", "cell", "([II)I"⟩, method_2_code, 2, some .int, 2, 99, [
  (0, .iload_n 1, 1, 0, 0, 0), (1, .aload_n 0, 1, 0, 0, 0), (2, .arraylength, 1, 0, 0, 0), (3, .if_icmp .ge 9, 3, 0, 0, 0), (6, .aload_n 0, 1, 0, 0, 0), (7, .iload_n 1, 1, 0, 0, 0), (8, .iaload, 1, 0, 0, 0), (9, .goto 4, 3, 0, 0, 0),
  (12, .iconst 0, 1, 0, 0, 0), (13, .ireturn, 1, 0, 0, 0)])
def mm151 : ma_M := (⟨"java/lang/Math", "floorMod", "(II)I"⟩, prog_12_method_50_code, 3, some .int, 2, 99, [
  (0, .iload_n 0, 1, 0, 0, 0), (1, .iload_n 1, 1, 0, 0, 0), (2, .irem, 1, 0, 0, 0), (3, .istore_n 2, 1, 0, 0, 0), (4, .iload_n 0, 1, 0, 0, 0), (5, .iload_n 1, 1, 0, 0, 0), (6, .ixor, 1, 0, 0, 0), (7, .ifCond .ge 11, 3, 0, 0, 0),
  (10, .iload_n 2, 1, 0, 0, 0), (11, .ifCond .eq 7, 3, 0, 0, 0), (14, .iload_n 2, 1, 0, 0, 0), (15, .iload_n 1, 1, 0, 0, 0), (16, .iadd, 1, 0, 0, 0), (17, .ireturn, 1, 0, 0, 0), (18, .iload_n 2, 1, 0, 0, 0), (19, .ireturn, 1, 0, 0, 0)])
def PP : List ma_M := [mm0, mm1, mm2, mm3, mm4, mm5, mm6, mm7, mm8, mm9, mm10, mm11, mm12, mm13, mm14, mm15, mm16, mm17, mm18, mm19, mm20, mm21, mm22, mm23, mm24, mm25, mm26, mm27, mm28, mm29, mm30, mm31, mm32, mm33, mm34, mm35, mm36, mm37, mm38, mm39, mm40, mm41, mm42, mm43, mm44, mm45, mm46, mm47, mm48, mm49, mm50, mm51, mm52, mm53, mm54, mm55, mm56, mm57, mm58, mm59, mm60, mm61, mm62, mm63, mm64, mm65, mm66, mm67, mm68, mm69, mm70, mm71, mm72, mm73, mm74, mm75, mm76, mm77, mm78, mm79, mm80, mm81, mm82, mm83, mm84, mm85, mm86, mm87, mm88, mm89, mm90, mm91, mm92, mm93, mm94, mm95, mm96, mm97, mm98, mm99, mm100, mm101, mm102, mm103, mm104, mm105, mm106, mm107, mm108, mm109, mm110, mm111, mm112, mm113, mm114, mm115, mm116, mm117, mm118, mm119, mm120, mm121, mm122, mm123, mm124, mm125, mm126, mm127, mm128, mm129, mm130, mm131, mm132, mm133, mm134, mm135, mm136, mm137, mm138, mm139, mm140, mm141, mm142, mm143, mm144, mm145, mm146, mm147, mm148, mm149, mm150, mm151]
