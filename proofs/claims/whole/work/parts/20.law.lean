/-! THE LAW: its code, its loop as a function (written by wip/whole/gen) -/
def wk_law : List wc_E := [
  (0, .new 7, 3, [0], 0, 0),
  (3, .dup, 1, [], 0, 0),
  (4, .invokespecial 9, 3, [0], 0, 0),
  (7, .astore_n 1, 1, [], 0, 0),
  (8, .new 10, 3, [7], 0, 0),
  (11, .dup, 1, [], 0, 0),
  (12, .invokespecial 12, 3, [7], 0, 0),
  (15, .astore_n 2, 1, [], 0, 0),
  (16, .iconst 0, 1, [], 0, 0),
  (17, .istore_n 3, 1, [], 0, 0),
  (18, .iload_n 3, 1, [], 0, 0),
  (19, .aload_n 0, 1, [], 0, 0),
  (20, .arraylength, 1, [], 0, 0),
  (21, .bipush 6, 2, [], 6, 0),
  (23, .isub, 1, [], 0, 0),
  (24, .if_icmp .gt 1124, 3, [798], 0, 0),
  (27, .aload_n 0, 1, [], 0, 0),
  (28, .iload_n 3, 1, [], 0, 0),
  (29, .iaload, 1, [], 0, 0),
  (30, .bipush 31, 2, [], 31, 0),
  (32, .iand, 1, [], 0, 0),
  (33, .tableswitch 1109 0 31 #[143, 186, 229, 292, 315, 338, 351, 364, 407, 430, 453, 486, 509, 522, 555, 588, 621, 644, 677, 700, 733, 776, 829, 862, 915, 938, 961, 984, 1017, 1050, 1073, 1096], 143, [796, 22, 59, 96, 153, 170, 187, 194, 201, 238, 255, 272, 299, 316, 323, 350, 377, 404, 421, 448, 465, 492, 529, 576, 603, 650, 667, 684, 701, 728, 755, 772, 789], 0, 0),
  (176, .aload_n 1, 1, [], 0, 0),
  (177, .aload_n 0, 1, [], 0, 0),
  (178, .iload_n 3, 1, [], 0, 0),
  (179, .iconst 1, 1, [], 1, 0),
  (180, .iadd, 1, [], 0, 0),
  (181, .iaload, 1, [], 0, 0),
  (182, .aload_n 0, 1, [], 0, 0),
  (183, .iload_n 3, 1, [], 0, 0),
  (184, .iconst 2, 1, [], 2, 0),
  (185, .iadd, 1, [], 0, 0),
  (186, .iaload, 1, [], 0, 0),
  (187, .aload_n 0, 1, [], 0, 0),
  (188, .iload_n 3, 1, [], 0, 0),
  (189, .iconst 3, 1, [], 3, 0),
  (190, .iadd, 1, [], 0, 0),
  (191, .iaload, 1, [], 0, 0),
  (192, .invokevirtual 13, 3, [0], 0, 0),
  (195, .aload_n 2, 1, [], 0, 0),
  (196, .aload_n 0, 1, [], 0, 0),
  (197, .iload_n 3, 1, [], 0, 0),
  (198, .iconst 1, 1, [], 1, 0),
  (199, .iadd, 1, [], 0, 0),
  (200, .iaload, 1, [], 0, 0),
  (201, .aload_n 0, 1, [], 0, 0),
  (202, .iload_n 3, 1, [], 0, 0),
  (203, .iconst 2, 1, [], 2, 0),
  (204, .iadd, 1, [], 0, 0),
  (205, .iaload, 1, [], 0, 0),
  (206, .aload_n 0, 1, [], 0, 0),
  (207, .iload_n 3, 1, [], 0, 0),
  (208, .iconst 3, 1, [], 3, 0),
  (209, .iadd, 1, [], 0, 0),
  (210, .iaload, 1, [], 0, 0),
  (211, .invokevirtual 17, 3, [92], 0, 0),
  (214, .if_icmp .eq 928, 3, [796], 0, 0),
  (217, .iconst 0, 1, [], 0, 0),
  (218, .ireturn, 1, [], 0, 0),
  (219, .aload_n 1, 1, [], 0, 0),
  (220, .aload_n 0, 1, [], 0, 0),
  (221, .iload_n 3, 1, [], 0, 0),
  (222, .iconst 1, 1, [], 1, 0),
  (223, .iadd, 1, [], 0, 0),
  (224, .iaload, 1, [], 0, 0),
  (225, .aload_n 0, 1, [], 0, 0),
  (226, .iload_n 3, 1, [], 0, 0),
  (227, .iconst 2, 1, [], 2, 0),
  (228, .iadd, 1, [], 0, 0),
  (229, .iaload, 1, [], 0, 0),
  (230, .aload_n 0, 1, [], 0, 0),
  (231, .iload_n 3, 1, [], 0, 0),
  (232, .iconst 3, 1, [], 3, 0),
  (233, .iadd, 1, [], 0, 0),
  (234, .iaload, 1, [], 0, 0),
  (235, .invokevirtual 18, 3, [1], 0, 0),
  (238, .aload_n 2, 1, [], 0, 0),
  (239, .aload_n 0, 1, [], 0, 0),
  (240, .iload_n 3, 1, [], 0, 0),
  (241, .iconst 1, 1, [], 1, 0),
  (242, .iadd, 1, [], 0, 0),
  (243, .iaload, 1, [], 0, 0),
  (244, .aload_n 0, 1, [], 0, 0),
  (245, .iload_n 3, 1, [], 0, 0),
  (246, .iconst 2, 1, [], 2, 0),
  (247, .iadd, 1, [], 0, 0),
  (248, .iaload, 1, [], 0, 0),
  (249, .aload_n 0, 1, [], 0, 0),
  (250, .iload_n 3, 1, [], 0, 0),
  (251, .iconst 3, 1, [], 3, 0),
  (252, .iadd, 1, [], 0, 0),
  (253, .iaload, 1, [], 0, 0),
  (254, .invokevirtual 21, 3, [94], 0, 0),
  (257, .if_icmp .eq 885, 3, [796], 0, 0),
  (260, .iconst 0, 1, [], 0, 0),
  (261, .ireturn, 1, [], 0, 0),
  (262, .aload_n 1, 1, [], 0, 0),
  (263, .aload_n 0, 1, [], 0, 0),
  (264, .iload_n 3, 1, [], 0, 0),
  (265, .iconst 1, 1, [], 1, 0),
  (266, .iadd, 1, [], 0, 0),
  (267, .iaload, 1, [], 0, 0),
  (268, .aload_n 0, 1, [], 0, 0),
  (269, .iload_n 3, 1, [], 0, 0),
  (270, .iconst 2, 1, [], 2, 0),
  (271, .iadd, 1, [], 0, 0),
  (272, .iaload, 1, [], 0, 0),
  (273, .aload_n 0, 1, [], 0, 0),
  (274, .iload_n 3, 1, [], 0, 0),
  (275, .iconst 3, 1, [], 3, 0),
  (276, .iadd, 1, [], 0, 0),
  (277, .iaload, 1, [], 0, 0),
  (278, .aload_n 0, 1, [], 0, 0),
  (279, .iload_n 3, 1, [], 0, 0),
  (280, .iconst 4, 1, [], 4, 0),
  (281, .iadd, 1, [], 0, 0),
  (282, .iaload, 1, [], 0, 0),
  (283, .aload_n 0, 1, [], 0, 0),
  (284, .iload_n 3, 1, [], 0, 0),
  (285, .iconst 5, 1, [], 5, 0),
  (286, .iadd, 1, [], 0, 0),
  (287, .iaload, 1, [], 0, 0),
  (288, .invokevirtual 22, 3, [2], 0, 0),
  (291, .aload_n 2, 1, [], 0, 0),
  (292, .aload_n 0, 1, [], 0, 0),
  (293, .iload_n 3, 1, [], 0, 0),
  (294, .iconst 1, 1, [], 1, 0),
  (295, .iadd, 1, [], 0, 0),
  (296, .iaload, 1, [], 0, 0),
  (297, .aload_n 0, 1, [], 0, 0),
  (298, .iload_n 3, 1, [], 0, 0),
  (299, .iconst 2, 1, [], 2, 0),
  (300, .iadd, 1, [], 0, 0),
  (301, .iaload, 1, [], 0, 0),
  (302, .aload_n 0, 1, [], 0, 0),
  (303, .iload_n 3, 1, [], 0, 0),
  (304, .iconst 3, 1, [], 3, 0),
  (305, .iadd, 1, [], 0, 0),
  (306, .iaload, 1, [], 0, 0),
  (307, .aload_n 0, 1, [], 0, 0),
  (308, .iload_n 3, 1, [], 0, 0),
  (309, .iconst 4, 1, [], 4, 0),
  (310, .iadd, 1, [], 0, 0),
  (311, .iaload, 1, [], 0, 0),
  (312, .aload_n 0, 1, [], 0, 0),
  (313, .iload_n 3, 1, [], 0, 0),
  (314, .iconst 5, 1, [], 5, 0),
  (315, .iadd, 1, [], 0, 0),
  (316, .iaload, 1, [], 0, 0),
  (317, .invokevirtual 26, 3, [95], 0, 0),
  (320, .if_icmp .eq 822, 3, [796], 0, 0),
  (323, .iconst 0, 1, [], 0, 0),
  (324, .ireturn, 1, [], 0, 0),
  (325, .aload_n 1, 1, [], 0, 0),
  (326, .aload_n 0, 1, [], 0, 0),
  (327, .iload_n 3, 1, [], 0, 0),
  (328, .iconst 1, 1, [], 1, 0),
  (329, .iadd, 1, [], 0, 0),
  (330, .iaload, 1, [], 0, 0),
  (331, .invokevirtual 27, 3, [3], 0, 0),
  (334, .aload_n 2, 1, [], 0, 0),
  (335, .aload_n 0, 1, [], 0, 0),
  (336, .iload_n 3, 1, [], 0, 0),
  (337, .iconst 1, 1, [], 1, 0),
  (338, .iadd, 1, [], 0, 0),
  (339, .iaload, 1, [], 0, 0),
  (340, .invokevirtual 31, 3, [96], 0, 0),
  (343, .if_icmp .eq 799, 3, [796], 0, 0),
  (346, .iconst 0, 1, [], 0, 0),
  (347, .ireturn, 1, [], 0, 0),
  (348, .aload_n 1, 1, [], 0, 0),
  (349, .aload_n 0, 1, [], 0, 0),
  (350, .iload_n 3, 1, [], 0, 0),
  (351, .iconst 1, 1, [], 1, 0),
  (352, .iadd, 1, [], 0, 0),
  (353, .iaload, 1, [], 0, 0),
  (354, .invokevirtual 32, 3, [4], 0, 0),
  (357, .aload_n 2, 1, [], 0, 0),
  (358, .aload_n 0, 1, [], 0, 0),
  (359, .iload_n 3, 1, [], 0, 0),
  (360, .iconst 1, 1, [], 1, 0),
  (361, .iadd, 1, [], 0, 0),
  (362, .iaload, 1, [], 0, 0),
  (363, .invokevirtual 35, 3, [97], 0, 0),
  (366, .if_icmp .eq 776, 3, [796], 0, 0),
  (369, .iconst 0, 1, [], 0, 0),
  (370, .ireturn, 1, [], 0, 0),
  (371, .aload_n 1, 1, [], 0, 0),
  (372, .invokevirtual 36, 3, [5], 0, 0),
  (375, .aload_n 2, 1, [], 0, 0),
  (376, .invokevirtual 40, 3, [106], 0, 0),
  (379, .if_icmp .eq 763, 3, [796], 0, 0),
  (382, .iconst 0, 1, [], 0, 0),
  (383, .ireturn, 1, [], 0, 0),
  (384, .aload_n 1, 1, [], 0, 0),
  (385, .invokevirtual 41, 3, [6], 0, 0),
  (388, .aload_n 2, 1, [], 0, 0),
  (389, .invokevirtual 44, 3, [107], 0, 0),
  (392, .if_icmp .eq 750, 3, [796], 0, 0),
  (395, .iconst 0, 1, [], 0, 0),
  (396, .ireturn, 1, [], 0, 0),
  (397, .aload_n 1, 1, [], 0, 0),
  (398, .aload_n 0, 1, [], 0, 0),
  (399, .iload_n 3, 1, [], 0, 0),
  (400, .iconst 1, 1, [], 1, 0),
  (401, .iadd, 1, [], 0, 0),
  (402, .iaload, 1, [], 0, 0),
  (403, .aload_n 0, 1, [], 0, 0),
  (404, .iload_n 3, 1, [], 0, 0),
  (405, .iconst 2, 1, [], 2, 0),
  (406, .iadd, 1, [], 0, 0),
  (407, .iaload, 1, [], 0, 0),
  (408, .aload_n 0, 1, [], 0, 0),
  (409, .iload_n 3, 1, [], 0, 0),
  (410, .iconst 3, 1, [], 3, 0),
  (411, .iadd, 1, [], 0, 0),
  (412, .iaload, 1, [], 0, 0),
  (413, .invokevirtual 45, 3, [7], 0, 0),
  (416, .aload_n 2, 1, [], 0, 0),
  (417, .aload_n 0, 1, [], 0, 0),
  (418, .iload_n 3, 1, [], 0, 0),
  (419, .iconst 1, 1, [], 1, 0),
  (420, .iadd, 1, [], 0, 0),
  (421, .iaload, 1, [], 0, 0),
  (422, .aload_n 0, 1, [], 0, 0),
  (423, .iload_n 3, 1, [], 0, 0),
  (424, .iconst 2, 1, [], 2, 0),
  (425, .iadd, 1, [], 0, 0),
  (426, .iaload, 1, [], 0, 0),
  (427, .aload_n 0, 1, [], 0, 0),
  (428, .iload_n 3, 1, [], 0, 0),
  (429, .iconst 3, 1, [], 3, 0),
  (430, .iadd, 1, [], 0, 0),
  (431, .iaload, 1, [], 0, 0),
  (432, .invokevirtual 48, 3, [118], 0, 0),
  (435, .if_icmp .eq 707, 3, [796], 0, 0),
  (438, .iconst 0, 1, [], 0, 0),
  (439, .ireturn, 1, [], 0, 0),
  (440, .aload_n 1, 1, [], 0, 0),
  (441, .aload_n 0, 1, [], 0, 0),
  (442, .iload_n 3, 1, [], 0, 0),
  (443, .iconst 1, 1, [], 1, 0),
  (444, .iadd, 1, [], 0, 0),
  (445, .iaload, 1, [], 0, 0),
  (446, .invokevirtual 49, 3, [8], 0, 0),
  (449, .aload_n 2, 1, [], 0, 0),
  (450, .aload_n 0, 1, [], 0, 0),
  (451, .iload_n 3, 1, [], 0, 0),
  (452, .iconst 1, 1, [], 1, 0),
  (453, .iadd, 1, [], 0, 0),
  (454, .iaload, 1, [], 0, 0),
  (455, .invokevirtual 52, 3, [119], 0, 0),
  (458, .if_icmp .eq 684, 3, [796], 0, 0),
  (461, .iconst 0, 1, [], 0, 0),
  (462, .ireturn, 1, [], 0, 0),
  (463, .aload_n 1, 1, [], 0, 0),
  (464, .aload_n 0, 1, [], 0, 0),
  (465, .iload_n 3, 1, [], 0, 0),
  (466, .iconst 1, 1, [], 1, 0),
  (467, .iadd, 1, [], 0, 0),
  (468, .iaload, 1, [], 0, 0),
  (469, .invokevirtual 53, 3, [9], 0, 0),
  (472, .aload_n 2, 1, [], 0, 0),
  (473, .aload_n 0, 1, [], 0, 0),
  (474, .iload_n 3, 1, [], 0, 0),
  (475, .iconst 1, 1, [], 1, 0),
  (476, .iadd, 1, [], 0, 0),
  (477, .iaload, 1, [], 0, 0),
  (478, .invokevirtual 56, 3, [120], 0, 0),
  (481, .if_icmp .eq 661, 3, [796], 0, 0),
  (484, .iconst 0, 1, [], 0, 0),
  (485, .ireturn, 1, [], 0, 0),
  (486, .aload_n 1, 1, [], 0, 0),
  (487, .aload_n 0, 1, [], 0, 0),
  (488, .iload_n 3, 1, [], 0, 0),
  (489, .iconst 1, 1, [], 1, 0),
  (490, .iadd, 1, [], 0, 0),
  (491, .iaload, 1, [], 0, 0),
  (492, .aload_n 0, 1, [], 0, 0),
  (493, .iload_n 3, 1, [], 0, 0),
  (494, .iconst 2, 1, [], 2, 0),
  (495, .iadd, 1, [], 0, 0),
  (496, .iaload, 1, [], 0, 0),
  (497, .invokevirtual 57, 3, [10], 0, 0),
  (500, .aload_n 2, 1, [], 0, 0),
  (501, .aload_n 0, 1, [], 0, 0),
  (502, .iload_n 3, 1, [], 0, 0),
  (503, .iconst 1, 1, [], 1, 0),
  (504, .iadd, 1, [], 0, 0),
  (505, .iaload, 1, [], 0, 0),
  (506, .aload_n 0, 1, [], 0, 0),
  (507, .iload_n 3, 1, [], 0, 0),
  (508, .iconst 2, 1, [], 2, 0),
  (509, .iadd, 1, [], 0, 0),
  (510, .iaload, 1, [], 0, 0),
  (511, .invokevirtual 61, 3, [121], 0, 0),
  (514, .if_icmp .eq 628, 3, [796], 0, 0),
  (517, .iconst 0, 1, [], 0, 0),
  (518, .ireturn, 1, [], 0, 0),
  (519, .aload_n 1, 1, [], 0, 0),
  (520, .aload_n 0, 1, [], 0, 0),
  (521, .iload_n 3, 1, [], 0, 0),
  (522, .iconst 1, 1, [], 1, 0),
  (523, .iadd, 1, [], 0, 0),
  (524, .iaload, 1, [], 0, 0),
  (525, .invokevirtual 62, 3, [11], 0, 0),
  (528, .aload_n 2, 1, [], 0, 0),
  (529, .aload_n 0, 1, [], 0, 0),
  (530, .iload_n 3, 1, [], 0, 0),
  (531, .iconst 1, 1, [], 1, 0),
  (532, .iadd, 1, [], 0, 0),
  (533, .iaload, 1, [], 0, 0),
  (534, .invokevirtual 65, 3, [122], 0, 0),
  (537, .if_icmp .eq 605, 3, [796], 0, 0),
  (540, .iconst 0, 1, [], 0, 0),
  (541, .ireturn, 1, [], 0, 0),
  (542, .aload_n 1, 1, [], 0, 0),
  (543, .invokevirtual 66, 3, [12], 0, 0),
  (546, .aload_n 2, 1, [], 0, 0),
  (547, .invokevirtual 69, 3, [123], 0, 0),
  (550, .if_icmp .eq 592, 3, [796], 0, 0),
  (553, .iconst 0, 1, [], 0, 0),
  (554, .ireturn, 1, [], 0, 0),
  (555, .aload_n 1, 1, [], 0, 0),
  (556, .aload_n 0, 1, [], 0, 0),
  (557, .iload_n 3, 1, [], 0, 0),
  (558, .iconst 1, 1, [], 1, 0),
  (559, .iadd, 1, [], 0, 0),
  (560, .iaload, 1, [], 0, 0),
  (561, .aload_n 0, 1, [], 0, 0),
  (562, .iload_n 3, 1, [], 0, 0),
  (563, .iconst 2, 1, [], 2, 0),
  (564, .iadd, 1, [], 0, 0),
  (565, .iaload, 1, [], 0, 0),
  (566, .invokevirtual 70, 3, [13], 0, 0),
  (569, .aload_n 2, 1, [], 0, 0),
  (570, .aload_n 0, 1, [], 0, 0),
  (571, .iload_n 3, 1, [], 0, 0),
  (572, .iconst 1, 1, [], 1, 0),
  (573, .iadd, 1, [], 0, 0),
  (574, .iaload, 1, [], 0, 0),
  (575, .aload_n 0, 1, [], 0, 0),
  (576, .iload_n 3, 1, [], 0, 0),
  (577, .iconst 2, 1, [], 2, 0),
  (578, .iadd, 1, [], 0, 0),
  (579, .iaload, 1, [], 0, 0),
  (580, .invokevirtual 73, 3, [124], 0, 0),
  (583, .if_icmp .eq 559, 3, [796], 0, 0),
  (586, .iconst 0, 1, [], 0, 0),
  (587, .ireturn, 1, [], 0, 0),
  (588, .aload_n 1, 1, [], 0, 0),
  (589, .aload_n 0, 1, [], 0, 0),
  (590, .iload_n 3, 1, [], 0, 0),
  (591, .iconst 1, 1, [], 1, 0),
  (592, .iadd, 1, [], 0, 0),
  (593, .iaload, 1, [], 0, 0),
  (594, .aload_n 0, 1, [], 0, 0),
  (595, .iload_n 3, 1, [], 0, 0),
  (596, .iconst 2, 1, [], 2, 0),
  (597, .iadd, 1, [], 0, 0),
  (598, .iaload, 1, [], 0, 0),
  (599, .invokevirtual 74, 3, [14], 0, 0),
  (602, .aload_n 2, 1, [], 0, 0),
  (603, .aload_n 0, 1, [], 0, 0),
  (604, .iload_n 3, 1, [], 0, 0),
  (605, .iconst 1, 1, [], 1, 0),
  (606, .iadd, 1, [], 0, 0),
  (607, .iaload, 1, [], 0, 0),
  (608, .aload_n 0, 1, [], 0, 0),
  (609, .iload_n 3, 1, [], 0, 0),
  (610, .iconst 2, 1, [], 2, 0),
  (611, .iadd, 1, [], 0, 0),
  (612, .iaload, 1, [], 0, 0),
  (613, .invokevirtual 77, 3, [125], 0, 0),
  (616, .if_icmp .eq 526, 3, [796], 0, 0),
  (619, .iconst 0, 1, [], 0, 0),
  (620, .ireturn, 1, [], 0, 0),
  (621, .aload_n 1, 1, [], 0, 0),
  (622, .aload_n 0, 1, [], 0, 0),
  (623, .iload_n 3, 1, [], 0, 0),
  (624, .iconst 1, 1, [], 1, 0),
  (625, .iadd, 1, [], 0, 0),
  (626, .iaload, 1, [], 0, 0),
  (627, .aload_n 0, 1, [], 0, 0),
  (628, .iload_n 3, 1, [], 0, 0),
  (629, .iconst 2, 1, [], 2, 0),
  (630, .iadd, 1, [], 0, 0),
  (631, .iaload, 1, [], 0, 0),
  (632, .invokevirtual 78, 3, [15], 0, 0),
  (635, .aload_n 2, 1, [], 0, 0),
  (636, .aload_n 0, 1, [], 0, 0),
  (637, .iload_n 3, 1, [], 0, 0),
  (638, .iconst 1, 1, [], 1, 0),
  (639, .iadd, 1, [], 0, 0),
  (640, .iaload, 1, [], 0, 0),
  (641, .aload_n 0, 1, [], 0, 0),
  (642, .iload_n 3, 1, [], 0, 0),
  (643, .iconst 2, 1, [], 2, 0),
  (644, .iadd, 1, [], 0, 0),
  (645, .iaload, 1, [], 0, 0),
  (646, .invokevirtual 81, 3, [129], 0, 0),
  (649, .if_icmp .eq 493, 3, [796], 0, 0),
  (652, .iconst 0, 1, [], 0, 0),
  (653, .ireturn, 1, [], 0, 0),
  (654, .aload_n 1, 1, [], 0, 0),
  (655, .aload_n 0, 1, [], 0, 0),
  (656, .iload_n 3, 1, [], 0, 0),
  (657, .iconst 1, 1, [], 1, 0),
  (658, .iadd, 1, [], 0, 0),
  (659, .iaload, 1, [], 0, 0),
  (660, .invokevirtual 82, 3, [16], 0, 0),
  (663, .aload_n 2, 1, [], 0, 0),
  (664, .aload_n 0, 1, [], 0, 0),
  (665, .iload_n 3, 1, [], 0, 0),
  (666, .iconst 1, 1, [], 1, 0),
  (667, .iadd, 1, [], 0, 0),
  (668, .iaload, 1, [], 0, 0),
  (669, .invokevirtual 85, 3, [130], 0, 0),
  (672, .if_icmp .eq 470, 3, [796], 0, 0),
  (675, .iconst 0, 1, [], 0, 0),
  (676, .ireturn, 1, [], 0, 0),
  (677, .aload_n 1, 1, [], 0, 0),
  (678, .aload_n 0, 1, [], 0, 0),
  (679, .iload_n 3, 1, [], 0, 0),
  (680, .iconst 1, 1, [], 1, 0),
  (681, .iadd, 1, [], 0, 0),
  (682, .iaload, 1, [], 0, 0),
  (683, .aload_n 0, 1, [], 0, 0),
  (684, .iload_n 3, 1, [], 0, 0),
  (685, .iconst 2, 1, [], 2, 0),
  (686, .iadd, 1, [], 0, 0),
  (687, .iaload, 1, [], 0, 0),
  (688, .invokevirtual 86, 3, [17], 0, 0),
  (691, .aload_n 2, 1, [], 0, 0),
  (692, .aload_n 0, 1, [], 0, 0),
  (693, .iload_n 3, 1, [], 0, 0),
  (694, .iconst 1, 1, [], 1, 0),
  (695, .iadd, 1, [], 0, 0),
  (696, .iaload, 1, [], 0, 0),
  (697, .aload_n 0, 1, [], 0, 0),
  (698, .iload_n 3, 1, [], 0, 0),
  (699, .iconst 2, 1, [], 2, 0),
  (700, .iadd, 1, [], 0, 0),
  (701, .iaload, 1, [], 0, 0),
  (702, .invokevirtual 89, 3, [131], 0, 0),
  (705, .if_icmp .eq 437, 3, [796], 0, 0),
  (708, .iconst 0, 1, [], 0, 0),
  (709, .ireturn, 1, [], 0, 0),
  (710, .aload_n 1, 1, [], 0, 0),
  (711, .aload_n 0, 1, [], 0, 0),
  (712, .iload_n 3, 1, [], 0, 0),
  (713, .iconst 1, 1, [], 1, 0),
  (714, .iadd, 1, [], 0, 0),
  (715, .iaload, 1, [], 0, 0),
  (716, .invokevirtual 90, 3, [18], 0, 0),
  (719, .aload_n 2, 1, [], 0, 0),
  (720, .aload_n 0, 1, [], 0, 0),
  (721, .iload_n 3, 1, [], 0, 0),
  (722, .iconst 1, 1, [], 1, 0),
  (723, .iadd, 1, [], 0, 0),
  (724, .iaload, 1, [], 0, 0),
  (725, .invokevirtual 93, 3, [132], 0, 0),
  (728, .if_icmp .eq 414, 3, [796], 0, 0),
  (731, .iconst 0, 1, [], 0, 0),
  (732, .ireturn, 1, [], 0, 0),
  (733, .aload_n 1, 1, [], 0, 0),
  (734, .aload_n 0, 1, [], 0, 0),
  (735, .iload_n 3, 1, [], 0, 0),
  (736, .iconst 1, 1, [], 1, 0),
  (737, .iadd, 1, [], 0, 0),
  (738, .iaload, 1, [], 0, 0),
  (739, .aload_n 0, 1, [], 0, 0),
  (740, .iload_n 3, 1, [], 0, 0),
  (741, .iconst 2, 1, [], 2, 0),
  (742, .iadd, 1, [], 0, 0),
  (743, .iaload, 1, [], 0, 0),
  (744, .invokevirtual 94, 3, [19], 0, 0),
  (747, .aload_n 2, 1, [], 0, 0),
  (748, .aload_n 0, 1, [], 0, 0),
  (749, .iload_n 3, 1, [], 0, 0),
  (750, .iconst 1, 1, [], 1, 0),
  (751, .iadd, 1, [], 0, 0),
  (752, .iaload, 1, [], 0, 0),
  (753, .aload_n 0, 1, [], 0, 0),
  (754, .iload_n 3, 1, [], 0, 0),
  (755, .iconst 2, 1, [], 2, 0),
  (756, .iadd, 1, [], 0, 0),
  (757, .iaload, 1, [], 0, 0),
  (758, .invokevirtual 97, 3, [134], 0, 0),
  (761, .if_icmp .eq 381, 3, [796], 0, 0),
  (764, .iconst 0, 1, [], 0, 0),
  (765, .ireturn, 1, [], 0, 0),
  (766, .aload_n 1, 1, [], 0, 0),
  (767, .aload_n 0, 1, [], 0, 0),
  (768, .iload_n 3, 1, [], 0, 0),
  (769, .iconst 1, 1, [], 1, 0),
  (770, .iadd, 1, [], 0, 0),
  (771, .iaload, 1, [], 0, 0),
  (772, .aload_n 0, 1, [], 0, 0),
  (773, .iload_n 3, 1, [], 0, 0),
  (774, .iconst 2, 1, [], 2, 0),
  (775, .iadd, 1, [], 0, 0),
  (776, .iaload, 1, [], 0, 0),
  (777, .aload_n 0, 1, [], 0, 0),
  (778, .iload_n 3, 1, [], 0, 0),
  (779, .iconst 3, 1, [], 3, 0),
  (780, .iadd, 1, [], 0, 0),
  (781, .iaload, 1, [], 0, 0),
  (782, .invokevirtual 98, 3, [20], 0, 0),
  (785, .aload_n 2, 1, [], 0, 0),
  (786, .aload_n 0, 1, [], 0, 0),
  (787, .iload_n 3, 1, [], 0, 0),
  (788, .iconst 1, 1, [], 1, 0),
  (789, .iadd, 1, [], 0, 0),
  (790, .iaload, 1, [], 0, 0),
  (791, .aload_n 0, 1, [], 0, 0),
  (792, .iload_n 3, 1, [], 0, 0),
  (793, .iconst 2, 1, [], 2, 0),
  (794, .iadd, 1, [], 0, 0),
  (795, .iaload, 1, [], 0, 0),
  (796, .aload_n 0, 1, [], 0, 0),
  (797, .iload_n 3, 1, [], 0, 0),
  (798, .iconst 3, 1, [], 3, 0),
  (799, .iadd, 1, [], 0, 0),
  (800, .iaload, 1, [], 0, 0),
  (801, .invokevirtual 101, 3, [136], 0, 0),
  (804, .if_icmp .eq 338, 3, [796], 0, 0),
  (807, .iconst 0, 1, [], 0, 0),
  (808, .ireturn, 1, [], 0, 0),
  (809, .aload_n 1, 1, [], 0, 0),
  (810, .aload_n 0, 1, [], 0, 0),
  (811, .iload_n 3, 1, [], 0, 0),
  (812, .iconst 1, 1, [], 1, 0),
  (813, .iadd, 1, [], 0, 0),
  (814, .iaload, 1, [], 0, 0),
  (815, .aload_n 0, 1, [], 0, 0),
  (816, .iload_n 3, 1, [], 0, 0),
  (817, .iconst 2, 1, [], 2, 0),
  (818, .iadd, 1, [], 0, 0),
  (819, .iaload, 1, [], 0, 0),
  (820, .aload_n 0, 1, [], 0, 0),
  (821, .iload_n 3, 1, [], 0, 0),
  (822, .iconst 3, 1, [], 3, 0),
  (823, .iadd, 1, [], 0, 0),
  (824, .iaload, 1, [], 0, 0),
  (825, .aload_n 0, 1, [], 0, 0),
  (826, .iload_n 3, 1, [], 0, 0),
  (827, .iconst 4, 1, [], 4, 0),
  (828, .iadd, 1, [], 0, 0),
  (829, .iaload, 1, [], 0, 0),
  (830, .invokevirtual 102, 3, [21], 0, 0),
  (833, .aload_n 2, 1, [], 0, 0),
  (834, .aload_n 0, 1, [], 0, 0),
  (835, .iload_n 3, 1, [], 0, 0),
  (836, .iconst 1, 1, [], 1, 0),
  (837, .iadd, 1, [], 0, 0),
  (838, .iaload, 1, [], 0, 0),
  (839, .aload_n 0, 1, [], 0, 0),
  (840, .iload_n 3, 1, [], 0, 0),
  (841, .iconst 2, 1, [], 2, 0),
  (842, .iadd, 1, [], 0, 0),
  (843, .iaload, 1, [], 0, 0),
  (844, .aload_n 0, 1, [], 0, 0),
  (845, .iload_n 3, 1, [], 0, 0),
  (846, .iconst 3, 1, [], 3, 0),
  (847, .iadd, 1, [], 0, 0),
  (848, .iaload, 1, [], 0, 0),
  (849, .aload_n 0, 1, [], 0, 0),
  (850, .iload_n 3, 1, [], 0, 0),
  (851, .iconst 4, 1, [], 4, 0),
  (852, .iadd, 1, [], 0, 0),
  (853, .iaload, 1, [], 0, 0),
  (854, .invokevirtual 106, 3, [137], 0, 0),
  (857, .if_icmp .eq 285, 3, [796], 0, 0),
  (860, .iconst 0, 1, [], 0, 0),
  (861, .ireturn, 1, [], 0, 0),
  (862, .aload_n 1, 1, [], 0, 0),
  (863, .aload_n 0, 1, [], 0, 0),
  (864, .iload_n 3, 1, [], 0, 0),
  (865, .iconst 1, 1, [], 1, 0),
  (866, .iadd, 1, [], 0, 0),
  (867, .iaload, 1, [], 0, 0),
  (868, .aload_n 0, 1, [], 0, 0),
  (869, .iload_n 3, 1, [], 0, 0),
  (870, .iconst 2, 1, [], 2, 0),
  (871, .iadd, 1, [], 0, 0),
  (872, .iaload, 1, [], 0, 0),
  (873, .invokevirtual 107, 3, [22], 0, 0),
  (876, .aload_n 2, 1, [], 0, 0),
  (877, .aload_n 0, 1, [], 0, 0),
  (878, .iload_n 3, 1, [], 0, 0),
  (879, .iconst 1, 1, [], 1, 0),
  (880, .iadd, 1, [], 0, 0),
  (881, .iaload, 1, [], 0, 0),
  (882, .aload_n 0, 1, [], 0, 0),
  (883, .iload_n 3, 1, [], 0, 0),
  (884, .iconst 2, 1, [], 2, 0),
  (885, .iadd, 1, [], 0, 0),
  (886, .iaload, 1, [], 0, 0),
  (887, .invokevirtual 110, 3, [138], 0, 0),
  (890, .if_icmp .eq 252, 3, [796], 0, 0),
  (893, .iconst 0, 1, [], 0, 0),
  (894, .ireturn, 1, [], 0, 0),
  (895, .aload_n 1, 1, [], 0, 0),
  (896, .aload_n 0, 1, [], 0, 0),
  (897, .iload_n 3, 1, [], 0, 0),
  (898, .iconst 1, 1, [], 1, 0),
  (899, .iadd, 1, [], 0, 0),
  (900, .iaload, 1, [], 0, 0),
  (901, .aload_n 0, 1, [], 0, 0),
  (902, .iload_n 3, 1, [], 0, 0),
  (903, .iconst 2, 1, [], 2, 0),
  (904, .iadd, 1, [], 0, 0),
  (905, .iaload, 1, [], 0, 0),
  (906, .aload_n 0, 1, [], 0, 0),
  (907, .iload_n 3, 1, [], 0, 0),
  (908, .iconst 3, 1, [], 3, 0),
  (909, .iadd, 1, [], 0, 0),
  (910, .iaload, 1, [], 0, 0),
  (911, .aload_n 0, 1, [], 0, 0),
  (912, .iload_n 3, 1, [], 0, 0),
  (913, .iconst 4, 1, [], 4, 0),
  (914, .iadd, 1, [], 0, 0),
  (915, .iaload, 1, [], 0, 0),
  (916, .invokevirtual 111, 3, [23], 0, 0),
  (919, .aload_n 2, 1, [], 0, 0),
  (920, .aload_n 0, 1, [], 0, 0),
  (921, .iload_n 3, 1, [], 0, 0),
  (922, .iconst 1, 1, [], 1, 0),
  (923, .iadd, 1, [], 0, 0),
  (924, .iaload, 1, [], 0, 0),
  (925, .aload_n 0, 1, [], 0, 0),
  (926, .iload_n 3, 1, [], 0, 0),
  (927, .iconst 2, 1, [], 2, 0),
  (928, .iadd, 1, [], 0, 0),
  (929, .iaload, 1, [], 0, 0),
  (930, .aload_n 0, 1, [], 0, 0),
  (931, .iload_n 3, 1, [], 0, 0),
  (932, .iconst 3, 1, [], 3, 0),
  (933, .iadd, 1, [], 0, 0),
  (934, .iaload, 1, [], 0, 0),
  (935, .aload_n 0, 1, [], 0, 0),
  (936, .iload_n 3, 1, [], 0, 0),
  (937, .iconst 4, 1, [], 4, 0),
  (938, .iadd, 1, [], 0, 0),
  (939, .iaload, 1, [], 0, 0),
  (940, .invokevirtual 114, 3, [139], 0, 0),
  (943, .if_icmp .eq 199, 3, [796], 0, 0),
  (946, .iconst 0, 1, [], 0, 0),
  (947, .ireturn, 1, [], 0, 0),
  (948, .aload_n 1, 1, [], 0, 0),
  (949, .aload_n 0, 1, [], 0, 0),
  (950, .iload_n 3, 1, [], 0, 0),
  (951, .iconst 1, 1, [], 1, 0),
  (952, .iadd, 1, [], 0, 0),
  (953, .iaload, 1, [], 0, 0),
  (954, .invokevirtual 115, 3, [24], 0, 0),
  (957, .aload_n 2, 1, [], 0, 0),
  (958, .aload_n 0, 1, [], 0, 0),
  (959, .iload_n 3, 1, [], 0, 0),
  (960, .iconst 1, 1, [], 1, 0),
  (961, .iadd, 1, [], 0, 0),
  (962, .iaload, 1, [], 0, 0),
  (963, .invokevirtual 118, 3, [140], 0, 0),
  (966, .if_icmp .eq 176, 3, [796], 0, 0),
  (969, .iconst 0, 1, [], 0, 0),
  (970, .ireturn, 1, [], 0, 0),
  (971, .aload_n 1, 1, [], 0, 0),
  (972, .aload_n 0, 1, [], 0, 0),
  (973, .iload_n 3, 1, [], 0, 0),
  (974, .iconst 1, 1, [], 1, 0),
  (975, .iadd, 1, [], 0, 0),
  (976, .iaload, 1, [], 0, 0),
  (977, .invokevirtual 119, 3, [25], 0, 0),
  (980, .aload_n 2, 1, [], 0, 0),
  (981, .aload_n 0, 1, [], 0, 0),
  (982, .iload_n 3, 1, [], 0, 0),
  (983, .iconst 1, 1, [], 1, 0),
  (984, .iadd, 1, [], 0, 0),
  (985, .iaload, 1, [], 0, 0),
  (986, .invokevirtual 122, 3, [141], 0, 0),
  (989, .if_icmp .eq 153, 3, [796], 0, 0),
  (992, .iconst 0, 1, [], 0, 0),
  (993, .ireturn, 1, [], 0, 0),
  (994, .aload_n 1, 1, [], 0, 0),
  (995, .aload_n 0, 1, [], 0, 0),
  (996, .iload_n 3, 1, [], 0, 0),
  (997, .iconst 1, 1, [], 1, 0),
  (998, .iadd, 1, [], 0, 0),
  (999, .iaload, 1, [], 0, 0),
  (1000, .invokevirtual 123, 3, [26], 0, 0),
  (1003, .aload_n 2, 1, [], 0, 0),
  (1004, .aload_n 0, 1, [], 0, 0),
  (1005, .iload_n 3, 1, [], 0, 0),
  (1006, .iconst 1, 1, [], 1, 0),
  (1007, .iadd, 1, [], 0, 0),
  (1008, .iaload, 1, [], 0, 0),
  (1009, .invokevirtual 126, 3, [142], 0, 0),
  (1012, .if_icmp .eq 130, 3, [796], 0, 0),
  (1015, .iconst 0, 1, [], 0, 0),
  (1016, .ireturn, 1, [], 0, 0),
  (1017, .aload_n 1, 1, [], 0, 0),
  (1018, .aload_n 0, 1, [], 0, 0),
  (1019, .iload_n 3, 1, [], 0, 0),
  (1020, .iconst 1, 1, [], 1, 0),
  (1021, .iadd, 1, [], 0, 0),
  (1022, .iaload, 1, [], 0, 0),
  (1023, .aload_n 0, 1, [], 0, 0),
  (1024, .iload_n 3, 1, [], 0, 0),
  (1025, .iconst 2, 1, [], 2, 0),
  (1026, .iadd, 1, [], 0, 0),
  (1027, .iaload, 1, [], 0, 0),
  (1028, .invokevirtual 127, 3, [27], 0, 0),
  (1031, .aload_n 2, 1, [], 0, 0),
  (1032, .aload_n 0, 1, [], 0, 0),
  (1033, .iload_n 3, 1, [], 0, 0),
  (1034, .iconst 1, 1, [], 1, 0),
  (1035, .iadd, 1, [], 0, 0),
  (1036, .iaload, 1, [], 0, 0),
  (1037, .aload_n 0, 1, [], 0, 0),
  (1038, .iload_n 3, 1, [], 0, 0),
  (1039, .iconst 2, 1, [], 2, 0),
  (1040, .iadd, 1, [], 0, 0),
  (1041, .iaload, 1, [], 0, 0),
  (1042, .invokevirtual 130, 3, [144], 0, 0),
  (1045, .if_icmp .eq 97, 3, [796], 0, 0),
  (1048, .iconst 0, 1, [], 0, 0),
  (1049, .ireturn, 1, [], 0, 0),
  (1050, .aload_n 1, 1, [], 0, 0),
  (1051, .aload_n 0, 1, [], 0, 0),
  (1052, .iload_n 3, 1, [], 0, 0),
  (1053, .iconst 1, 1, [], 1, 0),
  (1054, .iadd, 1, [], 0, 0),
  (1055, .iaload, 1, [], 0, 0),
  (1056, .aload_n 0, 1, [], 0, 0),
  (1057, .iload_n 3, 1, [], 0, 0),
  (1058, .iconst 2, 1, [], 2, 0),
  (1059, .iadd, 1, [], 0, 0),
  (1060, .iaload, 1, [], 0, 0),
  (1061, .invokevirtual 131, 3, [28], 0, 0),
  (1064, .aload_n 2, 1, [], 0, 0),
  (1065, .aload_n 0, 1, [], 0, 0),
  (1066, .iload_n 3, 1, [], 0, 0),
  (1067, .iconst 1, 1, [], 1, 0),
  (1068, .iadd, 1, [], 0, 0),
  (1069, .iaload, 1, [], 0, 0),
  (1070, .aload_n 0, 1, [], 0, 0),
  (1071, .iload_n 3, 1, [], 0, 0),
  (1072, .iconst 2, 1, [], 2, 0),
  (1073, .iadd, 1, [], 0, 0),
  (1074, .iaload, 1, [], 0, 0),
  (1075, .invokevirtual 134, 3, [153], 0, 0),
  (1078, .if_icmp .eq 64, 3, [796], 0, 0),
  (1081, .iconst 0, 1, [], 0, 0),
  (1082, .ireturn, 1, [], 0, 0),
  (1083, .aload_n 1, 1, [], 0, 0),
  (1084, .aload_n 0, 1, [], 0, 0),
  (1085, .iload_n 3, 1, [], 0, 0),
  (1086, .iconst 1, 1, [], 1, 0),
  (1087, .iadd, 1, [], 0, 0),
  (1088, .iaload, 1, [], 0, 0),
  (1089, .invokevirtual 135, 3, [29], 0, 0),
  (1092, .aload_n 2, 1, [], 0, 0),
  (1093, .aload_n 0, 1, [], 0, 0),
  (1094, .iload_n 3, 1, [], 0, 0),
  (1095, .iconst 1, 1, [], 1, 0),
  (1096, .iadd, 1, [], 0, 0),
  (1097, .iaload, 1, [], 0, 0),
  (1098, .invokevirtual 138, 3, [154], 0, 0),
  (1101, .if_icmp .eq 41, 3, [796], 0, 0),
  (1104, .iconst 0, 1, [], 0, 0),
  (1105, .ireturn, 1, [], 0, 0),
  (1106, .aload_n 1, 1, [], 0, 0),
  (1107, .aload_n 0, 1, [], 0, 0),
  (1108, .iload_n 3, 1, [], 0, 0),
  (1109, .iconst 1, 1, [], 1, 0),
  (1110, .iadd, 1, [], 0, 0),
  (1111, .iaload, 1, [], 0, 0),
  (1112, .invokevirtual 139, 3, [30], 0, 0),
  (1115, .aload_n 2, 1, [], 0, 0),
  (1116, .aload_n 0, 1, [], 0, 0),
  (1117, .iload_n 3, 1, [], 0, 0),
  (1118, .iconst 1, 1, [], 1, 0),
  (1119, .iadd, 1, [], 0, 0),
  (1120, .iaload, 1, [], 0, 0),
  (1121, .invokevirtual 142, 3, [155], 0, 0),
  (1124, .if_icmp .eq 18, 3, [796], 0, 0),
  (1127, .iconst 0, 1, [], 0, 0),
  (1128, .ireturn, 1, [], 0, 0),
  (1129, .aload_n 1, 1, [], 0, 0),
  (1130, .invokevirtual 143, 3, [31], 0, 0),
  (1133, .aload_n 2, 1, [], 0, 0),
  (1134, .invokevirtual 146, 3, [156], 0, 0),
  (1137, .if_icmp .eq 5, 3, [796], 0, 0),
  (1140, .iconst 0, 1, [], 0, 0),
  (1141, .ireturn, 1, [], 0, 0),
  (1142, .iinc 3 6, 3, [], 6, 0),
  (1145, .goto (-1127), 3, [10], 0, 0),
  (1148, .iconst 1, 1, [], 1, 0),
  (1149, .ireturn, 1, [], 0, 0)]
def l_L_law_10 (xs : Nat → Int32) (xl : Nat) : Nat → Int32 → wc_M → Option ((Int32 × wc_M) ⊕ (wc_M))
  | 0, _, _ => none
  | n + 1, x3, M => (if ((Int32.ofNat xl) - (6 : Int32)) < x3 then some (.inr M) else (if wib x3 xl = true then (if ((xs (x3).toNatClampNeg) &&& (31 : Int32)) = (0 : Int32) then (if wib (x3 + (1 : Int32)) xl = true then (if wib (x3 + (2 : Int32)) xl = true then (if wib (x3 + (3 : Int32)) xl = true then (Option.bind (f_C_row (xs ((x3 + (1 : Int32))).toNatClampNeg) (xs ((x3 + (2 : Int32))).toNatClampNeg) (xs ((x3 + (3 : Int32))).toNatClampNeg) M) fun q6 => (Option.bind (f_M_row (xs ((x3 + (1 : Int32))).toNatClampNeg) (xs ((x3 + (2 : Int32))).toNatClampNeg) (xs ((x3 + (3 : Int32))).toNatClampNeg) q6.2) fun q8 => (if q6.1 = q8.1 then l_L_law_10 xs xl n (x3 + (6 : Int32)) q8.2 else some (.inl ((0 : Int32), q8.2))))) else none) else none) else none) else (if ((xs (x3).toNatClampNeg) &&& (31 : Int32)) = (1 : Int32) then (if wib (x3 + (1 : Int32)) xl = true then (if wib (x3 + (2 : Int32)) xl = true then (if wib (x3 + (3 : Int32)) xl = true then (Option.bind (f_C_set (xs ((x3 + (1 : Int32))).toNatClampNeg) (xs ((x3 + (2 : Int32))).toNatClampNeg) (xs ((x3 + (3 : Int32))).toNatClampNeg) M) fun q13 => (Option.bind (f_M_set (xs ((x3 + (1 : Int32))).toNatClampNeg) (xs ((x3 + (2 : Int32))).toNatClampNeg) (xs ((x3 + (3 : Int32))).toNatClampNeg) q13.2) fun q15 => (if q13.1 = q15.1 then l_L_law_10 xs xl n (x3 + (6 : Int32)) q15.2 else some (.inl ((0 : Int32), q15.2))))) else none) else none) else none) else (if ((xs (x3).toNatClampNeg) &&& (31 : Int32)) = (2 : Int32) then (if wib (x3 + (1 : Int32)) xl = true then (if wib (x3 + (2 : Int32)) xl = true then (if wib (x3 + (3 : Int32)) xl = true then (if wib (x3 + (4 : Int32)) xl = true then (if wib (x3 + (5 : Int32)) xl = true then (Option.bind (f_C_copy (xs ((x3 + (1 : Int32))).toNatClampNeg) (xs ((x3 + (2 : Int32))).toNatClampNeg) (xs ((x3 + (3 : Int32))).toNatClampNeg) (xs ((x3 + (4 : Int32))).toNatClampNeg) (xs ((x3 + (5 : Int32))).toNatClampNeg) M) fun q22 => (Option.bind (f_M_copy (xs ((x3 + (1 : Int32))).toNatClampNeg) (xs ((x3 + (2 : Int32))).toNatClampNeg) (xs ((x3 + (3 : Int32))).toNatClampNeg) (xs ((x3 + (4 : Int32))).toNatClampNeg) (xs ((x3 + (5 : Int32))).toNatClampNeg) q22.2) fun q24 => (if q22.1 = q24.1 then l_L_law_10 xs xl n (x3 + (6 : Int32)) q24.2 else some (.inl ((0 : Int32), q24.2))))) else none) else none) else none) else none) else none) else (if ((xs (x3).toNatClampNeg) &&& (31 : Int32)) = (3 : Int32) then (if wib (x3 + (1 : Int32)) xl = true then (Option.bind (f_C_drop (xs ((x3 + (1 : Int32))).toNatClampNeg) M) fun q27 => (Option.bind (f_M_drop (xs ((x3 + (1 : Int32))).toNatClampNeg) q27.2) fun q29 => (if q27.1 = q29.1 then l_L_law_10 xs xl n (x3 + (6 : Int32)) q29.2 else some (.inl ((0 : Int32), q29.2))))) else none) else (if ((xs (x3).toNatClampNeg) &&& (31 : Int32)) = (4 : Int32) then (if wib (x3 + (1 : Int32)) xl = true then (Option.bind (f_C_feed (xs ((x3 + (1 : Int32))).toNatClampNeg) M) fun q32 => (Option.bind (f_M_feed (xs ((x3 + (1 : Int32))).toNatClampNeg) q32.2) fun q34 => (if q32.1 = q34.1 then l_L_law_10 xs xl n (x3 + (6 : Int32)) q34.2 else some (.inl ((0 : Int32), q34.2))))) else none) else (if ((xs (x3).toNatClampNeg) &&& (31 : Int32)) = (5 : Int32) then (Option.bind (f_C_pass M) fun q36 => (Option.bind (f_M_pass q36.2) fun q38 => (if q36.1 = q38.1 then l_L_law_10 xs xl n (x3 + (6 : Int32)) q38.2 else some (.inl ((0 : Int32), q38.2))))) else (if ((xs (x3).toNatClampNeg) &&& (31 : Int32)) = (6 : Int32) then (if (f_C_fault M) = (f_M_fault M) then l_L_law_10 xs xl n (x3 + (6 : Int32)) M else some (.inl ((0 : Int32), M))) else (if ((xs (x3).toNatClampNeg) &&& (31 : Int32)) = (7 : Int32) then (if wib (x3 + (1 : Int32)) xl = true then (if wib (x3 + (2 : Int32)) xl = true then (if wib (x3 + (3 : Int32)) xl = true then (Option.bind (f_C_setUp (xs ((x3 + (1 : Int32))).toNatClampNeg) (xs ((x3 + (2 : Int32))).toNatClampNeg) (xs ((x3 + (3 : Int32))).toNatClampNeg) M) fun q43 => (Option.bind (f_M_setUp (xs ((x3 + (1 : Int32))).toNatClampNeg) (xs ((x3 + (2 : Int32))).toNatClampNeg) (xs ((x3 + (3 : Int32))).toNatClampNeg) q43.2) fun q45 => (if q43.1 = q45.1 then l_L_law_10 xs xl n (x3 + (6 : Int32)) q45.2 else some (.inl ((0 : Int32), q45.2))))) else none) else none) else none) else (if ((xs (x3).toNatClampNeg) &&& (31 : Int32)) = (8 : Int32) then (if wib (x3 + (1 : Int32)) xl = true then (Option.bind (f_C_take (xs ((x3 + (1 : Int32))).toNatClampNeg) M) fun q48 => (Option.bind (f_M_take (xs ((x3 + (1 : Int32))).toNatClampNeg) q48.2) fun q50 => (if q48.1 = q50.1 then l_L_law_10 xs xl n (x3 + (6 : Int32)) q50.2 else some (.inl ((0 : Int32), q50.2))))) else none) else (if ((xs (x3).toNatClampNeg) &&& (31 : Int32)) = (9 : Int32) then (if wib (x3 + (1 : Int32)) xl = true then (Option.bind (f_C_turn (xs ((x3 + (1 : Int32))).toNatClampNeg) M) fun q53 => (Option.bind (f_M_turn (xs ((x3 + (1 : Int32))).toNatClampNeg) q53.2) fun q55 => (if q53.1 = q55.1 then l_L_law_10 xs xl n (x3 + (6 : Int32)) q55.2 else some (.inl ((0 : Int32), q55.2))))) else none) else (if ((xs (x3).toNatClampNeg) &&& (31 : Int32)) = (10 : Int32) then (if wib (x3 + (1 : Int32)) xl = true then (if wib (x3 + (2 : Int32)) xl = true then (Option.bind (f_C_gust (xs ((x3 + (1 : Int32))).toNatClampNeg) (xs ((x3 + (2 : Int32))).toNatClampNeg) M) fun q59 => (Option.bind (f_M_gust (xs ((x3 + (1 : Int32))).toNatClampNeg) (xs ((x3 + (2 : Int32))).toNatClampNeg) q59.2) fun q61 => (if q59.1 = q61.1 then l_L_law_10 xs xl n (x3 + (6 : Int32)) q61.2 else some (.inl ((0 : Int32), q61.2))))) else none) else none) else (if ((xs (x3).toNatClampNeg) &&& (31 : Int32)) = (11 : Int32) then (if wib (x3 + (1 : Int32)) xl = true then (Option.bind (f_C_hours (xs ((x3 + (1 : Int32))).toNatClampNeg) M) fun q64 => (Option.bind (f_M_hours (xs ((x3 + (1 : Int32))).toNatClampNeg) q64.2) fun q66 => (if q64.1 = q66.1 then l_L_law_10 xs xl n (x3 + (6 : Int32)) q66.2 else some (.inl ((0 : Int32), q66.2))))) else none) else (if ((xs (x3).toNatClampNeg) &&& (31 : Int32)) = (12 : Int32) then (Option.bind (f_C_undo M) fun q68 => (Option.bind (f_M_undo q68.2) fun q70 => (if q68.1 = q70.1 then l_L_law_10 xs xl n (x3 + (6 : Int32)) q70.2 else some (.inl ((0 : Int32), q70.2))))) else (if ((xs (x3).toNatClampNeg) &&& (31 : Int32)) = (13 : Int32) then (if wib (x3 + (1 : Int32)) xl = true then (if wib (x3 + (2 : Int32)) xl = true then (Option.bind (f_C_cell (xs ((x3 + (1 : Int32))).toNatClampNeg) (xs ((x3 + (2 : Int32))).toNatClampNeg) M) fun q74 => (Option.bind (f_M_cell (xs ((x3 + (1 : Int32))).toNatClampNeg) (xs ((x3 + (2 : Int32))).toNatClampNeg) q74.2) fun q76 => (if q74.1 = q76.1 then l_L_law_10 xs xl n (x3 + (6 : Int32)) q76.2 else some (.inl ((0 : Int32), q76.2))))) else none) else none) else (if ((xs (x3).toNatClampNeg) &&& (31 : Int32)) = (14 : Int32) then (if wib (x3 + (1 : Int32)) xl = true then (if wib (x3 + (2 : Int32)) xl = true then (Option.bind (f_C_wind (xs ((x3 + (1 : Int32))).toNatClampNeg) (xs ((x3 + (2 : Int32))).toNatClampNeg) M) fun v80 => (Option.bind (f_M_wind (xs ((x3 + (1 : Int32))).toNatClampNeg) (xs ((x3 + (2 : Int32))).toNatClampNeg) M) fun v82 => (if v80 = v82 then l_L_law_10 xs xl n (x3 + (6 : Int32)) M else some (.inl ((0 : Int32), M))))) else none) else none) else (if ((xs (x3).toNatClampNeg) &&& (31 : Int32)) = (15 : Int32) then (if wib (x3 + (1 : Int32)) xl = true then (if wib (x3 + (2 : Int32)) xl = true then (Option.bind (f_C_felt (xs ((x3 + (1 : Int32))).toNatClampNeg) (xs ((x3 + (2 : Int32))).toNatClampNeg) M) fun q86 => (Option.bind (f_M_felt (xs ((x3 + (1 : Int32))).toNatClampNeg) (xs ((x3 + (2 : Int32))).toNatClampNeg) q86.2) fun q88 => (if q86.1 = q88.1 then l_L_law_10 xs xl n (x3 + (6 : Int32)) q88.2 else some (.inl ((0 : Int32), q88.2))))) else none) else none) else (if ((xs (x3).toNatClampNeg) &&& (31 : Int32)) = (16 : Int32) then (if wib (x3 + (1 : Int32)) xl = true then (Option.bind (f_C_lost (xs ((x3 + (1 : Int32))).toNatClampNeg) M) fun q91 => (Option.bind (f_M_lost (xs ((x3 + (1 : Int32))).toNatClampNeg) q91.2) fun q93 => (if q91.1 = q93.1 then l_L_law_10 xs xl n (x3 + (6 : Int32)) q93.2 else some (.inl ((0 : Int32), q93.2))))) else none) else (if ((xs (x3).toNatClampNeg) &&& (31 : Int32)) = (17 : Int32) then (if wib (x3 + (1 : Int32)) xl = true then (if wib (x3 + (2 : Int32)) xl = true then (Option.bind (f_C_leaves (xs ((x3 + (1 : Int32))).toNatClampNeg) (xs ((x3 + (2 : Int32))).toNatClampNeg) M) fun q97 => (Option.bind (f_M_leaves (xs ((x3 + (1 : Int32))).toNatClampNeg) (xs ((x3 + (2 : Int32))).toNatClampNeg) q97.2) fun q99 => (if q97.1 = q99.1 then l_L_law_10 xs xl n (x3 + (6 : Int32)) q99.2 else some (.inl ((0 : Int32), q99.2))))) else none) else none) else (if ((xs (x3).toNatClampNeg) &&& (31 : Int32)) = (18 : Int32) then (if wib (x3 + (1 : Int32)) xl = true then (Option.bind (f_C_breaks (xs ((x3 + (1 : Int32))).toNatClampNeg) M) fun q102 => (Option.bind (f_M_breaks (xs ((x3 + (1 : Int32))).toNatClampNeg) q102.2) fun q104 => (if q102.1 = q104.1 then l_L_law_10 xs xl n (x3 + (6 : Int32)) q104.2 else some (.inl ((0 : Int32), q104.2))))) else none) else (if ((xs (x3).toNatClampNeg) &&& (31 : Int32)) = (19 : Int32) then (if wib (x3 + (1 : Int32)) xl = true then (if wib (x3 + (2 : Int32)) xl = true then (Option.bind (f_C_stands (xs ((x3 + (1 : Int32))).toNatClampNeg) (xs ((x3 + (2 : Int32))).toNatClampNeg) M) fun q108 => (Option.bind (f_M_stands (xs ((x3 + (1 : Int32))).toNatClampNeg) (xs ((x3 + (2 : Int32))).toNatClampNeg) q108.2) fun q110 => (if q108.1 = q110.1 then l_L_law_10 xs xl n (x3 + (6 : Int32)) q110.2 else some (.inl ((0 : Int32), q110.2))))) else none) else none) else (if ((xs (x3).toNatClampNeg) &&& (31 : Int32)) = (20 : Int32) then (if wib (x3 + (1 : Int32)) xl = true then (if wib (x3 + (2 : Int32)) xl = true then (if wib (x3 + (3 : Int32)) xl = true then (Option.bind (f_C_walls (xs ((x3 + (1 : Int32))).toNatClampNeg) (xs ((x3 + (2 : Int32))).toNatClampNeg) (xs ((x3 + (3 : Int32))).toNatClampNeg) M) fun q115 => (Option.bind (f_M_walls (xs ((x3 + (1 : Int32))).toNatClampNeg) (xs ((x3 + (2 : Int32))).toNatClampNeg) (xs ((x3 + (3 : Int32))).toNatClampNeg) q115.2) fun q117 => (if q115.1 = q117.1 then l_L_law_10 xs xl n (x3 + (6 : Int32)) q117.2 else some (.inl ((0 : Int32), q117.2))))) else none) else none) else none) else (if ((xs (x3).toNatClampNeg) &&& (31 : Int32)) = (21 : Int32) then (if wib (x3 + (1 : Int32)) xl = true then (if wib (x3 + (2 : Int32)) xl = true then (if wib (x3 + (3 : Int32)) xl = true then (if wib (x3 + (4 : Int32)) xl = true then (Option.bind (f_C_hidden (xs ((x3 + (1 : Int32))).toNatClampNeg) (xs ((x3 + (2 : Int32))).toNatClampNeg) (xs ((x3 + (3 : Int32))).toNatClampNeg) (xs ((x3 + (4 : Int32))).toNatClampNeg) M) fun q123 => (Option.bind (f_M_hidden (xs ((x3 + (1 : Int32))).toNatClampNeg) (xs ((x3 + (2 : Int32))).toNatClampNeg) (xs ((x3 + (3 : Int32))).toNatClampNeg) (xs ((x3 + (4 : Int32))).toNatClampNeg) q123.2) fun q125 => (if q123.1 = q125.1 then l_L_law_10 xs xl n (x3 + (6 : Int32)) q125.2 else some (.inl ((0 : Int32), q125.2))))) else none) else none) else none) else none) else (if ((xs (x3).toNatClampNeg) &&& (31 : Int32)) = (22 : Int32) then (if wib (x3 + (1 : Int32)) xl = true then (if wib (x3 + (2 : Int32)) xl = true then (Option.bind (f_C_most (xs ((x3 + (1 : Int32))).toNatClampNeg) (xs ((x3 + (2 : Int32))).toNatClampNeg) M) fun q129 => (Option.bind (f_M_most (xs ((x3 + (1 : Int32))).toNatClampNeg) (xs ((x3 + (2 : Int32))).toNatClampNeg) q129.2) fun q131 => (if q129.1 = q131.1 then l_L_law_10 xs xl n (x3 + (6 : Int32)) q131.2 else some (.inl ((0 : Int32), q131.2))))) else none) else none) else (if ((xs (x3).toNatClampNeg) &&& (31 : Int32)) = (23 : Int32) then (if wib (x3 + (1 : Int32)) xl = true then (if wib (x3 + (2 : Int32)) xl = true then (if wib (x3 + (3 : Int32)) xl = true then (if wib (x3 + (4 : Int32)) xl = true then (Option.bind (f_C_lots (xs ((x3 + (1 : Int32))).toNatClampNeg) (xs ((x3 + (2 : Int32))).toNatClampNeg) (xs ((x3 + (3 : Int32))).toNatClampNeg) (xs ((x3 + (4 : Int32))).toNatClampNeg) M) fun q137 => (Option.bind (f_M_lots (xs ((x3 + (1 : Int32))).toNatClampNeg) (xs ((x3 + (2 : Int32))).toNatClampNeg) (xs ((x3 + (3 : Int32))).toNatClampNeg) (xs ((x3 + (4 : Int32))).toNatClampNeg) q137.2) fun q139 => (if q137.1 = q139.1 then l_L_law_10 xs xl n (x3 + (6 : Int32)) q139.2 else some (.inl ((0 : Int32), q139.2))))) else none) else none) else none) else none) else (if ((xs (x3).toNatClampNeg) &&& (31 : Int32)) = (24 : Int32) then (if wib (x3 + (1 : Int32)) xl = true then (Option.bind (f_C_image (xs ((x3 + (1 : Int32))).toNatClampNeg) M) fun q142 => (Option.bind (f_M_image (xs ((x3 + (1 : Int32))).toNatClampNeg) q142.2) fun q144 => (if q142.1 = q144.1 then l_L_law_10 xs xl n (x3 + (6 : Int32)) q144.2 else some (.inl ((0 : Int32), q144.2))))) else none) else (if ((xs (x3).toNatClampNeg) &&& (31 : Int32)) = (25 : Int32) then (if wib (x3 + (1 : Int32)) xl = true then (Option.bind (f_C_restore (xs ((x3 + (1 : Int32))).toNatClampNeg) M) fun q147 => (Option.bind (f_M_restore (xs ((x3 + (1 : Int32))).toNatClampNeg) q147.2) fun q149 => (if q147.1 = q149.1 then l_L_law_10 xs xl n (x3 + (6 : Int32)) q149.2 else some (.inl ((0 : Int32), q149.2))))) else none) else (if ((xs (x3).toNatClampNeg) &&& (31 : Int32)) = (26 : Int32) then (if wib (x3 + (1 : Int32)) xl = true then (Option.bind (f_C_kind (xs ((x3 + (1 : Int32))).toNatClampNeg) M) fun v152 => (Option.bind (f_M_kind (xs ((x3 + (1 : Int32))).toNatClampNeg) M) fun v154 => (if v152 = v154 then l_L_law_10 xs xl n (x3 + (6 : Int32)) M else some (.inl ((0 : Int32), M))))) else none) else (if ((xs (x3).toNatClampNeg) &&& (31 : Int32)) = (27 : Int32) then (if wib (x3 + (1 : Int32)) xl = true then (if wib (x3 + (2 : Int32)) xl = true then (Option.bind (f_C_as (xs ((x3 + (1 : Int32))).toNatClampNeg) (xs ((x3 + (2 : Int32))).toNatClampNeg) M) fun q158 => (Option.bind (f_M_as (xs ((x3 + (1 : Int32))).toNatClampNeg) (xs ((x3 + (2 : Int32))).toNatClampNeg) q158.2) fun q160 => (if q158.1 = q160.1 then l_L_law_10 xs xl n (x3 + (6 : Int32)) q160.2 else some (.inl ((0 : Int32), q160.2))))) else none) else none) else (if ((xs (x3).toNatClampNeg) &&& (31 : Int32)) = (28 : Int32) then (if wib (x3 + (1 : Int32)) xl = true then (if wib (x3 + (2 : Int32)) xl = true then (Option.bind (f_C_ask (xs ((x3 + (1 : Int32))).toNatClampNeg) (xs ((x3 + (2 : Int32))).toNatClampNeg) M) fun q164 => (Option.bind (f_M_ask (xs ((x3 + (1 : Int32))).toNatClampNeg) (xs ((x3 + (2 : Int32))).toNatClampNeg) q164.2) fun q166 => (if q164.1 = q166.1 then l_L_law_10 xs xl n (x3 + (6 : Int32)) q166.2 else some (.inl ((0 : Int32), q166.2))))) else none) else none) else (if ((xs (x3).toNatClampNeg) &&& (31 : Int32)) = (29 : Int32) then (if wib (x3 + (1 : Int32)) xl = true then (Option.bind (f_C_trace (xs ((x3 + (1 : Int32))).toNatClampNeg) M) fun v169 => (Option.bind (f_M_trace (xs ((x3 + (1 : Int32))).toNatClampNeg) M) fun v171 => (if v169 = v171 then l_L_law_10 xs xl n (x3 + (6 : Int32)) M else some (.inl ((0 : Int32), M))))) else none) else (if ((xs (x3).toNatClampNeg) &&& (31 : Int32)) = (30 : Int32) then (if wib (x3 + (1 : Int32)) xl = true then (Option.bind (f_C_count (xs ((x3 + (1 : Int32))).toNatClampNeg) M) fun q174 => (Option.bind (f_M_count (xs ((x3 + (1 : Int32))).toNatClampNeg) q174.2) fun q176 => (if q174.1 = q176.1 then l_L_law_10 xs xl n (x3 + (6 : Int32)) q176.2 else some (.inl ((0 : Int32), q176.2))))) else none) else (if ((xs (x3).toNatClampNeg) &&& (31 : Int32)) = (31 : Int32) then (if (f_C_status M) = (f_M_status M) then l_L_law_10 xs xl n (x3 + (6 : Int32)) M else some (.inl ((0 : Int32), M))) else l_L_law_10 xs xl n (x3 + (6 : Int32)) M)))))))))))))))))))))))))))))))) else none))
def f_L_law (xs : Nat → Int32) (xl : Nat) (M : wc_M) : Option (Int32 × wc_M) :=
  (Option.bind (l_L_law_10 xs xl 2000 (0 : Int32) M) fun o179 => wel (fun r180 => some r180) (fun t177 => some ((1 : Int32), t177)) o179)
set_option maxRecDepth 20000 in
theorem l_L_law_10_ok (xs : Nat → Int32) (xl : Nat) {K : Option Int32 → wc_M → Prop} : ∀ (n : Nat) (x3 : Int32) (M : wc_M) (o : (Int32 × wc_M) ⊕ (wc_M)), l_L_law_10 xs xl n x3 M = some o → wel (fun r => K (some r.1) r.2) (fun t => wg 21 (xl + 1, xs) (some .boolean) wk_law 798 [none, none, none, none] [] t K) o → wg 21 (xl + 1, xs) (some .boolean) wk_law 10 [some (.inr (.inl (38, 0))), some (.inr (.inl (0, 0))), some (.inr (.inl (21, 0))), some (.inl x3)] [] M K := by
  intro n
  induction n with
  | zero =>
    intro x3 M o h hk
    exact nomatch (show (none : Option ((Int32 × wc_M) ⊕ (wc_M))) = some o from h)
  | succ n ih =>
    intro x3 M o h hk
    unfold l_L_law_10 at h
    refine wg_blk 5 (i' := 15) (L' := [some (.inr (.inl (38, 0))), some (.inr (.inl (0, 0))), some (.inr (.inl (21, 0))), some (.inl x3)]) (st' := [.inl ((Int32.ofNat xl) - (6 : Int32)), .inl x3]) (M' := M) rfl ?_
    refine wg_br (c := ((Int32.ofNat xl) - (6 : Int32)) < x3) (t := 798) (f := 16) (st' := []) rfl (fun hc => ?_) (fun hc => ?_)
    · rw [if_pos hc] at h
      obtain rfl := Option.some.inj h
      exact wg_wk (wk_n (wk_n (wk_n (wk_n wk_e)))) rfl hk
    · rw [if_neg hc] at h
      refine wg_blk 2 (i' := 18) (L' := [some (.inr (.inl (38, 0))), some (.inr (.inl (0, 0))), some (.inr (.inl (21, 0))), some (.inl x3)]) (st' := [.inl x3, .inr (.inl (38, 0))]) (M' := M) rfl ?_
      obtain ⟨hp1, h⟩ := wif h
      refine wg_ck (st' := [.inl (xs (x3).toNatClampNeg)]) (M' := M) rfl (wib_in hp1) ?_
      refine wg_blk 2 (i' := 21) (L' := [some (.inr (.inl (38, 0))), some (.inr (.inl (0, 0))), some (.inr (.inl (21, 0))), some (.inl x3)]) (st' := [.inl ((xs (x3).toNatClampNeg) &&& (31 : Int32))]) (M' := M) rfl ?_
      refine wg_sw (x := ((xs (x3).toNatClampNeg) &&& (31 : Int32))) (cs := [((0 : Int32), 22), ((1 : Int32), 59), ((2 : Int32), 96), ((3 : Int32), 153), ((4 : Int32), 170), ((5 : Int32), 187), ((6 : Int32), 194), ((7 : Int32), 201), ((8 : Int32), 238), ((9 : Int32), 255), ((10 : Int32), 272), ((11 : Int32), 299), ((12 : Int32), 316), ((13 : Int32), 323), ((14 : Int32), 350), ((15 : Int32), 377), ((16 : Int32), 404), ((17 : Int32), 421), ((18 : Int32), 448), ((19 : Int32), 465), ((20 : Int32), 492), ((21 : Int32), 529), ((22 : Int32), 576), ((23 : Int32), 603), ((24 : Int32), 650), ((25 : Int32), 667), ((26 : Int32), 684), ((27 : Int32), 701), ((28 : Int32), 728), ((29 : Int32), 755), ((30 : Int32), 772), ((31 : Int32), 789)]) (df := 796) (st' := []) rfl ?_ ?_
      · intro q hq he
        simp only [List.mem_cons, List.not_mem_nil, or_false] at hq
        rcases hq with rfl | rfl | rfl | rfl | rfl | rfl | rfl | rfl | rfl | rfl | rfl | rfl | rfl | rfl | rfl | rfl | rfl | rfl | rfl | rfl | rfl | rfl | rfl | rfl | rfl | rfl | rfl | rfl | rfl | rfl | rfl | rfl
        · dsimp only at he ⊢
          rw [if_pos he] at h
          refine wg_blk 5 (i' := 27) (L' := [some (.inr (.inl (38, 0))), some (.inr (.inl (0, 0))), some (.inr (.inl (21, 0))), some (.inl x3)]) (st' := [.inl (x3 + (1 : Int32)), .inr (.inl (38, 0)), .inr (.inl (0, 0))]) (M' := M) rfl ?_
          obtain ⟨hp2, h⟩ := wif h
          refine wg_ck (st' := [.inl (xs ((x3 + (1 : Int32))).toNatClampNeg), .inr (.inl (0, 0))]) (M' := M) rfl (wib_in hp2) ?_
          refine wg_blk 4 (i' := 32) (L' := [some (.inr (.inl (38, 0))), some (.inr (.inl (0, 0))), some (.inr (.inl (21, 0))), some (.inl x3)]) (st' := [.inl (x3 + (2 : Int32)), .inr (.inl (38, 0)), .inl (xs ((x3 + (1 : Int32))).toNatClampNeg), .inr (.inl (0, 0))]) (M' := M) rfl ?_
          obtain ⟨hp3, h⟩ := wif h
          refine wg_ck (st' := [.inl (xs ((x3 + (2 : Int32))).toNatClampNeg), .inl (xs ((x3 + (1 : Int32))).toNatClampNeg), .inr (.inl (0, 0))]) (M' := M) rfl (wib_in hp3) ?_
          refine wg_blk 4 (i' := 37) (L' := [some (.inr (.inl (38, 0))), some (.inr (.inl (0, 0))), some (.inr (.inl (21, 0))), some (.inl x3)]) (st' := [.inl (x3 + (3 : Int32)), .inr (.inl (38, 0)), .inl (xs ((x3 + (2 : Int32))).toNatClampNeg), .inl (xs ((x3 + (1 : Int32))).toNatClampNeg), .inr (.inl (0, 0))]) (M' := M) rfl ?_
          obtain ⟨hp4, h⟩ := wif h
          refine wg_ck (st' := [.inl (xs ((x3 + (3 : Int32))).toNatClampNeg), .inl (xs ((x3 + (2 : Int32))).toNatClampNeg), .inl (xs ((x3 + (1 : Int32))).toNatClampNeg), .inr (.inl (0, 0))]) (M' := M) rfl (wib_in hp4) ?_
          obtain ⟨q6, h5, h⟩ := wbs h
          refine wg_ca (d' := 2) (y := 0) (as := [.inr (.inl (0, 0)), .inl (xs ((x3 + (1 : Int32))).toNatClampNeg), .inl (xs ((x3 + (2 : Int32))).toNatClampNeg), .inl (xs ((x3 + (3 : Int32))).toNatClampNeg)]) (rest := []) (r := some q6.1) (M' := q6.2) rfl (Nat.le_of_ble_eq_true rfl) (s_C_row (xs ((x3 + (1 : Int32))).toNatClampNeg) (xs ((x3 + (2 : Int32))).toNatClampNeg) (xs ((x3 + (3 : Int32))).toNatClampNeg) M _ h5) ?_
          refine wg_blk 5 (i' := 44) (L' := [some (.inr (.inl (38, 0))), some (.inr (.inl (0, 0))), some (.inr (.inl (21, 0))), some (.inl x3)]) (st' := [.inl (x3 + (1 : Int32)), .inr (.inl (38, 0)), .inr (.inl (21, 0)), .inl q6.1]) (M' := q6.2) rfl ?_
          refine wg_ck (st' := [.inl (xs ((x3 + (1 : Int32))).toNatClampNeg), .inr (.inl (21, 0)), .inl q6.1]) (M' := q6.2) rfl (wib_in hp2) ?_
          refine wg_blk 4 (i' := 49) (L' := [some (.inr (.inl (38, 0))), some (.inr (.inl (0, 0))), some (.inr (.inl (21, 0))), some (.inl x3)]) (st' := [.inl (x3 + (2 : Int32)), .inr (.inl (38, 0)), .inl (xs ((x3 + (1 : Int32))).toNatClampNeg), .inr (.inl (21, 0)), .inl q6.1]) (M' := q6.2) rfl ?_
          refine wg_ck (st' := [.inl (xs ((x3 + (2 : Int32))).toNatClampNeg), .inl (xs ((x3 + (1 : Int32))).toNatClampNeg), .inr (.inl (21, 0)), .inl q6.1]) (M' := q6.2) rfl (wib_in hp3) ?_
          refine wg_blk 4 (i' := 54) (L' := [some (.inr (.inl (38, 0))), some (.inr (.inl (0, 0))), some (.inr (.inl (21, 0))), some (.inl x3)]) (st' := [.inl (x3 + (3 : Int32)), .inr (.inl (38, 0)), .inl (xs ((x3 + (2 : Int32))).toNatClampNeg), .inl (xs ((x3 + (1 : Int32))).toNatClampNeg), .inr (.inl (21, 0)), .inl q6.1]) (M' := q6.2) rfl ?_
          refine wg_ck (st' := [.inl (xs ((x3 + (3 : Int32))).toNatClampNeg), .inl (xs ((x3 + (2 : Int32))).toNatClampNeg), .inl (xs ((x3 + (1 : Int32))).toNatClampNeg), .inr (.inl (21, 0)), .inl q6.1]) (M' := q6.2) rfl (wib_in hp4) ?_
          obtain ⟨q8, h7, h⟩ := wbs h
          refine wg_ca (d' := 3) (y := 92) (as := [.inr (.inl (21, 0)), .inl (xs ((x3 + (1 : Int32))).toNatClampNeg), .inl (xs ((x3 + (2 : Int32))).toNatClampNeg), .inl (xs ((x3 + (3 : Int32))).toNatClampNeg)]) (rest := [.inl q6.1]) (r := some q8.1) (M' := q8.2) rfl (Nat.le_of_ble_eq_true rfl) (s_M_row (xs ((x3 + (1 : Int32))).toNatClampNeg) (xs ((x3 + (2 : Int32))).toNatClampNeg) (xs ((x3 + (3 : Int32))).toNatClampNeg) q6.2 _ h7) ?_
          refine wg_br (c := q6.1 = q8.1) (t := 796) (f := 57) (st' := []) rfl (fun hc => ?_) (fun hc => ?_)
          · rw [if_pos hc] at h
            refine wg_blk 2 (i' := 10) (L' := [some (.inr (.inl (38, 0))), some (.inr (.inl (0, 0))), some (.inr (.inl (21, 0))), some (.inl (x3 + (6 : Int32)))]) (st' := []) (M' := q8.2) rfl ?_
            exact wg_wk (wk_s (wk_s (wk_s (wk_s wk_e)))) rfl (ih (x3 + (6 : Int32)) q8.2 _ h hk)
          · rw [if_neg hc] at h
            refine wg_blk 1 (i' := 58) (L' := [some (.inr (.inl (38, 0))), some (.inr (.inl (0, 0))), some (.inr (.inl (21, 0))), some (.inl x3)]) (st' := [.inl (0 : Int32)]) (M' := q8.2) rfl ?_
            obtain rfl := Option.some.inj h
            exact wg_re rfl (by decide) hk
        · dsimp only at he ⊢
          rw [if_neg (fun z => absurd (he.symm.trans z) (by decide))] at h
          rw [if_pos he] at h
          refine wg_blk 5 (i' := 64) (L' := [some (.inr (.inl (38, 0))), some (.inr (.inl (0, 0))), some (.inr (.inl (21, 0))), some (.inl x3)]) (st' := [.inl (x3 + (1 : Int32)), .inr (.inl (38, 0)), .inr (.inl (0, 0))]) (M' := M) rfl ?_
          obtain ⟨hp9, h⟩ := wif h
          refine wg_ck (st' := [.inl (xs ((x3 + (1 : Int32))).toNatClampNeg), .inr (.inl (0, 0))]) (M' := M) rfl (wib_in hp9) ?_
          refine wg_blk 4 (i' := 69) (L' := [some (.inr (.inl (38, 0))), some (.inr (.inl (0, 0))), some (.inr (.inl (21, 0))), some (.inl x3)]) (st' := [.inl (x3 + (2 : Int32)), .inr (.inl (38, 0)), .inl (xs ((x3 + (1 : Int32))).toNatClampNeg), .inr (.inl (0, 0))]) (M' := M) rfl ?_
          obtain ⟨hp10, h⟩ := wif h
          refine wg_ck (st' := [.inl (xs ((x3 + (2 : Int32))).toNatClampNeg), .inl (xs ((x3 + (1 : Int32))).toNatClampNeg), .inr (.inl (0, 0))]) (M' := M) rfl (wib_in hp10) ?_
          refine wg_blk 4 (i' := 74) (L' := [some (.inr (.inl (38, 0))), some (.inr (.inl (0, 0))), some (.inr (.inl (21, 0))), some (.inl x3)]) (st' := [.inl (x3 + (3 : Int32)), .inr (.inl (38, 0)), .inl (xs ((x3 + (2 : Int32))).toNatClampNeg), .inl (xs ((x3 + (1 : Int32))).toNatClampNeg), .inr (.inl (0, 0))]) (M' := M) rfl ?_
          obtain ⟨hp11, h⟩ := wif h
          refine wg_ck (st' := [.inl (xs ((x3 + (3 : Int32))).toNatClampNeg), .inl (xs ((x3 + (2 : Int32))).toNatClampNeg), .inl (xs ((x3 + (1 : Int32))).toNatClampNeg), .inr (.inl (0, 0))]) (M' := M) rfl (wib_in hp11) ?_
          obtain ⟨q13, h12, h⟩ := wbs h
          refine wg_ca (d' := 3) (y := 1) (as := [.inr (.inl (0, 0)), .inl (xs ((x3 + (1 : Int32))).toNatClampNeg), .inl (xs ((x3 + (2 : Int32))).toNatClampNeg), .inl (xs ((x3 + (3 : Int32))).toNatClampNeg)]) (rest := []) (r := some q13.1) (M' := q13.2) rfl (Nat.le_of_ble_eq_true rfl) (s_C_set (xs ((x3 + (1 : Int32))).toNatClampNeg) (xs ((x3 + (2 : Int32))).toNatClampNeg) (xs ((x3 + (3 : Int32))).toNatClampNeg) M _ h12) ?_
          refine wg_blk 5 (i' := 81) (L' := [some (.inr (.inl (38, 0))), some (.inr (.inl (0, 0))), some (.inr (.inl (21, 0))), some (.inl x3)]) (st' := [.inl (x3 + (1 : Int32)), .inr (.inl (38, 0)), .inr (.inl (21, 0)), .inl q13.1]) (M' := q13.2) rfl ?_
          refine wg_ck (st' := [.inl (xs ((x3 + (1 : Int32))).toNatClampNeg), .inr (.inl (21, 0)), .inl q13.1]) (M' := q13.2) rfl (wib_in hp9) ?_
          refine wg_blk 4 (i' := 86) (L' := [some (.inr (.inl (38, 0))), some (.inr (.inl (0, 0))), some (.inr (.inl (21, 0))), some (.inl x3)]) (st' := [.inl (x3 + (2 : Int32)), .inr (.inl (38, 0)), .inl (xs ((x3 + (1 : Int32))).toNatClampNeg), .inr (.inl (21, 0)), .inl q13.1]) (M' := q13.2) rfl ?_
          refine wg_ck (st' := [.inl (xs ((x3 + (2 : Int32))).toNatClampNeg), .inl (xs ((x3 + (1 : Int32))).toNatClampNeg), .inr (.inl (21, 0)), .inl q13.1]) (M' := q13.2) rfl (wib_in hp10) ?_
          refine wg_blk 4 (i' := 91) (L' := [some (.inr (.inl (38, 0))), some (.inr (.inl (0, 0))), some (.inr (.inl (21, 0))), some (.inl x3)]) (st' := [.inl (x3 + (3 : Int32)), .inr (.inl (38, 0)), .inl (xs ((x3 + (2 : Int32))).toNatClampNeg), .inl (xs ((x3 + (1 : Int32))).toNatClampNeg), .inr (.inl (21, 0)), .inl q13.1]) (M' := q13.2) rfl ?_
          refine wg_ck (st' := [.inl (xs ((x3 + (3 : Int32))).toNatClampNeg), .inl (xs ((x3 + (2 : Int32))).toNatClampNeg), .inl (xs ((x3 + (1 : Int32))).toNatClampNeg), .inr (.inl (21, 0)), .inl q13.1]) (M' := q13.2) rfl (wib_in hp11) ?_
          obtain ⟨q15, h14, h⟩ := wbs h
          refine wg_ca (d' := 3) (y := 94) (as := [.inr (.inl (21, 0)), .inl (xs ((x3 + (1 : Int32))).toNatClampNeg), .inl (xs ((x3 + (2 : Int32))).toNatClampNeg), .inl (xs ((x3 + (3 : Int32))).toNatClampNeg)]) (rest := [.inl q13.1]) (r := some q15.1) (M' := q15.2) rfl (Nat.le_of_ble_eq_true rfl) (s_M_set (xs ((x3 + (1 : Int32))).toNatClampNeg) (xs ((x3 + (2 : Int32))).toNatClampNeg) (xs ((x3 + (3 : Int32))).toNatClampNeg) q13.2 _ h14) ?_
          refine wg_br (c := q13.1 = q15.1) (t := 796) (f := 94) (st' := []) rfl (fun hc => ?_) (fun hc => ?_)
          · rw [if_pos hc] at h
            refine wg_blk 2 (i' := 10) (L' := [some (.inr (.inl (38, 0))), some (.inr (.inl (0, 0))), some (.inr (.inl (21, 0))), some (.inl (x3 + (6 : Int32)))]) (st' := []) (M' := q15.2) rfl ?_
            exact wg_wk (wk_s (wk_s (wk_s (wk_s wk_e)))) rfl (ih (x3 + (6 : Int32)) q15.2 _ h hk)
          · rw [if_neg hc] at h
            refine wg_blk 1 (i' := 95) (L' := [some (.inr (.inl (38, 0))), some (.inr (.inl (0, 0))), some (.inr (.inl (21, 0))), some (.inl x3)]) (st' := [.inl (0 : Int32)]) (M' := q15.2) rfl ?_
            obtain rfl := Option.some.inj h
            exact wg_re rfl (by decide) hk
        · dsimp only at he ⊢
          rw [if_neg (fun z => absurd (he.symm.trans z) (by decide))] at h
          rw [if_neg (fun z => absurd (he.symm.trans z) (by decide))] at h
          rw [if_pos he] at h
          refine wg_blk 5 (i' := 101) (L' := [some (.inr (.inl (38, 0))), some (.inr (.inl (0, 0))), some (.inr (.inl (21, 0))), some (.inl x3)]) (st' := [.inl (x3 + (1 : Int32)), .inr (.inl (38, 0)), .inr (.inl (0, 0))]) (M' := M) rfl ?_
          obtain ⟨hp16, h⟩ := wif h
          refine wg_ck (st' := [.inl (xs ((x3 + (1 : Int32))).toNatClampNeg), .inr (.inl (0, 0))]) (M' := M) rfl (wib_in hp16) ?_
          refine wg_blk 4 (i' := 106) (L' := [some (.inr (.inl (38, 0))), some (.inr (.inl (0, 0))), some (.inr (.inl (21, 0))), some (.inl x3)]) (st' := [.inl (x3 + (2 : Int32)), .inr (.inl (38, 0)), .inl (xs ((x3 + (1 : Int32))).toNatClampNeg), .inr (.inl (0, 0))]) (M' := M) rfl ?_
          obtain ⟨hp17, h⟩ := wif h
          refine wg_ck (st' := [.inl (xs ((x3 + (2 : Int32))).toNatClampNeg), .inl (xs ((x3 + (1 : Int32))).toNatClampNeg), .inr (.inl (0, 0))]) (M' := M) rfl (wib_in hp17) ?_
          refine wg_blk 4 (i' := 111) (L' := [some (.inr (.inl (38, 0))), some (.inr (.inl (0, 0))), some (.inr (.inl (21, 0))), some (.inl x3)]) (st' := [.inl (x3 + (3 : Int32)), .inr (.inl (38, 0)), .inl (xs ((x3 + (2 : Int32))).toNatClampNeg), .inl (xs ((x3 + (1 : Int32))).toNatClampNeg), .inr (.inl (0, 0))]) (M' := M) rfl ?_
          obtain ⟨hp18, h⟩ := wif h
          refine wg_ck (st' := [.inl (xs ((x3 + (3 : Int32))).toNatClampNeg), .inl (xs ((x3 + (2 : Int32))).toNatClampNeg), .inl (xs ((x3 + (1 : Int32))).toNatClampNeg), .inr (.inl (0, 0))]) (M' := M) rfl (wib_in hp18) ?_
          refine wg_blk 4 (i' := 116) (L' := [some (.inr (.inl (38, 0))), some (.inr (.inl (0, 0))), some (.inr (.inl (21, 0))), some (.inl x3)]) (st' := [.inl (x3 + (4 : Int32)), .inr (.inl (38, 0)), .inl (xs ((x3 + (3 : Int32))).toNatClampNeg), .inl (xs ((x3 + (2 : Int32))).toNatClampNeg), .inl (xs ((x3 + (1 : Int32))).toNatClampNeg), .inr (.inl (0, 0))]) (M' := M) rfl ?_
          obtain ⟨hp19, h⟩ := wif h
          refine wg_ck (st' := [.inl (xs ((x3 + (4 : Int32))).toNatClampNeg), .inl (xs ((x3 + (3 : Int32))).toNatClampNeg), .inl (xs ((x3 + (2 : Int32))).toNatClampNeg), .inl (xs ((x3 + (1 : Int32))).toNatClampNeg), .inr (.inl (0, 0))]) (M' := M) rfl (wib_in hp19) ?_
          refine wg_blk 4 (i' := 121) (L' := [some (.inr (.inl (38, 0))), some (.inr (.inl (0, 0))), some (.inr (.inl (21, 0))), some (.inl x3)]) (st' := [.inl (x3 + (5 : Int32)), .inr (.inl (38, 0)), .inl (xs ((x3 + (4 : Int32))).toNatClampNeg), .inl (xs ((x3 + (3 : Int32))).toNatClampNeg), .inl (xs ((x3 + (2 : Int32))).toNatClampNeg), .inl (xs ((x3 + (1 : Int32))).toNatClampNeg), .inr (.inl (0, 0))]) (M' := M) rfl ?_
          obtain ⟨hp20, h⟩ := wif h
          refine wg_ck (st' := [.inl (xs ((x3 + (5 : Int32))).toNatClampNeg), .inl (xs ((x3 + (4 : Int32))).toNatClampNeg), .inl (xs ((x3 + (3 : Int32))).toNatClampNeg), .inl (xs ((x3 + (2 : Int32))).toNatClampNeg), .inl (xs ((x3 + (1 : Int32))).toNatClampNeg), .inr (.inl (0, 0))]) (M' := M) rfl (wib_in hp20) ?_
          obtain ⟨q22, h21, h⟩ := wbs h
          refine wg_ca (d' := 2) (y := 2) (as := [.inr (.inl (0, 0)), .inl (xs ((x3 + (1 : Int32))).toNatClampNeg), .inl (xs ((x3 + (2 : Int32))).toNatClampNeg), .inl (xs ((x3 + (3 : Int32))).toNatClampNeg), .inl (xs ((x3 + (4 : Int32))).toNatClampNeg), .inl (xs ((x3 + (5 : Int32))).toNatClampNeg)]) (rest := []) (r := some q22.1) (M' := q22.2) rfl (Nat.le_of_ble_eq_true rfl) (s_C_copy (xs ((x3 + (1 : Int32))).toNatClampNeg) (xs ((x3 + (2 : Int32))).toNatClampNeg) (xs ((x3 + (3 : Int32))).toNatClampNeg) (xs ((x3 + (4 : Int32))).toNatClampNeg) (xs ((x3 + (5 : Int32))).toNatClampNeg) M _ h21) ?_
          refine wg_blk 5 (i' := 128) (L' := [some (.inr (.inl (38, 0))), some (.inr (.inl (0, 0))), some (.inr (.inl (21, 0))), some (.inl x3)]) (st' := [.inl (x3 + (1 : Int32)), .inr (.inl (38, 0)), .inr (.inl (21, 0)), .inl q22.1]) (M' := q22.2) rfl ?_
          refine wg_ck (st' := [.inl (xs ((x3 + (1 : Int32))).toNatClampNeg), .inr (.inl (21, 0)), .inl q22.1]) (M' := q22.2) rfl (wib_in hp16) ?_
          refine wg_blk 4 (i' := 133) (L' := [some (.inr (.inl (38, 0))), some (.inr (.inl (0, 0))), some (.inr (.inl (21, 0))), some (.inl x3)]) (st' := [.inl (x3 + (2 : Int32)), .inr (.inl (38, 0)), .inl (xs ((x3 + (1 : Int32))).toNatClampNeg), .inr (.inl (21, 0)), .inl q22.1]) (M' := q22.2) rfl ?_
          refine wg_ck (st' := [.inl (xs ((x3 + (2 : Int32))).toNatClampNeg), .inl (xs ((x3 + (1 : Int32))).toNatClampNeg), .inr (.inl (21, 0)), .inl q22.1]) (M' := q22.2) rfl (wib_in hp17) ?_
          refine wg_blk 4 (i' := 138) (L' := [some (.inr (.inl (38, 0))), some (.inr (.inl (0, 0))), some (.inr (.inl (21, 0))), some (.inl x3)]) (st' := [.inl (x3 + (3 : Int32)), .inr (.inl (38, 0)), .inl (xs ((x3 + (2 : Int32))).toNatClampNeg), .inl (xs ((x3 + (1 : Int32))).toNatClampNeg), .inr (.inl (21, 0)), .inl q22.1]) (M' := q22.2) rfl ?_
          refine wg_ck (st' := [.inl (xs ((x3 + (3 : Int32))).toNatClampNeg), .inl (xs ((x3 + (2 : Int32))).toNatClampNeg), .inl (xs ((x3 + (1 : Int32))).toNatClampNeg), .inr (.inl (21, 0)), .inl q22.1]) (M' := q22.2) rfl (wib_in hp18) ?_
          refine wg_blk 4 (i' := 143) (L' := [some (.inr (.inl (38, 0))), some (.inr (.inl (0, 0))), some (.inr (.inl (21, 0))), some (.inl x3)]) (st' := [.inl (x3 + (4 : Int32)), .inr (.inl (38, 0)), .inl (xs ((x3 + (3 : Int32))).toNatClampNeg), .inl (xs ((x3 + (2 : Int32))).toNatClampNeg), .inl (xs ((x3 + (1 : Int32))).toNatClampNeg), .inr (.inl (21, 0)), .inl q22.1]) (M' := q22.2) rfl ?_
          refine wg_ck (st' := [.inl (xs ((x3 + (4 : Int32))).toNatClampNeg), .inl (xs ((x3 + (3 : Int32))).toNatClampNeg), .inl (xs ((x3 + (2 : Int32))).toNatClampNeg), .inl (xs ((x3 + (1 : Int32))).toNatClampNeg), .inr (.inl (21, 0)), .inl q22.1]) (M' := q22.2) rfl (wib_in hp19) ?_
          refine wg_blk 4 (i' := 148) (L' := [some (.inr (.inl (38, 0))), some (.inr (.inl (0, 0))), some (.inr (.inl (21, 0))), some (.inl x3)]) (st' := [.inl (x3 + (5 : Int32)), .inr (.inl (38, 0)), .inl (xs ((x3 + (4 : Int32))).toNatClampNeg), .inl (xs ((x3 + (3 : Int32))).toNatClampNeg), .inl (xs ((x3 + (2 : Int32))).toNatClampNeg), .inl (xs ((x3 + (1 : Int32))).toNatClampNeg), .inr (.inl (21, 0)), .inl q22.1]) (M' := q22.2) rfl ?_
          refine wg_ck (st' := [.inl (xs ((x3 + (5 : Int32))).toNatClampNeg), .inl (xs ((x3 + (4 : Int32))).toNatClampNeg), .inl (xs ((x3 + (3 : Int32))).toNatClampNeg), .inl (xs ((x3 + (2 : Int32))).toNatClampNeg), .inl (xs ((x3 + (1 : Int32))).toNatClampNeg), .inr (.inl (21, 0)), .inl q22.1]) (M' := q22.2) rfl (wib_in hp20) ?_
          obtain ⟨q24, h23, h⟩ := wbs h
          refine wg_ca (d' := 3) (y := 95) (as := [.inr (.inl (21, 0)), .inl (xs ((x3 + (1 : Int32))).toNatClampNeg), .inl (xs ((x3 + (2 : Int32))).toNatClampNeg), .inl (xs ((x3 + (3 : Int32))).toNatClampNeg), .inl (xs ((x3 + (4 : Int32))).toNatClampNeg), .inl (xs ((x3 + (5 : Int32))).toNatClampNeg)]) (rest := [.inl q22.1]) (r := some q24.1) (M' := q24.2) rfl (Nat.le_of_ble_eq_true rfl) (s_M_copy (xs ((x3 + (1 : Int32))).toNatClampNeg) (xs ((x3 + (2 : Int32))).toNatClampNeg) (xs ((x3 + (3 : Int32))).toNatClampNeg) (xs ((x3 + (4 : Int32))).toNatClampNeg) (xs ((x3 + (5 : Int32))).toNatClampNeg) q22.2 _ h23) ?_
          refine wg_br (c := q22.1 = q24.1) (t := 796) (f := 151) (st' := []) rfl (fun hc => ?_) (fun hc => ?_)
          · rw [if_pos hc] at h
            refine wg_blk 2 (i' := 10) (L' := [some (.inr (.inl (38, 0))), some (.inr (.inl (0, 0))), some (.inr (.inl (21, 0))), some (.inl (x3 + (6 : Int32)))]) (st' := []) (M' := q24.2) rfl ?_
            exact wg_wk (wk_s (wk_s (wk_s (wk_s wk_e)))) rfl (ih (x3 + (6 : Int32)) q24.2 _ h hk)
          · rw [if_neg hc] at h
            refine wg_blk 1 (i' := 152) (L' := [some (.inr (.inl (38, 0))), some (.inr (.inl (0, 0))), some (.inr (.inl (21, 0))), some (.inl x3)]) (st' := [.inl (0 : Int32)]) (M' := q24.2) rfl ?_
            obtain rfl := Option.some.inj h
            exact wg_re rfl (by decide) hk
        · dsimp only at he ⊢
          rw [if_neg (fun z => absurd (he.symm.trans z) (by decide))] at h
          rw [if_neg (fun z => absurd (he.symm.trans z) (by decide))] at h
          rw [if_neg (fun z => absurd (he.symm.trans z) (by decide))] at h
          rw [if_pos he] at h
          refine wg_blk 5 (i' := 158) (L' := [some (.inr (.inl (38, 0))), some (.inr (.inl (0, 0))), some (.inr (.inl (21, 0))), some (.inl x3)]) (st' := [.inl (x3 + (1 : Int32)), .inr (.inl (38, 0)), .inr (.inl (0, 0))]) (M' := M) rfl ?_
          obtain ⟨hp25, h⟩ := wif h
          refine wg_ck (st' := [.inl (xs ((x3 + (1 : Int32))).toNatClampNeg), .inr (.inl (0, 0))]) (M' := M) rfl (wib_in hp25) ?_
          obtain ⟨q27, h26, h⟩ := wbs h
          refine wg_ca (d' := 2) (y := 3) (as := [.inr (.inl (0, 0)), .inl (xs ((x3 + (1 : Int32))).toNatClampNeg)]) (rest := []) (r := some q27.1) (M' := q27.2) rfl (Nat.le_of_ble_eq_true rfl) (s_C_drop (xs ((x3 + (1 : Int32))).toNatClampNeg) M _ h26) ?_
          refine wg_blk 5 (i' := 165) (L' := [some (.inr (.inl (38, 0))), some (.inr (.inl (0, 0))), some (.inr (.inl (21, 0))), some (.inl x3)]) (st' := [.inl (x3 + (1 : Int32)), .inr (.inl (38, 0)), .inr (.inl (21, 0)), .inl q27.1]) (M' := q27.2) rfl ?_
          refine wg_ck (st' := [.inl (xs ((x3 + (1 : Int32))).toNatClampNeg), .inr (.inl (21, 0)), .inl q27.1]) (M' := q27.2) rfl (wib_in hp25) ?_
          obtain ⟨q29, h28, h⟩ := wbs h
          refine wg_ca (d' := 3) (y := 96) (as := [.inr (.inl (21, 0)), .inl (xs ((x3 + (1 : Int32))).toNatClampNeg)]) (rest := [.inl q27.1]) (r := some q29.1) (M' := q29.2) rfl (Nat.le_of_ble_eq_true rfl) (s_M_drop (xs ((x3 + (1 : Int32))).toNatClampNeg) q27.2 _ h28) ?_
          refine wg_br (c := q27.1 = q29.1) (t := 796) (f := 168) (st' := []) rfl (fun hc => ?_) (fun hc => ?_)
          · rw [if_pos hc] at h
            refine wg_blk 2 (i' := 10) (L' := [some (.inr (.inl (38, 0))), some (.inr (.inl (0, 0))), some (.inr (.inl (21, 0))), some (.inl (x3 + (6 : Int32)))]) (st' := []) (M' := q29.2) rfl ?_
            exact wg_wk (wk_s (wk_s (wk_s (wk_s wk_e)))) rfl (ih (x3 + (6 : Int32)) q29.2 _ h hk)
          · rw [if_neg hc] at h
            refine wg_blk 1 (i' := 169) (L' := [some (.inr (.inl (38, 0))), some (.inr (.inl (0, 0))), some (.inr (.inl (21, 0))), some (.inl x3)]) (st' := [.inl (0 : Int32)]) (M' := q29.2) rfl ?_
            obtain rfl := Option.some.inj h
            exact wg_re rfl (by decide) hk
        · dsimp only at he ⊢
          rw [if_neg (fun z => absurd (he.symm.trans z) (by decide))] at h
          rw [if_neg (fun z => absurd (he.symm.trans z) (by decide))] at h
          rw [if_neg (fun z => absurd (he.symm.trans z) (by decide))] at h
          rw [if_neg (fun z => absurd (he.symm.trans z) (by decide))] at h
          rw [if_pos he] at h
          refine wg_blk 5 (i' := 175) (L' := [some (.inr (.inl (38, 0))), some (.inr (.inl (0, 0))), some (.inr (.inl (21, 0))), some (.inl x3)]) (st' := [.inl (x3 + (1 : Int32)), .inr (.inl (38, 0)), .inr (.inl (0, 0))]) (M' := M) rfl ?_
          obtain ⟨hp30, h⟩ := wif h
          refine wg_ck (st' := [.inl (xs ((x3 + (1 : Int32))).toNatClampNeg), .inr (.inl (0, 0))]) (M' := M) rfl (wib_in hp30) ?_
          obtain ⟨q32, h31, h⟩ := wbs h
          refine wg_ca (d' := 2) (y := 4) (as := [.inr (.inl (0, 0)), .inl (xs ((x3 + (1 : Int32))).toNatClampNeg)]) (rest := []) (r := some q32.1) (M' := q32.2) rfl (Nat.le_of_ble_eq_true rfl) (s_C_feed (xs ((x3 + (1 : Int32))).toNatClampNeg) M _ h31) ?_
          refine wg_blk 5 (i' := 182) (L' := [some (.inr (.inl (38, 0))), some (.inr (.inl (0, 0))), some (.inr (.inl (21, 0))), some (.inl x3)]) (st' := [.inl (x3 + (1 : Int32)), .inr (.inl (38, 0)), .inr (.inl (21, 0)), .inl q32.1]) (M' := q32.2) rfl ?_
          refine wg_ck (st' := [.inl (xs ((x3 + (1 : Int32))).toNatClampNeg), .inr (.inl (21, 0)), .inl q32.1]) (M' := q32.2) rfl (wib_in hp30) ?_
          obtain ⟨q34, h33, h⟩ := wbs h
          refine wg_ca (d' := 2) (y := 97) (as := [.inr (.inl (21, 0)), .inl (xs ((x3 + (1 : Int32))).toNatClampNeg)]) (rest := [.inl q32.1]) (r := some q34.1) (M' := q34.2) rfl (Nat.le_of_ble_eq_true rfl) (s_M_feed (xs ((x3 + (1 : Int32))).toNatClampNeg) q32.2 _ h33) ?_
          refine wg_br (c := q32.1 = q34.1) (t := 796) (f := 185) (st' := []) rfl (fun hc => ?_) (fun hc => ?_)
          · rw [if_pos hc] at h
            refine wg_blk 2 (i' := 10) (L' := [some (.inr (.inl (38, 0))), some (.inr (.inl (0, 0))), some (.inr (.inl (21, 0))), some (.inl (x3 + (6 : Int32)))]) (st' := []) (M' := q34.2) rfl ?_
            exact wg_wk (wk_s (wk_s (wk_s (wk_s wk_e)))) rfl (ih (x3 + (6 : Int32)) q34.2 _ h hk)
          · rw [if_neg hc] at h
            refine wg_blk 1 (i' := 186) (L' := [some (.inr (.inl (38, 0))), some (.inr (.inl (0, 0))), some (.inr (.inl (21, 0))), some (.inl x3)]) (st' := [.inl (0 : Int32)]) (M' := q34.2) rfl ?_
            obtain rfl := Option.some.inj h
            exact wg_re rfl (by decide) hk
        · dsimp only at he ⊢
          rw [if_neg (fun z => absurd (he.symm.trans z) (by decide))] at h
          rw [if_neg (fun z => absurd (he.symm.trans z) (by decide))] at h
          rw [if_neg (fun z => absurd (he.symm.trans z) (by decide))] at h
          rw [if_neg (fun z => absurd (he.symm.trans z) (by decide))] at h
          rw [if_neg (fun z => absurd (he.symm.trans z) (by decide))] at h
          rw [if_pos he] at h
          refine wg_blk 1 (i' := 188) (L' := [some (.inr (.inl (38, 0))), some (.inr (.inl (0, 0))), some (.inr (.inl (21, 0))), some (.inl x3)]) (st' := [.inr (.inl (0, 0))]) (M' := M) rfl ?_
          obtain ⟨q36, h35, h⟩ := wbs h
          refine wg_ca (d' := 6) (y := 5) (as := [.inr (.inl (0, 0))]) (rest := []) (r := some q36.1) (M' := q36.2) rfl (Nat.le_of_ble_eq_true rfl) (s_C_pass M _ h35) ?_
          refine wg_blk 1 (i' := 190) (L' := [some (.inr (.inl (38, 0))), some (.inr (.inl (0, 0))), some (.inr (.inl (21, 0))), some (.inl x3)]) (st' := [.inr (.inl (21, 0)), .inl q36.1]) (M' := q36.2) rfl ?_
          obtain ⟨q38, h37, h⟩ := wbs h
          refine wg_ca (d' := 7) (y := 106) (as := [.inr (.inl (21, 0))]) (rest := [.inl q36.1]) (r := some q38.1) (M' := q38.2) rfl (Nat.le_of_ble_eq_true rfl) (s_M_pass q36.2 _ h37) ?_
          refine wg_br (c := q36.1 = q38.1) (t := 796) (f := 192) (st' := []) rfl (fun hc => ?_) (fun hc => ?_)
          · rw [if_pos hc] at h
            refine wg_blk 2 (i' := 10) (L' := [some (.inr (.inl (38, 0))), some (.inr (.inl (0, 0))), some (.inr (.inl (21, 0))), some (.inl (x3 + (6 : Int32)))]) (st' := []) (M' := q38.2) rfl ?_
            exact wg_wk (wk_s (wk_s (wk_s (wk_s wk_e)))) rfl (ih (x3 + (6 : Int32)) q38.2 _ h hk)
          · rw [if_neg hc] at h
            refine wg_blk 1 (i' := 193) (L' := [some (.inr (.inl (38, 0))), some (.inr (.inl (0, 0))), some (.inr (.inl (21, 0))), some (.inl x3)]) (st' := [.inl (0 : Int32)]) (M' := q38.2) rfl ?_
            obtain rfl := Option.some.inj h
            exact wg_re rfl (by decide) hk
        · dsimp only at he ⊢
          rw [if_neg (fun z => absurd (he.symm.trans z) (by decide))] at h
          rw [if_neg (fun z => absurd (he.symm.trans z) (by decide))] at h
          rw [if_neg (fun z => absurd (he.symm.trans z) (by decide))] at h
          rw [if_neg (fun z => absurd (he.symm.trans z) (by decide))] at h
          rw [if_neg (fun z => absurd (he.symm.trans z) (by decide))] at h
          rw [if_neg (fun z => absurd (he.symm.trans z) (by decide))] at h
          rw [if_pos he] at h
          refine wg_blk 1 (i' := 195) (L' := [some (.inr (.inl (38, 0))), some (.inr (.inl (0, 0))), some (.inr (.inl (21, 0))), some (.inl x3)]) (st' := [.inr (.inl (0, 0))]) (M' := M) rfl ?_
          refine wg_ca (d' := 1) (y := 6) (as := [.inr (.inl (0, 0))]) (rest := []) (r := some (f_C_fault M)) (M' := M) rfl (Nat.le_of_ble_eq_true rfl) (s_C_fault M _ rfl) ?_
          refine wg_blk 1 (i' := 197) (L' := [some (.inr (.inl (38, 0))), some (.inr (.inl (0, 0))), some (.inr (.inl (21, 0))), some (.inl x3)]) (st' := [.inr (.inl (21, 0)), .inl (f_C_fault M)]) (M' := M) rfl ?_
          refine wg_ca (d' := 1) (y := 107) (as := [.inr (.inl (21, 0))]) (rest := [.inl (f_C_fault M)]) (r := some (f_M_fault M)) (M' := M) rfl (Nat.le_of_ble_eq_true rfl) (s_M_fault M _ rfl) ?_
          refine wg_br (c := (f_C_fault M) = (f_M_fault M)) (t := 796) (f := 199) (st' := []) rfl (fun hc => ?_) (fun hc => ?_)
          · rw [if_pos hc] at h
            refine wg_blk 2 (i' := 10) (L' := [some (.inr (.inl (38, 0))), some (.inr (.inl (0, 0))), some (.inr (.inl (21, 0))), some (.inl (x3 + (6 : Int32)))]) (st' := []) (M' := M) rfl ?_
            exact wg_wk (wk_s (wk_s (wk_s (wk_s wk_e)))) rfl (ih (x3 + (6 : Int32)) M _ h hk)
          · rw [if_neg hc] at h
            refine wg_blk 1 (i' := 200) (L' := [some (.inr (.inl (38, 0))), some (.inr (.inl (0, 0))), some (.inr (.inl (21, 0))), some (.inl x3)]) (st' := [.inl (0 : Int32)]) (M' := M) rfl ?_
            obtain rfl := Option.some.inj h
            exact wg_re rfl (by decide) hk
        · dsimp only at he ⊢
          rw [if_neg (fun z => absurd (he.symm.trans z) (by decide))] at h
          rw [if_neg (fun z => absurd (he.symm.trans z) (by decide))] at h
          rw [if_neg (fun z => absurd (he.symm.trans z) (by decide))] at h
          rw [if_neg (fun z => absurd (he.symm.trans z) (by decide))] at h
          rw [if_neg (fun z => absurd (he.symm.trans z) (by decide))] at h
          rw [if_neg (fun z => absurd (he.symm.trans z) (by decide))] at h
          rw [if_neg (fun z => absurd (he.symm.trans z) (by decide))] at h
          rw [if_pos he] at h
          refine wg_blk 5 (i' := 206) (L' := [some (.inr (.inl (38, 0))), some (.inr (.inl (0, 0))), some (.inr (.inl (21, 0))), some (.inl x3)]) (st' := [.inl (x3 + (1 : Int32)), .inr (.inl (38, 0)), .inr (.inl (0, 0))]) (M' := M) rfl ?_
          obtain ⟨hp39, h⟩ := wif h
          refine wg_ck (st' := [.inl (xs ((x3 + (1 : Int32))).toNatClampNeg), .inr (.inl (0, 0))]) (M' := M) rfl (wib_in hp39) ?_
          refine wg_blk 4 (i' := 211) (L' := [some (.inr (.inl (38, 0))), some (.inr (.inl (0, 0))), some (.inr (.inl (21, 0))), some (.inl x3)]) (st' := [.inl (x3 + (2 : Int32)), .inr (.inl (38, 0)), .inl (xs ((x3 + (1 : Int32))).toNatClampNeg), .inr (.inl (0, 0))]) (M' := M) rfl ?_
          obtain ⟨hp40, h⟩ := wif h
          refine wg_ck (st' := [.inl (xs ((x3 + (2 : Int32))).toNatClampNeg), .inl (xs ((x3 + (1 : Int32))).toNatClampNeg), .inr (.inl (0, 0))]) (M' := M) rfl (wib_in hp40) ?_
          refine wg_blk 4 (i' := 216) (L' := [some (.inr (.inl (38, 0))), some (.inr (.inl (0, 0))), some (.inr (.inl (21, 0))), some (.inl x3)]) (st' := [.inl (x3 + (3 : Int32)), .inr (.inl (38, 0)), .inl (xs ((x3 + (2 : Int32))).toNatClampNeg), .inl (xs ((x3 + (1 : Int32))).toNatClampNeg), .inr (.inl (0, 0))]) (M' := M) rfl ?_
          obtain ⟨hp41, h⟩ := wif h
          refine wg_ck (st' := [.inl (xs ((x3 + (3 : Int32))).toNatClampNeg), .inl (xs ((x3 + (2 : Int32))).toNatClampNeg), .inl (xs ((x3 + (1 : Int32))).toNatClampNeg), .inr (.inl (0, 0))]) (M' := M) rfl (wib_in hp41) ?_
          obtain ⟨q43, h42, h⟩ := wbs h
          refine wg_ca (d' := 3) (y := 7) (as := [.inr (.inl (0, 0)), .inl (xs ((x3 + (1 : Int32))).toNatClampNeg), .inl (xs ((x3 + (2 : Int32))).toNatClampNeg), .inl (xs ((x3 + (3 : Int32))).toNatClampNeg)]) (rest := []) (r := some q43.1) (M' := q43.2) rfl (Nat.le_of_ble_eq_true rfl) (s_C_setUp (xs ((x3 + (1 : Int32))).toNatClampNeg) (xs ((x3 + (2 : Int32))).toNatClampNeg) (xs ((x3 + (3 : Int32))).toNatClampNeg) M _ h42) ?_
          refine wg_blk 5 (i' := 223) (L' := [some (.inr (.inl (38, 0))), some (.inr (.inl (0, 0))), some (.inr (.inl (21, 0))), some (.inl x3)]) (st' := [.inl (x3 + (1 : Int32)), .inr (.inl (38, 0)), .inr (.inl (21, 0)), .inl q43.1]) (M' := q43.2) rfl ?_
          refine wg_ck (st' := [.inl (xs ((x3 + (1 : Int32))).toNatClampNeg), .inr (.inl (21, 0)), .inl q43.1]) (M' := q43.2) rfl (wib_in hp39) ?_
          refine wg_blk 4 (i' := 228) (L' := [some (.inr (.inl (38, 0))), some (.inr (.inl (0, 0))), some (.inr (.inl (21, 0))), some (.inl x3)]) (st' := [.inl (x3 + (2 : Int32)), .inr (.inl (38, 0)), .inl (xs ((x3 + (1 : Int32))).toNatClampNeg), .inr (.inl (21, 0)), .inl q43.1]) (M' := q43.2) rfl ?_
          refine wg_ck (st' := [.inl (xs ((x3 + (2 : Int32))).toNatClampNeg), .inl (xs ((x3 + (1 : Int32))).toNatClampNeg), .inr (.inl (21, 0)), .inl q43.1]) (M' := q43.2) rfl (wib_in hp40) ?_
          refine wg_blk 4 (i' := 233) (L' := [some (.inr (.inl (38, 0))), some (.inr (.inl (0, 0))), some (.inr (.inl (21, 0))), some (.inl x3)]) (st' := [.inl (x3 + (3 : Int32)), .inr (.inl (38, 0)), .inl (xs ((x3 + (2 : Int32))).toNatClampNeg), .inl (xs ((x3 + (1 : Int32))).toNatClampNeg), .inr (.inl (21, 0)), .inl q43.1]) (M' := q43.2) rfl ?_
          refine wg_ck (st' := [.inl (xs ((x3 + (3 : Int32))).toNatClampNeg), .inl (xs ((x3 + (2 : Int32))).toNatClampNeg), .inl (xs ((x3 + (1 : Int32))).toNatClampNeg), .inr (.inl (21, 0)), .inl q43.1]) (M' := q43.2) rfl (wib_in hp41) ?_
          obtain ⟨q45, h44, h⟩ := wbs h
          refine wg_ca (d' := 3) (y := 118) (as := [.inr (.inl (21, 0)), .inl (xs ((x3 + (1 : Int32))).toNatClampNeg), .inl (xs ((x3 + (2 : Int32))).toNatClampNeg), .inl (xs ((x3 + (3 : Int32))).toNatClampNeg)]) (rest := [.inl q43.1]) (r := some q45.1) (M' := q45.2) rfl (Nat.le_of_ble_eq_true rfl) (s_M_setUp (xs ((x3 + (1 : Int32))).toNatClampNeg) (xs ((x3 + (2 : Int32))).toNatClampNeg) (xs ((x3 + (3 : Int32))).toNatClampNeg) q43.2 _ h44) ?_
          refine wg_br (c := q43.1 = q45.1) (t := 796) (f := 236) (st' := []) rfl (fun hc => ?_) (fun hc => ?_)
          · rw [if_pos hc] at h
            refine wg_blk 2 (i' := 10) (L' := [some (.inr (.inl (38, 0))), some (.inr (.inl (0, 0))), some (.inr (.inl (21, 0))), some (.inl (x3 + (6 : Int32)))]) (st' := []) (M' := q45.2) rfl ?_
            exact wg_wk (wk_s (wk_s (wk_s (wk_s wk_e)))) rfl (ih (x3 + (6 : Int32)) q45.2 _ h hk)
          · rw [if_neg hc] at h
            refine wg_blk 1 (i' := 237) (L' := [some (.inr (.inl (38, 0))), some (.inr (.inl (0, 0))), some (.inr (.inl (21, 0))), some (.inl x3)]) (st' := [.inl (0 : Int32)]) (M' := q45.2) rfl ?_
            obtain rfl := Option.some.inj h
            exact wg_re rfl (by decide) hk
        · dsimp only at he ⊢
          rw [if_neg (fun z => absurd (he.symm.trans z) (by decide))] at h
          rw [if_neg (fun z => absurd (he.symm.trans z) (by decide))] at h
          rw [if_neg (fun z => absurd (he.symm.trans z) (by decide))] at h
          rw [if_neg (fun z => absurd (he.symm.trans z) (by decide))] at h
          rw [if_neg (fun z => absurd (he.symm.trans z) (by decide))] at h
          rw [if_neg (fun z => absurd (he.symm.trans z) (by decide))] at h
          rw [if_neg (fun z => absurd (he.symm.trans z) (by decide))] at h
          rw [if_neg (fun z => absurd (he.symm.trans z) (by decide))] at h
          rw [if_pos he] at h
          refine wg_blk 5 (i' := 243) (L' := [some (.inr (.inl (38, 0))), some (.inr (.inl (0, 0))), some (.inr (.inl (21, 0))), some (.inl x3)]) (st' := [.inl (x3 + (1 : Int32)), .inr (.inl (38, 0)), .inr (.inl (0, 0))]) (M' := M) rfl ?_
          obtain ⟨hp46, h⟩ := wif h
          refine wg_ck (st' := [.inl (xs ((x3 + (1 : Int32))).toNatClampNeg), .inr (.inl (0, 0))]) (M' := M) rfl (wib_in hp46) ?_
          obtain ⟨q48, h47, h⟩ := wbs h
          refine wg_ca (d' := 3) (y := 8) (as := [.inr (.inl (0, 0)), .inl (xs ((x3 + (1 : Int32))).toNatClampNeg)]) (rest := []) (r := some q48.1) (M' := q48.2) rfl (Nat.le_of_ble_eq_true rfl) (s_C_take (xs ((x3 + (1 : Int32))).toNatClampNeg) M _ h47) ?_
          refine wg_blk 5 (i' := 250) (L' := [some (.inr (.inl (38, 0))), some (.inr (.inl (0, 0))), some (.inr (.inl (21, 0))), some (.inl x3)]) (st' := [.inl (x3 + (1 : Int32)), .inr (.inl (38, 0)), .inr (.inl (21, 0)), .inl q48.1]) (M' := q48.2) rfl ?_
          refine wg_ck (st' := [.inl (xs ((x3 + (1 : Int32))).toNatClampNeg), .inr (.inl (21, 0)), .inl q48.1]) (M' := q48.2) rfl (wib_in hp46) ?_
          obtain ⟨q50, h49, h⟩ := wbs h
          refine wg_ca (d' := 3) (y := 119) (as := [.inr (.inl (21, 0)), .inl (xs ((x3 + (1 : Int32))).toNatClampNeg)]) (rest := [.inl q48.1]) (r := some q50.1) (M' := q50.2) rfl (Nat.le_of_ble_eq_true rfl) (s_M_take (xs ((x3 + (1 : Int32))).toNatClampNeg) q48.2 _ h49) ?_
          refine wg_br (c := q48.1 = q50.1) (t := 796) (f := 253) (st' := []) rfl (fun hc => ?_) (fun hc => ?_)
          · rw [if_pos hc] at h
            refine wg_blk 2 (i' := 10) (L' := [some (.inr (.inl (38, 0))), some (.inr (.inl (0, 0))), some (.inr (.inl (21, 0))), some (.inl (x3 + (6 : Int32)))]) (st' := []) (M' := q50.2) rfl ?_
            exact wg_wk (wk_s (wk_s (wk_s (wk_s wk_e)))) rfl (ih (x3 + (6 : Int32)) q50.2 _ h hk)
          · rw [if_neg hc] at h
            refine wg_blk 1 (i' := 254) (L' := [some (.inr (.inl (38, 0))), some (.inr (.inl (0, 0))), some (.inr (.inl (21, 0))), some (.inl x3)]) (st' := [.inl (0 : Int32)]) (M' := q50.2) rfl ?_
            obtain rfl := Option.some.inj h
            exact wg_re rfl (by decide) hk
        · dsimp only at he ⊢
          rw [if_neg (fun z => absurd (he.symm.trans z) (by decide))] at h
          rw [if_neg (fun z => absurd (he.symm.trans z) (by decide))] at h
          rw [if_neg (fun z => absurd (he.symm.trans z) (by decide))] at h
          rw [if_neg (fun z => absurd (he.symm.trans z) (by decide))] at h
          rw [if_neg (fun z => absurd (he.symm.trans z) (by decide))] at h
          rw [if_neg (fun z => absurd (he.symm.trans z) (by decide))] at h
          rw [if_neg (fun z => absurd (he.symm.trans z) (by decide))] at h
          rw [if_neg (fun z => absurd (he.symm.trans z) (by decide))] at h
          rw [if_neg (fun z => absurd (he.symm.trans z) (by decide))] at h
          rw [if_pos he] at h
          refine wg_blk 5 (i' := 260) (L' := [some (.inr (.inl (38, 0))), some (.inr (.inl (0, 0))), some (.inr (.inl (21, 0))), some (.inl x3)]) (st' := [.inl (x3 + (1 : Int32)), .inr (.inl (38, 0)), .inr (.inl (0, 0))]) (M' := M) rfl ?_
          obtain ⟨hp51, h⟩ := wif h
          refine wg_ck (st' := [.inl (xs ((x3 + (1 : Int32))).toNatClampNeg), .inr (.inl (0, 0))]) (M' := M) rfl (wib_in hp51) ?_
          obtain ⟨q53, h52, h⟩ := wbs h
          refine wg_ca (d' := 3) (y := 9) (as := [.inr (.inl (0, 0)), .inl (xs ((x3 + (1 : Int32))).toNatClampNeg)]) (rest := []) (r := some q53.1) (M' := q53.2) rfl (Nat.le_of_ble_eq_true rfl) (s_C_turn (xs ((x3 + (1 : Int32))).toNatClampNeg) M _ h52) ?_
          refine wg_blk 5 (i' := 267) (L' := [some (.inr (.inl (38, 0))), some (.inr (.inl (0, 0))), some (.inr (.inl (21, 0))), some (.inl x3)]) (st' := [.inl (x3 + (1 : Int32)), .inr (.inl (38, 0)), .inr (.inl (21, 0)), .inl q53.1]) (M' := q53.2) rfl ?_
          refine wg_ck (st' := [.inl (xs ((x3 + (1 : Int32))).toNatClampNeg), .inr (.inl (21, 0)), .inl q53.1]) (M' := q53.2) rfl (wib_in hp51) ?_
          obtain ⟨q55, h54, h⟩ := wbs h
          refine wg_ca (d' := 3) (y := 120) (as := [.inr (.inl (21, 0)), .inl (xs ((x3 + (1 : Int32))).toNatClampNeg)]) (rest := [.inl q53.1]) (r := some q55.1) (M' := q55.2) rfl (Nat.le_of_ble_eq_true rfl) (s_M_turn (xs ((x3 + (1 : Int32))).toNatClampNeg) q53.2 _ h54) ?_
          refine wg_br (c := q53.1 = q55.1) (t := 796) (f := 270) (st' := []) rfl (fun hc => ?_) (fun hc => ?_)
          · rw [if_pos hc] at h
            refine wg_blk 2 (i' := 10) (L' := [some (.inr (.inl (38, 0))), some (.inr (.inl (0, 0))), some (.inr (.inl (21, 0))), some (.inl (x3 + (6 : Int32)))]) (st' := []) (M' := q55.2) rfl ?_
            exact wg_wk (wk_s (wk_s (wk_s (wk_s wk_e)))) rfl (ih (x3 + (6 : Int32)) q55.2 _ h hk)
          · rw [if_neg hc] at h
            refine wg_blk 1 (i' := 271) (L' := [some (.inr (.inl (38, 0))), some (.inr (.inl (0, 0))), some (.inr (.inl (21, 0))), some (.inl x3)]) (st' := [.inl (0 : Int32)]) (M' := q55.2) rfl ?_
            obtain rfl := Option.some.inj h
            exact wg_re rfl (by decide) hk
        · dsimp only at he ⊢
          rw [if_neg (fun z => absurd (he.symm.trans z) (by decide))] at h
          rw [if_neg (fun z => absurd (he.symm.trans z) (by decide))] at h
          rw [if_neg (fun z => absurd (he.symm.trans z) (by decide))] at h
          rw [if_neg (fun z => absurd (he.symm.trans z) (by decide))] at h
          rw [if_neg (fun z => absurd (he.symm.trans z) (by decide))] at h
          rw [if_neg (fun z => absurd (he.symm.trans z) (by decide))] at h
          rw [if_neg (fun z => absurd (he.symm.trans z) (by decide))] at h
          rw [if_neg (fun z => absurd (he.symm.trans z) (by decide))] at h
          rw [if_neg (fun z => absurd (he.symm.trans z) (by decide))] at h
          rw [if_neg (fun z => absurd (he.symm.trans z) (by decide))] at h
          rw [if_pos he] at h
          refine wg_blk 5 (i' := 277) (L' := [some (.inr (.inl (38, 0))), some (.inr (.inl (0, 0))), some (.inr (.inl (21, 0))), some (.inl x3)]) (st' := [.inl (x3 + (1 : Int32)), .inr (.inl (38, 0)), .inr (.inl (0, 0))]) (M' := M) rfl ?_
          obtain ⟨hp56, h⟩ := wif h
          refine wg_ck (st' := [.inl (xs ((x3 + (1 : Int32))).toNatClampNeg), .inr (.inl (0, 0))]) (M' := M) rfl (wib_in hp56) ?_
          refine wg_blk 4 (i' := 282) (L' := [some (.inr (.inl (38, 0))), some (.inr (.inl (0, 0))), some (.inr (.inl (21, 0))), some (.inl x3)]) (st' := [.inl (x3 + (2 : Int32)), .inr (.inl (38, 0)), .inl (xs ((x3 + (1 : Int32))).toNatClampNeg), .inr (.inl (0, 0))]) (M' := M) rfl ?_
          obtain ⟨hp57, h⟩ := wif h
          refine wg_ck (st' := [.inl (xs ((x3 + (2 : Int32))).toNatClampNeg), .inl (xs ((x3 + (1 : Int32))).toNatClampNeg), .inr (.inl (0, 0))]) (M' := M) rfl (wib_in hp57) ?_
          obtain ⟨q59, h58, h⟩ := wbs h
          refine wg_ca (d' := 3) (y := 10) (as := [.inr (.inl (0, 0)), .inl (xs ((x3 + (1 : Int32))).toNatClampNeg), .inl (xs ((x3 + (2 : Int32))).toNatClampNeg)]) (rest := []) (r := some q59.1) (M' := q59.2) rfl (Nat.le_of_ble_eq_true rfl) (s_C_gust (xs ((x3 + (1 : Int32))).toNatClampNeg) (xs ((x3 + (2 : Int32))).toNatClampNeg) M _ h58) ?_
          refine wg_blk 5 (i' := 289) (L' := [some (.inr (.inl (38, 0))), some (.inr (.inl (0, 0))), some (.inr (.inl (21, 0))), some (.inl x3)]) (st' := [.inl (x3 + (1 : Int32)), .inr (.inl (38, 0)), .inr (.inl (21, 0)), .inl q59.1]) (M' := q59.2) rfl ?_
          refine wg_ck (st' := [.inl (xs ((x3 + (1 : Int32))).toNatClampNeg), .inr (.inl (21, 0)), .inl q59.1]) (M' := q59.2) rfl (wib_in hp56) ?_
          refine wg_blk 4 (i' := 294) (L' := [some (.inr (.inl (38, 0))), some (.inr (.inl (0, 0))), some (.inr (.inl (21, 0))), some (.inl x3)]) (st' := [.inl (x3 + (2 : Int32)), .inr (.inl (38, 0)), .inl (xs ((x3 + (1 : Int32))).toNatClampNeg), .inr (.inl (21, 0)), .inl q59.1]) (M' := q59.2) rfl ?_
          refine wg_ck (st' := [.inl (xs ((x3 + (2 : Int32))).toNatClampNeg), .inl (xs ((x3 + (1 : Int32))).toNatClampNeg), .inr (.inl (21, 0)), .inl q59.1]) (M' := q59.2) rfl (wib_in hp57) ?_
          obtain ⟨q61, h60, h⟩ := wbs h
          refine wg_ca (d' := 3) (y := 121) (as := [.inr (.inl (21, 0)), .inl (xs ((x3 + (1 : Int32))).toNatClampNeg), .inl (xs ((x3 + (2 : Int32))).toNatClampNeg)]) (rest := [.inl q59.1]) (r := some q61.1) (M' := q61.2) rfl (Nat.le_of_ble_eq_true rfl) (s_M_gust (xs ((x3 + (1 : Int32))).toNatClampNeg) (xs ((x3 + (2 : Int32))).toNatClampNeg) q59.2 _ h60) ?_
          refine wg_br (c := q59.1 = q61.1) (t := 796) (f := 297) (st' := []) rfl (fun hc => ?_) (fun hc => ?_)
          · rw [if_pos hc] at h
            refine wg_blk 2 (i' := 10) (L' := [some (.inr (.inl (38, 0))), some (.inr (.inl (0, 0))), some (.inr (.inl (21, 0))), some (.inl (x3 + (6 : Int32)))]) (st' := []) (M' := q61.2) rfl ?_
            exact wg_wk (wk_s (wk_s (wk_s (wk_s wk_e)))) rfl (ih (x3 + (6 : Int32)) q61.2 _ h hk)
          · rw [if_neg hc] at h
            refine wg_blk 1 (i' := 298) (L' := [some (.inr (.inl (38, 0))), some (.inr (.inl (0, 0))), some (.inr (.inl (21, 0))), some (.inl x3)]) (st' := [.inl (0 : Int32)]) (M' := q61.2) rfl ?_
            obtain rfl := Option.some.inj h
            exact wg_re rfl (by decide) hk
        · dsimp only at he ⊢
          rw [if_neg (fun z => absurd (he.symm.trans z) (by decide))] at h
          rw [if_neg (fun z => absurd (he.symm.trans z) (by decide))] at h
          rw [if_neg (fun z => absurd (he.symm.trans z) (by decide))] at h
          rw [if_neg (fun z => absurd (he.symm.trans z) (by decide))] at h
          rw [if_neg (fun z => absurd (he.symm.trans z) (by decide))] at h
          rw [if_neg (fun z => absurd (he.symm.trans z) (by decide))] at h
          rw [if_neg (fun z => absurd (he.symm.trans z) (by decide))] at h
          rw [if_neg (fun z => absurd (he.symm.trans z) (by decide))] at h
          rw [if_neg (fun z => absurd (he.symm.trans z) (by decide))] at h
          rw [if_neg (fun z => absurd (he.symm.trans z) (by decide))] at h
          rw [if_neg (fun z => absurd (he.symm.trans z) (by decide))] at h
          rw [if_pos he] at h
          refine wg_blk 5 (i' := 304) (L' := [some (.inr (.inl (38, 0))), some (.inr (.inl (0, 0))), some (.inr (.inl (21, 0))), some (.inl x3)]) (st' := [.inl (x3 + (1 : Int32)), .inr (.inl (38, 0)), .inr (.inl (0, 0))]) (M' := M) rfl ?_
          obtain ⟨hp62, h⟩ := wif h
          refine wg_ck (st' := [.inl (xs ((x3 + (1 : Int32))).toNatClampNeg), .inr (.inl (0, 0))]) (M' := M) rfl (wib_in hp62) ?_
          obtain ⟨q64, h63, h⟩ := wbs h
          refine wg_ca (d' := 5) (y := 11) (as := [.inr (.inl (0, 0)), .inl (xs ((x3 + (1 : Int32))).toNatClampNeg)]) (rest := []) (r := some q64.1) (M' := q64.2) rfl (Nat.le_of_ble_eq_true rfl) (s_C_hours (xs ((x3 + (1 : Int32))).toNatClampNeg) M _ h63) ?_
          refine wg_blk 5 (i' := 311) (L' := [some (.inr (.inl (38, 0))), some (.inr (.inl (0, 0))), some (.inr (.inl (21, 0))), some (.inl x3)]) (st' := [.inl (x3 + (1 : Int32)), .inr (.inl (38, 0)), .inr (.inl (21, 0)), .inl q64.1]) (M' := q64.2) rfl ?_
          refine wg_ck (st' := [.inl (xs ((x3 + (1 : Int32))).toNatClampNeg), .inr (.inl (21, 0)), .inl q64.1]) (M' := q64.2) rfl (wib_in hp62) ?_
          obtain ⟨q66, h65, h⟩ := wbs h
          refine wg_ca (d' := 6) (y := 122) (as := [.inr (.inl (21, 0)), .inl (xs ((x3 + (1 : Int32))).toNatClampNeg)]) (rest := [.inl q64.1]) (r := some q66.1) (M' := q66.2) rfl (Nat.le_of_ble_eq_true rfl) (s_M_hours (xs ((x3 + (1 : Int32))).toNatClampNeg) q64.2 _ h65) ?_
          refine wg_br (c := q64.1 = q66.1) (t := 796) (f := 314) (st' := []) rfl (fun hc => ?_) (fun hc => ?_)
          · rw [if_pos hc] at h
            refine wg_blk 2 (i' := 10) (L' := [some (.inr (.inl (38, 0))), some (.inr (.inl (0, 0))), some (.inr (.inl (21, 0))), some (.inl (x3 + (6 : Int32)))]) (st' := []) (M' := q66.2) rfl ?_
            exact wg_wk (wk_s (wk_s (wk_s (wk_s wk_e)))) rfl (ih (x3 + (6 : Int32)) q66.2 _ h hk)
          · rw [if_neg hc] at h
            refine wg_blk 1 (i' := 315) (L' := [some (.inr (.inl (38, 0))), some (.inr (.inl (0, 0))), some (.inr (.inl (21, 0))), some (.inl x3)]) (st' := [.inl (0 : Int32)]) (M' := q66.2) rfl ?_
            obtain rfl := Option.some.inj h
            exact wg_re rfl (by decide) hk
        · dsimp only at he ⊢
          rw [if_neg (fun z => absurd (he.symm.trans z) (by decide))] at h
          rw [if_neg (fun z => absurd (he.symm.trans z) (by decide))] at h
          rw [if_neg (fun z => absurd (he.symm.trans z) (by decide))] at h
          rw [if_neg (fun z => absurd (he.symm.trans z) (by decide))] at h
          rw [if_neg (fun z => absurd (he.symm.trans z) (by decide))] at h
          rw [if_neg (fun z => absurd (he.symm.trans z) (by decide))] at h
          rw [if_neg (fun z => absurd (he.symm.trans z) (by decide))] at h
          rw [if_neg (fun z => absurd (he.symm.trans z) (by decide))] at h
          rw [if_neg (fun z => absurd (he.symm.trans z) (by decide))] at h
          rw [if_neg (fun z => absurd (he.symm.trans z) (by decide))] at h
          rw [if_neg (fun z => absurd (he.symm.trans z) (by decide))] at h
          rw [if_neg (fun z => absurd (he.symm.trans z) (by decide))] at h
          rw [if_pos he] at h
          refine wg_blk 1 (i' := 317) (L' := [some (.inr (.inl (38, 0))), some (.inr (.inl (0, 0))), some (.inr (.inl (21, 0))), some (.inl x3)]) (st' := [.inr (.inl (0, 0))]) (M' := M) rfl ?_
          obtain ⟨q68, h67, h⟩ := wbs h
          refine wg_ca (d' := 3) (y := 12) (as := [.inr (.inl (0, 0))]) (rest := []) (r := some q68.1) (M' := q68.2) rfl (Nat.le_of_ble_eq_true rfl) (s_C_undo M _ h67) ?_
          refine wg_blk 1 (i' := 319) (L' := [some (.inr (.inl (38, 0))), some (.inr (.inl (0, 0))), some (.inr (.inl (21, 0))), some (.inl x3)]) (st' := [.inr (.inl (21, 0)), .inl q68.1]) (M' := q68.2) rfl ?_
          obtain ⟨q70, h69, h⟩ := wbs h
          refine wg_ca (d' := 1) (y := 123) (as := [.inr (.inl (21, 0))]) (rest := [.inl q68.1]) (r := some q70.1) (M' := q70.2) rfl (Nat.le_of_ble_eq_true rfl) (s_M_undo q68.2 _ h69) ?_
          refine wg_br (c := q68.1 = q70.1) (t := 796) (f := 321) (st' := []) rfl (fun hc => ?_) (fun hc => ?_)
          · rw [if_pos hc] at h
            refine wg_blk 2 (i' := 10) (L' := [some (.inr (.inl (38, 0))), some (.inr (.inl (0, 0))), some (.inr (.inl (21, 0))), some (.inl (x3 + (6 : Int32)))]) (st' := []) (M' := q70.2) rfl ?_
            exact wg_wk (wk_s (wk_s (wk_s (wk_s wk_e)))) rfl (ih (x3 + (6 : Int32)) q70.2 _ h hk)
          · rw [if_neg hc] at h
            refine wg_blk 1 (i' := 322) (L' := [some (.inr (.inl (38, 0))), some (.inr (.inl (0, 0))), some (.inr (.inl (21, 0))), some (.inl x3)]) (st' := [.inl (0 : Int32)]) (M' := q70.2) rfl ?_
            obtain rfl := Option.some.inj h
            exact wg_re rfl (by decide) hk
        · dsimp only at he ⊢
          rw [if_neg (fun z => absurd (he.symm.trans z) (by decide))] at h
          rw [if_neg (fun z => absurd (he.symm.trans z) (by decide))] at h
          rw [if_neg (fun z => absurd (he.symm.trans z) (by decide))] at h
          rw [if_neg (fun z => absurd (he.symm.trans z) (by decide))] at h
          rw [if_neg (fun z => absurd (he.symm.trans z) (by decide))] at h
          rw [if_neg (fun z => absurd (he.symm.trans z) (by decide))] at h
          rw [if_neg (fun z => absurd (he.symm.trans z) (by decide))] at h
          rw [if_neg (fun z => absurd (he.symm.trans z) (by decide))] at h
          rw [if_neg (fun z => absurd (he.symm.trans z) (by decide))] at h
          rw [if_neg (fun z => absurd (he.symm.trans z) (by decide))] at h
          rw [if_neg (fun z => absurd (he.symm.trans z) (by decide))] at h
          rw [if_neg (fun z => absurd (he.symm.trans z) (by decide))] at h
          rw [if_neg (fun z => absurd (he.symm.trans z) (by decide))] at h
          rw [if_pos he] at h
          refine wg_blk 5 (i' := 328) (L' := [some (.inr (.inl (38, 0))), some (.inr (.inl (0, 0))), some (.inr (.inl (21, 0))), some (.inl x3)]) (st' := [.inl (x3 + (1 : Int32)), .inr (.inl (38, 0)), .inr (.inl (0, 0))]) (M' := M) rfl ?_
          obtain ⟨hp71, h⟩ := wif h
          refine wg_ck (st' := [.inl (xs ((x3 + (1 : Int32))).toNatClampNeg), .inr (.inl (0, 0))]) (M' := M) rfl (wib_in hp71) ?_
          refine wg_blk 4 (i' := 333) (L' := [some (.inr (.inl (38, 0))), some (.inr (.inl (0, 0))), some (.inr (.inl (21, 0))), some (.inl x3)]) (st' := [.inl (x3 + (2 : Int32)), .inr (.inl (38, 0)), .inl (xs ((x3 + (1 : Int32))).toNatClampNeg), .inr (.inl (0, 0))]) (M' := M) rfl ?_
          obtain ⟨hp72, h⟩ := wif h
          refine wg_ck (st' := [.inl (xs ((x3 + (2 : Int32))).toNatClampNeg), .inl (xs ((x3 + (1 : Int32))).toNatClampNeg), .inr (.inl (0, 0))]) (M' := M) rfl (wib_in hp72) ?_
          obtain ⟨q74, h73, h⟩ := wbs h
          refine wg_ca (d' := 5) (y := 13) (as := [.inr (.inl (0, 0)), .inl (xs ((x3 + (1 : Int32))).toNatClampNeg), .inl (xs ((x3 + (2 : Int32))).toNatClampNeg)]) (rest := []) (r := some q74.1) (M' := q74.2) rfl (Nat.le_of_ble_eq_true rfl) (s_C_cell (xs ((x3 + (1 : Int32))).toNatClampNeg) (xs ((x3 + (2 : Int32))).toNatClampNeg) M _ h73) ?_
          refine wg_blk 5 (i' := 340) (L' := [some (.inr (.inl (38, 0))), some (.inr (.inl (0, 0))), some (.inr (.inl (21, 0))), some (.inl x3)]) (st' := [.inl (x3 + (1 : Int32)), .inr (.inl (38, 0)), .inr (.inl (21, 0)), .inl q74.1]) (M' := q74.2) rfl ?_
          refine wg_ck (st' := [.inl (xs ((x3 + (1 : Int32))).toNatClampNeg), .inr (.inl (21, 0)), .inl q74.1]) (M' := q74.2) rfl (wib_in hp71) ?_
          refine wg_blk 4 (i' := 345) (L' := [some (.inr (.inl (38, 0))), some (.inr (.inl (0, 0))), some (.inr (.inl (21, 0))), some (.inl x3)]) (st' := [.inl (x3 + (2 : Int32)), .inr (.inl (38, 0)), .inl (xs ((x3 + (1 : Int32))).toNatClampNeg), .inr (.inl (21, 0)), .inl q74.1]) (M' := q74.2) rfl ?_
          refine wg_ck (st' := [.inl (xs ((x3 + (2 : Int32))).toNatClampNeg), .inl (xs ((x3 + (1 : Int32))).toNatClampNeg), .inr (.inl (21, 0)), .inl q74.1]) (M' := q74.2) rfl (wib_in hp72) ?_
          obtain ⟨q76, h75, h⟩ := wbs h
          refine wg_ca (d' := 6) (y := 124) (as := [.inr (.inl (21, 0)), .inl (xs ((x3 + (1 : Int32))).toNatClampNeg), .inl (xs ((x3 + (2 : Int32))).toNatClampNeg)]) (rest := [.inl q74.1]) (r := some q76.1) (M' := q76.2) rfl (Nat.le_of_ble_eq_true rfl) (s_M_cell (xs ((x3 + (1 : Int32))).toNatClampNeg) (xs ((x3 + (2 : Int32))).toNatClampNeg) q74.2 _ h75) ?_
          refine wg_br (c := q74.1 = q76.1) (t := 796) (f := 348) (st' := []) rfl (fun hc => ?_) (fun hc => ?_)
          · rw [if_pos hc] at h
            refine wg_blk 2 (i' := 10) (L' := [some (.inr (.inl (38, 0))), some (.inr (.inl (0, 0))), some (.inr (.inl (21, 0))), some (.inl (x3 + (6 : Int32)))]) (st' := []) (M' := q76.2) rfl ?_
            exact wg_wk (wk_s (wk_s (wk_s (wk_s wk_e)))) rfl (ih (x3 + (6 : Int32)) q76.2 _ h hk)
          · rw [if_neg hc] at h
            refine wg_blk 1 (i' := 349) (L' := [some (.inr (.inl (38, 0))), some (.inr (.inl (0, 0))), some (.inr (.inl (21, 0))), some (.inl x3)]) (st' := [.inl (0 : Int32)]) (M' := q76.2) rfl ?_
            obtain rfl := Option.some.inj h
            exact wg_re rfl (by decide) hk
        · dsimp only at he ⊢
          rw [if_neg (fun z => absurd (he.symm.trans z) (by decide))] at h
          rw [if_neg (fun z => absurd (he.symm.trans z) (by decide))] at h
          rw [if_neg (fun z => absurd (he.symm.trans z) (by decide))] at h
          rw [if_neg (fun z => absurd (he.symm.trans z) (by decide))] at h
          rw [if_neg (fun z => absurd (he.symm.trans z) (by decide))] at h
          rw [if_neg (fun z => absurd (he.symm.trans z) (by decide))] at h
          rw [if_neg (fun z => absurd (he.symm.trans z) (by decide))] at h
          rw [if_neg (fun z => absurd (he.symm.trans z) (by decide))] at h
          rw [if_neg (fun z => absurd (he.symm.trans z) (by decide))] at h
          rw [if_neg (fun z => absurd (he.symm.trans z) (by decide))] at h
          rw [if_neg (fun z => absurd (he.symm.trans z) (by decide))] at h
          rw [if_neg (fun z => absurd (he.symm.trans z) (by decide))] at h
          rw [if_neg (fun z => absurd (he.symm.trans z) (by decide))] at h
          rw [if_neg (fun z => absurd (he.symm.trans z) (by decide))] at h
          rw [if_pos he] at h
          refine wg_blk 5 (i' := 355) (L' := [some (.inr (.inl (38, 0))), some (.inr (.inl (0, 0))), some (.inr (.inl (21, 0))), some (.inl x3)]) (st' := [.inl (x3 + (1 : Int32)), .inr (.inl (38, 0)), .inr (.inl (0, 0))]) (M' := M) rfl ?_
          obtain ⟨hp77, h⟩ := wif h
          refine wg_ck (st' := [.inl (xs ((x3 + (1 : Int32))).toNatClampNeg), .inr (.inl (0, 0))]) (M' := M) rfl (wib_in hp77) ?_
          refine wg_blk 4 (i' := 360) (L' := [some (.inr (.inl (38, 0))), some (.inr (.inl (0, 0))), some (.inr (.inl (21, 0))), some (.inl x3)]) (st' := [.inl (x3 + (2 : Int32)), .inr (.inl (38, 0)), .inl (xs ((x3 + (1 : Int32))).toNatClampNeg), .inr (.inl (0, 0))]) (M' := M) rfl ?_
          obtain ⟨hp78, h⟩ := wif h
          refine wg_ck (st' := [.inl (xs ((x3 + (2 : Int32))).toNatClampNeg), .inl (xs ((x3 + (1 : Int32))).toNatClampNeg), .inr (.inl (0, 0))]) (M' := M) rfl (wib_in hp78) ?_
          obtain ⟨v80, h79, h⟩ := wbs h
          refine wg_ca (d' := 3) (y := 14) (as := [.inr (.inl (0, 0)), .inl (xs ((x3 + (1 : Int32))).toNatClampNeg), .inl (xs ((x3 + (2 : Int32))).toNatClampNeg)]) (rest := []) (r := some v80) (M' := M) rfl (Nat.le_of_ble_eq_true rfl) (s_C_wind (xs ((x3 + (1 : Int32))).toNatClampNeg) (xs ((x3 + (2 : Int32))).toNatClampNeg) M _ h79) ?_
          refine wg_blk 5 (i' := 367) (L' := [some (.inr (.inl (38, 0))), some (.inr (.inl (0, 0))), some (.inr (.inl (21, 0))), some (.inl x3)]) (st' := [.inl (x3 + (1 : Int32)), .inr (.inl (38, 0)), .inr (.inl (21, 0)), .inl v80]) (M' := M) rfl ?_
          refine wg_ck (st' := [.inl (xs ((x3 + (1 : Int32))).toNatClampNeg), .inr (.inl (21, 0)), .inl v80]) (M' := M) rfl (wib_in hp77) ?_
          refine wg_blk 4 (i' := 372) (L' := [some (.inr (.inl (38, 0))), some (.inr (.inl (0, 0))), some (.inr (.inl (21, 0))), some (.inl x3)]) (st' := [.inl (x3 + (2 : Int32)), .inr (.inl (38, 0)), .inl (xs ((x3 + (1 : Int32))).toNatClampNeg), .inr (.inl (21, 0)), .inl v80]) (M' := M) rfl ?_
          refine wg_ck (st' := [.inl (xs ((x3 + (2 : Int32))).toNatClampNeg), .inl (xs ((x3 + (1 : Int32))).toNatClampNeg), .inr (.inl (21, 0)), .inl v80]) (M' := M) rfl (wib_in hp78) ?_
          obtain ⟨v82, h81, h⟩ := wbs h
          refine wg_ca (d' := 3) (y := 125) (as := [.inr (.inl (21, 0)), .inl (xs ((x3 + (1 : Int32))).toNatClampNeg), .inl (xs ((x3 + (2 : Int32))).toNatClampNeg)]) (rest := [.inl v80]) (r := some v82) (M' := M) rfl (Nat.le_of_ble_eq_true rfl) (s_M_wind (xs ((x3 + (1 : Int32))).toNatClampNeg) (xs ((x3 + (2 : Int32))).toNatClampNeg) M _ h81) ?_
          refine wg_br (c := v80 = v82) (t := 796) (f := 375) (st' := []) rfl (fun hc => ?_) (fun hc => ?_)
          · rw [if_pos hc] at h
            refine wg_blk 2 (i' := 10) (L' := [some (.inr (.inl (38, 0))), some (.inr (.inl (0, 0))), some (.inr (.inl (21, 0))), some (.inl (x3 + (6 : Int32)))]) (st' := []) (M' := M) rfl ?_
            exact wg_wk (wk_s (wk_s (wk_s (wk_s wk_e)))) rfl (ih (x3 + (6 : Int32)) M _ h hk)
          · rw [if_neg hc] at h
            refine wg_blk 1 (i' := 376) (L' := [some (.inr (.inl (38, 0))), some (.inr (.inl (0, 0))), some (.inr (.inl (21, 0))), some (.inl x3)]) (st' := [.inl (0 : Int32)]) (M' := M) rfl ?_
            obtain rfl := Option.some.inj h
            exact wg_re rfl (by decide) hk
        · dsimp only at he ⊢
          rw [if_neg (fun z => absurd (he.symm.trans z) (by decide))] at h
          rw [if_neg (fun z => absurd (he.symm.trans z) (by decide))] at h
          rw [if_neg (fun z => absurd (he.symm.trans z) (by decide))] at h
          rw [if_neg (fun z => absurd (he.symm.trans z) (by decide))] at h
          rw [if_neg (fun z => absurd (he.symm.trans z) (by decide))] at h
          rw [if_neg (fun z => absurd (he.symm.trans z) (by decide))] at h
          rw [if_neg (fun z => absurd (he.symm.trans z) (by decide))] at h
          rw [if_neg (fun z => absurd (he.symm.trans z) (by decide))] at h
          rw [if_neg (fun z => absurd (he.symm.trans z) (by decide))] at h
          rw [if_neg (fun z => absurd (he.symm.trans z) (by decide))] at h
          rw [if_neg (fun z => absurd (he.symm.trans z) (by decide))] at h
          rw [if_neg (fun z => absurd (he.symm.trans z) (by decide))] at h
          rw [if_neg (fun z => absurd (he.symm.trans z) (by decide))] at h
          rw [if_neg (fun z => absurd (he.symm.trans z) (by decide))] at h
          rw [if_neg (fun z => absurd (he.symm.trans z) (by decide))] at h
          rw [if_pos he] at h
          refine wg_blk 5 (i' := 382) (L' := [some (.inr (.inl (38, 0))), some (.inr (.inl (0, 0))), some (.inr (.inl (21, 0))), some (.inl x3)]) (st' := [.inl (x3 + (1 : Int32)), .inr (.inl (38, 0)), .inr (.inl (0, 0))]) (M' := M) rfl ?_
          obtain ⟨hp83, h⟩ := wif h
          refine wg_ck (st' := [.inl (xs ((x3 + (1 : Int32))).toNatClampNeg), .inr (.inl (0, 0))]) (M' := M) rfl (wib_in hp83) ?_
          refine wg_blk 4 (i' := 387) (L' := [some (.inr (.inl (38, 0))), some (.inr (.inl (0, 0))), some (.inr (.inl (21, 0))), some (.inl x3)]) (st' := [.inl (x3 + (2 : Int32)), .inr (.inl (38, 0)), .inl (xs ((x3 + (1 : Int32))).toNatClampNeg), .inr (.inl (0, 0))]) (M' := M) rfl ?_
          obtain ⟨hp84, h⟩ := wif h
          refine wg_ck (st' := [.inl (xs ((x3 + (2 : Int32))).toNatClampNeg), .inl (xs ((x3 + (1 : Int32))).toNatClampNeg), .inr (.inl (0, 0))]) (M' := M) rfl (wib_in hp84) ?_
          obtain ⟨q86, h85, h⟩ := wbs h
          refine wg_ca (d' := 6) (y := 15) (as := [.inr (.inl (0, 0)), .inl (xs ((x3 + (1 : Int32))).toNatClampNeg), .inl (xs ((x3 + (2 : Int32))).toNatClampNeg)]) (rest := []) (r := some q86.1) (M' := q86.2) rfl (Nat.le_of_ble_eq_true rfl) (s_C_felt (xs ((x3 + (1 : Int32))).toNatClampNeg) (xs ((x3 + (2 : Int32))).toNatClampNeg) M _ h85) ?_
          refine wg_blk 5 (i' := 394) (L' := [some (.inr (.inl (38, 0))), some (.inr (.inl (0, 0))), some (.inr (.inl (21, 0))), some (.inl x3)]) (st' := [.inl (x3 + (1 : Int32)), .inr (.inl (38, 0)), .inr (.inl (21, 0)), .inl q86.1]) (M' := q86.2) rfl ?_
          refine wg_ck (st' := [.inl (xs ((x3 + (1 : Int32))).toNatClampNeg), .inr (.inl (21, 0)), .inl q86.1]) (M' := q86.2) rfl (wib_in hp83) ?_
          refine wg_blk 4 (i' := 399) (L' := [some (.inr (.inl (38, 0))), some (.inr (.inl (0, 0))), some (.inr (.inl (21, 0))), some (.inl x3)]) (st' := [.inl (x3 + (2 : Int32)), .inr (.inl (38, 0)), .inl (xs ((x3 + (1 : Int32))).toNatClampNeg), .inr (.inl (21, 0)), .inl q86.1]) (M' := q86.2) rfl ?_
          refine wg_ck (st' := [.inl (xs ((x3 + (2 : Int32))).toNatClampNeg), .inl (xs ((x3 + (1 : Int32))).toNatClampNeg), .inr (.inl (21, 0)), .inl q86.1]) (M' := q86.2) rfl (wib_in hp84) ?_
          obtain ⟨q88, h87, h⟩ := wbs h
          refine wg_ca (d' := 7) (y := 129) (as := [.inr (.inl (21, 0)), .inl (xs ((x3 + (1 : Int32))).toNatClampNeg), .inl (xs ((x3 + (2 : Int32))).toNatClampNeg)]) (rest := [.inl q86.1]) (r := some q88.1) (M' := q88.2) rfl (Nat.le_of_ble_eq_true rfl) (s_M_felt (xs ((x3 + (1 : Int32))).toNatClampNeg) (xs ((x3 + (2 : Int32))).toNatClampNeg) q86.2 _ h87) ?_
          refine wg_br (c := q86.1 = q88.1) (t := 796) (f := 402) (st' := []) rfl (fun hc => ?_) (fun hc => ?_)
          · rw [if_pos hc] at h
            refine wg_blk 2 (i' := 10) (L' := [some (.inr (.inl (38, 0))), some (.inr (.inl (0, 0))), some (.inr (.inl (21, 0))), some (.inl (x3 + (6 : Int32)))]) (st' := []) (M' := q88.2) rfl ?_
            exact wg_wk (wk_s (wk_s (wk_s (wk_s wk_e)))) rfl (ih (x3 + (6 : Int32)) q88.2 _ h hk)
          · rw [if_neg hc] at h
            refine wg_blk 1 (i' := 403) (L' := [some (.inr (.inl (38, 0))), some (.inr (.inl (0, 0))), some (.inr (.inl (21, 0))), some (.inl x3)]) (st' := [.inl (0 : Int32)]) (M' := q88.2) rfl ?_
            obtain rfl := Option.some.inj h
            exact wg_re rfl (by decide) hk
        · dsimp only at he ⊢
          rw [if_neg (fun z => absurd (he.symm.trans z) (by decide))] at h
          rw [if_neg (fun z => absurd (he.symm.trans z) (by decide))] at h
          rw [if_neg (fun z => absurd (he.symm.trans z) (by decide))] at h
          rw [if_neg (fun z => absurd (he.symm.trans z) (by decide))] at h
          rw [if_neg (fun z => absurd (he.symm.trans z) (by decide))] at h
          rw [if_neg (fun z => absurd (he.symm.trans z) (by decide))] at h
          rw [if_neg (fun z => absurd (he.symm.trans z) (by decide))] at h
          rw [if_neg (fun z => absurd (he.symm.trans z) (by decide))] at h
          rw [if_neg (fun z => absurd (he.symm.trans z) (by decide))] at h
          rw [if_neg (fun z => absurd (he.symm.trans z) (by decide))] at h
          rw [if_neg (fun z => absurd (he.symm.trans z) (by decide))] at h
          rw [if_neg (fun z => absurd (he.symm.trans z) (by decide))] at h
          rw [if_neg (fun z => absurd (he.symm.trans z) (by decide))] at h
          rw [if_neg (fun z => absurd (he.symm.trans z) (by decide))] at h
          rw [if_neg (fun z => absurd (he.symm.trans z) (by decide))] at h
          rw [if_neg (fun z => absurd (he.symm.trans z) (by decide))] at h
          rw [if_pos he] at h
          refine wg_blk 5 (i' := 409) (L' := [some (.inr (.inl (38, 0))), some (.inr (.inl (0, 0))), some (.inr (.inl (21, 0))), some (.inl x3)]) (st' := [.inl (x3 + (1 : Int32)), .inr (.inl (38, 0)), .inr (.inl (0, 0))]) (M' := M) rfl ?_
          obtain ⟨hp89, h⟩ := wif h
          refine wg_ck (st' := [.inl (xs ((x3 + (1 : Int32))).toNatClampNeg), .inr (.inl (0, 0))]) (M' := M) rfl (wib_in hp89) ?_
          obtain ⟨q91, h90, h⟩ := wbs h
          refine wg_ca (d' := 6) (y := 16) (as := [.inr (.inl (0, 0)), .inl (xs ((x3 + (1 : Int32))).toNatClampNeg)]) (rest := []) (r := some q91.1) (M' := q91.2) rfl (Nat.le_of_ble_eq_true rfl) (s_C_lost (xs ((x3 + (1 : Int32))).toNatClampNeg) M _ h90) ?_
          refine wg_blk 5 (i' := 416) (L' := [some (.inr (.inl (38, 0))), some (.inr (.inl (0, 0))), some (.inr (.inl (21, 0))), some (.inl x3)]) (st' := [.inl (x3 + (1 : Int32)), .inr (.inl (38, 0)), .inr (.inl (21, 0)), .inl q91.1]) (M' := q91.2) rfl ?_
          refine wg_ck (st' := [.inl (xs ((x3 + (1 : Int32))).toNatClampNeg), .inr (.inl (21, 0)), .inl q91.1]) (M' := q91.2) rfl (wib_in hp89) ?_
          obtain ⟨q93, h92, h⟩ := wbs h
          refine wg_ca (d' := 7) (y := 130) (as := [.inr (.inl (21, 0)), .inl (xs ((x3 + (1 : Int32))).toNatClampNeg)]) (rest := [.inl q91.1]) (r := some q93.1) (M' := q93.2) rfl (Nat.le_of_ble_eq_true rfl) (s_M_lost (xs ((x3 + (1 : Int32))).toNatClampNeg) q91.2 _ h92) ?_
          refine wg_br (c := q91.1 = q93.1) (t := 796) (f := 419) (st' := []) rfl (fun hc => ?_) (fun hc => ?_)
          · rw [if_pos hc] at h
            refine wg_blk 2 (i' := 10) (L' := [some (.inr (.inl (38, 0))), some (.inr (.inl (0, 0))), some (.inr (.inl (21, 0))), some (.inl (x3 + (6 : Int32)))]) (st' := []) (M' := q93.2) rfl ?_
            exact wg_wk (wk_s (wk_s (wk_s (wk_s wk_e)))) rfl (ih (x3 + (6 : Int32)) q93.2 _ h hk)
          · rw [if_neg hc] at h
            refine wg_blk 1 (i' := 420) (L' := [some (.inr (.inl (38, 0))), some (.inr (.inl (0, 0))), some (.inr (.inl (21, 0))), some (.inl x3)]) (st' := [.inl (0 : Int32)]) (M' := q93.2) rfl ?_
            obtain rfl := Option.some.inj h
            exact wg_re rfl (by decide) hk
        · dsimp only at he ⊢
          rw [if_neg (fun z => absurd (he.symm.trans z) (by decide))] at h
          rw [if_neg (fun z => absurd (he.symm.trans z) (by decide))] at h
          rw [if_neg (fun z => absurd (he.symm.trans z) (by decide))] at h
          rw [if_neg (fun z => absurd (he.symm.trans z) (by decide))] at h
          rw [if_neg (fun z => absurd (he.symm.trans z) (by decide))] at h
          rw [if_neg (fun z => absurd (he.symm.trans z) (by decide))] at h
          rw [if_neg (fun z => absurd (he.symm.trans z) (by decide))] at h
          rw [if_neg (fun z => absurd (he.symm.trans z) (by decide))] at h
          rw [if_neg (fun z => absurd (he.symm.trans z) (by decide))] at h
          rw [if_neg (fun z => absurd (he.symm.trans z) (by decide))] at h
          rw [if_neg (fun z => absurd (he.symm.trans z) (by decide))] at h
          rw [if_neg (fun z => absurd (he.symm.trans z) (by decide))] at h
          rw [if_neg (fun z => absurd (he.symm.trans z) (by decide))] at h
          rw [if_neg (fun z => absurd (he.symm.trans z) (by decide))] at h
          rw [if_neg (fun z => absurd (he.symm.trans z) (by decide))] at h
          rw [if_neg (fun z => absurd (he.symm.trans z) (by decide))] at h
          rw [if_neg (fun z => absurd (he.symm.trans z) (by decide))] at h
          rw [if_pos he] at h
          refine wg_blk 5 (i' := 426) (L' := [some (.inr (.inl (38, 0))), some (.inr (.inl (0, 0))), some (.inr (.inl (21, 0))), some (.inl x3)]) (st' := [.inl (x3 + (1 : Int32)), .inr (.inl (38, 0)), .inr (.inl (0, 0))]) (M' := M) rfl ?_
          obtain ⟨hp94, h⟩ := wif h
          refine wg_ck (st' := [.inl (xs ((x3 + (1 : Int32))).toNatClampNeg), .inr (.inl (0, 0))]) (M' := M) rfl (wib_in hp94) ?_
          refine wg_blk 4 (i' := 431) (L' := [some (.inr (.inl (38, 0))), some (.inr (.inl (0, 0))), some (.inr (.inl (21, 0))), some (.inl x3)]) (st' := [.inl (x3 + (2 : Int32)), .inr (.inl (38, 0)), .inl (xs ((x3 + (1 : Int32))).toNatClampNeg), .inr (.inl (0, 0))]) (M' := M) rfl ?_
          obtain ⟨hp95, h⟩ := wif h
          refine wg_ck (st' := [.inl (xs ((x3 + (2 : Int32))).toNatClampNeg), .inl (xs ((x3 + (1 : Int32))).toNatClampNeg), .inr (.inl (0, 0))]) (M' := M) rfl (wib_in hp95) ?_
          obtain ⟨q97, h96, h⟩ := wbs h
          refine wg_ca (d' := 6) (y := 17) (as := [.inr (.inl (0, 0)), .inl (xs ((x3 + (1 : Int32))).toNatClampNeg), .inl (xs ((x3 + (2 : Int32))).toNatClampNeg)]) (rest := []) (r := some q97.1) (M' := q97.2) rfl (Nat.le_of_ble_eq_true rfl) (s_C_leaves (xs ((x3 + (1 : Int32))).toNatClampNeg) (xs ((x3 + (2 : Int32))).toNatClampNeg) M _ h96) ?_
          refine wg_blk 5 (i' := 438) (L' := [some (.inr (.inl (38, 0))), some (.inr (.inl (0, 0))), some (.inr (.inl (21, 0))), some (.inl x3)]) (st' := [.inl (x3 + (1 : Int32)), .inr (.inl (38, 0)), .inr (.inl (21, 0)), .inl q97.1]) (M' := q97.2) rfl ?_
          refine wg_ck (st' := [.inl (xs ((x3 + (1 : Int32))).toNatClampNeg), .inr (.inl (21, 0)), .inl q97.1]) (M' := q97.2) rfl (wib_in hp94) ?_
          refine wg_blk 4 (i' := 443) (L' := [some (.inr (.inl (38, 0))), some (.inr (.inl (0, 0))), some (.inr (.inl (21, 0))), some (.inl x3)]) (st' := [.inl (x3 + (2 : Int32)), .inr (.inl (38, 0)), .inl (xs ((x3 + (1 : Int32))).toNatClampNeg), .inr (.inl (21, 0)), .inl q97.1]) (M' := q97.2) rfl ?_
          refine wg_ck (st' := [.inl (xs ((x3 + (2 : Int32))).toNatClampNeg), .inl (xs ((x3 + (1 : Int32))).toNatClampNeg), .inr (.inl (21, 0)), .inl q97.1]) (M' := q97.2) rfl (wib_in hp95) ?_
          obtain ⟨q99, h98, h⟩ := wbs h
          refine wg_ca (d' := 7) (y := 131) (as := [.inr (.inl (21, 0)), .inl (xs ((x3 + (1 : Int32))).toNatClampNeg), .inl (xs ((x3 + (2 : Int32))).toNatClampNeg)]) (rest := [.inl q97.1]) (r := some q99.1) (M' := q99.2) rfl (Nat.le_of_ble_eq_true rfl) (s_M_leaves (xs ((x3 + (1 : Int32))).toNatClampNeg) (xs ((x3 + (2 : Int32))).toNatClampNeg) q97.2 _ h98) ?_
          refine wg_br (c := q97.1 = q99.1) (t := 796) (f := 446) (st' := []) rfl (fun hc => ?_) (fun hc => ?_)
          · rw [if_pos hc] at h
            refine wg_blk 2 (i' := 10) (L' := [some (.inr (.inl (38, 0))), some (.inr (.inl (0, 0))), some (.inr (.inl (21, 0))), some (.inl (x3 + (6 : Int32)))]) (st' := []) (M' := q99.2) rfl ?_
            exact wg_wk (wk_s (wk_s (wk_s (wk_s wk_e)))) rfl (ih (x3 + (6 : Int32)) q99.2 _ h hk)
          · rw [if_neg hc] at h
            refine wg_blk 1 (i' := 447) (L' := [some (.inr (.inl (38, 0))), some (.inr (.inl (0, 0))), some (.inr (.inl (21, 0))), some (.inl x3)]) (st' := [.inl (0 : Int32)]) (M' := q99.2) rfl ?_
            obtain rfl := Option.some.inj h
            exact wg_re rfl (by decide) hk
        · dsimp only at he ⊢
          rw [if_neg (fun z => absurd (he.symm.trans z) (by decide))] at h
          rw [if_neg (fun z => absurd (he.symm.trans z) (by decide))] at h
          rw [if_neg (fun z => absurd (he.symm.trans z) (by decide))] at h
          rw [if_neg (fun z => absurd (he.symm.trans z) (by decide))] at h
          rw [if_neg (fun z => absurd (he.symm.trans z) (by decide))] at h
          rw [if_neg (fun z => absurd (he.symm.trans z) (by decide))] at h
          rw [if_neg (fun z => absurd (he.symm.trans z) (by decide))] at h
          rw [if_neg (fun z => absurd (he.symm.trans z) (by decide))] at h
          rw [if_neg (fun z => absurd (he.symm.trans z) (by decide))] at h
          rw [if_neg (fun z => absurd (he.symm.trans z) (by decide))] at h
          rw [if_neg (fun z => absurd (he.symm.trans z) (by decide))] at h
          rw [if_neg (fun z => absurd (he.symm.trans z) (by decide))] at h
          rw [if_neg (fun z => absurd (he.symm.trans z) (by decide))] at h
          rw [if_neg (fun z => absurd (he.symm.trans z) (by decide))] at h
          rw [if_neg (fun z => absurd (he.symm.trans z) (by decide))] at h
          rw [if_neg (fun z => absurd (he.symm.trans z) (by decide))] at h
          rw [if_neg (fun z => absurd (he.symm.trans z) (by decide))] at h
          rw [if_neg (fun z => absurd (he.symm.trans z) (by decide))] at h
          rw [if_pos he] at h
          refine wg_blk 5 (i' := 453) (L' := [some (.inr (.inl (38, 0))), some (.inr (.inl (0, 0))), some (.inr (.inl (21, 0))), some (.inl x3)]) (st' := [.inl (x3 + (1 : Int32)), .inr (.inl (38, 0)), .inr (.inl (0, 0))]) (M' := M) rfl ?_
          obtain ⟨hp100, h⟩ := wif h
          refine wg_ck (st' := [.inl (xs ((x3 + (1 : Int32))).toNatClampNeg), .inr (.inl (0, 0))]) (M' := M) rfl (wib_in hp100) ?_
          obtain ⟨q102, h101, h⟩ := wbs h
          refine wg_ca (d' := 5) (y := 18) (as := [.inr (.inl (0, 0)), .inl (xs ((x3 + (1 : Int32))).toNatClampNeg)]) (rest := []) (r := some q102.1) (M' := q102.2) rfl (Nat.le_of_ble_eq_true rfl) (s_C_breaks (xs ((x3 + (1 : Int32))).toNatClampNeg) M _ h101) ?_
          refine wg_blk 5 (i' := 460) (L' := [some (.inr (.inl (38, 0))), some (.inr (.inl (0, 0))), some (.inr (.inl (21, 0))), some (.inl x3)]) (st' := [.inl (x3 + (1 : Int32)), .inr (.inl (38, 0)), .inr (.inl (21, 0)), .inl q102.1]) (M' := q102.2) rfl ?_
          refine wg_ck (st' := [.inl (xs ((x3 + (1 : Int32))).toNatClampNeg), .inr (.inl (21, 0)), .inl q102.1]) (M' := q102.2) rfl (wib_in hp100) ?_
          obtain ⟨q104, h103, h⟩ := wbs h
          refine wg_ca (d' := 6) (y := 132) (as := [.inr (.inl (21, 0)), .inl (xs ((x3 + (1 : Int32))).toNatClampNeg)]) (rest := [.inl q102.1]) (r := some q104.1) (M' := q104.2) rfl (Nat.le_of_ble_eq_true rfl) (s_M_breaks (xs ((x3 + (1 : Int32))).toNatClampNeg) q102.2 _ h103) ?_
          refine wg_br (c := q102.1 = q104.1) (t := 796) (f := 463) (st' := []) rfl (fun hc => ?_) (fun hc => ?_)
          · rw [if_pos hc] at h
            refine wg_blk 2 (i' := 10) (L' := [some (.inr (.inl (38, 0))), some (.inr (.inl (0, 0))), some (.inr (.inl (21, 0))), some (.inl (x3 + (6 : Int32)))]) (st' := []) (M' := q104.2) rfl ?_
            exact wg_wk (wk_s (wk_s (wk_s (wk_s wk_e)))) rfl (ih (x3 + (6 : Int32)) q104.2 _ h hk)
          · rw [if_neg hc] at h
            refine wg_blk 1 (i' := 464) (L' := [some (.inr (.inl (38, 0))), some (.inr (.inl (0, 0))), some (.inr (.inl (21, 0))), some (.inl x3)]) (st' := [.inl (0 : Int32)]) (M' := q104.2) rfl ?_
            obtain rfl := Option.some.inj h
            exact wg_re rfl (by decide) hk
        · dsimp only at he ⊢
          rw [if_neg (fun z => absurd (he.symm.trans z) (by decide))] at h
          rw [if_neg (fun z => absurd (he.symm.trans z) (by decide))] at h
          rw [if_neg (fun z => absurd (he.symm.trans z) (by decide))] at h
          rw [if_neg (fun z => absurd (he.symm.trans z) (by decide))] at h
          rw [if_neg (fun z => absurd (he.symm.trans z) (by decide))] at h
          rw [if_neg (fun z => absurd (he.symm.trans z) (by decide))] at h
          rw [if_neg (fun z => absurd (he.symm.trans z) (by decide))] at h
          rw [if_neg (fun z => absurd (he.symm.trans z) (by decide))] at h
          rw [if_neg (fun z => absurd (he.symm.trans z) (by decide))] at h
          rw [if_neg (fun z => absurd (he.symm.trans z) (by decide))] at h
          rw [if_neg (fun z => absurd (he.symm.trans z) (by decide))] at h
          rw [if_neg (fun z => absurd (he.symm.trans z) (by decide))] at h
          rw [if_neg (fun z => absurd (he.symm.trans z) (by decide))] at h
          rw [if_neg (fun z => absurd (he.symm.trans z) (by decide))] at h
          rw [if_neg (fun z => absurd (he.symm.trans z) (by decide))] at h
          rw [if_neg (fun z => absurd (he.symm.trans z) (by decide))] at h
          rw [if_neg (fun z => absurd (he.symm.trans z) (by decide))] at h
          rw [if_neg (fun z => absurd (he.symm.trans z) (by decide))] at h
          rw [if_neg (fun z => absurd (he.symm.trans z) (by decide))] at h
          rw [if_pos he] at h
          refine wg_blk 5 (i' := 470) (L' := [some (.inr (.inl (38, 0))), some (.inr (.inl (0, 0))), some (.inr (.inl (21, 0))), some (.inl x3)]) (st' := [.inl (x3 + (1 : Int32)), .inr (.inl (38, 0)), .inr (.inl (0, 0))]) (M' := M) rfl ?_
          obtain ⟨hp105, h⟩ := wif h
          refine wg_ck (st' := [.inl (xs ((x3 + (1 : Int32))).toNatClampNeg), .inr (.inl (0, 0))]) (M' := M) rfl (wib_in hp105) ?_
          refine wg_blk 4 (i' := 475) (L' := [some (.inr (.inl (38, 0))), some (.inr (.inl (0, 0))), some (.inr (.inl (21, 0))), some (.inl x3)]) (st' := [.inl (x3 + (2 : Int32)), .inr (.inl (38, 0)), .inl (xs ((x3 + (1 : Int32))).toNatClampNeg), .inr (.inl (0, 0))]) (M' := M) rfl ?_
          obtain ⟨hp106, h⟩ := wif h
          refine wg_ck (st' := [.inl (xs ((x3 + (2 : Int32))).toNatClampNeg), .inl (xs ((x3 + (1 : Int32))).toNatClampNeg), .inr (.inl (0, 0))]) (M' := M) rfl (wib_in hp106) ?_
          obtain ⟨q108, h107, h⟩ := wbs h
          refine wg_ca (d' := 5) (y := 19) (as := [.inr (.inl (0, 0)), .inl (xs ((x3 + (1 : Int32))).toNatClampNeg), .inl (xs ((x3 + (2 : Int32))).toNatClampNeg)]) (rest := []) (r := some q108.1) (M' := q108.2) rfl (Nat.le_of_ble_eq_true rfl) (s_C_stands (xs ((x3 + (1 : Int32))).toNatClampNeg) (xs ((x3 + (2 : Int32))).toNatClampNeg) M _ h107) ?_
          refine wg_blk 5 (i' := 482) (L' := [some (.inr (.inl (38, 0))), some (.inr (.inl (0, 0))), some (.inr (.inl (21, 0))), some (.inl x3)]) (st' := [.inl (x3 + (1 : Int32)), .inr (.inl (38, 0)), .inr (.inl (21, 0)), .inl q108.1]) (M' := q108.2) rfl ?_
          refine wg_ck (st' := [.inl (xs ((x3 + (1 : Int32))).toNatClampNeg), .inr (.inl (21, 0)), .inl q108.1]) (M' := q108.2) rfl (wib_in hp105) ?_
          refine wg_blk 4 (i' := 487) (L' := [some (.inr (.inl (38, 0))), some (.inr (.inl (0, 0))), some (.inr (.inl (21, 0))), some (.inl x3)]) (st' := [.inl (x3 + (2 : Int32)), .inr (.inl (38, 0)), .inl (xs ((x3 + (1 : Int32))).toNatClampNeg), .inr (.inl (21, 0)), .inl q108.1]) (M' := q108.2) rfl ?_
          refine wg_ck (st' := [.inl (xs ((x3 + (2 : Int32))).toNatClampNeg), .inl (xs ((x3 + (1 : Int32))).toNatClampNeg), .inr (.inl (21, 0)), .inl q108.1]) (M' := q108.2) rfl (wib_in hp106) ?_
          obtain ⟨q110, h109, h⟩ := wbs h
          refine wg_ca (d' := 6) (y := 134) (as := [.inr (.inl (21, 0)), .inl (xs ((x3 + (1 : Int32))).toNatClampNeg), .inl (xs ((x3 + (2 : Int32))).toNatClampNeg)]) (rest := [.inl q108.1]) (r := some q110.1) (M' := q110.2) rfl (Nat.le_of_ble_eq_true rfl) (s_M_stands (xs ((x3 + (1 : Int32))).toNatClampNeg) (xs ((x3 + (2 : Int32))).toNatClampNeg) q108.2 _ h109) ?_
          refine wg_br (c := q108.1 = q110.1) (t := 796) (f := 490) (st' := []) rfl (fun hc => ?_) (fun hc => ?_)
          · rw [if_pos hc] at h
            refine wg_blk 2 (i' := 10) (L' := [some (.inr (.inl (38, 0))), some (.inr (.inl (0, 0))), some (.inr (.inl (21, 0))), some (.inl (x3 + (6 : Int32)))]) (st' := []) (M' := q110.2) rfl ?_
            exact wg_wk (wk_s (wk_s (wk_s (wk_s wk_e)))) rfl (ih (x3 + (6 : Int32)) q110.2 _ h hk)
          · rw [if_neg hc] at h
            refine wg_blk 1 (i' := 491) (L' := [some (.inr (.inl (38, 0))), some (.inr (.inl (0, 0))), some (.inr (.inl (21, 0))), some (.inl x3)]) (st' := [.inl (0 : Int32)]) (M' := q110.2) rfl ?_
            obtain rfl := Option.some.inj h
            exact wg_re rfl (by decide) hk
        · dsimp only at he ⊢
          rw [if_neg (fun z => absurd (he.symm.trans z) (by decide))] at h
          rw [if_neg (fun z => absurd (he.symm.trans z) (by decide))] at h
          rw [if_neg (fun z => absurd (he.symm.trans z) (by decide))] at h
          rw [if_neg (fun z => absurd (he.symm.trans z) (by decide))] at h
          rw [if_neg (fun z => absurd (he.symm.trans z) (by decide))] at h
          rw [if_neg (fun z => absurd (he.symm.trans z) (by decide))] at h
          rw [if_neg (fun z => absurd (he.symm.trans z) (by decide))] at h
          rw [if_neg (fun z => absurd (he.symm.trans z) (by decide))] at h
          rw [if_neg (fun z => absurd (he.symm.trans z) (by decide))] at h
          rw [if_neg (fun z => absurd (he.symm.trans z) (by decide))] at h
          rw [if_neg (fun z => absurd (he.symm.trans z) (by decide))] at h
          rw [if_neg (fun z => absurd (he.symm.trans z) (by decide))] at h
          rw [if_neg (fun z => absurd (he.symm.trans z) (by decide))] at h
          rw [if_neg (fun z => absurd (he.symm.trans z) (by decide))] at h
          rw [if_neg (fun z => absurd (he.symm.trans z) (by decide))] at h
          rw [if_neg (fun z => absurd (he.symm.trans z) (by decide))] at h
          rw [if_neg (fun z => absurd (he.symm.trans z) (by decide))] at h
          rw [if_neg (fun z => absurd (he.symm.trans z) (by decide))] at h
          rw [if_neg (fun z => absurd (he.symm.trans z) (by decide))] at h
          rw [if_neg (fun z => absurd (he.symm.trans z) (by decide))] at h
          rw [if_pos he] at h
          refine wg_blk 5 (i' := 497) (L' := [some (.inr (.inl (38, 0))), some (.inr (.inl (0, 0))), some (.inr (.inl (21, 0))), some (.inl x3)]) (st' := [.inl (x3 + (1 : Int32)), .inr (.inl (38, 0)), .inr (.inl (0, 0))]) (M' := M) rfl ?_
          obtain ⟨hp111, h⟩ := wif h
          refine wg_ck (st' := [.inl (xs ((x3 + (1 : Int32))).toNatClampNeg), .inr (.inl (0, 0))]) (M' := M) rfl (wib_in hp111) ?_
          refine wg_blk 4 (i' := 502) (L' := [some (.inr (.inl (38, 0))), some (.inr (.inl (0, 0))), some (.inr (.inl (21, 0))), some (.inl x3)]) (st' := [.inl (x3 + (2 : Int32)), .inr (.inl (38, 0)), .inl (xs ((x3 + (1 : Int32))).toNatClampNeg), .inr (.inl (0, 0))]) (M' := M) rfl ?_
          obtain ⟨hp112, h⟩ := wif h
          refine wg_ck (st' := [.inl (xs ((x3 + (2 : Int32))).toNatClampNeg), .inl (xs ((x3 + (1 : Int32))).toNatClampNeg), .inr (.inl (0, 0))]) (M' := M) rfl (wib_in hp112) ?_
          refine wg_blk 4 (i' := 507) (L' := [some (.inr (.inl (38, 0))), some (.inr (.inl (0, 0))), some (.inr (.inl (21, 0))), some (.inl x3)]) (st' := [.inl (x3 + (3 : Int32)), .inr (.inl (38, 0)), .inl (xs ((x3 + (2 : Int32))).toNatClampNeg), .inl (xs ((x3 + (1 : Int32))).toNatClampNeg), .inr (.inl (0, 0))]) (M' := M) rfl ?_
          obtain ⟨hp113, h⟩ := wif h
          refine wg_ck (st' := [.inl (xs ((x3 + (3 : Int32))).toNatClampNeg), .inl (xs ((x3 + (2 : Int32))).toNatClampNeg), .inl (xs ((x3 + (1 : Int32))).toNatClampNeg), .inr (.inl (0, 0))]) (M' := M) rfl (wib_in hp113) ?_
          obtain ⟨q115, h114, h⟩ := wbs h
          refine wg_ca (d' := 6) (y := 20) (as := [.inr (.inl (0, 0)), .inl (xs ((x3 + (1 : Int32))).toNatClampNeg), .inl (xs ((x3 + (2 : Int32))).toNatClampNeg), .inl (xs ((x3 + (3 : Int32))).toNatClampNeg)]) (rest := []) (r := some q115.1) (M' := q115.2) rfl (Nat.le_of_ble_eq_true rfl) (s_C_walls (xs ((x3 + (1 : Int32))).toNatClampNeg) (xs ((x3 + (2 : Int32))).toNatClampNeg) (xs ((x3 + (3 : Int32))).toNatClampNeg) M _ h114) ?_
          refine wg_blk 5 (i' := 514) (L' := [some (.inr (.inl (38, 0))), some (.inr (.inl (0, 0))), some (.inr (.inl (21, 0))), some (.inl x3)]) (st' := [.inl (x3 + (1 : Int32)), .inr (.inl (38, 0)), .inr (.inl (21, 0)), .inl q115.1]) (M' := q115.2) rfl ?_
          refine wg_ck (st' := [.inl (xs ((x3 + (1 : Int32))).toNatClampNeg), .inr (.inl (21, 0)), .inl q115.1]) (M' := q115.2) rfl (wib_in hp111) ?_
          refine wg_blk 4 (i' := 519) (L' := [some (.inr (.inl (38, 0))), some (.inr (.inl (0, 0))), some (.inr (.inl (21, 0))), some (.inl x3)]) (st' := [.inl (x3 + (2 : Int32)), .inr (.inl (38, 0)), .inl (xs ((x3 + (1 : Int32))).toNatClampNeg), .inr (.inl (21, 0)), .inl q115.1]) (M' := q115.2) rfl ?_
          refine wg_ck (st' := [.inl (xs ((x3 + (2 : Int32))).toNatClampNeg), .inl (xs ((x3 + (1 : Int32))).toNatClampNeg), .inr (.inl (21, 0)), .inl q115.1]) (M' := q115.2) rfl (wib_in hp112) ?_
          refine wg_blk 4 (i' := 524) (L' := [some (.inr (.inl (38, 0))), some (.inr (.inl (0, 0))), some (.inr (.inl (21, 0))), some (.inl x3)]) (st' := [.inl (x3 + (3 : Int32)), .inr (.inl (38, 0)), .inl (xs ((x3 + (2 : Int32))).toNatClampNeg), .inl (xs ((x3 + (1 : Int32))).toNatClampNeg), .inr (.inl (21, 0)), .inl q115.1]) (M' := q115.2) rfl ?_
          refine wg_ck (st' := [.inl (xs ((x3 + (3 : Int32))).toNatClampNeg), .inl (xs ((x3 + (2 : Int32))).toNatClampNeg), .inl (xs ((x3 + (1 : Int32))).toNatClampNeg), .inr (.inl (21, 0)), .inl q115.1]) (M' := q115.2) rfl (wib_in hp113) ?_
          obtain ⟨q117, h116, h⟩ := wbs h
          refine wg_ca (d' := 7) (y := 136) (as := [.inr (.inl (21, 0)), .inl (xs ((x3 + (1 : Int32))).toNatClampNeg), .inl (xs ((x3 + (2 : Int32))).toNatClampNeg), .inl (xs ((x3 + (3 : Int32))).toNatClampNeg)]) (rest := [.inl q115.1]) (r := some q117.1) (M' := q117.2) rfl (Nat.le_of_ble_eq_true rfl) (s_M_walls (xs ((x3 + (1 : Int32))).toNatClampNeg) (xs ((x3 + (2 : Int32))).toNatClampNeg) (xs ((x3 + (3 : Int32))).toNatClampNeg) q115.2 _ h116) ?_
          refine wg_br (c := q115.1 = q117.1) (t := 796) (f := 527) (st' := []) rfl (fun hc => ?_) (fun hc => ?_)
          · rw [if_pos hc] at h
            refine wg_blk 2 (i' := 10) (L' := [some (.inr (.inl (38, 0))), some (.inr (.inl (0, 0))), some (.inr (.inl (21, 0))), some (.inl (x3 + (6 : Int32)))]) (st' := []) (M' := q117.2) rfl ?_
            exact wg_wk (wk_s (wk_s (wk_s (wk_s wk_e)))) rfl (ih (x3 + (6 : Int32)) q117.2 _ h hk)
          · rw [if_neg hc] at h
            refine wg_blk 1 (i' := 528) (L' := [some (.inr (.inl (38, 0))), some (.inr (.inl (0, 0))), some (.inr (.inl (21, 0))), some (.inl x3)]) (st' := [.inl (0 : Int32)]) (M' := q117.2) rfl ?_
            obtain rfl := Option.some.inj h
            exact wg_re rfl (by decide) hk
        · dsimp only at he ⊢
          rw [if_neg (fun z => absurd (he.symm.trans z) (by decide))] at h
          rw [if_neg (fun z => absurd (he.symm.trans z) (by decide))] at h
          rw [if_neg (fun z => absurd (he.symm.trans z) (by decide))] at h
          rw [if_neg (fun z => absurd (he.symm.trans z) (by decide))] at h
          rw [if_neg (fun z => absurd (he.symm.trans z) (by decide))] at h
          rw [if_neg (fun z => absurd (he.symm.trans z) (by decide))] at h
          rw [if_neg (fun z => absurd (he.symm.trans z) (by decide))] at h
          rw [if_neg (fun z => absurd (he.symm.trans z) (by decide))] at h
          rw [if_neg (fun z => absurd (he.symm.trans z) (by decide))] at h
          rw [if_neg (fun z => absurd (he.symm.trans z) (by decide))] at h
          rw [if_neg (fun z => absurd (he.symm.trans z) (by decide))] at h
          rw [if_neg (fun z => absurd (he.symm.trans z) (by decide))] at h
          rw [if_neg (fun z => absurd (he.symm.trans z) (by decide))] at h
          rw [if_neg (fun z => absurd (he.symm.trans z) (by decide))] at h
          rw [if_neg (fun z => absurd (he.symm.trans z) (by decide))] at h
          rw [if_neg (fun z => absurd (he.symm.trans z) (by decide))] at h
          rw [if_neg (fun z => absurd (he.symm.trans z) (by decide))] at h
          rw [if_neg (fun z => absurd (he.symm.trans z) (by decide))] at h
          rw [if_neg (fun z => absurd (he.symm.trans z) (by decide))] at h
          rw [if_neg (fun z => absurd (he.symm.trans z) (by decide))] at h
          rw [if_neg (fun z => absurd (he.symm.trans z) (by decide))] at h
          rw [if_pos he] at h
          refine wg_blk 5 (i' := 534) (L' := [some (.inr (.inl (38, 0))), some (.inr (.inl (0, 0))), some (.inr (.inl (21, 0))), some (.inl x3)]) (st' := [.inl (x3 + (1 : Int32)), .inr (.inl (38, 0)), .inr (.inl (0, 0))]) (M' := M) rfl ?_
          obtain ⟨hp118, h⟩ := wif h
          refine wg_ck (st' := [.inl (xs ((x3 + (1 : Int32))).toNatClampNeg), .inr (.inl (0, 0))]) (M' := M) rfl (wib_in hp118) ?_
          refine wg_blk 4 (i' := 539) (L' := [some (.inr (.inl (38, 0))), some (.inr (.inl (0, 0))), some (.inr (.inl (21, 0))), some (.inl x3)]) (st' := [.inl (x3 + (2 : Int32)), .inr (.inl (38, 0)), .inl (xs ((x3 + (1 : Int32))).toNatClampNeg), .inr (.inl (0, 0))]) (M' := M) rfl ?_
          obtain ⟨hp119, h⟩ := wif h
          refine wg_ck (st' := [.inl (xs ((x3 + (2 : Int32))).toNatClampNeg), .inl (xs ((x3 + (1 : Int32))).toNatClampNeg), .inr (.inl (0, 0))]) (M' := M) rfl (wib_in hp119) ?_
          refine wg_blk 4 (i' := 544) (L' := [some (.inr (.inl (38, 0))), some (.inr (.inl (0, 0))), some (.inr (.inl (21, 0))), some (.inl x3)]) (st' := [.inl (x3 + (3 : Int32)), .inr (.inl (38, 0)), .inl (xs ((x3 + (2 : Int32))).toNatClampNeg), .inl (xs ((x3 + (1 : Int32))).toNatClampNeg), .inr (.inl (0, 0))]) (M' := M) rfl ?_
          obtain ⟨hp120, h⟩ := wif h
          refine wg_ck (st' := [.inl (xs ((x3 + (3 : Int32))).toNatClampNeg), .inl (xs ((x3 + (2 : Int32))).toNatClampNeg), .inl (xs ((x3 + (1 : Int32))).toNatClampNeg), .inr (.inl (0, 0))]) (M' := M) rfl (wib_in hp120) ?_
          refine wg_blk 4 (i' := 549) (L' := [some (.inr (.inl (38, 0))), some (.inr (.inl (0, 0))), some (.inr (.inl (21, 0))), some (.inl x3)]) (st' := [.inl (x3 + (4 : Int32)), .inr (.inl (38, 0)), .inl (xs ((x3 + (3 : Int32))).toNatClampNeg), .inl (xs ((x3 + (2 : Int32))).toNatClampNeg), .inl (xs ((x3 + (1 : Int32))).toNatClampNeg), .inr (.inl (0, 0))]) (M' := M) rfl ?_
          obtain ⟨hp121, h⟩ := wif h
          refine wg_ck (st' := [.inl (xs ((x3 + (4 : Int32))).toNatClampNeg), .inl (xs ((x3 + (3 : Int32))).toNatClampNeg), .inl (xs ((x3 + (2 : Int32))).toNatClampNeg), .inl (xs ((x3 + (1 : Int32))).toNatClampNeg), .inr (.inl (0, 0))]) (M' := M) rfl (wib_in hp121) ?_
          obtain ⟨q123, h122, h⟩ := wbs h
          refine wg_ca (d' := 4) (y := 21) (as := [.inr (.inl (0, 0)), .inl (xs ((x3 + (1 : Int32))).toNatClampNeg), .inl (xs ((x3 + (2 : Int32))).toNatClampNeg), .inl (xs ((x3 + (3 : Int32))).toNatClampNeg), .inl (xs ((x3 + (4 : Int32))).toNatClampNeg)]) (rest := []) (r := some q123.1) (M' := q123.2) rfl (Nat.le_of_ble_eq_true rfl) (s_C_hidden (xs ((x3 + (1 : Int32))).toNatClampNeg) (xs ((x3 + (2 : Int32))).toNatClampNeg) (xs ((x3 + (3 : Int32))).toNatClampNeg) (xs ((x3 + (4 : Int32))).toNatClampNeg) M _ h122) ?_
          refine wg_blk 5 (i' := 556) (L' := [some (.inr (.inl (38, 0))), some (.inr (.inl (0, 0))), some (.inr (.inl (21, 0))), some (.inl x3)]) (st' := [.inl (x3 + (1 : Int32)), .inr (.inl (38, 0)), .inr (.inl (21, 0)), .inl q123.1]) (M' := q123.2) rfl ?_
          refine wg_ck (st' := [.inl (xs ((x3 + (1 : Int32))).toNatClampNeg), .inr (.inl (21, 0)), .inl q123.1]) (M' := q123.2) rfl (wib_in hp118) ?_
          refine wg_blk 4 (i' := 561) (L' := [some (.inr (.inl (38, 0))), some (.inr (.inl (0, 0))), some (.inr (.inl (21, 0))), some (.inl x3)]) (st' := [.inl (x3 + (2 : Int32)), .inr (.inl (38, 0)), .inl (xs ((x3 + (1 : Int32))).toNatClampNeg), .inr (.inl (21, 0)), .inl q123.1]) (M' := q123.2) rfl ?_
          refine wg_ck (st' := [.inl (xs ((x3 + (2 : Int32))).toNatClampNeg), .inl (xs ((x3 + (1 : Int32))).toNatClampNeg), .inr (.inl (21, 0)), .inl q123.1]) (M' := q123.2) rfl (wib_in hp119) ?_
          refine wg_blk 4 (i' := 566) (L' := [some (.inr (.inl (38, 0))), some (.inr (.inl (0, 0))), some (.inr (.inl (21, 0))), some (.inl x3)]) (st' := [.inl (x3 + (3 : Int32)), .inr (.inl (38, 0)), .inl (xs ((x3 + (2 : Int32))).toNatClampNeg), .inl (xs ((x3 + (1 : Int32))).toNatClampNeg), .inr (.inl (21, 0)), .inl q123.1]) (M' := q123.2) rfl ?_
          refine wg_ck (st' := [.inl (xs ((x3 + (3 : Int32))).toNatClampNeg), .inl (xs ((x3 + (2 : Int32))).toNatClampNeg), .inl (xs ((x3 + (1 : Int32))).toNatClampNeg), .inr (.inl (21, 0)), .inl q123.1]) (M' := q123.2) rfl (wib_in hp120) ?_
          refine wg_blk 4 (i' := 571) (L' := [some (.inr (.inl (38, 0))), some (.inr (.inl (0, 0))), some (.inr (.inl (21, 0))), some (.inl x3)]) (st' := [.inl (x3 + (4 : Int32)), .inr (.inl (38, 0)), .inl (xs ((x3 + (3 : Int32))).toNatClampNeg), .inl (xs ((x3 + (2 : Int32))).toNatClampNeg), .inl (xs ((x3 + (1 : Int32))).toNatClampNeg), .inr (.inl (21, 0)), .inl q123.1]) (M' := q123.2) rfl ?_
          refine wg_ck (st' := [.inl (xs ((x3 + (4 : Int32))).toNatClampNeg), .inl (xs ((x3 + (3 : Int32))).toNatClampNeg), .inl (xs ((x3 + (2 : Int32))).toNatClampNeg), .inl (xs ((x3 + (1 : Int32))).toNatClampNeg), .inr (.inl (21, 0)), .inl q123.1]) (M' := q123.2) rfl (wib_in hp121) ?_
          obtain ⟨q125, h124, h⟩ := wbs h
          refine wg_ca (d' := 5) (y := 137) (as := [.inr (.inl (21, 0)), .inl (xs ((x3 + (1 : Int32))).toNatClampNeg), .inl (xs ((x3 + (2 : Int32))).toNatClampNeg), .inl (xs ((x3 + (3 : Int32))).toNatClampNeg), .inl (xs ((x3 + (4 : Int32))).toNatClampNeg)]) (rest := [.inl q123.1]) (r := some q125.1) (M' := q125.2) rfl (Nat.le_of_ble_eq_true rfl) (s_M_hidden (xs ((x3 + (1 : Int32))).toNatClampNeg) (xs ((x3 + (2 : Int32))).toNatClampNeg) (xs ((x3 + (3 : Int32))).toNatClampNeg) (xs ((x3 + (4 : Int32))).toNatClampNeg) q123.2 _ h124) ?_
          refine wg_br (c := q123.1 = q125.1) (t := 796) (f := 574) (st' := []) rfl (fun hc => ?_) (fun hc => ?_)
          · rw [if_pos hc] at h
            refine wg_blk 2 (i' := 10) (L' := [some (.inr (.inl (38, 0))), some (.inr (.inl (0, 0))), some (.inr (.inl (21, 0))), some (.inl (x3 + (6 : Int32)))]) (st' := []) (M' := q125.2) rfl ?_
            exact wg_wk (wk_s (wk_s (wk_s (wk_s wk_e)))) rfl (ih (x3 + (6 : Int32)) q125.2 _ h hk)
          · rw [if_neg hc] at h
            refine wg_blk 1 (i' := 575) (L' := [some (.inr (.inl (38, 0))), some (.inr (.inl (0, 0))), some (.inr (.inl (21, 0))), some (.inl x3)]) (st' := [.inl (0 : Int32)]) (M' := q125.2) rfl ?_
            obtain rfl := Option.some.inj h
            exact wg_re rfl (by decide) hk
        · dsimp only at he ⊢
          rw [if_neg (fun z => absurd (he.symm.trans z) (by decide))] at h
          rw [if_neg (fun z => absurd (he.symm.trans z) (by decide))] at h
          rw [if_neg (fun z => absurd (he.symm.trans z) (by decide))] at h
          rw [if_neg (fun z => absurd (he.symm.trans z) (by decide))] at h
          rw [if_neg (fun z => absurd (he.symm.trans z) (by decide))] at h
          rw [if_neg (fun z => absurd (he.symm.trans z) (by decide))] at h
          rw [if_neg (fun z => absurd (he.symm.trans z) (by decide))] at h
          rw [if_neg (fun z => absurd (he.symm.trans z) (by decide))] at h
          rw [if_neg (fun z => absurd (he.symm.trans z) (by decide))] at h
          rw [if_neg (fun z => absurd (he.symm.trans z) (by decide))] at h
          rw [if_neg (fun z => absurd (he.symm.trans z) (by decide))] at h
          rw [if_neg (fun z => absurd (he.symm.trans z) (by decide))] at h
          rw [if_neg (fun z => absurd (he.symm.trans z) (by decide))] at h
          rw [if_neg (fun z => absurd (he.symm.trans z) (by decide))] at h
          rw [if_neg (fun z => absurd (he.symm.trans z) (by decide))] at h
          rw [if_neg (fun z => absurd (he.symm.trans z) (by decide))] at h
          rw [if_neg (fun z => absurd (he.symm.trans z) (by decide))] at h
          rw [if_neg (fun z => absurd (he.symm.trans z) (by decide))] at h
          rw [if_neg (fun z => absurd (he.symm.trans z) (by decide))] at h
          rw [if_neg (fun z => absurd (he.symm.trans z) (by decide))] at h
          rw [if_neg (fun z => absurd (he.symm.trans z) (by decide))] at h
          rw [if_neg (fun z => absurd (he.symm.trans z) (by decide))] at h
          rw [if_pos he] at h
          refine wg_blk 5 (i' := 581) (L' := [some (.inr (.inl (38, 0))), some (.inr (.inl (0, 0))), some (.inr (.inl (21, 0))), some (.inl x3)]) (st' := [.inl (x3 + (1 : Int32)), .inr (.inl (38, 0)), .inr (.inl (0, 0))]) (M' := M) rfl ?_
          obtain ⟨hp126, h⟩ := wif h
          refine wg_ck (st' := [.inl (xs ((x3 + (1 : Int32))).toNatClampNeg), .inr (.inl (0, 0))]) (M' := M) rfl (wib_in hp126) ?_
          refine wg_blk 4 (i' := 586) (L' := [some (.inr (.inl (38, 0))), some (.inr (.inl (0, 0))), some (.inr (.inl (21, 0))), some (.inl x3)]) (st' := [.inl (x3 + (2 : Int32)), .inr (.inl (38, 0)), .inl (xs ((x3 + (1 : Int32))).toNatClampNeg), .inr (.inl (0, 0))]) (M' := M) rfl ?_
          obtain ⟨hp127, h⟩ := wif h
          refine wg_ck (st' := [.inl (xs ((x3 + (2 : Int32))).toNatClampNeg), .inl (xs ((x3 + (1 : Int32))).toNatClampNeg), .inr (.inl (0, 0))]) (M' := M) rfl (wib_in hp127) ?_
          obtain ⟨q129, h128, h⟩ := wbs h
          refine wg_ca (d' := 4) (y := 22) (as := [.inr (.inl (0, 0)), .inl (xs ((x3 + (1 : Int32))).toNatClampNeg), .inl (xs ((x3 + (2 : Int32))).toNatClampNeg)]) (rest := []) (r := some q129.1) (M' := q129.2) rfl (Nat.le_of_ble_eq_true rfl) (s_C_most (xs ((x3 + (1 : Int32))).toNatClampNeg) (xs ((x3 + (2 : Int32))).toNatClampNeg) M _ h128) ?_
          refine wg_blk 5 (i' := 593) (L' := [some (.inr (.inl (38, 0))), some (.inr (.inl (0, 0))), some (.inr (.inl (21, 0))), some (.inl x3)]) (st' := [.inl (x3 + (1 : Int32)), .inr (.inl (38, 0)), .inr (.inl (21, 0)), .inl q129.1]) (M' := q129.2) rfl ?_
          refine wg_ck (st' := [.inl (xs ((x3 + (1 : Int32))).toNatClampNeg), .inr (.inl (21, 0)), .inl q129.1]) (M' := q129.2) rfl (wib_in hp126) ?_
          refine wg_blk 4 (i' := 598) (L' := [some (.inr (.inl (38, 0))), some (.inr (.inl (0, 0))), some (.inr (.inl (21, 0))), some (.inl x3)]) (st' := [.inl (x3 + (2 : Int32)), .inr (.inl (38, 0)), .inl (xs ((x3 + (1 : Int32))).toNatClampNeg), .inr (.inl (21, 0)), .inl q129.1]) (M' := q129.2) rfl ?_
          refine wg_ck (st' := [.inl (xs ((x3 + (2 : Int32))).toNatClampNeg), .inl (xs ((x3 + (1 : Int32))).toNatClampNeg), .inr (.inl (21, 0)), .inl q129.1]) (M' := q129.2) rfl (wib_in hp127) ?_
          obtain ⟨q131, h130, h⟩ := wbs h
          refine wg_ca (d' := 5) (y := 138) (as := [.inr (.inl (21, 0)), .inl (xs ((x3 + (1 : Int32))).toNatClampNeg), .inl (xs ((x3 + (2 : Int32))).toNatClampNeg)]) (rest := [.inl q129.1]) (r := some q131.1) (M' := q131.2) rfl (Nat.le_of_ble_eq_true rfl) (s_M_most (xs ((x3 + (1 : Int32))).toNatClampNeg) (xs ((x3 + (2 : Int32))).toNatClampNeg) q129.2 _ h130) ?_
          refine wg_br (c := q129.1 = q131.1) (t := 796) (f := 601) (st' := []) rfl (fun hc => ?_) (fun hc => ?_)
          · rw [if_pos hc] at h
            refine wg_blk 2 (i' := 10) (L' := [some (.inr (.inl (38, 0))), some (.inr (.inl (0, 0))), some (.inr (.inl (21, 0))), some (.inl (x3 + (6 : Int32)))]) (st' := []) (M' := q131.2) rfl ?_
            exact wg_wk (wk_s (wk_s (wk_s (wk_s wk_e)))) rfl (ih (x3 + (6 : Int32)) q131.2 _ h hk)
          · rw [if_neg hc] at h
            refine wg_blk 1 (i' := 602) (L' := [some (.inr (.inl (38, 0))), some (.inr (.inl (0, 0))), some (.inr (.inl (21, 0))), some (.inl x3)]) (st' := [.inl (0 : Int32)]) (M' := q131.2) rfl ?_
            obtain rfl := Option.some.inj h
            exact wg_re rfl (by decide) hk
        · dsimp only at he ⊢
          rw [if_neg (fun z => absurd (he.symm.trans z) (by decide))] at h
          rw [if_neg (fun z => absurd (he.symm.trans z) (by decide))] at h
          rw [if_neg (fun z => absurd (he.symm.trans z) (by decide))] at h
          rw [if_neg (fun z => absurd (he.symm.trans z) (by decide))] at h
          rw [if_neg (fun z => absurd (he.symm.trans z) (by decide))] at h
          rw [if_neg (fun z => absurd (he.symm.trans z) (by decide))] at h
          rw [if_neg (fun z => absurd (he.symm.trans z) (by decide))] at h
          rw [if_neg (fun z => absurd (he.symm.trans z) (by decide))] at h
          rw [if_neg (fun z => absurd (he.symm.trans z) (by decide))] at h
          rw [if_neg (fun z => absurd (he.symm.trans z) (by decide))] at h
          rw [if_neg (fun z => absurd (he.symm.trans z) (by decide))] at h
          rw [if_neg (fun z => absurd (he.symm.trans z) (by decide))] at h
          rw [if_neg (fun z => absurd (he.symm.trans z) (by decide))] at h
          rw [if_neg (fun z => absurd (he.symm.trans z) (by decide))] at h
          rw [if_neg (fun z => absurd (he.symm.trans z) (by decide))] at h
          rw [if_neg (fun z => absurd (he.symm.trans z) (by decide))] at h
          rw [if_neg (fun z => absurd (he.symm.trans z) (by decide))] at h
          rw [if_neg (fun z => absurd (he.symm.trans z) (by decide))] at h
          rw [if_neg (fun z => absurd (he.symm.trans z) (by decide))] at h
          rw [if_neg (fun z => absurd (he.symm.trans z) (by decide))] at h
          rw [if_neg (fun z => absurd (he.symm.trans z) (by decide))] at h
          rw [if_neg (fun z => absurd (he.symm.trans z) (by decide))] at h
          rw [if_neg (fun z => absurd (he.symm.trans z) (by decide))] at h
          rw [if_pos he] at h
          refine wg_blk 5 (i' := 608) (L' := [some (.inr (.inl (38, 0))), some (.inr (.inl (0, 0))), some (.inr (.inl (21, 0))), some (.inl x3)]) (st' := [.inl (x3 + (1 : Int32)), .inr (.inl (38, 0)), .inr (.inl (0, 0))]) (M' := M) rfl ?_
          obtain ⟨hp132, h⟩ := wif h
          refine wg_ck (st' := [.inl (xs ((x3 + (1 : Int32))).toNatClampNeg), .inr (.inl (0, 0))]) (M' := M) rfl (wib_in hp132) ?_
          refine wg_blk 4 (i' := 613) (L' := [some (.inr (.inl (38, 0))), some (.inr (.inl (0, 0))), some (.inr (.inl (21, 0))), some (.inl x3)]) (st' := [.inl (x3 + (2 : Int32)), .inr (.inl (38, 0)), .inl (xs ((x3 + (1 : Int32))).toNatClampNeg), .inr (.inl (0, 0))]) (M' := M) rfl ?_
          obtain ⟨hp133, h⟩ := wif h
          refine wg_ck (st' := [.inl (xs ((x3 + (2 : Int32))).toNatClampNeg), .inl (xs ((x3 + (1 : Int32))).toNatClampNeg), .inr (.inl (0, 0))]) (M' := M) rfl (wib_in hp133) ?_
          refine wg_blk 4 (i' := 618) (L' := [some (.inr (.inl (38, 0))), some (.inr (.inl (0, 0))), some (.inr (.inl (21, 0))), some (.inl x3)]) (st' := [.inl (x3 + (3 : Int32)), .inr (.inl (38, 0)), .inl (xs ((x3 + (2 : Int32))).toNatClampNeg), .inl (xs ((x3 + (1 : Int32))).toNatClampNeg), .inr (.inl (0, 0))]) (M' := M) rfl ?_
          obtain ⟨hp134, h⟩ := wif h
          refine wg_ck (st' := [.inl (xs ((x3 + (3 : Int32))).toNatClampNeg), .inl (xs ((x3 + (2 : Int32))).toNatClampNeg), .inl (xs ((x3 + (1 : Int32))).toNatClampNeg), .inr (.inl (0, 0))]) (M' := M) rfl (wib_in hp134) ?_
          refine wg_blk 4 (i' := 623) (L' := [some (.inr (.inl (38, 0))), some (.inr (.inl (0, 0))), some (.inr (.inl (21, 0))), some (.inl x3)]) (st' := [.inl (x3 + (4 : Int32)), .inr (.inl (38, 0)), .inl (xs ((x3 + (3 : Int32))).toNatClampNeg), .inl (xs ((x3 + (2 : Int32))).toNatClampNeg), .inl (xs ((x3 + (1 : Int32))).toNatClampNeg), .inr (.inl (0, 0))]) (M' := M) rfl ?_
          obtain ⟨hp135, h⟩ := wif h
          refine wg_ck (st' := [.inl (xs ((x3 + (4 : Int32))).toNatClampNeg), .inl (xs ((x3 + (3 : Int32))).toNatClampNeg), .inl (xs ((x3 + (2 : Int32))).toNatClampNeg), .inl (xs ((x3 + (1 : Int32))).toNatClampNeg), .inr (.inl (0, 0))]) (M' := M) rfl (wib_in hp135) ?_
          obtain ⟨q137, h136, h⟩ := wbs h
          refine wg_ca (d' := 4) (y := 23) (as := [.inr (.inl (0, 0)), .inl (xs ((x3 + (1 : Int32))).toNatClampNeg), .inl (xs ((x3 + (2 : Int32))).toNatClampNeg), .inl (xs ((x3 + (3 : Int32))).toNatClampNeg), .inl (xs ((x3 + (4 : Int32))).toNatClampNeg)]) (rest := []) (r := some q137.1) (M' := q137.2) rfl (Nat.le_of_ble_eq_true rfl) (s_C_lots (xs ((x3 + (1 : Int32))).toNatClampNeg) (xs ((x3 + (2 : Int32))).toNatClampNeg) (xs ((x3 + (3 : Int32))).toNatClampNeg) (xs ((x3 + (4 : Int32))).toNatClampNeg) M _ h136) ?_
          refine wg_blk 5 (i' := 630) (L' := [some (.inr (.inl (38, 0))), some (.inr (.inl (0, 0))), some (.inr (.inl (21, 0))), some (.inl x3)]) (st' := [.inl (x3 + (1 : Int32)), .inr (.inl (38, 0)), .inr (.inl (21, 0)), .inl q137.1]) (M' := q137.2) rfl ?_
          refine wg_ck (st' := [.inl (xs ((x3 + (1 : Int32))).toNatClampNeg), .inr (.inl (21, 0)), .inl q137.1]) (M' := q137.2) rfl (wib_in hp132) ?_
          refine wg_blk 4 (i' := 635) (L' := [some (.inr (.inl (38, 0))), some (.inr (.inl (0, 0))), some (.inr (.inl (21, 0))), some (.inl x3)]) (st' := [.inl (x3 + (2 : Int32)), .inr (.inl (38, 0)), .inl (xs ((x3 + (1 : Int32))).toNatClampNeg), .inr (.inl (21, 0)), .inl q137.1]) (M' := q137.2) rfl ?_
          refine wg_ck (st' := [.inl (xs ((x3 + (2 : Int32))).toNatClampNeg), .inl (xs ((x3 + (1 : Int32))).toNatClampNeg), .inr (.inl (21, 0)), .inl q137.1]) (M' := q137.2) rfl (wib_in hp133) ?_
          refine wg_blk 4 (i' := 640) (L' := [some (.inr (.inl (38, 0))), some (.inr (.inl (0, 0))), some (.inr (.inl (21, 0))), some (.inl x3)]) (st' := [.inl (x3 + (3 : Int32)), .inr (.inl (38, 0)), .inl (xs ((x3 + (2 : Int32))).toNatClampNeg), .inl (xs ((x3 + (1 : Int32))).toNatClampNeg), .inr (.inl (21, 0)), .inl q137.1]) (M' := q137.2) rfl ?_
          refine wg_ck (st' := [.inl (xs ((x3 + (3 : Int32))).toNatClampNeg), .inl (xs ((x3 + (2 : Int32))).toNatClampNeg), .inl (xs ((x3 + (1 : Int32))).toNatClampNeg), .inr (.inl (21, 0)), .inl q137.1]) (M' := q137.2) rfl (wib_in hp134) ?_
          refine wg_blk 4 (i' := 645) (L' := [some (.inr (.inl (38, 0))), some (.inr (.inl (0, 0))), some (.inr (.inl (21, 0))), some (.inl x3)]) (st' := [.inl (x3 + (4 : Int32)), .inr (.inl (38, 0)), .inl (xs ((x3 + (3 : Int32))).toNatClampNeg), .inl (xs ((x3 + (2 : Int32))).toNatClampNeg), .inl (xs ((x3 + (1 : Int32))).toNatClampNeg), .inr (.inl (21, 0)), .inl q137.1]) (M' := q137.2) rfl ?_
          refine wg_ck (st' := [.inl (xs ((x3 + (4 : Int32))).toNatClampNeg), .inl (xs ((x3 + (3 : Int32))).toNatClampNeg), .inl (xs ((x3 + (2 : Int32))).toNatClampNeg), .inl (xs ((x3 + (1 : Int32))).toNatClampNeg), .inr (.inl (21, 0)), .inl q137.1]) (M' := q137.2) rfl (wib_in hp135) ?_
          obtain ⟨q139, h138, h⟩ := wbs h
          refine wg_ca (d' := 6) (y := 139) (as := [.inr (.inl (21, 0)), .inl (xs ((x3 + (1 : Int32))).toNatClampNeg), .inl (xs ((x3 + (2 : Int32))).toNatClampNeg), .inl (xs ((x3 + (3 : Int32))).toNatClampNeg), .inl (xs ((x3 + (4 : Int32))).toNatClampNeg)]) (rest := [.inl q137.1]) (r := some q139.1) (M' := q139.2) rfl (Nat.le_of_ble_eq_true rfl) (s_M_lots (xs ((x3 + (1 : Int32))).toNatClampNeg) (xs ((x3 + (2 : Int32))).toNatClampNeg) (xs ((x3 + (3 : Int32))).toNatClampNeg) (xs ((x3 + (4 : Int32))).toNatClampNeg) q137.2 _ h138) ?_
          refine wg_br (c := q137.1 = q139.1) (t := 796) (f := 648) (st' := []) rfl (fun hc => ?_) (fun hc => ?_)
          · rw [if_pos hc] at h
            refine wg_blk 2 (i' := 10) (L' := [some (.inr (.inl (38, 0))), some (.inr (.inl (0, 0))), some (.inr (.inl (21, 0))), some (.inl (x3 + (6 : Int32)))]) (st' := []) (M' := q139.2) rfl ?_
            exact wg_wk (wk_s (wk_s (wk_s (wk_s wk_e)))) rfl (ih (x3 + (6 : Int32)) q139.2 _ h hk)
          · rw [if_neg hc] at h
            refine wg_blk 1 (i' := 649) (L' := [some (.inr (.inl (38, 0))), some (.inr (.inl (0, 0))), some (.inr (.inl (21, 0))), some (.inl x3)]) (st' := [.inl (0 : Int32)]) (M' := q139.2) rfl ?_
            obtain rfl := Option.some.inj h
            exact wg_re rfl (by decide) hk
        · dsimp only at he ⊢
          rw [if_neg (fun z => absurd (he.symm.trans z) (by decide))] at h
          rw [if_neg (fun z => absurd (he.symm.trans z) (by decide))] at h
          rw [if_neg (fun z => absurd (he.symm.trans z) (by decide))] at h
          rw [if_neg (fun z => absurd (he.symm.trans z) (by decide))] at h
          rw [if_neg (fun z => absurd (he.symm.trans z) (by decide))] at h
          rw [if_neg (fun z => absurd (he.symm.trans z) (by decide))] at h
          rw [if_neg (fun z => absurd (he.symm.trans z) (by decide))] at h
          rw [if_neg (fun z => absurd (he.symm.trans z) (by decide))] at h
          rw [if_neg (fun z => absurd (he.symm.trans z) (by decide))] at h
          rw [if_neg (fun z => absurd (he.symm.trans z) (by decide))] at h
          rw [if_neg (fun z => absurd (he.symm.trans z) (by decide))] at h
          rw [if_neg (fun z => absurd (he.symm.trans z) (by decide))] at h
          rw [if_neg (fun z => absurd (he.symm.trans z) (by decide))] at h
          rw [if_neg (fun z => absurd (he.symm.trans z) (by decide))] at h
          rw [if_neg (fun z => absurd (he.symm.trans z) (by decide))] at h
          rw [if_neg (fun z => absurd (he.symm.trans z) (by decide))] at h
          rw [if_neg (fun z => absurd (he.symm.trans z) (by decide))] at h
          rw [if_neg (fun z => absurd (he.symm.trans z) (by decide))] at h
          rw [if_neg (fun z => absurd (he.symm.trans z) (by decide))] at h
          rw [if_neg (fun z => absurd (he.symm.trans z) (by decide))] at h
          rw [if_neg (fun z => absurd (he.symm.trans z) (by decide))] at h
          rw [if_neg (fun z => absurd (he.symm.trans z) (by decide))] at h
          rw [if_neg (fun z => absurd (he.symm.trans z) (by decide))] at h
          rw [if_neg (fun z => absurd (he.symm.trans z) (by decide))] at h
          rw [if_pos he] at h
          refine wg_blk 5 (i' := 655) (L' := [some (.inr (.inl (38, 0))), some (.inr (.inl (0, 0))), some (.inr (.inl (21, 0))), some (.inl x3)]) (st' := [.inl (x3 + (1 : Int32)), .inr (.inl (38, 0)), .inr (.inl (0, 0))]) (M' := M) rfl ?_
          obtain ⟨hp140, h⟩ := wif h
          refine wg_ck (st' := [.inl (xs ((x3 + (1 : Int32))).toNatClampNeg), .inr (.inl (0, 0))]) (M' := M) rfl (wib_in hp140) ?_
          obtain ⟨q142, h141, h⟩ := wbs h
          refine wg_ca (d' := 2) (y := 24) (as := [.inr (.inl (0, 0)), .inl (xs ((x3 + (1 : Int32))).toNatClampNeg)]) (rest := []) (r := some q142.1) (M' := q142.2) rfl (Nat.le_of_ble_eq_true rfl) (s_C_image (xs ((x3 + (1 : Int32))).toNatClampNeg) M _ h141) ?_
          refine wg_blk 5 (i' := 662) (L' := [some (.inr (.inl (38, 0))), some (.inr (.inl (0, 0))), some (.inr (.inl (21, 0))), some (.inl x3)]) (st' := [.inl (x3 + (1 : Int32)), .inr (.inl (38, 0)), .inr (.inl (21, 0)), .inl q142.1]) (M' := q142.2) rfl ?_
          refine wg_ck (st' := [.inl (xs ((x3 + (1 : Int32))).toNatClampNeg), .inr (.inl (21, 0)), .inl q142.1]) (M' := q142.2) rfl (wib_in hp140) ?_
          obtain ⟨q144, h143, h⟩ := wbs h
          refine wg_ca (d' := 2) (y := 140) (as := [.inr (.inl (21, 0)), .inl (xs ((x3 + (1 : Int32))).toNatClampNeg)]) (rest := [.inl q142.1]) (r := some q144.1) (M' := q144.2) rfl (Nat.le_of_ble_eq_true rfl) (s_M_image (xs ((x3 + (1 : Int32))).toNatClampNeg) q142.2 _ h143) ?_
          refine wg_br (c := q142.1 = q144.1) (t := 796) (f := 665) (st' := []) rfl (fun hc => ?_) (fun hc => ?_)
          · rw [if_pos hc] at h
            refine wg_blk 2 (i' := 10) (L' := [some (.inr (.inl (38, 0))), some (.inr (.inl (0, 0))), some (.inr (.inl (21, 0))), some (.inl (x3 + (6 : Int32)))]) (st' := []) (M' := q144.2) rfl ?_
            exact wg_wk (wk_s (wk_s (wk_s (wk_s wk_e)))) rfl (ih (x3 + (6 : Int32)) q144.2 _ h hk)
          · rw [if_neg hc] at h
            refine wg_blk 1 (i' := 666) (L' := [some (.inr (.inl (38, 0))), some (.inr (.inl (0, 0))), some (.inr (.inl (21, 0))), some (.inl x3)]) (st' := [.inl (0 : Int32)]) (M' := q144.2) rfl ?_
            obtain rfl := Option.some.inj h
            exact wg_re rfl (by decide) hk
        · dsimp only at he ⊢
          rw [if_neg (fun z => absurd (he.symm.trans z) (by decide))] at h
          rw [if_neg (fun z => absurd (he.symm.trans z) (by decide))] at h
          rw [if_neg (fun z => absurd (he.symm.trans z) (by decide))] at h
          rw [if_neg (fun z => absurd (he.symm.trans z) (by decide))] at h
          rw [if_neg (fun z => absurd (he.symm.trans z) (by decide))] at h
          rw [if_neg (fun z => absurd (he.symm.trans z) (by decide))] at h
          rw [if_neg (fun z => absurd (he.symm.trans z) (by decide))] at h
          rw [if_neg (fun z => absurd (he.symm.trans z) (by decide))] at h
          rw [if_neg (fun z => absurd (he.symm.trans z) (by decide))] at h
          rw [if_neg (fun z => absurd (he.symm.trans z) (by decide))] at h
          rw [if_neg (fun z => absurd (he.symm.trans z) (by decide))] at h
          rw [if_neg (fun z => absurd (he.symm.trans z) (by decide))] at h
          rw [if_neg (fun z => absurd (he.symm.trans z) (by decide))] at h
          rw [if_neg (fun z => absurd (he.symm.trans z) (by decide))] at h
          rw [if_neg (fun z => absurd (he.symm.trans z) (by decide))] at h
          rw [if_neg (fun z => absurd (he.symm.trans z) (by decide))] at h
          rw [if_neg (fun z => absurd (he.symm.trans z) (by decide))] at h
          rw [if_neg (fun z => absurd (he.symm.trans z) (by decide))] at h
          rw [if_neg (fun z => absurd (he.symm.trans z) (by decide))] at h
          rw [if_neg (fun z => absurd (he.symm.trans z) (by decide))] at h
          rw [if_neg (fun z => absurd (he.symm.trans z) (by decide))] at h
          rw [if_neg (fun z => absurd (he.symm.trans z) (by decide))] at h
          rw [if_neg (fun z => absurd (he.symm.trans z) (by decide))] at h
          rw [if_neg (fun z => absurd (he.symm.trans z) (by decide))] at h
          rw [if_neg (fun z => absurd (he.symm.trans z) (by decide))] at h
          rw [if_pos he] at h
          refine wg_blk 5 (i' := 672) (L' := [some (.inr (.inl (38, 0))), some (.inr (.inl (0, 0))), some (.inr (.inl (21, 0))), some (.inl x3)]) (st' := [.inl (x3 + (1 : Int32)), .inr (.inl (38, 0)), .inr (.inl (0, 0))]) (M' := M) rfl ?_
          obtain ⟨hp145, h⟩ := wif h
          refine wg_ck (st' := [.inl (xs ((x3 + (1 : Int32))).toNatClampNeg), .inr (.inl (0, 0))]) (M' := M) rfl (wib_in hp145) ?_
          obtain ⟨q147, h146, h⟩ := wbs h
          refine wg_ca (d' := 2) (y := 25) (as := [.inr (.inl (0, 0)), .inl (xs ((x3 + (1 : Int32))).toNatClampNeg)]) (rest := []) (r := some q147.1) (M' := q147.2) rfl (Nat.le_of_ble_eq_true rfl) (s_C_restore (xs ((x3 + (1 : Int32))).toNatClampNeg) M _ h146) ?_
          refine wg_blk 5 (i' := 679) (L' := [some (.inr (.inl (38, 0))), some (.inr (.inl (0, 0))), some (.inr (.inl (21, 0))), some (.inl x3)]) (st' := [.inl (x3 + (1 : Int32)), .inr (.inl (38, 0)), .inr (.inl (21, 0)), .inl q147.1]) (M' := q147.2) rfl ?_
          refine wg_ck (st' := [.inl (xs ((x3 + (1 : Int32))).toNatClampNeg), .inr (.inl (21, 0)), .inl q147.1]) (M' := q147.2) rfl (wib_in hp145) ?_
          obtain ⟨q149, h148, h⟩ := wbs h
          refine wg_ca (d' := 2) (y := 141) (as := [.inr (.inl (21, 0)), .inl (xs ((x3 + (1 : Int32))).toNatClampNeg)]) (rest := [.inl q147.1]) (r := some q149.1) (M' := q149.2) rfl (Nat.le_of_ble_eq_true rfl) (s_M_restore (xs ((x3 + (1 : Int32))).toNatClampNeg) q147.2 _ h148) ?_
          refine wg_br (c := q147.1 = q149.1) (t := 796) (f := 682) (st' := []) rfl (fun hc => ?_) (fun hc => ?_)
          · rw [if_pos hc] at h
            refine wg_blk 2 (i' := 10) (L' := [some (.inr (.inl (38, 0))), some (.inr (.inl (0, 0))), some (.inr (.inl (21, 0))), some (.inl (x3 + (6 : Int32)))]) (st' := []) (M' := q149.2) rfl ?_
            exact wg_wk (wk_s (wk_s (wk_s (wk_s wk_e)))) rfl (ih (x3 + (6 : Int32)) q149.2 _ h hk)
          · rw [if_neg hc] at h
            refine wg_blk 1 (i' := 683) (L' := [some (.inr (.inl (38, 0))), some (.inr (.inl (0, 0))), some (.inr (.inl (21, 0))), some (.inl x3)]) (st' := [.inl (0 : Int32)]) (M' := q149.2) rfl ?_
            obtain rfl := Option.some.inj h
            exact wg_re rfl (by decide) hk
        · dsimp only at he ⊢
          rw [if_neg (fun z => absurd (he.symm.trans z) (by decide))] at h
          rw [if_neg (fun z => absurd (he.symm.trans z) (by decide))] at h
          rw [if_neg (fun z => absurd (he.symm.trans z) (by decide))] at h
          rw [if_neg (fun z => absurd (he.symm.trans z) (by decide))] at h
          rw [if_neg (fun z => absurd (he.symm.trans z) (by decide))] at h
          rw [if_neg (fun z => absurd (he.symm.trans z) (by decide))] at h
          rw [if_neg (fun z => absurd (he.symm.trans z) (by decide))] at h
          rw [if_neg (fun z => absurd (he.symm.trans z) (by decide))] at h
          rw [if_neg (fun z => absurd (he.symm.trans z) (by decide))] at h
          rw [if_neg (fun z => absurd (he.symm.trans z) (by decide))] at h
          rw [if_neg (fun z => absurd (he.symm.trans z) (by decide))] at h
          rw [if_neg (fun z => absurd (he.symm.trans z) (by decide))] at h
          rw [if_neg (fun z => absurd (he.symm.trans z) (by decide))] at h
          rw [if_neg (fun z => absurd (he.symm.trans z) (by decide))] at h
          rw [if_neg (fun z => absurd (he.symm.trans z) (by decide))] at h
          rw [if_neg (fun z => absurd (he.symm.trans z) (by decide))] at h
          rw [if_neg (fun z => absurd (he.symm.trans z) (by decide))] at h
          rw [if_neg (fun z => absurd (he.symm.trans z) (by decide))] at h
          rw [if_neg (fun z => absurd (he.symm.trans z) (by decide))] at h
          rw [if_neg (fun z => absurd (he.symm.trans z) (by decide))] at h
          rw [if_neg (fun z => absurd (he.symm.trans z) (by decide))] at h
          rw [if_neg (fun z => absurd (he.symm.trans z) (by decide))] at h
          rw [if_neg (fun z => absurd (he.symm.trans z) (by decide))] at h
          rw [if_neg (fun z => absurd (he.symm.trans z) (by decide))] at h
          rw [if_neg (fun z => absurd (he.symm.trans z) (by decide))] at h
          rw [if_neg (fun z => absurd (he.symm.trans z) (by decide))] at h
          rw [if_pos he] at h
          refine wg_blk 5 (i' := 689) (L' := [some (.inr (.inl (38, 0))), some (.inr (.inl (0, 0))), some (.inr (.inl (21, 0))), some (.inl x3)]) (st' := [.inl (x3 + (1 : Int32)), .inr (.inl (38, 0)), .inr (.inl (0, 0))]) (M' := M) rfl ?_
          obtain ⟨hp150, h⟩ := wif h
          refine wg_ck (st' := [.inl (xs ((x3 + (1 : Int32))).toNatClampNeg), .inr (.inl (0, 0))]) (M' := M) rfl (wib_in hp150) ?_
          obtain ⟨v152, h151, h⟩ := wbs h
          refine wg_ca (d' := 3) (y := 26) (as := [.inr (.inl (0, 0)), .inl (xs ((x3 + (1 : Int32))).toNatClampNeg)]) (rest := []) (r := some v152) (M' := M) rfl (Nat.le_of_ble_eq_true rfl) (s_C_kind (xs ((x3 + (1 : Int32))).toNatClampNeg) M _ h151) ?_
          refine wg_blk 5 (i' := 696) (L' := [some (.inr (.inl (38, 0))), some (.inr (.inl (0, 0))), some (.inr (.inl (21, 0))), some (.inl x3)]) (st' := [.inl (x3 + (1 : Int32)), .inr (.inl (38, 0)), .inr (.inl (21, 0)), .inl v152]) (M' := M) rfl ?_
          refine wg_ck (st' := [.inl (xs ((x3 + (1 : Int32))).toNatClampNeg), .inr (.inl (21, 0)), .inl v152]) (M' := M) rfl (wib_in hp150) ?_
          obtain ⟨v154, h153, h⟩ := wbs h
          refine wg_ca (d' := 3) (y := 142) (as := [.inr (.inl (21, 0)), .inl (xs ((x3 + (1 : Int32))).toNatClampNeg)]) (rest := [.inl v152]) (r := some v154) (M' := M) rfl (Nat.le_of_ble_eq_true rfl) (s_M_kind (xs ((x3 + (1 : Int32))).toNatClampNeg) M _ h153) ?_
          refine wg_br (c := v152 = v154) (t := 796) (f := 699) (st' := []) rfl (fun hc => ?_) (fun hc => ?_)
          · rw [if_pos hc] at h
            refine wg_blk 2 (i' := 10) (L' := [some (.inr (.inl (38, 0))), some (.inr (.inl (0, 0))), some (.inr (.inl (21, 0))), some (.inl (x3 + (6 : Int32)))]) (st' := []) (M' := M) rfl ?_
            exact wg_wk (wk_s (wk_s (wk_s (wk_s wk_e)))) rfl (ih (x3 + (6 : Int32)) M _ h hk)
          · rw [if_neg hc] at h
            refine wg_blk 1 (i' := 700) (L' := [some (.inr (.inl (38, 0))), some (.inr (.inl (0, 0))), some (.inr (.inl (21, 0))), some (.inl x3)]) (st' := [.inl (0 : Int32)]) (M' := M) rfl ?_
            obtain rfl := Option.some.inj h
            exact wg_re rfl (by decide) hk
        · dsimp only at he ⊢
          rw [if_neg (fun z => absurd (he.symm.trans z) (by decide))] at h
          rw [if_neg (fun z => absurd (he.symm.trans z) (by decide))] at h
          rw [if_neg (fun z => absurd (he.symm.trans z) (by decide))] at h
          rw [if_neg (fun z => absurd (he.symm.trans z) (by decide))] at h
          rw [if_neg (fun z => absurd (he.symm.trans z) (by decide))] at h
          rw [if_neg (fun z => absurd (he.symm.trans z) (by decide))] at h
          rw [if_neg (fun z => absurd (he.symm.trans z) (by decide))] at h
          rw [if_neg (fun z => absurd (he.symm.trans z) (by decide))] at h
          rw [if_neg (fun z => absurd (he.symm.trans z) (by decide))] at h
          rw [if_neg (fun z => absurd (he.symm.trans z) (by decide))] at h
          rw [if_neg (fun z => absurd (he.symm.trans z) (by decide))] at h
          rw [if_neg (fun z => absurd (he.symm.trans z) (by decide))] at h
          rw [if_neg (fun z => absurd (he.symm.trans z) (by decide))] at h
          rw [if_neg (fun z => absurd (he.symm.trans z) (by decide))] at h
          rw [if_neg (fun z => absurd (he.symm.trans z) (by decide))] at h
          rw [if_neg (fun z => absurd (he.symm.trans z) (by decide))] at h
          rw [if_neg (fun z => absurd (he.symm.trans z) (by decide))] at h
          rw [if_neg (fun z => absurd (he.symm.trans z) (by decide))] at h
          rw [if_neg (fun z => absurd (he.symm.trans z) (by decide))] at h
          rw [if_neg (fun z => absurd (he.symm.trans z) (by decide))] at h
          rw [if_neg (fun z => absurd (he.symm.trans z) (by decide))] at h
          rw [if_neg (fun z => absurd (he.symm.trans z) (by decide))] at h
          rw [if_neg (fun z => absurd (he.symm.trans z) (by decide))] at h
          rw [if_neg (fun z => absurd (he.symm.trans z) (by decide))] at h
          rw [if_neg (fun z => absurd (he.symm.trans z) (by decide))] at h
          rw [if_neg (fun z => absurd (he.symm.trans z) (by decide))] at h
          rw [if_neg (fun z => absurd (he.symm.trans z) (by decide))] at h
          rw [if_pos he] at h
          refine wg_blk 5 (i' := 706) (L' := [some (.inr (.inl (38, 0))), some (.inr (.inl (0, 0))), some (.inr (.inl (21, 0))), some (.inl x3)]) (st' := [.inl (x3 + (1 : Int32)), .inr (.inl (38, 0)), .inr (.inl (0, 0))]) (M' := M) rfl ?_
          obtain ⟨hp155, h⟩ := wif h
          refine wg_ck (st' := [.inl (xs ((x3 + (1 : Int32))).toNatClampNeg), .inr (.inl (0, 0))]) (M' := M) rfl (wib_in hp155) ?_
          refine wg_blk 4 (i' := 711) (L' := [some (.inr (.inl (38, 0))), some (.inr (.inl (0, 0))), some (.inr (.inl (21, 0))), some (.inl x3)]) (st' := [.inl (x3 + (2 : Int32)), .inr (.inl (38, 0)), .inl (xs ((x3 + (1 : Int32))).toNatClampNeg), .inr (.inl (0, 0))]) (M' := M) rfl ?_
          obtain ⟨hp156, h⟩ := wif h
          refine wg_ck (st' := [.inl (xs ((x3 + (2 : Int32))).toNatClampNeg), .inl (xs ((x3 + (1 : Int32))).toNatClampNeg), .inr (.inl (0, 0))]) (M' := M) rfl (wib_in hp156) ?_
          obtain ⟨q158, h157, h⟩ := wbs h
          refine wg_ca (d' := 3) (y := 27) (as := [.inr (.inl (0, 0)), .inl (xs ((x3 + (1 : Int32))).toNatClampNeg), .inl (xs ((x3 + (2 : Int32))).toNatClampNeg)]) (rest := []) (r := some q158.1) (M' := q158.2) rfl (Nat.le_of_ble_eq_true rfl) (s_C_as (xs ((x3 + (1 : Int32))).toNatClampNeg) (xs ((x3 + (2 : Int32))).toNatClampNeg) M _ h157) ?_
          refine wg_blk 5 (i' := 718) (L' := [some (.inr (.inl (38, 0))), some (.inr (.inl (0, 0))), some (.inr (.inl (21, 0))), some (.inl x3)]) (st' := [.inl (x3 + (1 : Int32)), .inr (.inl (38, 0)), .inr (.inl (21, 0)), .inl q158.1]) (M' := q158.2) rfl ?_
          refine wg_ck (st' := [.inl (xs ((x3 + (1 : Int32))).toNatClampNeg), .inr (.inl (21, 0)), .inl q158.1]) (M' := q158.2) rfl (wib_in hp155) ?_
          refine wg_blk 4 (i' := 723) (L' := [some (.inr (.inl (38, 0))), some (.inr (.inl (0, 0))), some (.inr (.inl (21, 0))), some (.inl x3)]) (st' := [.inl (x3 + (2 : Int32)), .inr (.inl (38, 0)), .inl (xs ((x3 + (1 : Int32))).toNatClampNeg), .inr (.inl (21, 0)), .inl q158.1]) (M' := q158.2) rfl ?_
          refine wg_ck (st' := [.inl (xs ((x3 + (2 : Int32))).toNatClampNeg), .inl (xs ((x3 + (1 : Int32))).toNatClampNeg), .inr (.inl (21, 0)), .inl q158.1]) (M' := q158.2) rfl (wib_in hp156) ?_
          obtain ⟨q160, h159, h⟩ := wbs h
          refine wg_ca (d' := 3) (y := 144) (as := [.inr (.inl (21, 0)), .inl (xs ((x3 + (1 : Int32))).toNatClampNeg), .inl (xs ((x3 + (2 : Int32))).toNatClampNeg)]) (rest := [.inl q158.1]) (r := some q160.1) (M' := q160.2) rfl (Nat.le_of_ble_eq_true rfl) (s_M_as (xs ((x3 + (1 : Int32))).toNatClampNeg) (xs ((x3 + (2 : Int32))).toNatClampNeg) q158.2 _ h159) ?_
          refine wg_br (c := q158.1 = q160.1) (t := 796) (f := 726) (st' := []) rfl (fun hc => ?_) (fun hc => ?_)
          · rw [if_pos hc] at h
            refine wg_blk 2 (i' := 10) (L' := [some (.inr (.inl (38, 0))), some (.inr (.inl (0, 0))), some (.inr (.inl (21, 0))), some (.inl (x3 + (6 : Int32)))]) (st' := []) (M' := q160.2) rfl ?_
            exact wg_wk (wk_s (wk_s (wk_s (wk_s wk_e)))) rfl (ih (x3 + (6 : Int32)) q160.2 _ h hk)
          · rw [if_neg hc] at h
            refine wg_blk 1 (i' := 727) (L' := [some (.inr (.inl (38, 0))), some (.inr (.inl (0, 0))), some (.inr (.inl (21, 0))), some (.inl x3)]) (st' := [.inl (0 : Int32)]) (M' := q160.2) rfl ?_
            obtain rfl := Option.some.inj h
            exact wg_re rfl (by decide) hk
        · dsimp only at he ⊢
          rw [if_neg (fun z => absurd (he.symm.trans z) (by decide))] at h
          rw [if_neg (fun z => absurd (he.symm.trans z) (by decide))] at h
          rw [if_neg (fun z => absurd (he.symm.trans z) (by decide))] at h
          rw [if_neg (fun z => absurd (he.symm.trans z) (by decide))] at h
          rw [if_neg (fun z => absurd (he.symm.trans z) (by decide))] at h
          rw [if_neg (fun z => absurd (he.symm.trans z) (by decide))] at h
          rw [if_neg (fun z => absurd (he.symm.trans z) (by decide))] at h
          rw [if_neg (fun z => absurd (he.symm.trans z) (by decide))] at h
          rw [if_neg (fun z => absurd (he.symm.trans z) (by decide))] at h
          rw [if_neg (fun z => absurd (he.symm.trans z) (by decide))] at h
          rw [if_neg (fun z => absurd (he.symm.trans z) (by decide))] at h
          rw [if_neg (fun z => absurd (he.symm.trans z) (by decide))] at h
          rw [if_neg (fun z => absurd (he.symm.trans z) (by decide))] at h
          rw [if_neg (fun z => absurd (he.symm.trans z) (by decide))] at h
          rw [if_neg (fun z => absurd (he.symm.trans z) (by decide))] at h
          rw [if_neg (fun z => absurd (he.symm.trans z) (by decide))] at h
          rw [if_neg (fun z => absurd (he.symm.trans z) (by decide))] at h
          rw [if_neg (fun z => absurd (he.symm.trans z) (by decide))] at h
          rw [if_neg (fun z => absurd (he.symm.trans z) (by decide))] at h
          rw [if_neg (fun z => absurd (he.symm.trans z) (by decide))] at h
          rw [if_neg (fun z => absurd (he.symm.trans z) (by decide))] at h
          rw [if_neg (fun z => absurd (he.symm.trans z) (by decide))] at h
          rw [if_neg (fun z => absurd (he.symm.trans z) (by decide))] at h
          rw [if_neg (fun z => absurd (he.symm.trans z) (by decide))] at h
          rw [if_neg (fun z => absurd (he.symm.trans z) (by decide))] at h
          rw [if_neg (fun z => absurd (he.symm.trans z) (by decide))] at h
          rw [if_neg (fun z => absurd (he.symm.trans z) (by decide))] at h
          rw [if_neg (fun z => absurd (he.symm.trans z) (by decide))] at h
          rw [if_pos he] at h
          refine wg_blk 5 (i' := 733) (L' := [some (.inr (.inl (38, 0))), some (.inr (.inl (0, 0))), some (.inr (.inl (21, 0))), some (.inl x3)]) (st' := [.inl (x3 + (1 : Int32)), .inr (.inl (38, 0)), .inr (.inl (0, 0))]) (M' := M) rfl ?_
          obtain ⟨hp161, h⟩ := wif h
          refine wg_ck (st' := [.inl (xs ((x3 + (1 : Int32))).toNatClampNeg), .inr (.inl (0, 0))]) (M' := M) rfl (wib_in hp161) ?_
          refine wg_blk 4 (i' := 738) (L' := [some (.inr (.inl (38, 0))), some (.inr (.inl (0, 0))), some (.inr (.inl (21, 0))), some (.inl x3)]) (st' := [.inl (x3 + (2 : Int32)), .inr (.inl (38, 0)), .inl (xs ((x3 + (1 : Int32))).toNatClampNeg), .inr (.inl (0, 0))]) (M' := M) rfl ?_
          obtain ⟨hp162, h⟩ := wif h
          refine wg_ck (st' := [.inl (xs ((x3 + (2 : Int32))).toNatClampNeg), .inl (xs ((x3 + (1 : Int32))).toNatClampNeg), .inr (.inl (0, 0))]) (M' := M) rfl (wib_in hp162) ?_
          obtain ⟨q164, h163, h⟩ := wbs h
          refine wg_ca (d' := 21) (y := 28) (as := [.inr (.inl (0, 0)), .inl (xs ((x3 + (1 : Int32))).toNatClampNeg), .inl (xs ((x3 + (2 : Int32))).toNatClampNeg)]) (rest := []) (r := some q164.1) (M' := q164.2) rfl (Nat.le_of_ble_eq_true rfl) (s_C_ask (xs ((x3 + (1 : Int32))).toNatClampNeg) (xs ((x3 + (2 : Int32))).toNatClampNeg) M _ h163) ?_
          refine wg_blk 5 (i' := 745) (L' := [some (.inr (.inl (38, 0))), some (.inr (.inl (0, 0))), some (.inr (.inl (21, 0))), some (.inl x3)]) (st' := [.inl (x3 + (1 : Int32)), .inr (.inl (38, 0)), .inr (.inl (21, 0)), .inl q164.1]) (M' := q164.2) rfl ?_
          refine wg_ck (st' := [.inl (xs ((x3 + (1 : Int32))).toNatClampNeg), .inr (.inl (21, 0)), .inl q164.1]) (M' := q164.2) rfl (wib_in hp161) ?_
          refine wg_blk 4 (i' := 750) (L' := [some (.inr (.inl (38, 0))), some (.inr (.inl (0, 0))), some (.inr (.inl (21, 0))), some (.inl x3)]) (st' := [.inl (x3 + (2 : Int32)), .inr (.inl (38, 0)), .inl (xs ((x3 + (1 : Int32))).toNatClampNeg), .inr (.inl (21, 0)), .inl q164.1]) (M' := q164.2) rfl ?_
          refine wg_ck (st' := [.inl (xs ((x3 + (2 : Int32))).toNatClampNeg), .inl (xs ((x3 + (1 : Int32))).toNatClampNeg), .inr (.inl (21, 0)), .inl q164.1]) (M' := q164.2) rfl (wib_in hp162) ?_
          obtain ⟨q166, h165, h⟩ := wbs h
          refine wg_ca (d' := 10) (y := 153) (as := [.inr (.inl (21, 0)), .inl (xs ((x3 + (1 : Int32))).toNatClampNeg), .inl (xs ((x3 + (2 : Int32))).toNatClampNeg)]) (rest := [.inl q164.1]) (r := some q166.1) (M' := q166.2) rfl (Nat.le_of_ble_eq_true rfl) (s_M_ask (xs ((x3 + (1 : Int32))).toNatClampNeg) (xs ((x3 + (2 : Int32))).toNatClampNeg) q164.2 _ h165) ?_
          refine wg_br (c := q164.1 = q166.1) (t := 796) (f := 753) (st' := []) rfl (fun hc => ?_) (fun hc => ?_)
          · rw [if_pos hc] at h
            refine wg_blk 2 (i' := 10) (L' := [some (.inr (.inl (38, 0))), some (.inr (.inl (0, 0))), some (.inr (.inl (21, 0))), some (.inl (x3 + (6 : Int32)))]) (st' := []) (M' := q166.2) rfl ?_
            exact wg_wk (wk_s (wk_s (wk_s (wk_s wk_e)))) rfl (ih (x3 + (6 : Int32)) q166.2 _ h hk)
          · rw [if_neg hc] at h
            refine wg_blk 1 (i' := 754) (L' := [some (.inr (.inl (38, 0))), some (.inr (.inl (0, 0))), some (.inr (.inl (21, 0))), some (.inl x3)]) (st' := [.inl (0 : Int32)]) (M' := q166.2) rfl ?_
            obtain rfl := Option.some.inj h
            exact wg_re rfl (by decide) hk
        · dsimp only at he ⊢
          rw [if_neg (fun z => absurd (he.symm.trans z) (by decide))] at h
          rw [if_neg (fun z => absurd (he.symm.trans z) (by decide))] at h
          rw [if_neg (fun z => absurd (he.symm.trans z) (by decide))] at h
          rw [if_neg (fun z => absurd (he.symm.trans z) (by decide))] at h
          rw [if_neg (fun z => absurd (he.symm.trans z) (by decide))] at h
          rw [if_neg (fun z => absurd (he.symm.trans z) (by decide))] at h
          rw [if_neg (fun z => absurd (he.symm.trans z) (by decide))] at h
          rw [if_neg (fun z => absurd (he.symm.trans z) (by decide))] at h
          rw [if_neg (fun z => absurd (he.symm.trans z) (by decide))] at h
          rw [if_neg (fun z => absurd (he.symm.trans z) (by decide))] at h
          rw [if_neg (fun z => absurd (he.symm.trans z) (by decide))] at h
          rw [if_neg (fun z => absurd (he.symm.trans z) (by decide))] at h
          rw [if_neg (fun z => absurd (he.symm.trans z) (by decide))] at h
          rw [if_neg (fun z => absurd (he.symm.trans z) (by decide))] at h
          rw [if_neg (fun z => absurd (he.symm.trans z) (by decide))] at h
          rw [if_neg (fun z => absurd (he.symm.trans z) (by decide))] at h
          rw [if_neg (fun z => absurd (he.symm.trans z) (by decide))] at h
          rw [if_neg (fun z => absurd (he.symm.trans z) (by decide))] at h
          rw [if_neg (fun z => absurd (he.symm.trans z) (by decide))] at h
          rw [if_neg (fun z => absurd (he.symm.trans z) (by decide))] at h
          rw [if_neg (fun z => absurd (he.symm.trans z) (by decide))] at h
          rw [if_neg (fun z => absurd (he.symm.trans z) (by decide))] at h
          rw [if_neg (fun z => absurd (he.symm.trans z) (by decide))] at h
          rw [if_neg (fun z => absurd (he.symm.trans z) (by decide))] at h
          rw [if_neg (fun z => absurd (he.symm.trans z) (by decide))] at h
          rw [if_neg (fun z => absurd (he.symm.trans z) (by decide))] at h
          rw [if_neg (fun z => absurd (he.symm.trans z) (by decide))] at h
          rw [if_neg (fun z => absurd (he.symm.trans z) (by decide))] at h
          rw [if_neg (fun z => absurd (he.symm.trans z) (by decide))] at h
          rw [if_pos he] at h
          refine wg_blk 5 (i' := 760) (L' := [some (.inr (.inl (38, 0))), some (.inr (.inl (0, 0))), some (.inr (.inl (21, 0))), some (.inl x3)]) (st' := [.inl (x3 + (1 : Int32)), .inr (.inl (38, 0)), .inr (.inl (0, 0))]) (M' := M) rfl ?_
          obtain ⟨hp167, h⟩ := wif h
          refine wg_ck (st' := [.inl (xs ((x3 + (1 : Int32))).toNatClampNeg), .inr (.inl (0, 0))]) (M' := M) rfl (wib_in hp167) ?_
          obtain ⟨v169, h168, h⟩ := wbs h
          refine wg_ca (d' := 2) (y := 29) (as := [.inr (.inl (0, 0)), .inl (xs ((x3 + (1 : Int32))).toNatClampNeg)]) (rest := []) (r := some v169) (M' := M) rfl (Nat.le_of_ble_eq_true rfl) (s_C_trace (xs ((x3 + (1 : Int32))).toNatClampNeg) M _ h168) ?_
          refine wg_blk 5 (i' := 767) (L' := [some (.inr (.inl (38, 0))), some (.inr (.inl (0, 0))), some (.inr (.inl (21, 0))), some (.inl x3)]) (st' := [.inl (x3 + (1 : Int32)), .inr (.inl (38, 0)), .inr (.inl (21, 0)), .inl v169]) (M' := M) rfl ?_
          refine wg_ck (st' := [.inl (xs ((x3 + (1 : Int32))).toNatClampNeg), .inr (.inl (21, 0)), .inl v169]) (M' := M) rfl (wib_in hp167) ?_
          obtain ⟨v171, h170, h⟩ := wbs h
          refine wg_ca (d' := 2) (y := 154) (as := [.inr (.inl (21, 0)), .inl (xs ((x3 + (1 : Int32))).toNatClampNeg)]) (rest := [.inl v169]) (r := some v171) (M' := M) rfl (Nat.le_of_ble_eq_true rfl) (s_M_trace (xs ((x3 + (1 : Int32))).toNatClampNeg) M _ h170) ?_
          refine wg_br (c := v169 = v171) (t := 796) (f := 770) (st' := []) rfl (fun hc => ?_) (fun hc => ?_)
          · rw [if_pos hc] at h
            refine wg_blk 2 (i' := 10) (L' := [some (.inr (.inl (38, 0))), some (.inr (.inl (0, 0))), some (.inr (.inl (21, 0))), some (.inl (x3 + (6 : Int32)))]) (st' := []) (M' := M) rfl ?_
            exact wg_wk (wk_s (wk_s (wk_s (wk_s wk_e)))) rfl (ih (x3 + (6 : Int32)) M _ h hk)
          · rw [if_neg hc] at h
            refine wg_blk 1 (i' := 771) (L' := [some (.inr (.inl (38, 0))), some (.inr (.inl (0, 0))), some (.inr (.inl (21, 0))), some (.inl x3)]) (st' := [.inl (0 : Int32)]) (M' := M) rfl ?_
            obtain rfl := Option.some.inj h
            exact wg_re rfl (by decide) hk
        · dsimp only at he ⊢
          rw [if_neg (fun z => absurd (he.symm.trans z) (by decide))] at h
          rw [if_neg (fun z => absurd (he.symm.trans z) (by decide))] at h
          rw [if_neg (fun z => absurd (he.symm.trans z) (by decide))] at h
          rw [if_neg (fun z => absurd (he.symm.trans z) (by decide))] at h
          rw [if_neg (fun z => absurd (he.symm.trans z) (by decide))] at h
          rw [if_neg (fun z => absurd (he.symm.trans z) (by decide))] at h
          rw [if_neg (fun z => absurd (he.symm.trans z) (by decide))] at h
          rw [if_neg (fun z => absurd (he.symm.trans z) (by decide))] at h
          rw [if_neg (fun z => absurd (he.symm.trans z) (by decide))] at h
          rw [if_neg (fun z => absurd (he.symm.trans z) (by decide))] at h
          rw [if_neg (fun z => absurd (he.symm.trans z) (by decide))] at h
          rw [if_neg (fun z => absurd (he.symm.trans z) (by decide))] at h
          rw [if_neg (fun z => absurd (he.symm.trans z) (by decide))] at h
          rw [if_neg (fun z => absurd (he.symm.trans z) (by decide))] at h
          rw [if_neg (fun z => absurd (he.symm.trans z) (by decide))] at h
          rw [if_neg (fun z => absurd (he.symm.trans z) (by decide))] at h
          rw [if_neg (fun z => absurd (he.symm.trans z) (by decide))] at h
          rw [if_neg (fun z => absurd (he.symm.trans z) (by decide))] at h
          rw [if_neg (fun z => absurd (he.symm.trans z) (by decide))] at h
          rw [if_neg (fun z => absurd (he.symm.trans z) (by decide))] at h
          rw [if_neg (fun z => absurd (he.symm.trans z) (by decide))] at h
          rw [if_neg (fun z => absurd (he.symm.trans z) (by decide))] at h
          rw [if_neg (fun z => absurd (he.symm.trans z) (by decide))] at h
          rw [if_neg (fun z => absurd (he.symm.trans z) (by decide))] at h
          rw [if_neg (fun z => absurd (he.symm.trans z) (by decide))] at h
          rw [if_neg (fun z => absurd (he.symm.trans z) (by decide))] at h
          rw [if_neg (fun z => absurd (he.symm.trans z) (by decide))] at h
          rw [if_neg (fun z => absurd (he.symm.trans z) (by decide))] at h
          rw [if_neg (fun z => absurd (he.symm.trans z) (by decide))] at h
          rw [if_neg (fun z => absurd (he.symm.trans z) (by decide))] at h
          rw [if_pos he] at h
          refine wg_blk 5 (i' := 777) (L' := [some (.inr (.inl (38, 0))), some (.inr (.inl (0, 0))), some (.inr (.inl (21, 0))), some (.inl x3)]) (st' := [.inl (x3 + (1 : Int32)), .inr (.inl (38, 0)), .inr (.inl (0, 0))]) (M' := M) rfl ?_
          obtain ⟨hp172, h⟩ := wif h
          refine wg_ck (st' := [.inl (xs ((x3 + (1 : Int32))).toNatClampNeg), .inr (.inl (0, 0))]) (M' := M) rfl (wib_in hp172) ?_
          obtain ⟨q174, h173, h⟩ := wbs h
          refine wg_ca (d' := 5) (y := 30) (as := [.inr (.inl (0, 0)), .inl (xs ((x3 + (1 : Int32))).toNatClampNeg)]) (rest := []) (r := some q174.1) (M' := q174.2) rfl (Nat.le_of_ble_eq_true rfl) (s_C_count (xs ((x3 + (1 : Int32))).toNatClampNeg) M _ h173) ?_
          refine wg_blk 5 (i' := 784) (L' := [some (.inr (.inl (38, 0))), some (.inr (.inl (0, 0))), some (.inr (.inl (21, 0))), some (.inl x3)]) (st' := [.inl (x3 + (1 : Int32)), .inr (.inl (38, 0)), .inr (.inl (21, 0)), .inl q174.1]) (M' := q174.2) rfl ?_
          refine wg_ck (st' := [.inl (xs ((x3 + (1 : Int32))).toNatClampNeg), .inr (.inl (21, 0)), .inl q174.1]) (M' := q174.2) rfl (wib_in hp172) ?_
          obtain ⟨q176, h175, h⟩ := wbs h
          refine wg_ca (d' := 5) (y := 155) (as := [.inr (.inl (21, 0)), .inl (xs ((x3 + (1 : Int32))).toNatClampNeg)]) (rest := [.inl q174.1]) (r := some q176.1) (M' := q176.2) rfl (Nat.le_of_ble_eq_true rfl) (s_M_count (xs ((x3 + (1 : Int32))).toNatClampNeg) q174.2 _ h175) ?_
          refine wg_br (c := q174.1 = q176.1) (t := 796) (f := 787) (st' := []) rfl (fun hc => ?_) (fun hc => ?_)
          · rw [if_pos hc] at h
            refine wg_blk 2 (i' := 10) (L' := [some (.inr (.inl (38, 0))), some (.inr (.inl (0, 0))), some (.inr (.inl (21, 0))), some (.inl (x3 + (6 : Int32)))]) (st' := []) (M' := q176.2) rfl ?_
            exact wg_wk (wk_s (wk_s (wk_s (wk_s wk_e)))) rfl (ih (x3 + (6 : Int32)) q176.2 _ h hk)
          · rw [if_neg hc] at h
            refine wg_blk 1 (i' := 788) (L' := [some (.inr (.inl (38, 0))), some (.inr (.inl (0, 0))), some (.inr (.inl (21, 0))), some (.inl x3)]) (st' := [.inl (0 : Int32)]) (M' := q176.2) rfl ?_
            obtain rfl := Option.some.inj h
            exact wg_re rfl (by decide) hk
        · dsimp only at he ⊢
          rw [if_neg (fun z => absurd (he.symm.trans z) (by decide))] at h
          rw [if_neg (fun z => absurd (he.symm.trans z) (by decide))] at h
          rw [if_neg (fun z => absurd (he.symm.trans z) (by decide))] at h
          rw [if_neg (fun z => absurd (he.symm.trans z) (by decide))] at h
          rw [if_neg (fun z => absurd (he.symm.trans z) (by decide))] at h
          rw [if_neg (fun z => absurd (he.symm.trans z) (by decide))] at h
          rw [if_neg (fun z => absurd (he.symm.trans z) (by decide))] at h
          rw [if_neg (fun z => absurd (he.symm.trans z) (by decide))] at h
          rw [if_neg (fun z => absurd (he.symm.trans z) (by decide))] at h
          rw [if_neg (fun z => absurd (he.symm.trans z) (by decide))] at h
          rw [if_neg (fun z => absurd (he.symm.trans z) (by decide))] at h
          rw [if_neg (fun z => absurd (he.symm.trans z) (by decide))] at h
          rw [if_neg (fun z => absurd (he.symm.trans z) (by decide))] at h
          rw [if_neg (fun z => absurd (he.symm.trans z) (by decide))] at h
          rw [if_neg (fun z => absurd (he.symm.trans z) (by decide))] at h
          rw [if_neg (fun z => absurd (he.symm.trans z) (by decide))] at h
          rw [if_neg (fun z => absurd (he.symm.trans z) (by decide))] at h
          rw [if_neg (fun z => absurd (he.symm.trans z) (by decide))] at h
          rw [if_neg (fun z => absurd (he.symm.trans z) (by decide))] at h
          rw [if_neg (fun z => absurd (he.symm.trans z) (by decide))] at h
          rw [if_neg (fun z => absurd (he.symm.trans z) (by decide))] at h
          rw [if_neg (fun z => absurd (he.symm.trans z) (by decide))] at h
          rw [if_neg (fun z => absurd (he.symm.trans z) (by decide))] at h
          rw [if_neg (fun z => absurd (he.symm.trans z) (by decide))] at h
          rw [if_neg (fun z => absurd (he.symm.trans z) (by decide))] at h
          rw [if_neg (fun z => absurd (he.symm.trans z) (by decide))] at h
          rw [if_neg (fun z => absurd (he.symm.trans z) (by decide))] at h
          rw [if_neg (fun z => absurd (he.symm.trans z) (by decide))] at h
          rw [if_neg (fun z => absurd (he.symm.trans z) (by decide))] at h
          rw [if_neg (fun z => absurd (he.symm.trans z) (by decide))] at h
          rw [if_neg (fun z => absurd (he.symm.trans z) (by decide))] at h
          rw [if_pos he] at h
          refine wg_blk 1 (i' := 790) (L' := [some (.inr (.inl (38, 0))), some (.inr (.inl (0, 0))), some (.inr (.inl (21, 0))), some (.inl x3)]) (st' := [.inr (.inl (0, 0))]) (M' := M) rfl ?_
          refine wg_ca (d' := 1) (y := 31) (as := [.inr (.inl (0, 0))]) (rest := []) (r := some (f_C_status M)) (M' := M) rfl (Nat.le_of_ble_eq_true rfl) (s_C_status M _ rfl) ?_
          refine wg_blk 1 (i' := 792) (L' := [some (.inr (.inl (38, 0))), some (.inr (.inl (0, 0))), some (.inr (.inl (21, 0))), some (.inl x3)]) (st' := [.inr (.inl (21, 0)), .inl (f_C_status M)]) (M' := M) rfl ?_
          refine wg_ca (d' := 1) (y := 156) (as := [.inr (.inl (21, 0))]) (rest := [.inl (f_C_status M)]) (r := some (f_M_status M)) (M' := M) rfl (Nat.le_of_ble_eq_true rfl) (s_M_status M _ rfl) ?_
          refine wg_br (c := (f_C_status M) = (f_M_status M)) (t := 796) (f := 794) (st' := []) rfl (fun hc => ?_) (fun hc => ?_)
          · rw [if_pos hc] at h
            refine wg_blk 2 (i' := 10) (L' := [some (.inr (.inl (38, 0))), some (.inr (.inl (0, 0))), some (.inr (.inl (21, 0))), some (.inl (x3 + (6 : Int32)))]) (st' := []) (M' := M) rfl ?_
            exact wg_wk (wk_s (wk_s (wk_s (wk_s wk_e)))) rfl (ih (x3 + (6 : Int32)) M _ h hk)
          · rw [if_neg hc] at h
            refine wg_blk 1 (i' := 795) (L' := [some (.inr (.inl (38, 0))), some (.inr (.inl (0, 0))), some (.inr (.inl (21, 0))), some (.inl x3)]) (st' := [.inl (0 : Int32)]) (M' := M) rfl ?_
            obtain rfl := Option.some.inj h
            exact wg_re rfl (by decide) hk
      · intro hq
        rw [if_neg (hq ((0 : Int32), 22) (by simp))] at h
        rw [if_neg (hq ((1 : Int32), 59) (by simp))] at h
        rw [if_neg (hq ((2 : Int32), 96) (by simp))] at h
        rw [if_neg (hq ((3 : Int32), 153) (by simp))] at h
        rw [if_neg (hq ((4 : Int32), 170) (by simp))] at h
        rw [if_neg (hq ((5 : Int32), 187) (by simp))] at h
        rw [if_neg (hq ((6 : Int32), 194) (by simp))] at h
        rw [if_neg (hq ((7 : Int32), 201) (by simp))] at h
        rw [if_neg (hq ((8 : Int32), 238) (by simp))] at h
        rw [if_neg (hq ((9 : Int32), 255) (by simp))] at h
        rw [if_neg (hq ((10 : Int32), 272) (by simp))] at h
        rw [if_neg (hq ((11 : Int32), 299) (by simp))] at h
        rw [if_neg (hq ((12 : Int32), 316) (by simp))] at h
        rw [if_neg (hq ((13 : Int32), 323) (by simp))] at h
        rw [if_neg (hq ((14 : Int32), 350) (by simp))] at h
        rw [if_neg (hq ((15 : Int32), 377) (by simp))] at h
        rw [if_neg (hq ((16 : Int32), 404) (by simp))] at h
        rw [if_neg (hq ((17 : Int32), 421) (by simp))] at h
        rw [if_neg (hq ((18 : Int32), 448) (by simp))] at h
        rw [if_neg (hq ((19 : Int32), 465) (by simp))] at h
        rw [if_neg (hq ((20 : Int32), 492) (by simp))] at h
        rw [if_neg (hq ((21 : Int32), 529) (by simp))] at h
        rw [if_neg (hq ((22 : Int32), 576) (by simp))] at h
        rw [if_neg (hq ((23 : Int32), 603) (by simp))] at h
        rw [if_neg (hq ((24 : Int32), 650) (by simp))] at h
        rw [if_neg (hq ((25 : Int32), 667) (by simp))] at h
        rw [if_neg (hq ((26 : Int32), 684) (by simp))] at h
        rw [if_neg (hq ((27 : Int32), 701) (by simp))] at h
        rw [if_neg (hq ((28 : Int32), 728) (by simp))] at h
        rw [if_neg (hq ((29 : Int32), 755) (by simp))] at h
        rw [if_neg (hq ((30 : Int32), 772) (by simp))] at h
        rw [if_neg (hq ((31 : Int32), 789) (by simp))] at h
        refine wg_blk 2 (i' := 10) (L' := [some (.inr (.inl (38, 0))), some (.inr (.inl (0, 0))), some (.inr (.inl (21, 0))), some (.inl (x3 + (6 : Int32)))]) (st' := []) (M' := M) rfl ?_
        exact wg_wk (wk_s (wk_s (wk_s (wk_s wk_e)))) rfl (ih (x3 + (6 : Int32)) M _ h hk)
set_option maxRecDepth 20000 in
theorem s_L_law (xs : Nat → Int32) (xl : Nat) (M : wc_M) (z : Int32 × wc_M) (h : f_L_law xs xl M = some z) : wg 21 (xl + 1, xs) (some .boolean) wk_law 8 [some (.inr (.inl (38, 0))), some (.inr (.inl (0, 0))), some (.inr (.inl (21, 0))), none] [] M (fun r2 M2 => r2 = some z.1 ∧ M2 = z.2) := by
  unfold f_L_law at h
  refine wg_blk 2 (i' := 10) (L' := [some (.inr (.inl (38, 0))), some (.inr (.inl (0, 0))), some (.inr (.inl (21, 0))), some (.inl (0 : Int32))]) (st' := []) (M' := M) rfl ?_
  obtain ⟨o179, h178, h⟩ := wbs h
  refine wg_wk (wk_s (wk_s (wk_s (wk_s wk_e)))) rfl (l_L_law_10_ok xs xl 2000 (0 : Int32) M _ h178 ?_)
  rcases o179 with r180 | t177
  · dsimp only [wel] at h ⊢
    obtain rfl := Option.some.inj h
    exact ⟨rfl, rfl⟩
  · dsimp only [wel] at h ⊢
    refine wg_blk 1 (i' := 799) (L' := [none, none, none, none]) (st' := [.inl (1 : Int32)]) (M' := t177) rfl ?_
    obtain rfl := Option.some.inj h
    exact wg_re rfl (by decide) ⟨rfl, rfl⟩
