def wA_X12 : List m3C := [(0, 11, [(3, 0), (0, 0), (4, 0), (0, 0), (5, 0), (6, 0), (7, 0), (0, 0), (8, 0), (9, 0), (10, 0), (17, 0), (26, 0), (27, 0), (34, 0), (39, 0), (48, 0), (51, 0), (87, 0), (162, 0)]),
  (2, 80, []),
  (4, 16, []),
  (3, 20, []),
  (3, 20, []),
  (3, 20, []),
  (4, 61, []),
  (6, 4, [(167, 0), (172, 0), (177, 0), (182, 0)]),
  (0, 0, [(11, 0), (12, 0), (13, 0), (14, 0), (15, 0), (16, 0), (0, 0), (0, 0)]),
  (3, 20, []),
  (3, 20, []),
  (5, 20, []),
  (3, 20, []),
  (3, 20, []),
  (3, 20, []),
  (0, 6, [(18, 0), (19, 0), (20, 0), (21, 0), (22, 0), (23, 0), (24, 0), (25, 0), (0, 0)]),
  (3, 8, []),
  (3, 8, []),
  (5, 8, []),
  (3, 8, []),
  (3, 8, []),
  (5, 8, []),
  (5, 8, []),
  (5, 8, []),
  (0, 2, [(3, 0), (10, 0), (17, 0), (0, 0), (0, 0), (0, 0), (0, 0), (0, 0)]),
  (0, 7, [(3, 0), (28, 0), (0, 0), (0, 0), (29, 0), (0, 0), (30, 0), (0, 0), (31, 0), (0, 0), (0, 0), (0, 0), (0, 0), (32, 0), (33, 0)]),
  (3, 40, []),
  (3, 40, []),
  (3, 40, []),
  (5, 5, []),
  (3, 40, []),
  (3, 6, []),
  (0, 8, [(10, 0), (35, 0), (36, 0), (37, 0), (38, 0)]),
  (3, 20, []),
  (3, 12, []),
  (3, 12, []),
  (3, 12, []),
  (0, 1, [(40, 0), (41, 0), (42, 0), (43, 0), (44, 0), (45, 0), (0, 0), (0, 0), (46, 0), (47, 0), (0, 0)]),
  (3, 21, []),
  (3, 21, []),
  (5, 21, []),
  (3, 21, []),
  (3, 21, []),
  (3, 20, []),
  (3, 12, []),
  (3, 12, []),
  (0, 10, [(10, 0), (17, 0), (34, 0), (27, 0), (49, 0), (50, 0), (0, 1), (0, 0), (0, 0)]),
  (3, 20, []),
  (3, 20, []),
  (0, 4, [(10, 0), (17, 0), (48, 0), (52, 0), (53, 0), (54, 0), (55, 0), (0, 0), (0, 0), (0, 0), (0, 0), (0, 0), (0, 0), (56, 0), (0, 0)]),
  (6, 6, [(57, 0), (62, 0), (67, 0), (72, 0), (77, 0), (82, 0)]),
  (3, 6, []),
  (3, 6, []),
  (3, 6, []),
  (3, 6, []),
  (0, 3, [(58, 0), (59, 0), (60, 0), (61, 0), (0, 0), (0, 0), (0, 0), (0, 0)]),
  (3, 20, []),
  (3, 8, []),
  (5, 8, []),
  (5, 8, []),
  (0, 3, [(63, 0), (64, 0), (65, 0), (66, 0), (0, 0), (0, 0), (0, 0), (0, 0)]),
  (3, 20, []),
  (3, 8, []),
  (5, 8, []),
  (5, 8, []),
  (0, 3, [(68, 0), (69, 0), (70, 0), (71, 0), (0, 0), (0, 0), (0, 0), (0, 0)]),
  (3, 20, []),
  (3, 8, []),
  (5, 8, []),
  (5, 8, []),
  (0, 3, [(73, 0), (74, 0), (75, 0), (76, 0), (0, 0), (0, 0), (0, 0), (0, 0)]),
  (3, 20, []),
  (3, 8, []),
  (5, 8, []),
  (5, 8, []),
  (0, 3, [(78, 0), (79, 0), (80, 0), (81, 0), (0, 0), (0, 0), (0, 0), (0, 0)]),
  (3, 20, []),
  (3, 8, []),
  (5, 8, []),
  (5, 8, []),
  (0, 3, [(83, 0), (84, 0), (85, 0), (86, 0), (0, 0), (0, 0), (0, 0), (0, 0)]),
  (3, 20, []),
  (3, 8, []),
  (5, 8, []),
  (5, 8, []),
  (0, 9, [(34, 0), (88, 0), (89, 0), (96, 0), (161, 0), (0, 0)]),
  (3, 6, []),
  (7, 6, [(90, 0), (91, 0), (92, 0), (93, 0), (94, 0), (95, 0)]),
  (3, 12, []),
  (3, 12, []),
  (3, 12, []),
  (3, 12, []),
  (3, 12, []),
  (3, 12, []),
  (7, 64, [(97, 0), (98, 0), (99, 0), (100, 0), (101, 0), (102, 0), (103, 0), (104, 0), (105, 0), (106, 0), (107, 0), (108, 0), (109, 0), (110, 0), (111, 0), (112, 0), (113, 0), (114, 0), (115, 0), (116, 0), (117, 0), (118, 0), (119, 0), (120, 0), (121, 0), (122, 0), (123, 0), (124, 0), (125, 0), (126, 0), (127, 0), (128, 0), (129, 0), (130, 0), (131, 0), (132, 0), (133, 0), (134, 0), (135, 0), (136, 0), (137, 0), (138, 0), (139, 0), (140, 0), (141, 0), (142, 0), (143, 0), (144, 0), (145, 0), (146, 0), (147, 0), (148, 0), (149, 0), (150, 0), (151, 0), (152, 0), (153, 0), (154, 0), (155, 0), (156, 0), (157, 0), (158, 0), (159, 0), (160, 0)]),
  (3, 6, []),
  (3, 6, []),
  (3, 6, []),
  (3, 6, []),
  (3, 6, []),
  (3, 6, []),
  (3, 6, []),
  (3, 6, []),
  (3, 6, []),
  (3, 6, []),
  (3, 6, []),
  (3, 6, []),
  (3, 6, []),
  (3, 6, []),
  (3, 6, []),
  (3, 6, []),
  (3, 6, []),
  (3, 6, []),
  (3, 6, []),
  (3, 6, []),
  (3, 6, []),
  (3, 6, []),
  (3, 6, []),
  (3, 6, []),
  (3, 6, []),
  (3, 6, []),
  (3, 6, []),
  (3, 6, []),
  (3, 6, []),
  (3, 6, []),
  (3, 6, []),
  (3, 6, []),
  (3, 6, []),
  (3, 6, []),
  (3, 6, []),
  (3, 6, []),
  (3, 6, []),
  (3, 6, []),
  (3, 6, []),
  (3, 6, []),
  (3, 6, []),
  (3, 6, []),
  (3, 6, []),
  (3, 6, []),
  (3, 6, []),
  (3, 6, []),
  (3, 6, []),
  (3, 6, []),
  (3, 6, []),
  (3, 6, []),
  (3, 6, []),
  (3, 6, []),
  (3, 6, []),
  (3, 6, []),
  (3, 6, []),
  (3, 6, []),
  (3, 6, []),
  (3, 6, []),
  (3, 6, []),
  (3, 6, []),
  (3, 6, []),
  (3, 6, []),
  (3, 6, []),
  (3, 6, []),
  (3, 6, []),
  (0, 5, [(10, 0), (34, 0), (163, 0), (164, 0), (165, 0), (0, 0), (166, 0), (0, 0), (0, 0), (0, 0), (0, 0), (0, 0), (0, 0), (0, 0)]),
  (3, 12, []),
  (3, 5, []),
  (3, 5, []),
  (3, 5, []),
  (0, 3, [(168, 0), (169, 0), (170, 0), (171, 0), (0, 0), (0, 0), (0, 0), (0, 0)]),
  (3, 20, []),
  (3, 8, []),
  (5, 8, []),
  (5, 8, []),
  (0, 3, [(173, 0), (174, 0), (175, 0), (176, 0), (0, 0), (0, 0), (0, 0), (0, 0)]),
  (3, 20, []),
  (3, 8, []),
  (5, 8, []),
  (5, 8, []),
  (0, 3, [(178, 0), (179, 0), (180, 0), (181, 0), (0, 0), (0, 0), (0, 0), (0, 0)]),
  (3, 20, []),
  (3, 8, []),
  (5, 8, []),
  (5, 8, []),
  (0, 3, [(183, 0), (184, 0), (185, 0), (186, 0), (0, 0), (0, 0), (0, 0), (0, 0)]),
  (3, 20, []),
  (3, 8, []),
  (5, 8, []),
  (5, 8, []),
  (0, 12, [(0, 0), (1, 0), (1, 0), (1, 0), (1, 0), (1, 0), (1, 0), (0, 0), (1, 0), (1, 0), (1, 0), (1, 0), (1, 0), (1, 0), (1, 0), (1, 0), (0, 0), (0, 0), (1, 0), (0, 0), (1, 0), (0, 0), (0, 0), (1, 0), (0, 0), (0, 0), (0, 0), (0, 0), (1, 0), (0, 0), (0, 0), (0, 0), (1, 0), (1, 0), (1, 0), (1, 0), (1, 0), (0, 0), (1, 0), (1, 0), (1, 0), (1, 0), (0, 0), (0, 0), (0, 0), (0, 0), (1, 0), (1, 0), (0, 0), (0, 0), (1, 0), (1, 0), (0, 0), (1, 0), (1, 0), (1, 0), (1, 0), (0, 0), (0, 0), (0, 0), (0, 0), (0, 0), (0, 0), (1, 0), (0, 0), (1, 0), (1, 0), (1, 0), (1, 0), (1, 0), (1, 0)])]
def wB_X12 : List m3C := [(0, 11, [(3, 0), (0, 0), (4, 0), (0, 0), (5, 0), (6, 0), (7, 0), (0, 0), (8, 0), (9, 0), (10, 0), (17, 0), (26, 0), (27, 0), (34, 0), (39, 0), (48, 0), (51, 0), (87, 0), (162, 0)]),
  (2, 80, []),
  (4, 16, []),
  (3, 20, []),
  (3, 20, []),
  (3, 20, []),
  (4, 61, []),
  (6, 4, [(167, 0), (172, 0), (177, 0), (182, 0)]),
  (0, 0, [(11, 0), (12, 0), (13, 0), (14, 0), (15, 0), (16, 0), (0, 0), (0, 0)]),
  (3, 20, []),
  (3, 20, []),
  (5, 20, []),
  (3, 20, []),
  (3, 20, []),
  (3, 20, []),
  (0, 6, [(18, 0), (19, 0), (20, 0), (21, 0), (22, 0), (23, 0), (24, 0), (25, 0), (0, 0)]),
  (3, 8, []),
  (3, 8, []),
  (5, 8, []),
  (3, 8, []),
  (3, 8, []),
  (5, 8, []),
  (5, 8, []),
  (5, 8, []),
  (0, 2, [(3, 0), (10, 0), (17, 0), (0, 0), (0, 0), (0, 0), (0, 0), (0, 0)]),
  (0, 7, [(3, 0), (28, 0), (0, 0), (0, 0), (29, 0), (0, 0), (30, 0), (0, 0), (31, 0), (0, 0), (0, 0), (0, 0), (0, 0), (32, 0), (33, 0)]),
  (3, 40, []),
  (3, 40, []),
  (3, 40, []),
  (5, 5, []),
  (3, 40, []),
  (3, 6, []),
  (0, 8, [(10, 0), (35, 0), (36, 0), (37, 0), (38, 0)]),
  (3, 20, []),
  (3, 12, []),
  (3, 12, []),
  (3, 12, []),
  (0, 1, [(40, 0), (41, 0), (42, 0), (43, 0), (44, 0), (45, 0), (0, 0), (0, 0), (46, 0), (47, 0), (0, 0)]),
  (3, 21, []),
  (3, 21, []),
  (5, 21, []),
  (3, 21, []),
  (3, 21, []),
  (3, 20, []),
  (3, 12, []),
  (3, 12, []),
  (0, 10, [(10, 0), (17, 0), (34, 0), (27, 0), (49, 0), (50, 0), (0, 1), (0, 0), (0, 0)]),
  (3, 20, []),
  (3, 20, []),
  (0, 4, [(10, 0), (17, 0), (48, 0), (52, 0), (53, 0), (54, 0), (55, 0), (0, 0), (0, 0), (0, 0), (0, 0), (0, 0), (0, 0), (56, 0), (0, 0)]),
  (6, 6, [(57, 0), (62, 0), (67, 0), (72, 0), (77, 0), (82, 0)]),
  (3, 6, []),
  (3, 6, []),
  (3, 6, []),
  (3, 6, []),
  (0, 3, [(58, 0), (59, 0), (60, 0), (61, 0), (0, 0), (0, 0), (0, 0), (0, 0)]),
  (3, 20, []),
  (3, 8, []),
  (5, 8, []),
  (5, 8, []),
  (0, 3, [(63, 0), (64, 0), (65, 0), (66, 0), (0, 0), (0, 0), (0, 0), (0, 0)]),
  (3, 20, []),
  (3, 8, []),
  (5, 8, []),
  (5, 8, []),
  (0, 3, [(68, 0), (69, 0), (70, 0), (71, 0), (0, 0), (0, 0), (0, 0), (0, 0)]),
  (3, 20, []),
  (3, 8, []),
  (5, 8, []),
  (5, 8, []),
  (0, 3, [(73, 0), (74, 0), (75, 0), (76, 0), (0, 0), (0, 0), (0, 0), (0, 0)]),
  (3, 20, []),
  (3, 8, []),
  (5, 8, []),
  (5, 8, []),
  (0, 3, [(78, 0), (79, 0), (80, 0), (81, 0), (0, 0), (0, 0), (0, 0), (0, 0)]),
  (3, 20, []),
  (3, 8, []),
  (5, 8, []),
  (5, 8, []),
  (0, 3, [(83, 0), (84, 0), (85, 0), (86, 0), (0, 0), (0, 0), (0, 0), (0, 0)]),
  (3, 20, []),
  (3, 8, []),
  (5, 8, []),
  (5, 8, []),
  (0, 9, [(34, 0), (88, 0), (89, 0), (96, 0), (161, 0), (0, 0)]),
  (3, 6, []),
  (7, 6, [(90, 0), (91, 0), (92, 0), (93, 0), (94, 0), (95, 0)]),
  (3, 12, []),
  (3, 12, []),
  (3, 12, []),
  (3, 12, []),
  (3, 12, []),
  (3, 12, []),
  (7, 64, [(97, 0), (98, 0), (99, 0), (100, 0), (101, 0), (102, 0), (103, 0), (104, 0), (105, 0), (106, 0), (107, 0), (108, 0), (109, 0), (110, 0), (111, 0), (112, 0), (113, 0), (114, 0), (115, 0), (116, 0), (117, 0), (118, 0), (119, 0), (120, 0), (121, 0), (122, 0), (123, 0), (124, 0), (125, 0), (126, 0), (127, 0), (128, 0), (129, 0), (130, 0), (131, 0), (132, 0), (133, 0), (134, 0), (135, 0), (136, 0), (137, 0), (138, 0), (139, 0), (140, 0), (141, 0), (142, 0), (143, 0), (144, 0), (145, 0), (146, 0), (147, 0), (148, 0), (149, 0), (150, 0), (151, 0), (152, 0), (153, 0), (154, 0), (155, 0), (156, 0), (157, 0), (158, 0), (159, 0), (160, 0)]),
  (3, 6, []),
  (3, 6, []),
  (3, 6, []),
  (3, 6, []),
  (3, 6, []),
  (3, 6, []),
  (3, 6, []),
  (3, 6, []),
  (3, 6, []),
  (3, 6, []),
  (3, 6, []),
  (3, 6, []),
  (3, 6, []),
  (3, 6, []),
  (3, 6, []),
  (3, 6, []),
  (3, 6, []),
  (3, 6, []),
  (3, 6, []),
  (3, 6, []),
  (3, 6, []),
  (3, 6, []),
  (3, 6, []),
  (3, 6, []),
  (3, 6, []),
  (3, 6, []),
  (3, 6, []),
  (3, 6, []),
  (3, 6, []),
  (3, 6, []),
  (3, 6, []),
  (3, 6, []),
  (3, 6, []),
  (3, 6, []),
  (3, 6, []),
  (3, 6, []),
  (3, 6, []),
  (3, 6, []),
  (3, 6, []),
  (3, 6, []),
  (3, 6, []),
  (3, 6, []),
  (3, 6, []),
  (3, 6, []),
  (3, 6, []),
  (3, 6, []),
  (3, 6, []),
  (3, 6, []),
  (3, 6, []),
  (3, 6, []),
  (3, 6, []),
  (3, 6, []),
  (3, 6, []),
  (3, 6, []),
  (3, 6, []),
  (3, 6, []),
  (3, 6, []),
  (3, 6, []),
  (3, 6, []),
  (3, 6, []),
  (3, 6, []),
  (3, 6, []),
  (3, 6, []),
  (3, 6, []),
  (3, 6, []),
  (0, 5, [(10, 0), (34, 0), (163, 0), (164, 0), (165, 0), (0, 0), (166, 0), (0, 0), (0, 0), (0, 0), (0, 0), (0, 0), (0, 0), (0, 0)]),
  (3, 12, []),
  (3, 5, []),
  (3, 5, []),
  (3, 5, []),
  (0, 3, [(168, 0), (169, 0), (170, 0), (171, 0), (0, 0), (0, 0), (0, 0), (0, 0)]),
  (3, 20, []),
  (3, 8, []),
  (5, 8, []),
  (5, 8, []),
  (0, 3, [(173, 0), (174, 0), (175, 0), (176, 0), (0, 0), (0, 0), (0, 0), (0, 0)]),
  (3, 20, []),
  (3, 8, []),
  (5, 8, []),
  (5, 8, []),
  (0, 3, [(178, 0), (179, 0), (180, 0), (181, 0), (0, 0), (0, 0), (0, 0), (0, 0)]),
  (3, 20, []),
  (3, 8, []),
  (5, 8, []),
  (5, 8, []),
  (0, 3, [(183, 0), (184, 0), (185, 0), (186, 0), (0, 0), (0, 0), (0, 0), (0, 0)]),
  (3, 20, []),
  (3, 8, []),
  (5, 8, []),
  (5, 8, []),
  (0, 12, [(0, 0), (188, 0), (189, 0), (190, 0), (191, 0), (192, 0), (193, 0), (0, 0), (194, 0), (195, 0), (196, 0), (197, 0), (198, 0), (199, 0), (200, 0), (201, 0), (0, 0), (0, 1), (202, 0), (0, 0), (203, 0), (0, 0), (0, 0), (1, 0), (0, 0), (0, 0), (0, 0), (0, 0), (204, 0), (0, 0), (0, -1), (0, 0), (205, 0), (206, 0), (207, 0), (208, 0), (209, 0), (0, 0), (210, 0), (211, 0), (212, 0), (213, 0), (0, 0), (0, 0), (0, 0), (0, 0), (214, 0), (215, 0), (0, 0), (0, 0), (216, 0), (217, 0), (0, 0), (218, 0), (219, 0), (220, 0), (221, 0), (0, 0), (0, 0), (0, 0), (0, 0), (0, 0), (0, 0), (222, 0), (0, 0), (223, 0), (224, 0), (225, 0), (226, 0), (227, 0), (228, 0)]),
  (3, 20, []),
  (3, 20, []),
  (5, 20, []),
  (3, 20, []),
  (3, 20, []),
  (3, 20, []),
  (3, 8, []),
  (3, 8, []),
  (5, 8, []),
  (3, 8, []),
  (3, 8, []),
  (5, 8, []),
  (5, 8, []),
  (5, 8, []),
  (1, 80, []),
  (4, 40, []),
  (1, 40, []),
  (3, 20, []),
  (3, 20, []),
  (3, 20, []),
  (4, 12, []),
  (3, 12, []),
  (3, 196, []),
  (3, 14, []),
  (3, 14, []),
  (3, 180, []),
  (3, 6, []),
  (3, 6, []),
  (3, 6, []),
  (3, 6, []),
  (3, 5, []),
  (3, 5, []),
  (3, 12, []),
  (3, 20, []),
  (4, 671, []),
  (3, 20, []),
  (3, 20, []),
  (3, 20, []),
  (5, 3, []),
  (3, 3, []),
  (3, 3, [])]
theorem dX12_init_0 : decode cX12_init 0 = .ok (.aload_n 0, 1) := by decide +kernel
theorem dX12_init_1 : decode cX12_init 1 = .ok (.invokespecial 3, 3) := by decide +kernel
theorem dX12_init_4 : decode cX12_init 4 = .ok (.aload_n 0, 1) := by decide +kernel
theorem dX12_init_5 : decode cX12_init 5 = .ok (.bipush 20, 2) := by decide +kernel
theorem dX12_init_7 : decode cX12_init 7 = .ok (.newarray .int, 2) := by decide +kernel
theorem dX12_init_9 : decode cX12_init 9 = .ok (.putfield 9, 3) := by decide +kernel
theorem dX12_init_12 : decode cX12_init 12 = .ok (.aload_n 0, 1) := by decide +kernel
theorem dX12_init_13 : decode cX12_init 13 = .ok (.bipush 20, 2) := by decide +kernel
theorem dX12_init_15 : decode cX12_init 15 = .ok (.newarray .int, 2) := by decide +kernel
theorem dX12_init_17 : decode cX12_init 17 = .ok (.putfield 13, 3) := by decide +kernel
theorem dX12_init_20 : decode cX12_init 20 = .ok (.aload_n 0, 1) := by decide +kernel
theorem dX12_init_21 : decode cX12_init 21 = .ok (.bipush 20, 2) := by decide +kernel
theorem dX12_init_23 : decode cX12_init 23 = .ok (.newarray .boolean, 2) := by decide +kernel
theorem dX12_init_25 : decode cX12_init 25 = .ok (.putfield 16, 3) := by decide +kernel
theorem dX12_init_28 : decode cX12_init 28 = .ok (.aload_n 0, 1) := by decide +kernel
theorem dX12_init_29 : decode cX12_init 29 = .ok (.bipush 20, 2) := by decide +kernel
theorem dX12_init_31 : decode cX12_init 31 = .ok (.newarray .int, 2) := by decide +kernel
theorem dX12_init_33 : decode cX12_init 33 = .ok (.putfield 20, 3) := by decide +kernel
theorem dX12_init_36 : decode cX12_init 36 = .ok (.aload_n 0, 1) := by decide +kernel
theorem dX12_init_37 : decode cX12_init 37 = .ok (.bipush 20, 2) := by decide +kernel
theorem dX12_init_39 : decode cX12_init 39 = .ok (.newarray .int, 2) := by decide +kernel
theorem dX12_init_41 : decode cX12_init 41 = .ok (.putfield 23, 3) := by decide +kernel
theorem dX12_init_44 : decode cX12_init 44 = .ok (.aload_n 0, 1) := by decide +kernel
theorem dX12_init_45 : decode cX12_init 45 = .ok (.bipush 20, 2) := by decide +kernel
theorem dX12_init_47 : decode cX12_init 47 = .ok (.newarray .int, 2) := by decide +kernel
theorem dX12_init_49 : decode cX12_init 49 = .ok (.putfield 26, 3) := by decide +kernel
theorem dX12_init_52 : decode cX12_init 52 = .ok (.aload_n 0, 1) := by decide +kernel
theorem dX12_init_53 : decode cX12_init 53 = .ok (.bipush 8, 2) := by decide +kernel
theorem dX12_init_55 : decode cX12_init 55 = .ok (.newarray .int, 2) := by decide +kernel
theorem dX12_init_57 : decode cX12_init 57 = .ok (.putfield 29, 3) := by decide +kernel
theorem dX12_init_60 : decode cX12_init 60 = .ok (.aload_n 0, 1) := by decide +kernel
theorem dX12_init_61 : decode cX12_init 61 = .ok (.bipush 8, 2) := by decide +kernel
theorem dX12_init_63 : decode cX12_init 63 = .ok (.newarray .int, 2) := by decide +kernel
theorem dX12_init_65 : decode cX12_init 65 = .ok (.putfield 32, 3) := by decide +kernel
theorem dX12_init_68 : decode cX12_init 68 = .ok (.aload_n 0, 1) := by decide +kernel
theorem dX12_init_69 : decode cX12_init 69 = .ok (.bipush 8, 2) := by decide +kernel
theorem dX12_init_71 : decode cX12_init 71 = .ok (.newarray .boolean, 2) := by decide +kernel
theorem dX12_init_73 : decode cX12_init 73 = .ok (.putfield 35, 3) := by decide +kernel
theorem dX12_init_76 : decode cX12_init 76 = .ok (.aload_n 0, 1) := by decide +kernel
theorem dX12_init_77 : decode cX12_init 77 = .ok (.bipush 8, 2) := by decide +kernel
theorem dX12_init_79 : decode cX12_init 79 = .ok (.newarray .int, 2) := by decide +kernel
theorem dX12_init_81 : decode cX12_init 81 = .ok (.putfield 38, 3) := by decide +kernel
theorem dX12_init_84 : decode cX12_init 84 = .ok (.aload_n 0, 1) := by decide +kernel
theorem dX12_init_85 : decode cX12_init 85 = .ok (.bipush 8, 2) := by decide +kernel
theorem dX12_init_87 : decode cX12_init 87 = .ok (.newarray .int, 2) := by decide +kernel
theorem dX12_init_89 : decode cX12_init 89 = .ok (.putfield 41, 3) := by decide +kernel
theorem dX12_init_92 : decode cX12_init 92 = .ok (.aload_n 0, 1) := by decide +kernel
theorem dX12_init_93 : decode cX12_init 93 = .ok (.bipush 8, 2) := by decide +kernel
theorem dX12_init_95 : decode cX12_init 95 = .ok (.newarray .boolean, 2) := by decide +kernel
theorem dX12_init_97 : decode cX12_init 97 = .ok (.putfield 44, 3) := by decide +kernel
theorem dX12_init_100 : decode cX12_init 100 = .ok (.aload_n 0, 1) := by decide +kernel
theorem dX12_init_101 : decode cX12_init 101 = .ok (.bipush 8, 2) := by decide +kernel
theorem dX12_init_103 : decode cX12_init 103 = .ok (.newarray .boolean, 2) := by decide +kernel
theorem dX12_init_105 : decode cX12_init 105 = .ok (.putfield 47, 3) := by decide +kernel
theorem dX12_init_108 : decode cX12_init 108 = .ok (.aload_n 0, 1) := by decide +kernel
theorem dX12_init_109 : decode cX12_init 109 = .ok (.bipush 8, 2) := by decide +kernel
theorem dX12_init_111 : decode cX12_init 111 = .ok (.newarray .boolean, 2) := by decide +kernel
theorem dX12_init_113 : decode cX12_init 113 = .ok (.putfield 50, 3) := by decide +kernel
theorem dX12_init_116 : decode cX12_init 116 = .ok (.aload_n 0, 1) := by decide +kernel
theorem dX12_init_117 : decode cX12_init 117 = .ok (.iconst 1, 1) := by decide +kernel
theorem dX12_init_118 : decode cX12_init 118 = .ok (.putfield 53, 3) := by decide +kernel
theorem dX12_init_121 : decode cX12_init 121 = .ok (.aload_n 0, 1) := by decide +kernel
theorem dX12_init_122 : decode cX12_init 122 = .ok (.bipush 80, 2) := by decide +kernel
theorem dX12_init_124 : decode cX12_init 124 = .ok (.newarray .byte, 2) := by decide +kernel
theorem dX12_init_126 : decode cX12_init 126 = .ok (.putfield 57, 3) := by decide +kernel
theorem dX12_init_129 : decode cX12_init 129 = .ok (.aload_n 0, 1) := by decide +kernel
theorem dX12_init_130 : decode cX12_init 130 = .ok (.bipush 40, 2) := by decide +kernel
theorem dX12_init_132 : decode cX12_init 132 = .ok (.newarray .long, 2) := by decide +kernel
theorem dX12_init_134 : decode cX12_init 134 = .ok (.putfield 61, 3) := by decide +kernel
theorem dX12_init_137 : decode cX12_init 137 = .ok (.aload_n 0, 1) := by decide +kernel
theorem dX12_init_138 : decode cX12_init 138 = .ok (.bipush 40, 2) := by decide +kernel
theorem dX12_init_140 : decode cX12_init 140 = .ok (.newarray .byte, 2) := by decide +kernel
theorem dX12_init_142 : decode cX12_init 142 = .ok (.putfield 65, 3) := by decide +kernel
theorem dX12_init_145 : decode cX12_init 145 = .ok (.aload_n 0, 1) := by decide +kernel
theorem dX12_init_146 : decode cX12_init 146 = .ok (.iconst (-1), 1) := by decide +kernel
theorem dX12_init_147 : decode cX12_init 147 = .ok (.putfield 68, 3) := by decide +kernel
theorem dX12_init_150 : decode cX12_init 150 = .ok (.aload_n 0, 1) := by decide +kernel
theorem dX12_init_151 : decode cX12_init 151 = .ok (.bipush 20, 2) := by decide +kernel
theorem dX12_init_153 : decode cX12_init 153 = .ok (.newarray .int, 2) := by decide +kernel
theorem dX12_init_155 : decode cX12_init 155 = .ok (.putfield 71, 3) := by decide +kernel
theorem dX12_init_158 : decode cX12_init 158 = .ok (.aload_n 0, 1) := by decide +kernel
theorem dX12_init_159 : decode cX12_init 159 = .ok (.bipush 20, 2) := by decide +kernel
theorem dX12_init_161 : decode cX12_init 161 = .ok (.newarray .int, 2) := by decide +kernel
theorem dX12_init_163 : decode cX12_init 163 = .ok (.putfield 74, 3) := by decide +kernel
theorem dX12_init_166 : decode cX12_init 166 = .ok (.aload_n 0, 1) := by decide +kernel
theorem dX12_init_167 : decode cX12_init 167 = .ok (.bipush 20, 2) := by decide +kernel
theorem dX12_init_169 : decode cX12_init 169 = .ok (.newarray .int, 2) := by decide +kernel
theorem dX12_init_171 : decode cX12_init 171 = .ok (.putfield 77, 3) := by decide +kernel
theorem dX12_init_174 : decode cX12_init 174 = .ok (.aload_n 0, 1) := by decide +kernel
theorem dX12_init_175 : decode cX12_init 175 = .ok (.bipush 12, 2) := by decide +kernel
theorem dX12_init_177 : decode cX12_init 177 = .ok (.newarray .long, 2) := by decide +kernel
theorem dX12_init_179 : decode cX12_init 179 = .ok (.putfield 80, 3) := by decide +kernel
theorem dX12_init_182 : decode cX12_init 182 = .ok (.aload_n 0, 1) := by decide +kernel
theorem dX12_init_183 : decode cX12_init 183 = .ok (.bipush 12, 2) := by decide +kernel
theorem dX12_init_185 : decode cX12_init 185 = .ok (.newarray .int, 2) := by decide +kernel
theorem dX12_init_187 : decode cX12_init 187 = .ok (.putfield 83, 3) := by decide +kernel
theorem dX12_init_190 : decode cX12_init 190 = .ok (.aload_n 0, 1) := by decide +kernel
theorem dX12_init_191 : decode cX12_init 191 = .ok (.sipush 196, 3) := by decide +kernel
theorem dX12_init_194 : decode cX12_init 194 = .ok (.newarray .int, 2) := by decide +kernel
theorem dX12_init_196 : decode cX12_init 196 = .ok (.putfield 86, 3) := by decide +kernel
theorem dX12_init_199 : decode cX12_init 199 = .ok (.aload_n 0, 1) := by decide +kernel
theorem dX12_init_200 : decode cX12_init 200 = .ok (.bipush 14, 2) := by decide +kernel
theorem dX12_init_202 : decode cX12_init 202 = .ok (.newarray .int, 2) := by decide +kernel
theorem dX12_init_204 : decode cX12_init 204 = .ok (.putfield 89, 3) := by decide +kernel
theorem dX12_init_207 : decode cX12_init 207 = .ok (.aload_n 0, 1) := by decide +kernel
theorem dX12_init_208 : decode cX12_init 208 = .ok (.bipush 14, 2) := by decide +kernel
theorem dX12_init_210 : decode cX12_init 210 = .ok (.newarray .int, 2) := by decide +kernel
theorem dX12_init_212 : decode cX12_init 212 = .ok (.putfield 92, 3) := by decide +kernel
theorem dX12_init_215 : decode cX12_init 215 = .ok (.aload_n 0, 1) := by decide +kernel
theorem dX12_init_216 : decode cX12_init 216 = .ok (.sipush 180, 3) := by decide +kernel
theorem dX12_init_219 : decode cX12_init 219 = .ok (.newarray .int, 2) := by decide +kernel
theorem dX12_init_221 : decode cX12_init 221 = .ok (.putfield 95, 3) := by decide +kernel
theorem dX12_init_224 : decode cX12_init 224 = .ok (.aload_n 0, 1) := by decide +kernel
theorem dX12_init_225 : decode cX12_init 225 = .ok (.bipush 6, 2) := by decide +kernel
theorem dX12_init_227 : decode cX12_init 227 = .ok (.newarray .int, 2) := by decide +kernel
theorem dX12_init_229 : decode cX12_init 229 = .ok (.putfield 98, 3) := by decide +kernel
theorem dX12_init_232 : decode cX12_init 232 = .ok (.aload_n 0, 1) := by decide +kernel
theorem dX12_init_233 : decode cX12_init 233 = .ok (.bipush 6, 2) := by decide +kernel
theorem dX12_init_235 : decode cX12_init 235 = .ok (.newarray .int, 2) := by decide +kernel
theorem dX12_init_237 : decode cX12_init 237 = .ok (.putfield 101, 3) := by decide +kernel
theorem dX12_init_240 : decode cX12_init 240 = .ok (.aload_n 0, 1) := by decide +kernel
theorem dX12_init_241 : decode cX12_init 241 = .ok (.bipush 6, 2) := by decide +kernel
theorem dX12_init_243 : decode cX12_init 243 = .ok (.newarray .int, 2) := by decide +kernel
theorem dX12_init_245 : decode cX12_init 245 = .ok (.putfield 104, 3) := by decide +kernel
theorem dX12_init_248 : decode cX12_init 248 = .ok (.aload_n 0, 1) := by decide +kernel
theorem dX12_init_249 : decode cX12_init 249 = .ok (.bipush 6, 2) := by decide +kernel
theorem dX12_init_251 : decode cX12_init 251 = .ok (.newarray .int, 2) := by decide +kernel
theorem dX12_init_253 : decode cX12_init 253 = .ok (.putfield 107, 3) := by decide +kernel
theorem dX12_init_256 : decode cX12_init 256 = .ok (.aload_n 0, 1) := by decide +kernel
theorem dX12_init_257 : decode cX12_init 257 = .ok (.iconst 5, 1) := by decide +kernel
theorem dX12_init_258 : decode cX12_init 258 = .ok (.newarray .int, 2) := by decide +kernel
theorem dX12_init_260 : decode cX12_init 260 = .ok (.putfield 110, 3) := by decide +kernel
theorem dX12_init_263 : decode cX12_init 263 = .ok (.aload_n 0, 1) := by decide +kernel
theorem dX12_init_264 : decode cX12_init 264 = .ok (.iconst 5, 1) := by decide +kernel
theorem dX12_init_265 : decode cX12_init 265 = .ok (.newarray .int, 2) := by decide +kernel
theorem dX12_init_267 : decode cX12_init 267 = .ok (.putfield 113, 3) := by decide +kernel
theorem dX12_init_270 : decode cX12_init 270 = .ok (.aload_n 0, 1) := by decide +kernel
theorem dX12_init_271 : decode cX12_init 271 = .ok (.bipush 12, 2) := by decide +kernel
theorem dX12_init_273 : decode cX12_init 273 = .ok (.newarray .int, 2) := by decide +kernel
theorem dX12_init_275 : decode cX12_init 275 = .ok (.putfield 116, 3) := by decide +kernel
theorem dX12_init_278 : decode cX12_init 278 = .ok (.aload_n 0, 1) := by decide +kernel
theorem dX12_init_279 : decode cX12_init 279 = .ok (.bipush 20, 2) := by decide +kernel
theorem dX12_init_281 : decode cX12_init 281 = .ok (.newarray .int, 2) := by decide +kernel
theorem dX12_init_283 : decode cX12_init 283 = .ok (.putfield 119, 3) := by decide +kernel
theorem dX12_init_286 : decode cX12_init 286 = .ok (.aload_n 0, 1) := by decide +kernel
theorem dX12_init_287 : decode cX12_init 287 = .ok (.sipush 671, 3) := by decide +kernel
theorem dX12_init_290 : decode cX12_init 290 = .ok (.newarray .long, 2) := by decide +kernel
theorem dX12_init_292 : decode cX12_init 292 = .ok (.putfield 122, 3) := by decide +kernel
theorem dX12_init_295 : decode cX12_init 295 = .ok (.aload_n 0, 1) := by decide +kernel
theorem dX12_init_296 : decode cX12_init 296 = .ok (.bipush 20, 2) := by decide +kernel
theorem dX12_init_298 : decode cX12_init 298 = .ok (.newarray .int, 2) := by decide +kernel
theorem dX12_init_300 : decode cX12_init 300 = .ok (.putfield 125, 3) := by decide +kernel
theorem dX12_init_303 : decode cX12_init 303 = .ok (.aload_n 0, 1) := by decide +kernel
theorem dX12_init_304 : decode cX12_init 304 = .ok (.bipush 20, 2) := by decide +kernel
theorem dX12_init_306 : decode cX12_init 306 = .ok (.newarray .int, 2) := by decide +kernel
theorem dX12_init_308 : decode cX12_init 308 = .ok (.putfield 128, 3) := by decide +kernel
theorem dX12_init_311 : decode cX12_init 311 = .ok (.aload_n 0, 1) := by decide +kernel
theorem dX12_init_312 : decode cX12_init 312 = .ok (.bipush 20, 2) := by decide +kernel
theorem dX12_init_314 : decode cX12_init 314 = .ok (.newarray .int, 2) := by decide +kernel
theorem dX12_init_316 : decode cX12_init 316 = .ok (.putfield 131, 3) := by decide +kernel
theorem dX12_init_319 : decode cX12_init 319 = .ok (.aload_n 0, 1) := by decide +kernel
theorem dX12_init_320 : decode cX12_init 320 = .ok (.iconst 3, 1) := by decide +kernel
theorem dX12_init_321 : decode cX12_init 321 = .ok (.newarray .boolean, 2) := by decide +kernel
theorem dX12_init_323 : decode cX12_init 323 = .ok (.putfield 134, 3) := by decide +kernel
theorem dX12_init_326 : decode cX12_init 326 = .ok (.aload_n 0, 1) := by decide +kernel
theorem dX12_init_327 : decode cX12_init 327 = .ok (.iconst 3, 1) := by decide +kernel
theorem dX12_init_328 : decode cX12_init 328 = .ok (.newarray .int, 2) := by decide +kernel
theorem dX12_init_330 : decode cX12_init 330 = .ok (.putfield 137, 3) := by decide +kernel
theorem dX12_init_333 : decode cX12_init 333 = .ok (.aload_n 0, 1) := by decide +kernel
theorem dX12_init_334 : decode cX12_init 334 = .ok (.iconst 3, 1) := by decide +kernel
theorem dX12_init_335 : decode cX12_init 335 = .ok (.newarray .int, 2) := by decide +kernel
theorem dX12_init_337 : decode cX12_init 337 = .ok (.putfield 140, 3) := by decide +kernel
theorem dX12_init_340 : decode cX12_init 340 = .ok (.return_, 1) := by decide +kernel
set_option maxRecDepth 100000 in
set_option maxHeartbeats 4000000 in
theorem K_X12 {d : Nat} : m3_MT (d + 1) yX12_init cX12_init 1 [.ref 185] wA_X12 wB_X12 := by
  refine m3_MT.intro (ls := [.ref 185]) (by decide) rfl rfl (by decide) (fun κ h => ?_)
  have hB := h.b
  refine m3_aload_n hB dX12_init_0 rfl ?_
  refine m3_objInit hB ol_X12_3 oi_obj oc_obj (by decide) dX12_init_1 ?_
  refine m3_aload_n hB dX12_init_4 rfl ?_
  refine m3_bipush hB dX12_init_5 (v := 20) (by decide) ?_
  refine m3_newI hB (N := 20) (c1 := 186) (by decide +kernel) (by decide) dX12_init_7 ?_
  refine m3_putF hB (c0 := 185) (vs := [(0, 0), (1, 0), (1, 0), (1, 0), (1, 0), (1, 0), (1, 0), (0, 0), (1, 0), (1, 0), (1, 0), (1, 0), (1, 0), (1, 0), (1, 0), (1, 0), (0, 0), (0, 0), (1, 0), (0, 0), (1, 0), (0, 0), (0, 0), (1, 0), (0, 0), (0, 0), (0, 0), (0, 0), (1, 0), (0, 0), (0, 0), (0, 0), (1, 0), (1, 0), (1, 0), (1, 0), (1, 0), (0, 0), (1, 0), (1, 0), (1, 0), (1, 0), (0, 0), (0, 0), (0, 0), (0, 0), (1, 0), (1, 0), (0, 0), (0, 0), (1, 0), (1, 0), (0, 0), (1, 0), (1, 0), (1, 0), (1, 0), (0, 0), (0, 0), (0, 0), (0, 0), (0, 0), (0, 0), (1, 0), (0, 0), (1, 0), (1, 0), (1, 0), (1, 0), (1, 0), (1, 0)]) dX12_init_9 fl_X12_9 (fun _ _ _ h => by cases h; rfl) (fun _ => ⟨rfl, rfl⟩) (by decide +kernel) (by decide +kernel) (by decide +kernel) ?_
  refine m3_aload_n hB dX12_init_12 rfl ?_
  refine m3_bipush hB dX12_init_13 (v := 20) (by decide) ?_
  refine m3_newI hB (N := 20) (c1 := 187) (by decide +kernel) (by decide) dX12_init_15 ?_
  refine m3_putF hB (c0 := 185) (vs := [(0, 0), (188, 0), (1, 0), (1, 0), (1, 0), (1, 0), (1, 0), (0, 0), (1, 0), (1, 0), (1, 0), (1, 0), (1, 0), (1, 0), (1, 0), (1, 0), (0, 0), (0, 0), (1, 0), (0, 0), (1, 0), (0, 0), (0, 0), (1, 0), (0, 0), (0, 0), (0, 0), (0, 0), (1, 0), (0, 0), (0, 0), (0, 0), (1, 0), (1, 0), (1, 0), (1, 0), (1, 0), (0, 0), (1, 0), (1, 0), (1, 0), (1, 0), (0, 0), (0, 0), (0, 0), (0, 0), (1, 0), (1, 0), (0, 0), (0, 0), (1, 0), (1, 0), (0, 0), (1, 0), (1, 0), (1, 0), (1, 0), (0, 0), (0, 0), (0, 0), (0, 0), (0, 0), (0, 0), (1, 0), (0, 0), (1, 0), (1, 0), (1, 0), (1, 0), (1, 0), (1, 0)]) dX12_init_17 fl_X12_13 (fun _ _ _ h => by cases h; rfl) (fun _ => ⟨rfl, rfl⟩) (by decide +kernel) (by decide +kernel) (by decide +kernel) ?_
  refine m3_aload_n hB dX12_init_20 rfl ?_
  refine m3_bipush hB dX12_init_21 (v := 20) (by decide) ?_
  refine m3_newZ hB (N := 20) (c1 := 188) (by decide +kernel) (by decide) dX12_init_23 ?_
  refine m3_putF hB (c0 := 185) (vs := [(0, 0), (188, 0), (189, 0), (1, 0), (1, 0), (1, 0), (1, 0), (0, 0), (1, 0), (1, 0), (1, 0), (1, 0), (1, 0), (1, 0), (1, 0), (1, 0), (0, 0), (0, 0), (1, 0), (0, 0), (1, 0), (0, 0), (0, 0), (1, 0), (0, 0), (0, 0), (0, 0), (0, 0), (1, 0), (0, 0), (0, 0), (0, 0), (1, 0), (1, 0), (1, 0), (1, 0), (1, 0), (0, 0), (1, 0), (1, 0), (1, 0), (1, 0), (0, 0), (0, 0), (0, 0), (0, 0), (1, 0), (1, 0), (0, 0), (0, 0), (1, 0), (1, 0), (0, 0), (1, 0), (1, 0), (1, 0), (1, 0), (0, 0), (0, 0), (0, 0), (0, 0), (0, 0), (0, 0), (1, 0), (0, 0), (1, 0), (1, 0), (1, 0), (1, 0), (1, 0), (1, 0)]) dX12_init_25 fl_X12_16 (fun _ _ _ h => by cases h; rfl) (fun _ => ⟨rfl, rfl⟩) (by decide +kernel) (by decide +kernel) (by decide +kernel) ?_
  refine m3_aload_n hB dX12_init_28 rfl ?_
  refine m3_bipush hB dX12_init_29 (v := 20) (by decide) ?_
  refine m3_newI hB (N := 20) (c1 := 189) (by decide +kernel) (by decide) dX12_init_31 ?_
  refine m3_putF hB (c0 := 185) (vs := [(0, 0), (188, 0), (189, 0), (190, 0), (1, 0), (1, 0), (1, 0), (0, 0), (1, 0), (1, 0), (1, 0), (1, 0), (1, 0), (1, 0), (1, 0), (1, 0), (0, 0), (0, 0), (1, 0), (0, 0), (1, 0), (0, 0), (0, 0), (1, 0), (0, 0), (0, 0), (0, 0), (0, 0), (1, 0), (0, 0), (0, 0), (0, 0), (1, 0), (1, 0), (1, 0), (1, 0), (1, 0), (0, 0), (1, 0), (1, 0), (1, 0), (1, 0), (0, 0), (0, 0), (0, 0), (0, 0), (1, 0), (1, 0), (0, 0), (0, 0), (1, 0), (1, 0), (0, 0), (1, 0), (1, 0), (1, 0), (1, 0), (0, 0), (0, 0), (0, 0), (0, 0), (0, 0), (0, 0), (1, 0), (0, 0), (1, 0), (1, 0), (1, 0), (1, 0), (1, 0), (1, 0)]) dX12_init_33 fl_X12_20 (fun _ _ _ h => by cases h; rfl) (fun _ => ⟨rfl, rfl⟩) (by decide +kernel) (by decide +kernel) (by decide +kernel) ?_
  refine m3_aload_n hB dX12_init_36 rfl ?_
  refine m3_bipush hB dX12_init_37 (v := 20) (by decide) ?_
  refine m3_newI hB (N := 20) (c1 := 190) (by decide +kernel) (by decide) dX12_init_39 ?_
  refine m3_putF hB (c0 := 185) (vs := [(0, 0), (188, 0), (189, 0), (190, 0), (191, 0), (1, 0), (1, 0), (0, 0), (1, 0), (1, 0), (1, 0), (1, 0), (1, 0), (1, 0), (1, 0), (1, 0), (0, 0), (0, 0), (1, 0), (0, 0), (1, 0), (0, 0), (0, 0), (1, 0), (0, 0), (0, 0), (0, 0), (0, 0), (1, 0), (0, 0), (0, 0), (0, 0), (1, 0), (1, 0), (1, 0), (1, 0), (1, 0), (0, 0), (1, 0), (1, 0), (1, 0), (1, 0), (0, 0), (0, 0), (0, 0), (0, 0), (1, 0), (1, 0), (0, 0), (0, 0), (1, 0), (1, 0), (0, 0), (1, 0), (1, 0), (1, 0), (1, 0), (0, 0), (0, 0), (0, 0), (0, 0), (0, 0), (0, 0), (1, 0), (0, 0), (1, 0), (1, 0), (1, 0), (1, 0), (1, 0), (1, 0)]) dX12_init_41 fl_X12_23 (fun _ _ _ h => by cases h; rfl) (fun _ => ⟨rfl, rfl⟩) (by decide +kernel) (by decide +kernel) (by decide +kernel) ?_
  refine m3_aload_n hB dX12_init_44 rfl ?_
  refine m3_bipush hB dX12_init_45 (v := 20) (by decide) ?_
  refine m3_newI hB (N := 20) (c1 := 191) (by decide +kernel) (by decide) dX12_init_47 ?_
  refine m3_putF hB (c0 := 185) (vs := [(0, 0), (188, 0), (189, 0), (190, 0), (191, 0), (192, 0), (1, 0), (0, 0), (1, 0), (1, 0), (1, 0), (1, 0), (1, 0), (1, 0), (1, 0), (1, 0), (0, 0), (0, 0), (1, 0), (0, 0), (1, 0), (0, 0), (0, 0), (1, 0), (0, 0), (0, 0), (0, 0), (0, 0), (1, 0), (0, 0), (0, 0), (0, 0), (1, 0), (1, 0), (1, 0), (1, 0), (1, 0), (0, 0), (1, 0), (1, 0), (1, 0), (1, 0), (0, 0), (0, 0), (0, 0), (0, 0), (1, 0), (1, 0), (0, 0), (0, 0), (1, 0), (1, 0), (0, 0), (1, 0), (1, 0), (1, 0), (1, 0), (0, 0), (0, 0), (0, 0), (0, 0), (0, 0), (0, 0), (1, 0), (0, 0), (1, 0), (1, 0), (1, 0), (1, 0), (1, 0), (1, 0)]) dX12_init_49 fl_X12_26 (fun _ _ _ h => by cases h; rfl) (fun _ => ⟨rfl, rfl⟩) (by decide +kernel) (by decide +kernel) (by decide +kernel) ?_
  refine m3_aload_n hB dX12_init_52 rfl ?_
  refine m3_bipush hB dX12_init_53 (v := 8) (by decide) ?_
  refine m3_newI hB (N := 8) (c1 := 192) (by decide +kernel) (by decide) dX12_init_55 ?_
  refine m3_putF hB (c0 := 185) (vs := [(0, 0), (188, 0), (189, 0), (190, 0), (191, 0), (192, 0), (193, 0), (0, 0), (1, 0), (1, 0), (1, 0), (1, 0), (1, 0), (1, 0), (1, 0), (1, 0), (0, 0), (0, 0), (1, 0), (0, 0), (1, 0), (0, 0), (0, 0), (1, 0), (0, 0), (0, 0), (0, 0), (0, 0), (1, 0), (0, 0), (0, 0), (0, 0), (1, 0), (1, 0), (1, 0), (1, 0), (1, 0), (0, 0), (1, 0), (1, 0), (1, 0), (1, 0), (0, 0), (0, 0), (0, 0), (0, 0), (1, 0), (1, 0), (0, 0), (0, 0), (1, 0), (1, 0), (0, 0), (1, 0), (1, 0), (1, 0), (1, 0), (0, 0), (0, 0), (0, 0), (0, 0), (0, 0), (0, 0), (1, 0), (0, 0), (1, 0), (1, 0), (1, 0), (1, 0), (1, 0), (1, 0)]) dX12_init_57 fl_X12_29 (fun _ _ _ h => by cases h; rfl) (fun _ => ⟨rfl, rfl⟩) (by decide +kernel) (by decide +kernel) (by decide +kernel) ?_
  refine m3_aload_n hB dX12_init_60 rfl ?_
  refine m3_bipush hB dX12_init_61 (v := 8) (by decide) ?_
  refine m3_newI hB (N := 8) (c1 := 193) (by decide +kernel) (by decide) dX12_init_63 ?_
  refine m3_putF hB (c0 := 185) (vs := [(0, 0), (188, 0), (189, 0), (190, 0), (191, 0), (192, 0), (193, 0), (0, 0), (194, 0), (1, 0), (1, 0), (1, 0), (1, 0), (1, 0), (1, 0), (1, 0), (0, 0), (0, 0), (1, 0), (0, 0), (1, 0), (0, 0), (0, 0), (1, 0), (0, 0), (0, 0), (0, 0), (0, 0), (1, 0), (0, 0), (0, 0), (0, 0), (1, 0), (1, 0), (1, 0), (1, 0), (1, 0), (0, 0), (1, 0), (1, 0), (1, 0), (1, 0), (0, 0), (0, 0), (0, 0), (0, 0), (1, 0), (1, 0), (0, 0), (0, 0), (1, 0), (1, 0), (0, 0), (1, 0), (1, 0), (1, 0), (1, 0), (0, 0), (0, 0), (0, 0), (0, 0), (0, 0), (0, 0), (1, 0), (0, 0), (1, 0), (1, 0), (1, 0), (1, 0), (1, 0), (1, 0)]) dX12_init_65 fl_X12_32 (fun _ _ _ h => by cases h; rfl) (fun _ => ⟨rfl, rfl⟩) (by decide +kernel) (by decide +kernel) (by decide +kernel) ?_
  refine m3_aload_n hB dX12_init_68 rfl ?_
  refine m3_bipush hB dX12_init_69 (v := 8) (by decide) ?_
  refine m3_newZ hB (N := 8) (c1 := 194) (by decide +kernel) (by decide) dX12_init_71 ?_
  refine m3_putF hB (c0 := 185) (vs := [(0, 0), (188, 0), (189, 0), (190, 0), (191, 0), (192, 0), (193, 0), (0, 0), (194, 0), (195, 0), (1, 0), (1, 0), (1, 0), (1, 0), (1, 0), (1, 0), (0, 0), (0, 0), (1, 0), (0, 0), (1, 0), (0, 0), (0, 0), (1, 0), (0, 0), (0, 0), (0, 0), (0, 0), (1, 0), (0, 0), (0, 0), (0, 0), (1, 0), (1, 0), (1, 0), (1, 0), (1, 0), (0, 0), (1, 0), (1, 0), (1, 0), (1, 0), (0, 0), (0, 0), (0, 0), (0, 0), (1, 0), (1, 0), (0, 0), (0, 0), (1, 0), (1, 0), (0, 0), (1, 0), (1, 0), (1, 0), (1, 0), (0, 0), (0, 0), (0, 0), (0, 0), (0, 0), (0, 0), (1, 0), (0, 0), (1, 0), (1, 0), (1, 0), (1, 0), (1, 0), (1, 0)]) dX12_init_73 fl_X12_35 (fun _ _ _ h => by cases h; rfl) (fun _ => ⟨rfl, rfl⟩) (by decide +kernel) (by decide +kernel) (by decide +kernel) ?_
  refine m3_aload_n hB dX12_init_76 rfl ?_
  refine m3_bipush hB dX12_init_77 (v := 8) (by decide) ?_
  refine m3_newI hB (N := 8) (c1 := 195) (by decide +kernel) (by decide) dX12_init_79 ?_
  refine m3_putF hB (c0 := 185) (vs := [(0, 0), (188, 0), (189, 0), (190, 0), (191, 0), (192, 0), (193, 0), (0, 0), (194, 0), (195, 0), (196, 0), (1, 0), (1, 0), (1, 0), (1, 0), (1, 0), (0, 0), (0, 0), (1, 0), (0, 0), (1, 0), (0, 0), (0, 0), (1, 0), (0, 0), (0, 0), (0, 0), (0, 0), (1, 0), (0, 0), (0, 0), (0, 0), (1, 0), (1, 0), (1, 0), (1, 0), (1, 0), (0, 0), (1, 0), (1, 0), (1, 0), (1, 0), (0, 0), (0, 0), (0, 0), (0, 0), (1, 0), (1, 0), (0, 0), (0, 0), (1, 0), (1, 0), (0, 0), (1, 0), (1, 0), (1, 0), (1, 0), (0, 0), (0, 0), (0, 0), (0, 0), (0, 0), (0, 0), (1, 0), (0, 0), (1, 0), (1, 0), (1, 0), (1, 0), (1, 0), (1, 0)]) dX12_init_81 fl_X12_38 (fun _ _ _ h => by cases h; rfl) (fun _ => ⟨rfl, rfl⟩) (by decide +kernel) (by decide +kernel) (by decide +kernel) ?_
  refine m3_aload_n hB dX12_init_84 rfl ?_
  refine m3_bipush hB dX12_init_85 (v := 8) (by decide) ?_
  refine m3_newI hB (N := 8) (c1 := 196) (by decide +kernel) (by decide) dX12_init_87 ?_
  refine m3_putF hB (c0 := 185) (vs := [(0, 0), (188, 0), (189, 0), (190, 0), (191, 0), (192, 0), (193, 0), (0, 0), (194, 0), (195, 0), (196, 0), (197, 0), (1, 0), (1, 0), (1, 0), (1, 0), (0, 0), (0, 0), (1, 0), (0, 0), (1, 0), (0, 0), (0, 0), (1, 0), (0, 0), (0, 0), (0, 0), (0, 0), (1, 0), (0, 0), (0, 0), (0, 0), (1, 0), (1, 0), (1, 0), (1, 0), (1, 0), (0, 0), (1, 0), (1, 0), (1, 0), (1, 0), (0, 0), (0, 0), (0, 0), (0, 0), (1, 0), (1, 0), (0, 0), (0, 0), (1, 0), (1, 0), (0, 0), (1, 0), (1, 0), (1, 0), (1, 0), (0, 0), (0, 0), (0, 0), (0, 0), (0, 0), (0, 0), (1, 0), (0, 0), (1, 0), (1, 0), (1, 0), (1, 0), (1, 0), (1, 0)]) dX12_init_89 fl_X12_41 (fun _ _ _ h => by cases h; rfl) (fun _ => ⟨rfl, rfl⟩) (by decide +kernel) (by decide +kernel) (by decide +kernel) ?_
  refine m3_aload_n hB dX12_init_92 rfl ?_
  refine m3_bipush hB dX12_init_93 (v := 8) (by decide) ?_
  refine m3_newZ hB (N := 8) (c1 := 197) (by decide +kernel) (by decide) dX12_init_95 ?_
  refine m3_putF hB (c0 := 185) (vs := [(0, 0), (188, 0), (189, 0), (190, 0), (191, 0), (192, 0), (193, 0), (0, 0), (194, 0), (195, 0), (196, 0), (197, 0), (198, 0), (1, 0), (1, 0), (1, 0), (0, 0), (0, 0), (1, 0), (0, 0), (1, 0), (0, 0), (0, 0), (1, 0), (0, 0), (0, 0), (0, 0), (0, 0), (1, 0), (0, 0), (0, 0), (0, 0), (1, 0), (1, 0), (1, 0), (1, 0), (1, 0), (0, 0), (1, 0), (1, 0), (1, 0), (1, 0), (0, 0), (0, 0), (0, 0), (0, 0), (1, 0), (1, 0), (0, 0), (0, 0), (1, 0), (1, 0), (0, 0), (1, 0), (1, 0), (1, 0), (1, 0), (0, 0), (0, 0), (0, 0), (0, 0), (0, 0), (0, 0), (1, 0), (0, 0), (1, 0), (1, 0), (1, 0), (1, 0), (1, 0), (1, 0)]) dX12_init_97 fl_X12_44 (fun _ _ _ h => by cases h; rfl) (fun _ => ⟨rfl, rfl⟩) (by decide +kernel) (by decide +kernel) (by decide +kernel) ?_
  refine m3_aload_n hB dX12_init_100 rfl ?_
  refine m3_bipush hB dX12_init_101 (v := 8) (by decide) ?_
  refine m3_newZ hB (N := 8) (c1 := 198) (by decide +kernel) (by decide) dX12_init_103 ?_
  refine m3_putF hB (c0 := 185) (vs := [(0, 0), (188, 0), (189, 0), (190, 0), (191, 0), (192, 0), (193, 0), (0, 0), (194, 0), (195, 0), (196, 0), (197, 0), (198, 0), (199, 0), (1, 0), (1, 0), (0, 0), (0, 0), (1, 0), (0, 0), (1, 0), (0, 0), (0, 0), (1, 0), (0, 0), (0, 0), (0, 0), (0, 0), (1, 0), (0, 0), (0, 0), (0, 0), (1, 0), (1, 0), (1, 0), (1, 0), (1, 0), (0, 0), (1, 0), (1, 0), (1, 0), (1, 0), (0, 0), (0, 0), (0, 0), (0, 0), (1, 0), (1, 0), (0, 0), (0, 0), (1, 0), (1, 0), (0, 0), (1, 0), (1, 0), (1, 0), (1, 0), (0, 0), (0, 0), (0, 0), (0, 0), (0, 0), (0, 0), (1, 0), (0, 0), (1, 0), (1, 0), (1, 0), (1, 0), (1, 0), (1, 0)]) dX12_init_105 fl_X12_47 (fun _ _ _ h => by cases h; rfl) (fun _ => ⟨rfl, rfl⟩) (by decide +kernel) (by decide +kernel) (by decide +kernel) ?_
  refine m3_aload_n hB dX12_init_108 rfl ?_
  refine m3_bipush hB dX12_init_109 (v := 8) (by decide) ?_
  refine m3_newZ hB (N := 8) (c1 := 199) (by decide +kernel) (by decide) dX12_init_111 ?_
  refine m3_putF hB (c0 := 185) (vs := [(0, 0), (188, 0), (189, 0), (190, 0), (191, 0), (192, 0), (193, 0), (0, 0), (194, 0), (195, 0), (196, 0), (197, 0), (198, 0), (199, 0), (200, 0), (1, 0), (0, 0), (0, 0), (1, 0), (0, 0), (1, 0), (0, 0), (0, 0), (1, 0), (0, 0), (0, 0), (0, 0), (0, 0), (1, 0), (0, 0), (0, 0), (0, 0), (1, 0), (1, 0), (1, 0), (1, 0), (1, 0), (0, 0), (1, 0), (1, 0), (1, 0), (1, 0), (0, 0), (0, 0), (0, 0), (0, 0), (1, 0), (1, 0), (0, 0), (0, 0), (1, 0), (1, 0), (0, 0), (1, 0), (1, 0), (1, 0), (1, 0), (0, 0), (0, 0), (0, 0), (0, 0), (0, 0), (0, 0), (1, 0), (0, 0), (1, 0), (1, 0), (1, 0), (1, 0), (1, 0), (1, 0)]) dX12_init_113 fl_X12_50 (fun _ _ _ h => by cases h; rfl) (fun _ => ⟨rfl, rfl⟩) (by decide +kernel) (by decide +kernel) (by decide +kernel) ?_
  refine m3_aload_n hB dX12_init_116 rfl ?_
  refine m3_iconst hB dX12_init_117 (v := 1) (by decide) ?_
  refine m3_putI hB (c0 := 185) (vs := [(0, 0), (188, 0), (189, 0), (190, 0), (191, 0), (192, 0), (193, 0), (0, 0), (194, 0), (195, 0), (196, 0), (197, 0), (198, 0), (199, 0), (200, 0), (201, 0), (0, 0), (0, 0), (1, 0), (0, 0), (1, 0), (0, 0), (0, 0), (1, 0), (0, 0), (0, 0), (0, 0), (0, 0), (1, 0), (0, 0), (0, 0), (0, 0), (1, 0), (1, 0), (1, 0), (1, 0), (1, 0), (0, 0), (1, 0), (1, 0), (1, 0), (1, 0), (0, 0), (0, 0), (0, 0), (0, 0), (1, 0), (1, 0), (0, 0), (0, 0), (1, 0), (1, 0), (0, 0), (1, 0), (1, 0), (1, 0), (1, 0), (0, 0), (0, 0), (0, 0), (0, 0), (0, 0), (0, 0), (1, 0), (0, 0), (1, 0), (1, 0), (1, 0), (1, 0), (1, 0), (1, 0)]) dX12_init_118 fl_X12_53 (by decide +kernel) (by decide +kernel) (by decide +kernel) ?_
  refine m3_aload_n hB dX12_init_121 rfl ?_
  refine m3_bipush hB dX12_init_122 (v := 80) (by decide) ?_
  refine m3_newB hB (N := 80) (c1 := 200) (by decide +kernel) (by decide) dX12_init_124 ?_
  refine m3_putF hB (c0 := 185) (vs := [(0, 0), (188, 0), (189, 0), (190, 0), (191, 0), (192, 0), (193, 0), (0, 0), (194, 0), (195, 0), (196, 0), (197, 0), (198, 0), (199, 0), (200, 0), (201, 0), (0, 0), (0, 1), (1, 0), (0, 0), (1, 0), (0, 0), (0, 0), (1, 0), (0, 0), (0, 0), (0, 0), (0, 0), (1, 0), (0, 0), (0, 0), (0, 0), (1, 0), (1, 0), (1, 0), (1, 0), (1, 0), (0, 0), (1, 0), (1, 0), (1, 0), (1, 0), (0, 0), (0, 0), (0, 0), (0, 0), (1, 0), (1, 0), (0, 0), (0, 0), (1, 0), (1, 0), (0, 0), (1, 0), (1, 0), (1, 0), (1, 0), (0, 0), (0, 0), (0, 0), (0, 0), (0, 0), (0, 0), (1, 0), (0, 0), (1, 0), (1, 0), (1, 0), (1, 0), (1, 0), (1, 0)]) dX12_init_126 fl_X12_57 (fun _ _ _ h => by cases h; rfl) (fun _ => ⟨rfl, rfl⟩) (by decide +kernel) (by decide +kernel) (by decide +kernel) ?_
  refine m3_aload_n hB dX12_init_129 rfl ?_
  refine m3_bipush hB dX12_init_130 (v := 40) (by decide) ?_
  refine m3_newJ hB (N := 40) (c1 := 201) (by decide +kernel) (by decide) dX12_init_132 ?_
  refine m3_putF hB (c0 := 185) (vs := [(0, 0), (188, 0), (189, 0), (190, 0), (191, 0), (192, 0), (193, 0), (0, 0), (194, 0), (195, 0), (196, 0), (197, 0), (198, 0), (199, 0), (200, 0), (201, 0), (0, 0), (0, 1), (202, 0), (0, 0), (1, 0), (0, 0), (0, 0), (1, 0), (0, 0), (0, 0), (0, 0), (0, 0), (1, 0), (0, 0), (0, 0), (0, 0), (1, 0), (1, 0), (1, 0), (1, 0), (1, 0), (0, 0), (1, 0), (1, 0), (1, 0), (1, 0), (0, 0), (0, 0), (0, 0), (0, 0), (1, 0), (1, 0), (0, 0), (0, 0), (1, 0), (1, 0), (0, 0), (1, 0), (1, 0), (1, 0), (1, 0), (0, 0), (0, 0), (0, 0), (0, 0), (0, 0), (0, 0), (1, 0), (0, 0), (1, 0), (1, 0), (1, 0), (1, 0), (1, 0), (1, 0)]) dX12_init_134 fl_X12_61 (fun _ _ _ h => by cases h; rfl) (fun _ => ⟨rfl, rfl⟩) (by decide +kernel) (by decide +kernel) (by decide +kernel) ?_
  refine m3_aload_n hB dX12_init_137 rfl ?_
  refine m3_bipush hB dX12_init_138 (v := 40) (by decide) ?_
  refine m3_newB hB (N := 40) (c1 := 202) (by decide +kernel) (by decide) dX12_init_140 ?_
  refine m3_putF hB (c0 := 185) (vs := [(0, 0), (188, 0), (189, 0), (190, 0), (191, 0), (192, 0), (193, 0), (0, 0), (194, 0), (195, 0), (196, 0), (197, 0), (198, 0), (199, 0), (200, 0), (201, 0), (0, 0), (0, 1), (202, 0), (0, 0), (203, 0), (0, 0), (0, 0), (1, 0), (0, 0), (0, 0), (0, 0), (0, 0), (1, 0), (0, 0), (0, 0), (0, 0), (1, 0), (1, 0), (1, 0), (1, 0), (1, 0), (0, 0), (1, 0), (1, 0), (1, 0), (1, 0), (0, 0), (0, 0), (0, 0), (0, 0), (1, 0), (1, 0), (0, 0), (0, 0), (1, 0), (1, 0), (0, 0), (1, 0), (1, 0), (1, 0), (1, 0), (0, 0), (0, 0), (0, 0), (0, 0), (0, 0), (0, 0), (1, 0), (0, 0), (1, 0), (1, 0), (1, 0), (1, 0), (1, 0), (1, 0)]) dX12_init_142 fl_X12_65 (fun _ _ _ h => by cases h; rfl) (fun _ => ⟨rfl, rfl⟩) (by decide +kernel) (by decide +kernel) (by decide +kernel) ?_
  refine m3_aload_n hB dX12_init_145 rfl ?_
  refine m3_iconst hB dX12_init_146 (v := -1) (by decide) ?_
  refine m3_putI hB (c0 := 185) (vs := [(0, 0), (188, 0), (189, 0), (190, 0), (191, 0), (192, 0), (193, 0), (0, 0), (194, 0), (195, 0), (196, 0), (197, 0), (198, 0), (199, 0), (200, 0), (201, 0), (0, 0), (0, 1), (202, 0), (0, 0), (203, 0), (0, 0), (0, 0), (1, 0), (0, 0), (0, 0), (0, 0), (0, 0), (204, 0), (0, 0), (0, 0), (0, 0), (1, 0), (1, 0), (1, 0), (1, 0), (1, 0), (0, 0), (1, 0), (1, 0), (1, 0), (1, 0), (0, 0), (0, 0), (0, 0), (0, 0), (1, 0), (1, 0), (0, 0), (0, 0), (1, 0), (1, 0), (0, 0), (1, 0), (1, 0), (1, 0), (1, 0), (0, 0), (0, 0), (0, 0), (0, 0), (0, 0), (0, 0), (1, 0), (0, 0), (1, 0), (1, 0), (1, 0), (1, 0), (1, 0), (1, 0)]) dX12_init_147 fl_X12_68 (by decide +kernel) (by decide +kernel) (by decide +kernel) ?_
  refine m3_aload_n hB dX12_init_150 rfl ?_
  refine m3_bipush hB dX12_init_151 (v := 20) (by decide) ?_
  refine m3_newI hB (N := 20) (c1 := 203) (by decide +kernel) (by decide) dX12_init_153 ?_
  refine m3_putF hB (c0 := 185) (vs := [(0, 0), (188, 0), (189, 0), (190, 0), (191, 0), (192, 0), (193, 0), (0, 0), (194, 0), (195, 0), (196, 0), (197, 0), (198, 0), (199, 0), (200, 0), (201, 0), (0, 0), (0, 1), (202, 0), (0, 0), (203, 0), (0, 0), (0, 0), (1, 0), (0, 0), (0, 0), (0, 0), (0, 0), (204, 0), (0, 0), (0, -1), (0, 0), (1, 0), (1, 0), (1, 0), (1, 0), (1, 0), (0, 0), (1, 0), (1, 0), (1, 0), (1, 0), (0, 0), (0, 0), (0, 0), (0, 0), (1, 0), (1, 0), (0, 0), (0, 0), (1, 0), (1, 0), (0, 0), (1, 0), (1, 0), (1, 0), (1, 0), (0, 0), (0, 0), (0, 0), (0, 0), (0, 0), (0, 0), (1, 0), (0, 0), (1, 0), (1, 0), (1, 0), (1, 0), (1, 0), (1, 0)]) dX12_init_155 fl_X12_71 (fun _ _ _ h => by cases h; rfl) (fun _ => ⟨rfl, rfl⟩) (by decide +kernel) (by decide +kernel) (by decide +kernel) ?_
  refine m3_aload_n hB dX12_init_158 rfl ?_
  refine m3_bipush hB dX12_init_159 (v := 20) (by decide) ?_
  refine m3_newI hB (N := 20) (c1 := 204) (by decide +kernel) (by decide) dX12_init_161 ?_
  refine m3_putF hB (c0 := 185) (vs := [(0, 0), (188, 0), (189, 0), (190, 0), (191, 0), (192, 0), (193, 0), (0, 0), (194, 0), (195, 0), (196, 0), (197, 0), (198, 0), (199, 0), (200, 0), (201, 0), (0, 0), (0, 1), (202, 0), (0, 0), (203, 0), (0, 0), (0, 0), (1, 0), (0, 0), (0, 0), (0, 0), (0, 0), (204, 0), (0, 0), (0, -1), (0, 0), (205, 0), (1, 0), (1, 0), (1, 0), (1, 0), (0, 0), (1, 0), (1, 0), (1, 0), (1, 0), (0, 0), (0, 0), (0, 0), (0, 0), (1, 0), (1, 0), (0, 0), (0, 0), (1, 0), (1, 0), (0, 0), (1, 0), (1, 0), (1, 0), (1, 0), (0, 0), (0, 0), (0, 0), (0, 0), (0, 0), (0, 0), (1, 0), (0, 0), (1, 0), (1, 0), (1, 0), (1, 0), (1, 0), (1, 0)]) dX12_init_163 fl_X12_74 (fun _ _ _ h => by cases h; rfl) (fun _ => ⟨rfl, rfl⟩) (by decide +kernel) (by decide +kernel) (by decide +kernel) ?_
  refine m3_aload_n hB dX12_init_166 rfl ?_
  refine m3_bipush hB dX12_init_167 (v := 20) (by decide) ?_
  refine m3_newI hB (N := 20) (c1 := 205) (by decide +kernel) (by decide) dX12_init_169 ?_
  refine m3_putF hB (c0 := 185) (vs := [(0, 0), (188, 0), (189, 0), (190, 0), (191, 0), (192, 0), (193, 0), (0, 0), (194, 0), (195, 0), (196, 0), (197, 0), (198, 0), (199, 0), (200, 0), (201, 0), (0, 0), (0, 1), (202, 0), (0, 0), (203, 0), (0, 0), (0, 0), (1, 0), (0, 0), (0, 0), (0, 0), (0, 0), (204, 0), (0, 0), (0, -1), (0, 0), (205, 0), (206, 0), (1, 0), (1, 0), (1, 0), (0, 0), (1, 0), (1, 0), (1, 0), (1, 0), (0, 0), (0, 0), (0, 0), (0, 0), (1, 0), (1, 0), (0, 0), (0, 0), (1, 0), (1, 0), (0, 0), (1, 0), (1, 0), (1, 0), (1, 0), (0, 0), (0, 0), (0, 0), (0, 0), (0, 0), (0, 0), (1, 0), (0, 0), (1, 0), (1, 0), (1, 0), (1, 0), (1, 0), (1, 0)]) dX12_init_171 fl_X12_77 (fun _ _ _ h => by cases h; rfl) (fun _ => ⟨rfl, rfl⟩) (by decide +kernel) (by decide +kernel) (by decide +kernel) ?_
  refine m3_aload_n hB dX12_init_174 rfl ?_
  refine m3_bipush hB dX12_init_175 (v := 12) (by decide) ?_
  refine m3_newJ hB (N := 12) (c1 := 206) (by decide +kernel) (by decide) dX12_init_177 ?_
  refine m3_putF hB (c0 := 185) (vs := [(0, 0), (188, 0), (189, 0), (190, 0), (191, 0), (192, 0), (193, 0), (0, 0), (194, 0), (195, 0), (196, 0), (197, 0), (198, 0), (199, 0), (200, 0), (201, 0), (0, 0), (0, 1), (202, 0), (0, 0), (203, 0), (0, 0), (0, 0), (1, 0), (0, 0), (0, 0), (0, 0), (0, 0), (204, 0), (0, 0), (0, -1), (0, 0), (205, 0), (206, 0), (207, 0), (1, 0), (1, 0), (0, 0), (1, 0), (1, 0), (1, 0), (1, 0), (0, 0), (0, 0), (0, 0), (0, 0), (1, 0), (1, 0), (0, 0), (0, 0), (1, 0), (1, 0), (0, 0), (1, 0), (1, 0), (1, 0), (1, 0), (0, 0), (0, 0), (0, 0), (0, 0), (0, 0), (0, 0), (1, 0), (0, 0), (1, 0), (1, 0), (1, 0), (1, 0), (1, 0), (1, 0)]) dX12_init_179 fl_X12_80 (fun _ _ _ h => by cases h; rfl) (fun _ => ⟨rfl, rfl⟩) (by decide +kernel) (by decide +kernel) (by decide +kernel) ?_
  refine m3_aload_n hB dX12_init_182 rfl ?_
  refine m3_bipush hB dX12_init_183 (v := 12) (by decide) ?_
  refine m3_newI hB (N := 12) (c1 := 207) (by decide +kernel) (by decide) dX12_init_185 ?_
  refine m3_putF hB (c0 := 185) (vs := [(0, 0), (188, 0), (189, 0), (190, 0), (191, 0), (192, 0), (193, 0), (0, 0), (194, 0), (195, 0), (196, 0), (197, 0), (198, 0), (199, 0), (200, 0), (201, 0), (0, 0), (0, 1), (202, 0), (0, 0), (203, 0), (0, 0), (0, 0), (1, 0), (0, 0), (0, 0), (0, 0), (0, 0), (204, 0), (0, 0), (0, -1), (0, 0), (205, 0), (206, 0), (207, 0), (208, 0), (1, 0), (0, 0), (1, 0), (1, 0), (1, 0), (1, 0), (0, 0), (0, 0), (0, 0), (0, 0), (1, 0), (1, 0), (0, 0), (0, 0), (1, 0), (1, 0), (0, 0), (1, 0), (1, 0), (1, 0), (1, 0), (0, 0), (0, 0), (0, 0), (0, 0), (0, 0), (0, 0), (1, 0), (0, 0), (1, 0), (1, 0), (1, 0), (1, 0), (1, 0), (1, 0)]) dX12_init_187 fl_X12_83 (fun _ _ _ h => by cases h; rfl) (fun _ => ⟨rfl, rfl⟩) (by decide +kernel) (by decide +kernel) (by decide +kernel) ?_
  refine m3_aload_n hB dX12_init_190 rfl ?_
  refine m3_sipush hB dX12_init_191 (v := 196) (by decide) ?_
  refine m3_newI hB (N := 196) (c1 := 208) (by decide +kernel) (by decide) dX12_init_194 ?_
  refine m3_putF hB (c0 := 185) (vs := [(0, 0), (188, 0), (189, 0), (190, 0), (191, 0), (192, 0), (193, 0), (0, 0), (194, 0), (195, 0), (196, 0), (197, 0), (198, 0), (199, 0), (200, 0), (201, 0), (0, 0), (0, 1), (202, 0), (0, 0), (203, 0), (0, 0), (0, 0), (1, 0), (0, 0), (0, 0), (0, 0), (0, 0), (204, 0), (0, 0), (0, -1), (0, 0), (205, 0), (206, 0), (207, 0), (208, 0), (209, 0), (0, 0), (1, 0), (1, 0), (1, 0), (1, 0), (0, 0), (0, 0), (0, 0), (0, 0), (1, 0), (1, 0), (0, 0), (0, 0), (1, 0), (1, 0), (0, 0), (1, 0), (1, 0), (1, 0), (1, 0), (0, 0), (0, 0), (0, 0), (0, 0), (0, 0), (0, 0), (1, 0), (0, 0), (1, 0), (1, 0), (1, 0), (1, 0), (1, 0), (1, 0)]) dX12_init_196 fl_X12_86 (fun _ _ _ h => by cases h; rfl) (fun _ => ⟨rfl, rfl⟩) (by decide +kernel) (by decide +kernel) (by decide +kernel) ?_
  refine m3_aload_n hB dX12_init_199 rfl ?_
  refine m3_bipush hB dX12_init_200 (v := 14) (by decide) ?_
  refine m3_newI hB (N := 14) (c1 := 209) (by decide +kernel) (by decide) dX12_init_202 ?_
  refine m3_putF hB (c0 := 185) (vs := [(0, 0), (188, 0), (189, 0), (190, 0), (191, 0), (192, 0), (193, 0), (0, 0), (194, 0), (195, 0), (196, 0), (197, 0), (198, 0), (199, 0), (200, 0), (201, 0), (0, 0), (0, 1), (202, 0), (0, 0), (203, 0), (0, 0), (0, 0), (1, 0), (0, 0), (0, 0), (0, 0), (0, 0), (204, 0), (0, 0), (0, -1), (0, 0), (205, 0), (206, 0), (207, 0), (208, 0), (209, 0), (0, 0), (210, 0), (1, 0), (1, 0), (1, 0), (0, 0), (0, 0), (0, 0), (0, 0), (1, 0), (1, 0), (0, 0), (0, 0), (1, 0), (1, 0), (0, 0), (1, 0), (1, 0), (1, 0), (1, 0), (0, 0), (0, 0), (0, 0), (0, 0), (0, 0), (0, 0), (1, 0), (0, 0), (1, 0), (1, 0), (1, 0), (1, 0), (1, 0), (1, 0)]) dX12_init_204 fl_X12_89 (fun _ _ _ h => by cases h; rfl) (fun _ => ⟨rfl, rfl⟩) (by decide +kernel) (by decide +kernel) (by decide +kernel) ?_
  refine m3_aload_n hB dX12_init_207 rfl ?_
  refine m3_bipush hB dX12_init_208 (v := 14) (by decide) ?_
  refine m3_newI hB (N := 14) (c1 := 210) (by decide +kernel) (by decide) dX12_init_210 ?_
  refine m3_putF hB (c0 := 185) (vs := [(0, 0), (188, 0), (189, 0), (190, 0), (191, 0), (192, 0), (193, 0), (0, 0), (194, 0), (195, 0), (196, 0), (197, 0), (198, 0), (199, 0), (200, 0), (201, 0), (0, 0), (0, 1), (202, 0), (0, 0), (203, 0), (0, 0), (0, 0), (1, 0), (0, 0), (0, 0), (0, 0), (0, 0), (204, 0), (0, 0), (0, -1), (0, 0), (205, 0), (206, 0), (207, 0), (208, 0), (209, 0), (0, 0), (210, 0), (211, 0), (1, 0), (1, 0), (0, 0), (0, 0), (0, 0), (0, 0), (1, 0), (1, 0), (0, 0), (0, 0), (1, 0), (1, 0), (0, 0), (1, 0), (1, 0), (1, 0), (1, 0), (0, 0), (0, 0), (0, 0), (0, 0), (0, 0), (0, 0), (1, 0), (0, 0), (1, 0), (1, 0), (1, 0), (1, 0), (1, 0), (1, 0)]) dX12_init_212 fl_X12_92 (fun _ _ _ h => by cases h; rfl) (fun _ => ⟨rfl, rfl⟩) (by decide +kernel) (by decide +kernel) (by decide +kernel) ?_
  refine m3_aload_n hB dX12_init_215 rfl ?_
  refine m3_sipush hB dX12_init_216 (v := 180) (by decide) ?_
  refine m3_newI hB (N := 180) (c1 := 211) (by decide +kernel) (by decide) dX12_init_219 ?_
  refine m3_putF hB (c0 := 185) (vs := [(0, 0), (188, 0), (189, 0), (190, 0), (191, 0), (192, 0), (193, 0), (0, 0), (194, 0), (195, 0), (196, 0), (197, 0), (198, 0), (199, 0), (200, 0), (201, 0), (0, 0), (0, 1), (202, 0), (0, 0), (203, 0), (0, 0), (0, 0), (1, 0), (0, 0), (0, 0), (0, 0), (0, 0), (204, 0), (0, 0), (0, -1), (0, 0), (205, 0), (206, 0), (207, 0), (208, 0), (209, 0), (0, 0), (210, 0), (211, 0), (212, 0), (1, 0), (0, 0), (0, 0), (0, 0), (0, 0), (1, 0), (1, 0), (0, 0), (0, 0), (1, 0), (1, 0), (0, 0), (1, 0), (1, 0), (1, 0), (1, 0), (0, 0), (0, 0), (0, 0), (0, 0), (0, 0), (0, 0), (1, 0), (0, 0), (1, 0), (1, 0), (1, 0), (1, 0), (1, 0), (1, 0)]) dX12_init_221 fl_X12_95 (fun _ _ _ h => by cases h; rfl) (fun _ => ⟨rfl, rfl⟩) (by decide +kernel) (by decide +kernel) (by decide +kernel) ?_
  refine m3_aload_n hB dX12_init_224 rfl ?_
  refine m3_bipush hB dX12_init_225 (v := 6) (by decide) ?_
  refine m3_newI hB (N := 6) (c1 := 212) (by decide +kernel) (by decide) dX12_init_227 ?_
  refine m3_putF hB (c0 := 185) (vs := [(0, 0), (188, 0), (189, 0), (190, 0), (191, 0), (192, 0), (193, 0), (0, 0), (194, 0), (195, 0), (196, 0), (197, 0), (198, 0), (199, 0), (200, 0), (201, 0), (0, 0), (0, 1), (202, 0), (0, 0), (203, 0), (0, 0), (0, 0), (1, 0), (0, 0), (0, 0), (0, 0), (0, 0), (204, 0), (0, 0), (0, -1), (0, 0), (205, 0), (206, 0), (207, 0), (208, 0), (209, 0), (0, 0), (210, 0), (211, 0), (212, 0), (213, 0), (0, 0), (0, 0), (0, 0), (0, 0), (1, 0), (1, 0), (0, 0), (0, 0), (1, 0), (1, 0), (0, 0), (1, 0), (1, 0), (1, 0), (1, 0), (0, 0), (0, 0), (0, 0), (0, 0), (0, 0), (0, 0), (1, 0), (0, 0), (1, 0), (1, 0), (1, 0), (1, 0), (1, 0), (1, 0)]) dX12_init_229 fl_X12_98 (fun _ _ _ h => by cases h; rfl) (fun _ => ⟨rfl, rfl⟩) (by decide +kernel) (by decide +kernel) (by decide +kernel) ?_
  refine m3_aload_n hB dX12_init_232 rfl ?_
  refine m3_bipush hB dX12_init_233 (v := 6) (by decide) ?_
  refine m3_newI hB (N := 6) (c1 := 213) (by decide +kernel) (by decide) dX12_init_235 ?_
  refine m3_putF hB (c0 := 185) (vs := [(0, 0), (188, 0), (189, 0), (190, 0), (191, 0), (192, 0), (193, 0), (0, 0), (194, 0), (195, 0), (196, 0), (197, 0), (198, 0), (199, 0), (200, 0), (201, 0), (0, 0), (0, 1), (202, 0), (0, 0), (203, 0), (0, 0), (0, 0), (1, 0), (0, 0), (0, 0), (0, 0), (0, 0), (204, 0), (0, 0), (0, -1), (0, 0), (205, 0), (206, 0), (207, 0), (208, 0), (209, 0), (0, 0), (210, 0), (211, 0), (212, 0), (213, 0), (0, 0), (0, 0), (0, 0), (0, 0), (214, 0), (1, 0), (0, 0), (0, 0), (1, 0), (1, 0), (0, 0), (1, 0), (1, 0), (1, 0), (1, 0), (0, 0), (0, 0), (0, 0), (0, 0), (0, 0), (0, 0), (1, 0), (0, 0), (1, 0), (1, 0), (1, 0), (1, 0), (1, 0), (1, 0)]) dX12_init_237 fl_X12_101 (fun _ _ _ h => by cases h; rfl) (fun _ => ⟨rfl, rfl⟩) (by decide +kernel) (by decide +kernel) (by decide +kernel) ?_
  refine m3_aload_n hB dX12_init_240 rfl ?_
  refine m3_bipush hB dX12_init_241 (v := 6) (by decide) ?_
  refine m3_newI hB (N := 6) (c1 := 214) (by decide +kernel) (by decide) dX12_init_243 ?_
  refine m3_putF hB (c0 := 185) (vs := [(0, 0), (188, 0), (189, 0), (190, 0), (191, 0), (192, 0), (193, 0), (0, 0), (194, 0), (195, 0), (196, 0), (197, 0), (198, 0), (199, 0), (200, 0), (201, 0), (0, 0), (0, 1), (202, 0), (0, 0), (203, 0), (0, 0), (0, 0), (1, 0), (0, 0), (0, 0), (0, 0), (0, 0), (204, 0), (0, 0), (0, -1), (0, 0), (205, 0), (206, 0), (207, 0), (208, 0), (209, 0), (0, 0), (210, 0), (211, 0), (212, 0), (213, 0), (0, 0), (0, 0), (0, 0), (0, 0), (214, 0), (215, 0), (0, 0), (0, 0), (1, 0), (1, 0), (0, 0), (1, 0), (1, 0), (1, 0), (1, 0), (0, 0), (0, 0), (0, 0), (0, 0), (0, 0), (0, 0), (1, 0), (0, 0), (1, 0), (1, 0), (1, 0), (1, 0), (1, 0), (1, 0)]) dX12_init_245 fl_X12_104 (fun _ _ _ h => by cases h; rfl) (fun _ => ⟨rfl, rfl⟩) (by decide +kernel) (by decide +kernel) (by decide +kernel) ?_
  refine m3_aload_n hB dX12_init_248 rfl ?_
  refine m3_bipush hB dX12_init_249 (v := 6) (by decide) ?_
  refine m3_newI hB (N := 6) (c1 := 215) (by decide +kernel) (by decide) dX12_init_251 ?_
  refine m3_putF hB (c0 := 185) (vs := [(0, 0), (188, 0), (189, 0), (190, 0), (191, 0), (192, 0), (193, 0), (0, 0), (194, 0), (195, 0), (196, 0), (197, 0), (198, 0), (199, 0), (200, 0), (201, 0), (0, 0), (0, 1), (202, 0), (0, 0), (203, 0), (0, 0), (0, 0), (1, 0), (0, 0), (0, 0), (0, 0), (0, 0), (204, 0), (0, 0), (0, -1), (0, 0), (205, 0), (206, 0), (207, 0), (208, 0), (209, 0), (0, 0), (210, 0), (211, 0), (212, 0), (213, 0), (0, 0), (0, 0), (0, 0), (0, 0), (214, 0), (215, 0), (0, 0), (0, 0), (216, 0), (1, 0), (0, 0), (1, 0), (1, 0), (1, 0), (1, 0), (0, 0), (0, 0), (0, 0), (0, 0), (0, 0), (0, 0), (1, 0), (0, 0), (1, 0), (1, 0), (1, 0), (1, 0), (1, 0), (1, 0)]) dX12_init_253 fl_X12_107 (fun _ _ _ h => by cases h; rfl) (fun _ => ⟨rfl, rfl⟩) (by decide +kernel) (by decide +kernel) (by decide +kernel) ?_
  refine m3_aload_n hB dX12_init_256 rfl ?_
  refine m3_iconst hB dX12_init_257 (v := 5) (by decide) ?_
  refine m3_newI hB (N := 5) (c1 := 216) (by decide +kernel) (by decide) dX12_init_258 ?_
  refine m3_putF hB (c0 := 185) (vs := [(0, 0), (188, 0), (189, 0), (190, 0), (191, 0), (192, 0), (193, 0), (0, 0), (194, 0), (195, 0), (196, 0), (197, 0), (198, 0), (199, 0), (200, 0), (201, 0), (0, 0), (0, 1), (202, 0), (0, 0), (203, 0), (0, 0), (0, 0), (1, 0), (0, 0), (0, 0), (0, 0), (0, 0), (204, 0), (0, 0), (0, -1), (0, 0), (205, 0), (206, 0), (207, 0), (208, 0), (209, 0), (0, 0), (210, 0), (211, 0), (212, 0), (213, 0), (0, 0), (0, 0), (0, 0), (0, 0), (214, 0), (215, 0), (0, 0), (0, 0), (216, 0), (217, 0), (0, 0), (1, 0), (1, 0), (1, 0), (1, 0), (0, 0), (0, 0), (0, 0), (0, 0), (0, 0), (0, 0), (1, 0), (0, 0), (1, 0), (1, 0), (1, 0), (1, 0), (1, 0), (1, 0)]) dX12_init_260 fl_X12_110 (fun _ _ _ h => by cases h; rfl) (fun _ => ⟨rfl, rfl⟩) (by decide +kernel) (by decide +kernel) (by decide +kernel) ?_
  refine m3_aload_n hB dX12_init_263 rfl ?_
  refine m3_iconst hB dX12_init_264 (v := 5) (by decide) ?_
  refine m3_newI hB (N := 5) (c1 := 217) (by decide +kernel) (by decide) dX12_init_265 ?_
  refine m3_putF hB (c0 := 185) (vs := [(0, 0), (188, 0), (189, 0), (190, 0), (191, 0), (192, 0), (193, 0), (0, 0), (194, 0), (195, 0), (196, 0), (197, 0), (198, 0), (199, 0), (200, 0), (201, 0), (0, 0), (0, 1), (202, 0), (0, 0), (203, 0), (0, 0), (0, 0), (1, 0), (0, 0), (0, 0), (0, 0), (0, 0), (204, 0), (0, 0), (0, -1), (0, 0), (205, 0), (206, 0), (207, 0), (208, 0), (209, 0), (0, 0), (210, 0), (211, 0), (212, 0), (213, 0), (0, 0), (0, 0), (0, 0), (0, 0), (214, 0), (215, 0), (0, 0), (0, 0), (216, 0), (217, 0), (0, 0), (218, 0), (1, 0), (1, 0), (1, 0), (0, 0), (0, 0), (0, 0), (0, 0), (0, 0), (0, 0), (1, 0), (0, 0), (1, 0), (1, 0), (1, 0), (1, 0), (1, 0), (1, 0)]) dX12_init_267 fl_X12_113 (fun _ _ _ h => by cases h; rfl) (fun _ => ⟨rfl, rfl⟩) (by decide +kernel) (by decide +kernel) (by decide +kernel) ?_
  refine m3_aload_n hB dX12_init_270 rfl ?_
  refine m3_bipush hB dX12_init_271 (v := 12) (by decide) ?_
  refine m3_newI hB (N := 12) (c1 := 218) (by decide +kernel) (by decide) dX12_init_273 ?_
  refine m3_putF hB (c0 := 185) (vs := [(0, 0), (188, 0), (189, 0), (190, 0), (191, 0), (192, 0), (193, 0), (0, 0), (194, 0), (195, 0), (196, 0), (197, 0), (198, 0), (199, 0), (200, 0), (201, 0), (0, 0), (0, 1), (202, 0), (0, 0), (203, 0), (0, 0), (0, 0), (1, 0), (0, 0), (0, 0), (0, 0), (0, 0), (204, 0), (0, 0), (0, -1), (0, 0), (205, 0), (206, 0), (207, 0), (208, 0), (209, 0), (0, 0), (210, 0), (211, 0), (212, 0), (213, 0), (0, 0), (0, 0), (0, 0), (0, 0), (214, 0), (215, 0), (0, 0), (0, 0), (216, 0), (217, 0), (0, 0), (218, 0), (219, 0), (1, 0), (1, 0), (0, 0), (0, 0), (0, 0), (0, 0), (0, 0), (0, 0), (1, 0), (0, 0), (1, 0), (1, 0), (1, 0), (1, 0), (1, 0), (1, 0)]) dX12_init_275 fl_X12_116 (fun _ _ _ h => by cases h; rfl) (fun _ => ⟨rfl, rfl⟩) (by decide +kernel) (by decide +kernel) (by decide +kernel) ?_
  refine m3_aload_n hB dX12_init_278 rfl ?_
  refine m3_bipush hB dX12_init_279 (v := 20) (by decide) ?_
  refine m3_newI hB (N := 20) (c1 := 219) (by decide +kernel) (by decide) dX12_init_281 ?_
  refine m3_putF hB (c0 := 185) (vs := [(0, 0), (188, 0), (189, 0), (190, 0), (191, 0), (192, 0), (193, 0), (0, 0), (194, 0), (195, 0), (196, 0), (197, 0), (198, 0), (199, 0), (200, 0), (201, 0), (0, 0), (0, 1), (202, 0), (0, 0), (203, 0), (0, 0), (0, 0), (1, 0), (0, 0), (0, 0), (0, 0), (0, 0), (204, 0), (0, 0), (0, -1), (0, 0), (205, 0), (206, 0), (207, 0), (208, 0), (209, 0), (0, 0), (210, 0), (211, 0), (212, 0), (213, 0), (0, 0), (0, 0), (0, 0), (0, 0), (214, 0), (215, 0), (0, 0), (0, 0), (216, 0), (217, 0), (0, 0), (218, 0), (219, 0), (220, 0), (1, 0), (0, 0), (0, 0), (0, 0), (0, 0), (0, 0), (0, 0), (1, 0), (0, 0), (1, 0), (1, 0), (1, 0), (1, 0), (1, 0), (1, 0)]) dX12_init_283 fl_X12_119 (fun _ _ _ h => by cases h; rfl) (fun _ => ⟨rfl, rfl⟩) (by decide +kernel) (by decide +kernel) (by decide +kernel) ?_
  refine m3_aload_n hB dX12_init_286 rfl ?_
  refine m3_sipush hB dX12_init_287 (v := 671) (by decide) ?_
  refine m3_newJ hB (N := 671) (c1 := 220) (by decide +kernel) (by decide) dX12_init_290 ?_
  refine m3_putF hB (c0 := 185) (vs := [(0, 0), (188, 0), (189, 0), (190, 0), (191, 0), (192, 0), (193, 0), (0, 0), (194, 0), (195, 0), (196, 0), (197, 0), (198, 0), (199, 0), (200, 0), (201, 0), (0, 0), (0, 1), (202, 0), (0, 0), (203, 0), (0, 0), (0, 0), (1, 0), (0, 0), (0, 0), (0, 0), (0, 0), (204, 0), (0, 0), (0, -1), (0, 0), (205, 0), (206, 0), (207, 0), (208, 0), (209, 0), (0, 0), (210, 0), (211, 0), (212, 0), (213, 0), (0, 0), (0, 0), (0, 0), (0, 0), (214, 0), (215, 0), (0, 0), (0, 0), (216, 0), (217, 0), (0, 0), (218, 0), (219, 0), (220, 0), (221, 0), (0, 0), (0, 0), (0, 0), (0, 0), (0, 0), (0, 0), (1, 0), (0, 0), (1, 0), (1, 0), (1, 0), (1, 0), (1, 0), (1, 0)]) dX12_init_292 fl_X12_122 (fun _ _ _ h => by cases h; rfl) (fun _ => ⟨rfl, rfl⟩) (by decide +kernel) (by decide +kernel) (by decide +kernel) ?_
  refine m3_aload_n hB dX12_init_295 rfl ?_
  refine m3_bipush hB dX12_init_296 (v := 20) (by decide) ?_
  refine m3_newI hB (N := 20) (c1 := 221) (by decide +kernel) (by decide) dX12_init_298 ?_
  refine m3_putF hB (c0 := 185) (vs := [(0, 0), (188, 0), (189, 0), (190, 0), (191, 0), (192, 0), (193, 0), (0, 0), (194, 0), (195, 0), (196, 0), (197, 0), (198, 0), (199, 0), (200, 0), (201, 0), (0, 0), (0, 1), (202, 0), (0, 0), (203, 0), (0, 0), (0, 0), (1, 0), (0, 0), (0, 0), (0, 0), (0, 0), (204, 0), (0, 0), (0, -1), (0, 0), (205, 0), (206, 0), (207, 0), (208, 0), (209, 0), (0, 0), (210, 0), (211, 0), (212, 0), (213, 0), (0, 0), (0, 0), (0, 0), (0, 0), (214, 0), (215, 0), (0, 0), (0, 0), (216, 0), (217, 0), (0, 0), (218, 0), (219, 0), (220, 0), (221, 0), (0, 0), (0, 0), (0, 0), (0, 0), (0, 0), (0, 0), (222, 0), (0, 0), (1, 0), (1, 0), (1, 0), (1, 0), (1, 0), (1, 0)]) dX12_init_300 fl_X12_125 (fun _ _ _ h => by cases h; rfl) (fun _ => ⟨rfl, rfl⟩) (by decide +kernel) (by decide +kernel) (by decide +kernel) ?_
  refine m3_aload_n hB dX12_init_303 rfl ?_
  refine m3_bipush hB dX12_init_304 (v := 20) (by decide) ?_
  refine m3_newI hB (N := 20) (c1 := 222) (by decide +kernel) (by decide) dX12_init_306 ?_
  refine m3_putF hB (c0 := 185) (vs := [(0, 0), (188, 0), (189, 0), (190, 0), (191, 0), (192, 0), (193, 0), (0, 0), (194, 0), (195, 0), (196, 0), (197, 0), (198, 0), (199, 0), (200, 0), (201, 0), (0, 0), (0, 1), (202, 0), (0, 0), (203, 0), (0, 0), (0, 0), (1, 0), (0, 0), (0, 0), (0, 0), (0, 0), (204, 0), (0, 0), (0, -1), (0, 0), (205, 0), (206, 0), (207, 0), (208, 0), (209, 0), (0, 0), (210, 0), (211, 0), (212, 0), (213, 0), (0, 0), (0, 0), (0, 0), (0, 0), (214, 0), (215, 0), (0, 0), (0, 0), (216, 0), (217, 0), (0, 0), (218, 0), (219, 0), (220, 0), (221, 0), (0, 0), (0, 0), (0, 0), (0, 0), (0, 0), (0, 0), (222, 0), (0, 0), (223, 0), (1, 0), (1, 0), (1, 0), (1, 0), (1, 0)]) dX12_init_308 fl_X12_128 (fun _ _ _ h => by cases h; rfl) (fun _ => ⟨rfl, rfl⟩) (by decide +kernel) (by decide +kernel) (by decide +kernel) ?_
  refine m3_aload_n hB dX12_init_311 rfl ?_
  refine m3_bipush hB dX12_init_312 (v := 20) (by decide) ?_
  refine m3_newI hB (N := 20) (c1 := 223) (by decide +kernel) (by decide) dX12_init_314 ?_
  refine m3_putF hB (c0 := 185) (vs := [(0, 0), (188, 0), (189, 0), (190, 0), (191, 0), (192, 0), (193, 0), (0, 0), (194, 0), (195, 0), (196, 0), (197, 0), (198, 0), (199, 0), (200, 0), (201, 0), (0, 0), (0, 1), (202, 0), (0, 0), (203, 0), (0, 0), (0, 0), (1, 0), (0, 0), (0, 0), (0, 0), (0, 0), (204, 0), (0, 0), (0, -1), (0, 0), (205, 0), (206, 0), (207, 0), (208, 0), (209, 0), (0, 0), (210, 0), (211, 0), (212, 0), (213, 0), (0, 0), (0, 0), (0, 0), (0, 0), (214, 0), (215, 0), (0, 0), (0, 0), (216, 0), (217, 0), (0, 0), (218, 0), (219, 0), (220, 0), (221, 0), (0, 0), (0, 0), (0, 0), (0, 0), (0, 0), (0, 0), (222, 0), (0, 0), (223, 0), (224, 0), (1, 0), (1, 0), (1, 0), (1, 0)]) dX12_init_316 fl_X12_131 (fun _ _ _ h => by cases h; rfl) (fun _ => ⟨rfl, rfl⟩) (by decide +kernel) (by decide +kernel) (by decide +kernel) ?_
  refine m3_aload_n hB dX12_init_319 rfl ?_
  refine m3_iconst hB dX12_init_320 (v := 3) (by decide) ?_
  refine m3_newZ hB (N := 3) (c1 := 224) (by decide +kernel) (by decide) dX12_init_321 ?_
  refine m3_putF hB (c0 := 185) (vs := [(0, 0), (188, 0), (189, 0), (190, 0), (191, 0), (192, 0), (193, 0), (0, 0), (194, 0), (195, 0), (196, 0), (197, 0), (198, 0), (199, 0), (200, 0), (201, 0), (0, 0), (0, 1), (202, 0), (0, 0), (203, 0), (0, 0), (0, 0), (1, 0), (0, 0), (0, 0), (0, 0), (0, 0), (204, 0), (0, 0), (0, -1), (0, 0), (205, 0), (206, 0), (207, 0), (208, 0), (209, 0), (0, 0), (210, 0), (211, 0), (212, 0), (213, 0), (0, 0), (0, 0), (0, 0), (0, 0), (214, 0), (215, 0), (0, 0), (0, 0), (216, 0), (217, 0), (0, 0), (218, 0), (219, 0), (220, 0), (221, 0), (0, 0), (0, 0), (0, 0), (0, 0), (0, 0), (0, 0), (222, 0), (0, 0), (223, 0), (224, 0), (225, 0), (1, 0), (1, 0), (1, 0)]) dX12_init_323 fl_X12_134 (fun _ _ _ h => by cases h; rfl) (fun _ => ⟨rfl, rfl⟩) (by decide +kernel) (by decide +kernel) (by decide +kernel) ?_
  refine m3_aload_n hB dX12_init_326 rfl ?_
  refine m3_iconst hB dX12_init_327 (v := 3) (by decide) ?_
  refine m3_newI hB (N := 3) (c1 := 225) (by decide +kernel) (by decide) dX12_init_328 ?_
  refine m3_putF hB (c0 := 185) (vs := [(0, 0), (188, 0), (189, 0), (190, 0), (191, 0), (192, 0), (193, 0), (0, 0), (194, 0), (195, 0), (196, 0), (197, 0), (198, 0), (199, 0), (200, 0), (201, 0), (0, 0), (0, 1), (202, 0), (0, 0), (203, 0), (0, 0), (0, 0), (1, 0), (0, 0), (0, 0), (0, 0), (0, 0), (204, 0), (0, 0), (0, -1), (0, 0), (205, 0), (206, 0), (207, 0), (208, 0), (209, 0), (0, 0), (210, 0), (211, 0), (212, 0), (213, 0), (0, 0), (0, 0), (0, 0), (0, 0), (214, 0), (215, 0), (0, 0), (0, 0), (216, 0), (217, 0), (0, 0), (218, 0), (219, 0), (220, 0), (221, 0), (0, 0), (0, 0), (0, 0), (0, 0), (0, 0), (0, 0), (222, 0), (0, 0), (223, 0), (224, 0), (225, 0), (226, 0), (1, 0), (1, 0)]) dX12_init_330 fl_X12_137 (fun _ _ _ h => by cases h; rfl) (fun _ => ⟨rfl, rfl⟩) (by decide +kernel) (by decide +kernel) (by decide +kernel) ?_
  refine m3_aload_n hB dX12_init_333 rfl ?_
  refine m3_iconst hB dX12_init_334 (v := 3) (by decide) ?_
  refine m3_newI hB (N := 3) (c1 := 226) (by decide +kernel) (by decide) dX12_init_335 ?_
  refine m3_putF hB (c0 := 185) (vs := [(0, 0), (188, 0), (189, 0), (190, 0), (191, 0), (192, 0), (193, 0), (0, 0), (194, 0), (195, 0), (196, 0), (197, 0), (198, 0), (199, 0), (200, 0), (201, 0), (0, 0), (0, 1), (202, 0), (0, 0), (203, 0), (0, 0), (0, 0), (1, 0), (0, 0), (0, 0), (0, 0), (0, 0), (204, 0), (0, 0), (0, -1), (0, 0), (205, 0), (206, 0), (207, 0), (208, 0), (209, 0), (0, 0), (210, 0), (211, 0), (212, 0), (213, 0), (0, 0), (0, 0), (0, 0), (0, 0), (214, 0), (215, 0), (0, 0), (0, 0), (216, 0), (217, 0), (0, 0), (218, 0), (219, 0), (220, 0), (221, 0), (0, 0), (0, 0), (0, 0), (0, 0), (0, 0), (0, 0), (222, 0), (0, 0), (223, 0), (224, 0), (225, 0), (226, 0), (227, 0), (1, 0)]) dX12_init_337 fl_X12_140 (fun _ _ _ h => by cases h; rfl) (fun _ => ⟨rfl, rfl⟩) (by decide +kernel) (by decide +kernel) (by decide +kernel) ?_
  refine m3_to (μ' := wB_X12) (by decide +kernel) ?_
  exact m3_vret h dX12_init_340
