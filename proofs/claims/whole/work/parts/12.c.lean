def dl_Y_init : List (Nat × Instr × Nat) := [(0, .aload_n 0, 1), (1, .invokespecial 1, 3), (4, .aload_n 0, 1), (5, .iconst 4, 1), (6, .newarray .int, 2), (8, .dup, 1), (9, .iconst 0, 1), (10, .bipush (-9), 2), (12, .iastore, 1), (13, .dup, 1), (14, .iconst 1, 1), (15, .bipush (-9), 2), (17, .iastore, 1), (18, .dup, 1), (19, .iconst 2, 1), (20, .bipush (-9), 2), (22, .iastore, 1), (23, .dup, 1), (24, .iconst 3, 1), (25, .bipush (-9), 2), (27, .iastore, 1), (28, .putfield 9, 3), (31, .aload_n 0, 1), (32, .iconst 4, 1), (33, .newarray .int, 2), (35, .putfield 13, 3), (38, .aload_n 0, 1), (39, .sipush 240, 3), (42, .newarray .int, 2), (44, .putfield 16, 3), (47, .aload_n 0, 1), (48, .bipush 7, 2), (50, .newarray .int, 2), (52, .putfield 19, 3), (55, .aload_n 0, 1), (56, .bipush 7, 2), (58, .newarray .int, 2), (60, .putfield 22, 3), (63, .aload_n 0, 1), (64, .bipush 7, 2), (66, .newarray .int, 2), (68, .putfield 25, 3), (71, .aload_n 0, 1), (72, .bipush 7, 2), (74, .newarray .int, 2), (76, .putfield 28, 3), (79, .aload_n 0, 1), (80, .bipush 7, 2), (82, .newarray .int, 2), (84, .putfield 31, 3), (87, .aload_n 0, 1), (88, .bipush 7, 2), (90, .newarray .int, 2), (92, .putfield 34, 3), (95, .aload_n 0, 1), (96, .bipush 7, 2), (98, .newarray .int, 2), (100, .putfield 37, 3), (103, .aload_n 0, 1), (104, .iconst 4, 1), (105, .newarray .int, 2), (107, .putfield 40, 3), (110, .aload_n 0, 1), (111, .bipush 24, 2), (113, .newarray .int, 2), (115, .putfield 43, 3), (118, .aload_n 0, 1), (119, .bipush 24, 2), (121, .newarray .int, 2), (123, .putfield 46, 3), (126, .aload_n 0, 1), (127, .bipush 24, 2), (129, .newarray .int, 2), (131, .putfield 49, 3), (134, .aload_n 0, 1), (135, .bipush (-9), 2), (137, .putfield 52, 3), (140, .aload_n 0, 1), (141, .bipush 18, 2), (143, .newarray .int, 2), (145, .putfield 56, 3), (148, .aload_n 0, 1), (149, .sipush 5040, 3), (152, .newarray .int, 2), (154, .putfield 59, 3), (157, .aload_n 0, 1), (158, .sipush 5040, 3), (161, .newarray .int, 2), (163, .putfield 62, 3), (166, .aload_n 0, 1), (167, .sipush 5040, 3), (170, .newarray .int, 2), (172, .putfield 65, 3), (175, .aload_n 0, 1), (176, .sipush 5040, 3), (179, .newarray .int, 2), (181, .putfield 68, 3), (184, .aload_n 0, 1), (185, .sipush 5040, 3), (188, .newarray .int, 2), (190, .putfield 71, 3), (193, .aload_n 0, 1), (194, .sipush 5040, 3), (197, .newarray .int, 2), (199, .putfield 74, 3), (202, .aload_n 0, 1), (203, .bipush 8, 2), (205, .newarray .int, 2), (207, .putfield 77, 3), (210, .aload_n 0, 1), (211, .bipush 8, 2), (213, .newarray .int, 2), (215, .putfield 80, 3), (218, .return_, 1)]
theorem dd_Y_init : Dall 126 dl_Y_init = true := by decide +kernel
theorem t_Y_init {h : Hp} {P : Value → Hp → Prop}  (T : (tg h 403 = 0) ∧ (tg (mk h 403 20 (4 : Int).toNat (4 : Int).toNat) 403 = 20) ∧ ((ln (mk h 403 20 (4 : Int).toNat (4 : Int).toNat) 403 : Int) ≤ 2147483648) ∧ ((0 : Int) < ln (mk h 403 20 (4 : Int).toNat (4 : Int).toNat) 403) ∧ (tg (setI (mk h 403 20 (4 : Int).toNat (4 : Int).toNat) 403 0 (-9)) 403 = 20) ∧ ((ln (setI (mk h 403 20 (4 : Int).toNat (4 : Int).toNat) 403 0 (-9)) 403 : Int) ≤ 2147483648) ∧ ((1 : Int) < ln (setI (mk h 403 20 (4 : Int).toNat (4 : Int).toNat) 403 0 (-9)) 403) ∧ (tg (setI (setI (mk h 403 20 (4 : Int).toNat (4 : Int).toNat) 403 0 (-9)) 403 1 (-9)) 403 = 20) ∧ ((ln (setI (setI (mk h 403 20 (4 : Int).toNat (4 : Int).toNat) 403 0 (-9)) 403 1 (-9)) 403 : Int) ≤ 2147483648) ∧ ((2 : Int) < ln (setI (setI (mk h 403 20 (4 : Int).toNat (4 : Int).toNat) 403 0 (-9)) 403 1 (-9)) 403) ∧ (tg (setI (setI (setI (mk h 403 20 (4 : Int).toNat (4 : Int).toNat) 403 0 (-9)) 403 1 (-9)) 403 2 (-9)) 403 = 20) ∧ ((ln (setI (setI (setI (mk h 403 20 (4 : Int).toNat (4 : Int).toNat) 403 0 (-9)) 403 1 (-9)) 403 2 (-9)) 403 : Int) ≤ 2147483648) ∧ ((3 : Int) < ln (setI (setI (setI (mk h 403 20 (4 : Int).toNat (4 : Int).toNat) 403 0 (-9)) 403 1 (-9)) 403 2 (-9)) 403) ∧ (tg (setI (setI (setI (setI (mk h 403 20 (4 : Int).toNat (4 : Int).toNat) 403 0 (-9)) 403 1 (-9)) 403 2 (-9)) 403 3 (-9)) 400 = 13) ∧ (tg (setF (setI (setI (setI (setI (mk h 403 20 (4 : Int).toNat (4 : Int).toNat) 403 0 (-9)) 403 1 (-9)) 403 2 (-9)) 403 3 (-9)) 400 2) 404 = 0) ∧ (tg (mk (setF (setI (setI (setI (setI (mk h 403 20 (4 : Int).toNat (4 : Int).toNat) 403 0 (-9)) 403 1 (-9)) 403 2 (-9)) 403 3 (-9)) 400 2) 404 20 (4 : Int).toNat (4 : Int).toNat) 400 = 13) ∧ (tg (setF (mk (setF (setI (setI (setI (setI (mk h 403 20 (4 : Int).toNat (4 : Int).toNat) 403 0 (-9)) 403 1 (-9)) 403 2 (-9)) 403 3 (-9)) 400 2) 404 20 (4 : Int).toNat (4 : Int).toNat) 400 3) 405 = 0) ∧ (tg (mk (setF (mk (setF (setI (setI (setI (setI (mk h 403 20 (4 : Int).toNat (4 : Int).toNat) 403 0 (-9)) 403 1 (-9)) 403 2 (-9)) 403 3 (-9)) 400 2) 404 20 (4 : Int).toNat (4 : Int).toNat) 400 3) 405 20 (240 : Int).toNat (240 : Int).toNat) 400 = 13) ∧ (tg (setF (mk (setF (mk (setF (setI (setI (setI (setI (mk h 403 20 (4 : Int).toNat (4 : Int).toNat) 403 0 (-9)) 403 1 (-9)) 403 2 (-9)) 403 3 (-9)) 400 2) 404 20 (4 : Int).toNat (4 : Int).toNat) 400 3) 405 20 (240 : Int).toNat (240 : Int).toNat) 400 4) 410 = 0) ∧ (tg (mk (setF (mk (setF (mk (setF (setI (setI (setI (setI (mk h 403 20 (4 : Int).toNat (4 : Int).toNat) 403 0 (-9)) 403 1 (-9)) 403 2 (-9)) 403 3 (-9)) 400 2) 404 20 (4 : Int).toNat (4 : Int).toNat) 400 3) 405 20 (240 : Int).toNat (240 : Int).toNat) 400 4) 410 20 (7 : Int).toNat (7 : Int).toNat) 400 = 13) ∧ (tg (setF (mk (setF (mk (setF (mk (setF (setI (setI (setI (setI (mk h 403 20 (4 : Int).toNat (4 : Int).toNat) 403 0 (-9)) 403 1 (-9)) 403 2 (-9)) 403 3 (-9)) 400 2) 404 20 (4 : Int).toNat (4 : Int).toNat) 400 3) 405 20 (240 : Int).toNat (240 : Int).toNat) 400 4) 410 20 (7 : Int).toNat (7 : Int).toNat) 400 9) 411 = 0) ∧ (tg (mk (setF (mk (setF (mk (setF (mk (setF (setI (setI (setI (setI (mk h 403 20 (4 : Int).toNat (4 : Int).toNat) 403 0 (-9)) 403 1 (-9)) 403 2 (-9)) 403 3 (-9)) 400 2) 404 20 (4 : Int).toNat (4 : Int).toNat) 400 3) 405 20 (240 : Int).toNat (240 : Int).toNat) 400 4) 410 20 (7 : Int).toNat (7 : Int).toNat) 400 9) 411 20 (7 : Int).toNat (7 : Int).toNat) 400 = 13) ∧ (tg (setF (mk (setF (mk (setF (mk (setF (mk (setF (setI (setI (setI (setI (mk h 403 20 (4 : Int).toNat (4 : Int).toNat) 403 0 (-9)) 403 1 (-9)) 403 2 (-9)) 403 3 (-9)) 400 2) 404 20 (4 : Int).toNat (4 : Int).toNat) 400 3) 405 20 (240 : Int).toNat (240 : Int).toNat) 400 4) 410 20 (7 : Int).toNat (7 : Int).toNat) 400 9) 411 20 (7 : Int).toNat (7 : Int).toNat) 400 10) 412 = 0) ∧ (tg (mk (setF (mk (setF (mk (setF (mk (setF (mk (setF (setI (setI (setI (setI (mk h 403 20 (4 : Int).toNat (4 : Int).toNat) 403 0 (-9)) 403 1 (-9)) 403 2 (-9)) 403 3 (-9)) 400 2) 404 20 (4 : Int).toNat (4 : Int).toNat) 400 3) 405 20 (240 : Int).toNat (240 : Int).toNat) 400 4) 410 20 (7 : Int).toNat (7 : Int).toNat) 400 9) 411 20 (7 : Int).toNat (7 : Int).toNat) 400 10) 412 20 (7 : Int).toNat (7 : Int).toNat) 400 = 13) ∧ (tg (setF (mk (setF (mk (setF (mk (setF (mk (setF (mk (setF (setI (setI (setI (setI (mk h 403 20 (4 : Int).toNat (4 : Int).toNat) 403 0 (-9)) 403 1 (-9)) 403 2 (-9)) 403 3 (-9)) 400 2) 404 20 (4 : Int).toNat (4 : Int).toNat) 400 3) 405 20 (240 : Int).toNat (240 : Int).toNat) 400 4) 410 20 (7 : Int).toNat (7 : Int).toNat) 400 9) 411 20 (7 : Int).toNat (7 : Int).toNat) 400 10) 412 20 (7 : Int).toNat (7 : Int).toNat) 400 11) 415 = 0) ∧ (tg (mk (setF (mk (setF (mk (setF (mk (setF (mk (setF (mk (setF (setI (setI (setI (setI (mk h 403 20 (4 : Int).toNat (4 : Int).toNat) 403 0 (-9)) 403 1 (-9)) 403 2 (-9)) 403 3 (-9)) 400 2) 404 20 (4 : Int).toNat (4 : Int).toNat) 400 3) 405 20 (240 : Int).toNat (240 : Int).toNat) 400 4) 410 20 (7 : Int).toNat (7 : Int).toNat) 400 9) 411 20 (7 : Int).toNat (7 : Int).toNat) 400 10) 412 20 (7 : Int).toNat (7 : Int).toNat) 400 11) 415 20 (7 : Int).toNat (7 : Int).toNat) 400 = 13) ∧ (tg (setF (mk (setF (mk (setF (mk (setF (mk (setF (mk (setF (mk (setF (setI (setI (setI (setI (mk h 403 20 (4 : Int).toNat (4 : Int).toNat) 403 0 (-9)) 403 1 (-9)) 403 2 (-9)) 403 3 (-9)) 400 2) 404 20 (4 : Int).toNat (4 : Int).toNat) 400 3) 405 20 (240 : Int).toNat (240 : Int).toNat) 400 4) 410 20 (7 : Int).toNat (7 : Int).toNat) 400 9) 411 20 (7 : Int).toNat (7 : Int).toNat) 400 10) 412 20 (7 : Int).toNat (7 : Int).toNat) 400 11) 415 20 (7 : Int).toNat (7 : Int).toNat) 400 14) 416 = 0) ∧ (tg (mk (setF (mk (setF (mk (setF (mk (setF (mk (setF (mk (setF (mk (setF (setI (setI (setI (setI (mk h 403 20 (4 : Int).toNat (4 : Int).toNat) 403 0 (-9)) 403 1 (-9)) 403 2 (-9)) 403 3 (-9)) 400 2) 404 20 (4 : Int).toNat (4 : Int).toNat) 400 3) 405 20 (240 : Int).toNat (240 : Int).toNat) 400 4) 410 20 (7 : Int).toNat (7 : Int).toNat) 400 9) 411 20 (7 : Int).toNat (7 : Int).toNat) 400 10) 412 20 (7 : Int).toNat (7 : Int).toNat) 400 11) 415 20 (7 : Int).toNat (7 : Int).toNat) 400 14) 416 20 (7 : Int).toNat (7 : Int).toNat) 400 = 13) ∧ (tg (setF (mk (setF (mk (setF (mk (setF (mk (setF (mk (setF (mk (setF (mk (setF (setI (setI (setI (setI (mk h 403 20 (4 : Int).toNat (4 : Int).toNat) 403 0 (-9)) 403 1 (-9)) 403 2 (-9)) 403 3 (-9)) 400 2) 404 20 (4 : Int).toNat (4 : Int).toNat) 400 3) 405 20 (240 : Int).toNat (240 : Int).toNat) 400 4) 410 20 (7 : Int).toNat (7 : Int).toNat) 400 9) 411 20 (7 : Int).toNat (7 : Int).toNat) 400 10) 412 20 (7 : Int).toNat (7 : Int).toNat) 400 11) 415 20 (7 : Int).toNat (7 : Int).toNat) 400 14) 416 20 (7 : Int).toNat (7 : Int).toNat) 400 15) 417 = 0) ∧ (tg (mk (setF (mk (setF (mk (setF (mk (setF (mk (setF (mk (setF (mk (setF (mk (setF (setI (setI (setI (setI (mk h 403 20 (4 : Int).toNat (4 : Int).toNat) 403 0 (-9)) 403 1 (-9)) 403 2 (-9)) 403 3 (-9)) 400 2) 404 20 (4 : Int).toNat (4 : Int).toNat) 400 3) 405 20 (240 : Int).toNat (240 : Int).toNat) 400 4) 410 20 (7 : Int).toNat (7 : Int).toNat) 400 9) 411 20 (7 : Int).toNat (7 : Int).toNat) 400 10) 412 20 (7 : Int).toNat (7 : Int).toNat) 400 11) 415 20 (7 : Int).toNat (7 : Int).toNat) 400 14) 416 20 (7 : Int).toNat (7 : Int).toNat) 400 15) 417 20 (7 : Int).toNat (7 : Int).toNat) 400 = 13) ∧ (tg (setF (mk (setF (mk (setF (mk (setF (mk (setF (mk (setF (mk (setF (mk (setF (mk (setF (setI (setI (setI (setI (mk h 403 20 (4 : Int).toNat (4 : Int).toNat) 403 0 (-9)) 403 1 (-9)) 403 2 (-9)) 403 3 (-9)) 400 2) 404 20 (4 : Int).toNat (4 : Int).toNat) 400 3) 405 20 (240 : Int).toNat (240 : Int).toNat) 400 4) 410 20 (7 : Int).toNat (7 : Int).toNat) 400 9) 411 20 (7 : Int).toNat (7 : Int).toNat) 400 10) 412 20 (7 : Int).toNat (7 : Int).toNat) 400 11) 415 20 (7 : Int).toNat (7 : Int).toNat) 400 14) 416 20 (7 : Int).toNat (7 : Int).toNat) 400 15) 417 20 (7 : Int).toNat (7 : Int).toNat) 400 16) 418 = 0) ∧ (tg (mk (setF (mk (setF (mk (setF (mk (setF (mk (setF (mk (setF (mk (setF (mk (setF (mk (setF (setI (setI (setI (setI (mk h 403 20 (4 : Int).toNat (4 : Int).toNat) 403 0 (-9)) 403 1 (-9)) 403 2 (-9)) 403 3 (-9)) 400 2) 404 20 (4 : Int).toNat (4 : Int).toNat) 400 3) 405 20 (240 : Int).toNat (240 : Int).toNat) 400 4) 410 20 (7 : Int).toNat (7 : Int).toNat) 400 9) 411 20 (7 : Int).toNat (7 : Int).toNat) 400 10) 412 20 (7 : Int).toNat (7 : Int).toNat) 400 11) 415 20 (7 : Int).toNat (7 : Int).toNat) 400 14) 416 20 (7 : Int).toNat (7 : Int).toNat) 400 15) 417 20 (7 : Int).toNat (7 : Int).toNat) 400 16) 418 20 (7 : Int).toNat (7 : Int).toNat) 400 = 13) ∧ (tg (setF (mk (setF (mk (setF (mk (setF (mk (setF (mk (setF (mk (setF (mk (setF (mk (setF (mk (setF (setI (setI (setI (setI (mk h 403 20 (4 : Int).toNat (4 : Int).toNat) 403 0 (-9)) 403 1 (-9)) 403 2 (-9)) 403 3 (-9)) 400 2) 404 20 (4 : Int).toNat (4 : Int).toNat) 400 3) 405 20 (240 : Int).toNat (240 : Int).toNat) 400 4) 410 20 (7 : Int).toNat (7 : Int).toNat) 400 9) 411 20 (7 : Int).toNat (7 : Int).toNat) 400 10) 412 20 (7 : Int).toNat (7 : Int).toNat) 400 11) 415 20 (7 : Int).toNat (7 : Int).toNat) 400 14) 416 20 (7 : Int).toNat (7 : Int).toNat) 400 15) 417 20 (7 : Int).toNat (7 : Int).toNat) 400 16) 418 20 (7 : Int).toNat (7 : Int).toNat) 400 17) 421 = 0) ∧ (tg (mk (setF (mk (setF (mk (setF (mk (setF (mk (setF (mk (setF (mk (setF (mk (setF (mk (setF (mk (setF (setI (setI (setI (setI (mk h 403 20 (4 : Int).toNat (4 : Int).toNat) 403 0 (-9)) 403 1 (-9)) 403 2 (-9)) 403 3 (-9)) 400 2) 404 20 (4 : Int).toNat (4 : Int).toNat) 400 3) 405 20 (240 : Int).toNat (240 : Int).toNat) 400 4) 410 20 (7 : Int).toNat (7 : Int).toNat) 400 9) 411 20 (7 : Int).toNat (7 : Int).toNat) 400 10) 412 20 (7 : Int).toNat (7 : Int).toNat) 400 11) 415 20 (7 : Int).toNat (7 : Int).toNat) 400 14) 416 20 (7 : Int).toNat (7 : Int).toNat) 400 15) 417 20 (7 : Int).toNat (7 : Int).toNat) 400 16) 418 20 (7 : Int).toNat (7 : Int).toNat) 400 17) 421 20 (4 : Int).toNat (4 : Int).toNat) 400 = 13) ∧ (tg (setF (mk (setF (mk (setF (mk (setF (mk (setF (mk (setF (mk (setF (mk (setF (mk (setF (mk (setF (mk (setF (setI (setI (setI (setI (mk h 403 20 (4 : Int).toNat (4 : Int).toNat) 403 0 (-9)) 403 1 (-9)) 403 2 (-9)) 403 3 (-9)) 400 2) 404 20 (4 : Int).toNat (4 : Int).toNat) 400 3) 405 20 (240 : Int).toNat (240 : Int).toNat) 400 4) 410 20 (7 : Int).toNat (7 : Int).toNat) 400 9) 411 20 (7 : Int).toNat (7 : Int).toNat) 400 10) 412 20 (7 : Int).toNat (7 : Int).toNat) 400 11) 415 20 (7 : Int).toNat (7 : Int).toNat) 400 14) 416 20 (7 : Int).toNat (7 : Int).toNat) 400 15) 417 20 (7 : Int).toNat (7 : Int).toNat) 400 16) 418 20 (7 : Int).toNat (7 : Int).toNat) 400 17) 421 20 (4 : Int).toNat (4 : Int).toNat) 400 20) 422 = 0) ∧ (tg (mk (setF (mk (setF (mk (setF (mk (setF (mk (setF (mk (setF (mk (setF (mk (setF (mk (setF (mk (setF (mk (setF (setI (setI (setI (setI (mk h 403 20 (4 : Int).toNat (4 : Int).toNat) 403 0 (-9)) 403 1 (-9)) 403 2 (-9)) 403 3 (-9)) 400 2) 404 20 (4 : Int).toNat (4 : Int).toNat) 400 3) 405 20 (240 : Int).toNat (240 : Int).toNat) 400 4) 410 20 (7 : Int).toNat (7 : Int).toNat) 400 9) 411 20 (7 : Int).toNat (7 : Int).toNat) 400 10) 412 20 (7 : Int).toNat (7 : Int).toNat) 400 11) 415 20 (7 : Int).toNat (7 : Int).toNat) 400 14) 416 20 (7 : Int).toNat (7 : Int).toNat) 400 15) 417 20 (7 : Int).toNat (7 : Int).toNat) 400 16) 418 20 (7 : Int).toNat (7 : Int).toNat) 400 17) 421 20 (4 : Int).toNat (4 : Int).toNat) 400 20) 422 20 (24 : Int).toNat (24 : Int).toNat) 400 = 13) ∧ (tg (setF (mk (setF (mk (setF (mk (setF (mk (setF (mk (setF (mk (setF (mk (setF (mk (setF (mk (setF (mk (setF (mk (setF (setI (setI (setI (setI (mk h 403 20 (4 : Int).toNat (4 : Int).toNat) 403 0 (-9)) 403 1 (-9)) 403 2 (-9)) 403 3 (-9)) 400 2) 404 20 (4 : Int).toNat (4 : Int).toNat) 400 3) 405 20 (240 : Int).toNat (240 : Int).toNat) 400 4) 410 20 (7 : Int).toNat (7 : Int).toNat) 400 9) 411 20 (7 : Int).toNat (7 : Int).toNat) 400 10) 412 20 (7 : Int).toNat (7 : Int).toNat) 400 11) 415 20 (7 : Int).toNat (7 : Int).toNat) 400 14) 416 20 (7 : Int).toNat (7 : Int).toNat) 400 15) 417 20 (7 : Int).toNat (7 : Int).toNat) 400 16) 418 20 (7 : Int).toNat (7 : Int).toNat) 400 17) 421 20 (4 : Int).toNat (4 : Int).toNat) 400 20) 422 20 (24 : Int).toNat (24 : Int).toNat) 400 21) 423 = 0) ∧ (tg (mk (setF (mk (setF (mk (setF (mk (setF (mk (setF (mk (setF (mk (setF (mk (setF (mk (setF (mk (setF (mk (setF (mk (setF (setI (setI (setI (setI (mk h 403 20 (4 : Int).toNat (4 : Int).toNat) 403 0 (-9)) 403 1 (-9)) 403 2 (-9)) 403 3 (-9)) 400 2) 404 20 (4 : Int).toNat (4 : Int).toNat) 400 3) 405 20 (240 : Int).toNat (240 : Int).toNat) 400 4) 410 20 (7 : Int).toNat (7 : Int).toNat) 400 9) 411 20 (7 : Int).toNat (7 : Int).toNat) 400 10) 412 20 (7 : Int).toNat (7 : Int).toNat) 400 11) 415 20 (7 : Int).toNat (7 : Int).toNat) 400 14) 416 20 (7 : Int).toNat (7 : Int).toNat) 400 15) 417 20 (7 : Int).toNat (7 : Int).toNat) 400 16) 418 20 (7 : Int).toNat (7 : Int).toNat) 400 17) 421 20 (4 : Int).toNat (4 : Int).toNat) 400 20) 422 20 (24 : Int).toNat (24 : Int).toNat) 400 21) 423 20 (24 : Int).toNat (24 : Int).toNat) 400 = 13) ∧ (tg (setF (mk (setF (mk (setF (mk (setF (mk (setF (mk (setF (mk (setF (mk (setF (mk (setF (mk (setF (mk (setF (mk (setF (mk (setF (setI (setI (setI (setI (mk h 403 20 (4 : Int).toNat (4 : Int).toNat) 403 0 (-9)) 403 1 (-9)) 403 2 (-9)) 403 3 (-9)) 400 2) 404 20 (4 : Int).toNat (4 : Int).toNat) 400 3) 405 20 (240 : Int).toNat (240 : Int).toNat) 400 4) 410 20 (7 : Int).toNat (7 : Int).toNat) 400 9) 411 20 (7 : Int).toNat (7 : Int).toNat) 400 10) 412 20 (7 : Int).toNat (7 : Int).toNat) 400 11) 415 20 (7 : Int).toNat (7 : Int).toNat) 400 14) 416 20 (7 : Int).toNat (7 : Int).toNat) 400 15) 417 20 (7 : Int).toNat (7 : Int).toNat) 400 16) 418 20 (7 : Int).toNat (7 : Int).toNat) 400 17) 421 20 (4 : Int).toNat (4 : Int).toNat) 400 20) 422 20 (24 : Int).toNat (24 : Int).toNat) 400 21) 423 20 (24 : Int).toNat (24 : Int).toNat) 400 22) 424 = 0) ∧ (tg (mk (setF (mk (setF (mk (setF (mk (setF (mk (setF (mk (setF (mk (setF (mk (setF (mk (setF (mk (setF (mk (setF (mk (setF (mk (setF (setI (setI (setI (setI (mk h 403 20 (4 : Int).toNat (4 : Int).toNat) 403 0 (-9)) 403 1 (-9)) 403 2 (-9)) 403 3 (-9)) 400 2) 404 20 (4 : Int).toNat (4 : Int).toNat) 400 3) 405 20 (240 : Int).toNat (240 : Int).toNat) 400 4) 410 20 (7 : Int).toNat (7 : Int).toNat) 400 9) 411 20 (7 : Int).toNat (7 : Int).toNat) 400 10) 412 20 (7 : Int).toNat (7 : Int).toNat) 400 11) 415 20 (7 : Int).toNat (7 : Int).toNat) 400 14) 416 20 (7 : Int).toNat (7 : Int).toNat) 400 15) 417 20 (7 : Int).toNat (7 : Int).toNat) 400 16) 418 20 (7 : Int).toNat (7 : Int).toNat) 400 17) 421 20 (4 : Int).toNat (4 : Int).toNat) 400 20) 422 20 (24 : Int).toNat (24 : Int).toNat) 400 21) 423 20 (24 : Int).toNat (24 : Int).toNat) 400 22) 424 20 (24 : Int).toNat (24 : Int).toNat) 400 = 13) ∧ (tg (setF (mk (setF (mk (setF (mk (setF (mk (setF (mk (setF (mk (setF (mk (setF (mk (setF (mk (setF (mk (setF (mk (setF (mk (setF (mk (setF (setI (setI (setI (setI (mk h 403 20 (4 : Int).toNat (4 : Int).toNat) 403 0 (-9)) 403 1 (-9)) 403 2 (-9)) 403 3 (-9)) 400 2) 404 20 (4 : Int).toNat (4 : Int).toNat) 400 3) 405 20 (240 : Int).toNat (240 : Int).toNat) 400 4) 410 20 (7 : Int).toNat (7 : Int).toNat) 400 9) 411 20 (7 : Int).toNat (7 : Int).toNat) 400 10) 412 20 (7 : Int).toNat (7 : Int).toNat) 400 11) 415 20 (7 : Int).toNat (7 : Int).toNat) 400 14) 416 20 (7 : Int).toNat (7 : Int).toNat) 400 15) 417 20 (7 : Int).toNat (7 : Int).toNat) 400 16) 418 20 (7 : Int).toNat (7 : Int).toNat) 400 17) 421 20 (4 : Int).toNat (4 : Int).toNat) 400 20) 422 20 (24 : Int).toNat (24 : Int).toNat) 400 21) 423 20 (24 : Int).toNat (24 : Int).toNat) 400 22) 424 20 (24 : Int).toNat (24 : Int).toNat) 400 23) 400 = 13) ∧ (tg (setI (setF (mk (setF (mk (setF (mk (setF (mk (setF (mk (setF (mk (setF (mk (setF (mk (setF (mk (setF (mk (setF (mk (setF (mk (setF (mk (setF (setI (setI (setI (setI (mk h 403 20 (4 : Int).toNat (4 : Int).toNat) 403 0 (-9)) 403 1 (-9)) 403 2 (-9)) 403 3 (-9)) 400 2) 404 20 (4 : Int).toNat (4 : Int).toNat) 400 3) 405 20 (240 : Int).toNat (240 : Int).toNat) 400 4) 410 20 (7 : Int).toNat (7 : Int).toNat) 400 9) 411 20 (7 : Int).toNat (7 : Int).toNat) 400 10) 412 20 (7 : Int).toNat (7 : Int).toNat) 400 11) 415 20 (7 : Int).toNat (7 : Int).toNat) 400 14) 416 20 (7 : Int).toNat (7 : Int).toNat) 400 15) 417 20 (7 : Int).toNat (7 : Int).toNat) 400 16) 418 20 (7 : Int).toNat (7 : Int).toNat) 400 17) 421 20 (4 : Int).toNat (4 : Int).toNat) 400 20) 422 20 (24 : Int).toNat (24 : Int).toNat) 400 21) 423 20 (24 : Int).toNat (24 : Int).toNat) 400 22) 424 20 (24 : Int).toNat (24 : Int).toNat) 400 23) 400 24 (-9)) 426 = 0) ∧ (tg (mk (setI (setF (mk (setF (mk (setF (mk (setF (mk (setF (mk (setF (mk (setF (mk (setF (mk (setF (mk (setF (mk (setF (mk (setF (mk (setF (mk (setF (setI (setI (setI (setI (mk h 403 20 (4 : Int).toNat (4 : Int).toNat) 403 0 (-9)) 403 1 (-9)) 403 2 (-9)) 403 3 (-9)) 400 2) 404 20 (4 : Int).toNat (4 : Int).toNat) 400 3) 405 20 (240 : Int).toNat (240 : Int).toNat) 400 4) 410 20 (7 : Int).toNat (7 : Int).toNat) 400 9) 411 20 (7 : Int).toNat (7 : Int).toNat) 400 10) 412 20 (7 : Int).toNat (7 : Int).toNat) 400 11) 415 20 (7 : Int).toNat (7 : Int).toNat) 400 14) 416 20 (7 : Int).toNat (7 : Int).toNat) 400 15) 417 20 (7 : Int).toNat (7 : Int).toNat) 400 16) 418 20 (7 : Int).toNat (7 : Int).toNat) 400 17) 421 20 (4 : Int).toNat (4 : Int).toNat) 400 20) 422 20 (24 : Int).toNat (24 : Int).toNat) 400 21) 423 20 (24 : Int).toNat (24 : Int).toNat) 400 22) 424 20 (24 : Int).toNat (24 : Int).toNat) 400 23) 400 24 (-9)) 426 20 (18 : Int).toNat (18 : Int).toNat) 400 = 13) ∧ (tg (setF (mk (setI (setF (mk (setF (mk (setF (mk (setF (mk (setF (mk (setF (mk (setF (mk (setF (mk (setF (mk (setF (mk (setF (mk (setF (mk (setF (mk (setF (setI (setI (setI (setI (mk h 403 20 (4 : Int).toNat (4 : Int).toNat) 403 0 (-9)) 403 1 (-9)) 403 2 (-9)) 403 3 (-9)) 400 2) 404 20 (4 : Int).toNat (4 : Int).toNat) 400 3) 405 20 (240 : Int).toNat (240 : Int).toNat) 400 4) 410 20 (7 : Int).toNat (7 : Int).toNat) 400 9) 411 20 (7 : Int).toNat (7 : Int).toNat) 400 10) 412 20 (7 : Int).toNat (7 : Int).toNat) 400 11) 415 20 (7 : Int).toNat (7 : Int).toNat) 400 14) 416 20 (7 : Int).toNat (7 : Int).toNat) 400 15) 417 20 (7 : Int).toNat (7 : Int).toNat) 400 16) 418 20 (7 : Int).toNat (7 : Int).toNat) 400 17) 421 20 (4 : Int).toNat (4 : Int).toNat) 400 20) 422 20 (24 : Int).toNat (24 : Int).toNat) 400 21) 423 20 (24 : Int).toNat (24 : Int).toNat) 400 22) 424 20 (24 : Int).toNat (24 : Int).toNat) 400 23) 400 24 (-9)) 426 20 (18 : Int).toNat (18 : Int).toNat) 400 25) 428 = 0) ∧ (tg (mk (setF (mk (setI (setF (mk (setF (mk (setF (mk (setF (mk (setF (mk (setF (mk (setF (mk (setF (mk (setF (mk (setF (mk (setF (mk (setF (mk (setF (mk (setF (setI (setI (setI (setI (mk h 403 20 (4 : Int).toNat (4 : Int).toNat) 403 0 (-9)) 403 1 (-9)) 403 2 (-9)) 403 3 (-9)) 400 2) 404 20 (4 : Int).toNat (4 : Int).toNat) 400 3) 405 20 (240 : Int).toNat (240 : Int).toNat) 400 4) 410 20 (7 : Int).toNat (7 : Int).toNat) 400 9) 411 20 (7 : Int).toNat (7 : Int).toNat) 400 10) 412 20 (7 : Int).toNat (7 : Int).toNat) 400 11) 415 20 (7 : Int).toNat (7 : Int).toNat) 400 14) 416 20 (7 : Int).toNat (7 : Int).toNat) 400 15) 417 20 (7 : Int).toNat (7 : Int).toNat) 400 16) 418 20 (7 : Int).toNat (7 : Int).toNat) 400 17) 421 20 (4 : Int).toNat (4 : Int).toNat) 400 20) 422 20 (24 : Int).toNat (24 : Int).toNat) 400 21) 423 20 (24 : Int).toNat (24 : Int).toNat) 400 22) 424 20 (24 : Int).toNat (24 : Int).toNat) 400 23) 400 24 (-9)) 426 20 (18 : Int).toNat (18 : Int).toNat) 400 25) 428 20 (5040 : Int).toNat (5040 : Int).toNat) 400 = 13) ∧ (tg (setF (mk (setF (mk (setI (setF (mk (setF (mk (setF (mk (setF (mk (setF (mk (setF (mk (setF (mk (setF (mk (setF (mk (setF (mk (setF (mk (setF (mk (setF (mk (setF (setI (setI (setI (setI (mk h 403 20 (4 : Int).toNat (4 : Int).toNat) 403 0 (-9)) 403 1 (-9)) 403 2 (-9)) 403 3 (-9)) 400 2) 404 20 (4 : Int).toNat (4 : Int).toNat) 400 3) 405 20 (240 : Int).toNat (240 : Int).toNat) 400 4) 410 20 (7 : Int).toNat (7 : Int).toNat) 400 9) 411 20 (7 : Int).toNat (7 : Int).toNat) 400 10) 412 20 (7 : Int).toNat (7 : Int).toNat) 400 11) 415 20 (7 : Int).toNat (7 : Int).toNat) 400 14) 416 20 (7 : Int).toNat (7 : Int).toNat) 400 15) 417 20 (7 : Int).toNat (7 : Int).toNat) 400 16) 418 20 (7 : Int).toNat (7 : Int).toNat) 400 17) 421 20 (4 : Int).toNat (4 : Int).toNat) 400 20) 422 20 (24 : Int).toNat (24 : Int).toNat) 400 21) 423 20 (24 : Int).toNat (24 : Int).toNat) 400 22) 424 20 (24 : Int).toNat (24 : Int).toNat) 400 23) 400 24 (-9)) 426 20 (18 : Int).toNat (18 : Int).toNat) 400 25) 428 20 (5040 : Int).toNat (5040 : Int).toNat) 400 27) 429 = 0) ∧ (tg (mk (setF (mk (setF (mk (setI (setF (mk (setF (mk (setF (mk (setF (mk (setF (mk (setF (mk (setF (mk (setF (mk (setF (mk (setF (mk (setF (mk (setF (mk (setF (mk (setF (setI (setI (setI (setI (mk h 403 20 (4 : Int).toNat (4 : Int).toNat) 403 0 (-9)) 403 1 (-9)) 403 2 (-9)) 403 3 (-9)) 400 2) 404 20 (4 : Int).toNat (4 : Int).toNat) 400 3) 405 20 (240 : Int).toNat (240 : Int).toNat) 400 4) 410 20 (7 : Int).toNat (7 : Int).toNat) 400 9) 411 20 (7 : Int).toNat (7 : Int).toNat) 400 10) 412 20 (7 : Int).toNat (7 : Int).toNat) 400 11) 415 20 (7 : Int).toNat (7 : Int).toNat) 400 14) 416 20 (7 : Int).toNat (7 : Int).toNat) 400 15) 417 20 (7 : Int).toNat (7 : Int).toNat) 400 16) 418 20 (7 : Int).toNat (7 : Int).toNat) 400 17) 421 20 (4 : Int).toNat (4 : Int).toNat) 400 20) 422 20 (24 : Int).toNat (24 : Int).toNat) 400 21) 423 20 (24 : Int).toNat (24 : Int).toNat) 400 22) 424 20 (24 : Int).toNat (24 : Int).toNat) 400 23) 400 24 (-9)) 426 20 (18 : Int).toNat (18 : Int).toNat) 400 25) 428 20 (5040 : Int).toNat (5040 : Int).toNat) 400 27) 429 20 (5040 : Int).toNat (5040 : Int).toNat) 400 = 13) ∧ (tg (setF (mk (setF (mk (setF (mk (setI (setF (mk (setF (mk (setF (mk (setF (mk (setF (mk (setF (mk (setF (mk (setF (mk (setF (mk (setF (mk (setF (mk (setF (mk (setF (mk (setF (setI (setI (setI (setI (mk h 403 20 (4 : Int).toNat (4 : Int).toNat) 403 0 (-9)) 403 1 (-9)) 403 2 (-9)) 403 3 (-9)) 400 2) 404 20 (4 : Int).toNat (4 : Int).toNat) 400 3) 405 20 (240 : Int).toNat (240 : Int).toNat) 400 4) 410 20 (7 : Int).toNat (7 : Int).toNat) 400 9) 411 20 (7 : Int).toNat (7 : Int).toNat) 400 10) 412 20 (7 : Int).toNat (7 : Int).toNat) 400 11) 415 20 (7 : Int).toNat (7 : Int).toNat) 400 14) 416 20 (7 : Int).toNat (7 : Int).toNat) 400 15) 417 20 (7 : Int).toNat (7 : Int).toNat) 400 16) 418 20 (7 : Int).toNat (7 : Int).toNat) 400 17) 421 20 (4 : Int).toNat (4 : Int).toNat) 400 20) 422 20 (24 : Int).toNat (24 : Int).toNat) 400 21) 423 20 (24 : Int).toNat (24 : Int).toNat) 400 22) 424 20 (24 : Int).toNat (24 : Int).toNat) 400 23) 400 24 (-9)) 426 20 (18 : Int).toNat (18 : Int).toNat) 400 25) 428 20 (5040 : Int).toNat (5040 : Int).toNat) 400 27) 429 20 (5040 : Int).toNat (5040 : Int).toNat) 400 28) 430 = 0) ∧ (tg (mk (setF (mk (setF (mk (setF (mk (setI (setF (mk (setF (mk (setF (mk (setF (mk (setF (mk (setF (mk (setF (mk (setF (mk (setF (mk (setF (mk (setF (mk (setF (mk (setF (mk (setF (setI (setI (setI (setI (mk h 403 20 (4 : Int).toNat (4 : Int).toNat) 403 0 (-9)) 403 1 (-9)) 403 2 (-9)) 403 3 (-9)) 400 2) 404 20 (4 : Int).toNat (4 : Int).toNat) 400 3) 405 20 (240 : Int).toNat (240 : Int).toNat) 400 4) 410 20 (7 : Int).toNat (7 : Int).toNat) 400 9) 411 20 (7 : Int).toNat (7 : Int).toNat) 400 10) 412 20 (7 : Int).toNat (7 : Int).toNat) 400 11) 415 20 (7 : Int).toNat (7 : Int).toNat) 400 14) 416 20 (7 : Int).toNat (7 : Int).toNat) 400 15) 417 20 (7 : Int).toNat (7 : Int).toNat) 400 16) 418 20 (7 : Int).toNat (7 : Int).toNat) 400 17) 421 20 (4 : Int).toNat (4 : Int).toNat) 400 20) 422 20 (24 : Int).toNat (24 : Int).toNat) 400 21) 423 20 (24 : Int).toNat (24 : Int).toNat) 400 22) 424 20 (24 : Int).toNat (24 : Int).toNat) 400 23) 400 24 (-9)) 426 20 (18 : Int).toNat (18 : Int).toNat) 400 25) 428 20 (5040 : Int).toNat (5040 : Int).toNat) 400 27) 429 20 (5040 : Int).toNat (5040 : Int).toNat) 400 28) 430 20 (5040 : Int).toNat (5040 : Int).toNat) 400 = 13) ∧ (tg (setF (mk (setF (mk (setF (mk (setF (mk (setI (setF (mk (setF (mk (setF (mk (setF (mk (setF (mk (setF (mk (setF (mk (setF (mk (setF (mk (setF (mk (setF (mk (setF (mk (setF (mk (setF (setI (setI (setI (setI (mk h 403 20 (4 : Int).toNat (4 : Int).toNat) 403 0 (-9)) 403 1 (-9)) 403 2 (-9)) 403 3 (-9)) 400 2) 404 20 (4 : Int).toNat (4 : Int).toNat) 400 3) 405 20 (240 : Int).toNat (240 : Int).toNat) 400 4) 410 20 (7 : Int).toNat (7 : Int).toNat) 400 9) 411 20 (7 : Int).toNat (7 : Int).toNat) 400 10) 412 20 (7 : Int).toNat (7 : Int).toNat) 400 11) 415 20 (7 : Int).toNat (7 : Int).toNat) 400 14) 416 20 (7 : Int).toNat (7 : Int).toNat) 400 15) 417 20 (7 : Int).toNat (7 : Int).toNat) 400 16) 418 20 (7 : Int).toNat (7 : Int).toNat) 400 17) 421 20 (4 : Int).toNat (4 : Int).toNat) 400 20) 422 20 (24 : Int).toNat (24 : Int).toNat) 400 21) 423 20 (24 : Int).toNat (24 : Int).toNat) 400 22) 424 20 (24 : Int).toNat (24 : Int).toNat) 400 23) 400 24 (-9)) 426 20 (18 : Int).toNat (18 : Int).toNat) 400 25) 428 20 (5040 : Int).toNat (5040 : Int).toNat) 400 27) 429 20 (5040 : Int).toNat (5040 : Int).toNat) 400 28) 430 20 (5040 : Int).toNat (5040 : Int).toNat) 400 29) 431 = 0) ∧ (tg (mk (setF (mk (setF (mk (setF (mk (setF (mk (setI (setF (mk (setF (mk (setF (mk (setF (mk (setF (mk (setF (mk (setF (mk (setF (mk (setF (mk (setF (mk (setF (mk (setF (mk (setF (mk (setF (setI (setI (setI (setI (mk h 403 20 (4 : Int).toNat (4 : Int).toNat) 403 0 (-9)) 403 1 (-9)) 403 2 (-9)) 403 3 (-9)) 400 2) 404 20 (4 : Int).toNat (4 : Int).toNat) 400 3) 405 20 (240 : Int).toNat (240 : Int).toNat) 400 4) 410 20 (7 : Int).toNat (7 : Int).toNat) 400 9) 411 20 (7 : Int).toNat (7 : Int).toNat) 400 10) 412 20 (7 : Int).toNat (7 : Int).toNat) 400 11) 415 20 (7 : Int).toNat (7 : Int).toNat) 400 14) 416 20 (7 : Int).toNat (7 : Int).toNat) 400 15) 417 20 (7 : Int).toNat (7 : Int).toNat) 400 16) 418 20 (7 : Int).toNat (7 : Int).toNat) 400 17) 421 20 (4 : Int).toNat (4 : Int).toNat) 400 20) 422 20 (24 : Int).toNat (24 : Int).toNat) 400 21) 423 20 (24 : Int).toNat (24 : Int).toNat) 400 22) 424 20 (24 : Int).toNat (24 : Int).toNat) 400 23) 400 24 (-9)) 426 20 (18 : Int).toNat (18 : Int).toNat) 400 25) 428 20 (5040 : Int).toNat (5040 : Int).toNat) 400 27) 429 20 (5040 : Int).toNat (5040 : Int).toNat) 400 28) 430 20 (5040 : Int).toNat (5040 : Int).toNat) 400 29) 431 20 (5040 : Int).toNat (5040 : Int).toNat) 400 = 13) ∧ (tg (setF (mk (setF (mk (setF (mk (setF (mk (setF (mk (setI (setF (mk (setF (mk (setF (mk (setF (mk (setF (mk (setF (mk (setF (mk (setF (mk (setF (mk (setF (mk (setF (mk (setF (mk (setF (mk (setF (setI (setI (setI (setI (mk h 403 20 (4 : Int).toNat (4 : Int).toNat) 403 0 (-9)) 403 1 (-9)) 403 2 (-9)) 403 3 (-9)) 400 2) 404 20 (4 : Int).toNat (4 : Int).toNat) 400 3) 405 20 (240 : Int).toNat (240 : Int).toNat) 400 4) 410 20 (7 : Int).toNat (7 : Int).toNat) 400 9) 411 20 (7 : Int).toNat (7 : Int).toNat) 400 10) 412 20 (7 : Int).toNat (7 : Int).toNat) 400 11) 415 20 (7 : Int).toNat (7 : Int).toNat) 400 14) 416 20 (7 : Int).toNat (7 : Int).toNat) 400 15) 417 20 (7 : Int).toNat (7 : Int).toNat) 400 16) 418 20 (7 : Int).toNat (7 : Int).toNat) 400 17) 421 20 (4 : Int).toNat (4 : Int).toNat) 400 20) 422 20 (24 : Int).toNat (24 : Int).toNat) 400 21) 423 20 (24 : Int).toNat (24 : Int).toNat) 400 22) 424 20 (24 : Int).toNat (24 : Int).toNat) 400 23) 400 24 (-9)) 426 20 (18 : Int).toNat (18 : Int).toNat) 400 25) 428 20 (5040 : Int).toNat (5040 : Int).toNat) 400 27) 429 20 (5040 : Int).toNat (5040 : Int).toNat) 400 28) 430 20 (5040 : Int).toNat (5040 : Int).toNat) 400 29) 431 20 (5040 : Int).toNat (5040 : Int).toNat) 400 30) 433 = 0) ∧ (tg (mk (setF (mk (setF (mk (setF (mk (setF (mk (setF (mk (setI (setF (mk (setF (mk (setF (mk (setF (mk (setF (mk (setF (mk (setF (mk (setF (mk (setF (mk (setF (mk (setF (mk (setF (mk (setF (mk (setF (setI (setI (setI (setI (mk h 403 20 (4 : Int).toNat (4 : Int).toNat) 403 0 (-9)) 403 1 (-9)) 403 2 (-9)) 403 3 (-9)) 400 2) 404 20 (4 : Int).toNat (4 : Int).toNat) 400 3) 405 20 (240 : Int).toNat (240 : Int).toNat) 400 4) 410 20 (7 : Int).toNat (7 : Int).toNat) 400 9) 411 20 (7 : Int).toNat (7 : Int).toNat) 400 10) 412 20 (7 : Int).toNat (7 : Int).toNat) 400 11) 415 20 (7 : Int).toNat (7 : Int).toNat) 400 14) 416 20 (7 : Int).toNat (7 : Int).toNat) 400 15) 417 20 (7 : Int).toNat (7 : Int).toNat) 400 16) 418 20 (7 : Int).toNat (7 : Int).toNat) 400 17) 421 20 (4 : Int).toNat (4 : Int).toNat) 400 20) 422 20 (24 : Int).toNat (24 : Int).toNat) 400 21) 423 20 (24 : Int).toNat (24 : Int).toNat) 400 22) 424 20 (24 : Int).toNat (24 : Int).toNat) 400 23) 400 24 (-9)) 426 20 (18 : Int).toNat (18 : Int).toNat) 400 25) 428 20 (5040 : Int).toNat (5040 : Int).toNat) 400 27) 429 20 (5040 : Int).toNat (5040 : Int).toNat) 400 28) 430 20 (5040 : Int).toNat (5040 : Int).toNat) 400 29) 431 20 (5040 : Int).toNat (5040 : Int).toNat) 400 30) 433 20 (5040 : Int).toNat (5040 : Int).toNat) 400 = 13) ∧ (tg (setF (mk (setF (mk (setF (mk (setF (mk (setF (mk (setF (mk (setI (setF (mk (setF (mk (setF (mk (setF (mk (setF (mk (setF (mk (setF (mk (setF (mk (setF (mk (setF (mk (setF (mk (setF (mk (setF (mk (setF (setI (setI (setI (setI (mk h 403 20 (4 : Int).toNat (4 : Int).toNat) 403 0 (-9)) 403 1 (-9)) 403 2 (-9)) 403 3 (-9)) 400 2) 404 20 (4 : Int).toNat (4 : Int).toNat) 400 3) 405 20 (240 : Int).toNat (240 : Int).toNat) 400 4) 410 20 (7 : Int).toNat (7 : Int).toNat) 400 9) 411 20 (7 : Int).toNat (7 : Int).toNat) 400 10) 412 20 (7 : Int).toNat (7 : Int).toNat) 400 11) 415 20 (7 : Int).toNat (7 : Int).toNat) 400 14) 416 20 (7 : Int).toNat (7 : Int).toNat) 400 15) 417 20 (7 : Int).toNat (7 : Int).toNat) 400 16) 418 20 (7 : Int).toNat (7 : Int).toNat) 400 17) 421 20 (4 : Int).toNat (4 : Int).toNat) 400 20) 422 20 (24 : Int).toNat (24 : Int).toNat) 400 21) 423 20 (24 : Int).toNat (24 : Int).toNat) 400 22) 424 20 (24 : Int).toNat (24 : Int).toNat) 400 23) 400 24 (-9)) 426 20 (18 : Int).toNat (18 : Int).toNat) 400 25) 428 20 (5040 : Int).toNat (5040 : Int).toNat) 400 27) 429 20 (5040 : Int).toNat (5040 : Int).toNat) 400 28) 430 20 (5040 : Int).toNat (5040 : Int).toNat) 400 29) 431 20 (5040 : Int).toNat (5040 : Int).toNat) 400 30) 433 20 (5040 : Int).toNat (5040 : Int).toNat) 400 32) 434 = 0) ∧ (tg (mk (setF (mk (setF (mk (setF (mk (setF (mk (setF (mk (setF (mk (setI (setF (mk (setF (mk (setF (mk (setF (mk (setF (mk (setF (mk (setF (mk (setF (mk (setF (mk (setF (mk (setF (mk (setF (mk (setF (mk (setF (setI (setI (setI (setI (mk h 403 20 (4 : Int).toNat (4 : Int).toNat) 403 0 (-9)) 403 1 (-9)) 403 2 (-9)) 403 3 (-9)) 400 2) 404 20 (4 : Int).toNat (4 : Int).toNat) 400 3) 405 20 (240 : Int).toNat (240 : Int).toNat) 400 4) 410 20 (7 : Int).toNat (7 : Int).toNat) 400 9) 411 20 (7 : Int).toNat (7 : Int).toNat) 400 10) 412 20 (7 : Int).toNat (7 : Int).toNat) 400 11) 415 20 (7 : Int).toNat (7 : Int).toNat) 400 14) 416 20 (7 : Int).toNat (7 : Int).toNat) 400 15) 417 20 (7 : Int).toNat (7 : Int).toNat) 400 16) 418 20 (7 : Int).toNat (7 : Int).toNat) 400 17) 421 20 (4 : Int).toNat (4 : Int).toNat) 400 20) 422 20 (24 : Int).toNat (24 : Int).toNat) 400 21) 423 20 (24 : Int).toNat (24 : Int).toNat) 400 22) 424 20 (24 : Int).toNat (24 : Int).toNat) 400 23) 400 24 (-9)) 426 20 (18 : Int).toNat (18 : Int).toNat) 400 25) 428 20 (5040 : Int).toNat (5040 : Int).toNat) 400 27) 429 20 (5040 : Int).toNat (5040 : Int).toNat) 400 28) 430 20 (5040 : Int).toNat (5040 : Int).toNat) 400 29) 431 20 (5040 : Int).toNat (5040 : Int).toNat) 400 30) 433 20 (5040 : Int).toNat (5040 : Int).toNat) 400 32) 434 20 (5040 : Int).toNat (5040 : Int).toNat) 400 = 13) ∧ (tg (setF (mk (setF (mk (setF (mk (setF (mk (setF (mk (setF (mk (setF (mk (setI (setF (mk (setF (mk (setF (mk (setF (mk (setF (mk (setF (mk (setF (mk (setF (mk (setF (mk (setF (mk (setF (mk (setF (mk (setF (mk (setF (setI (setI (setI (setI (mk h 403 20 (4 : Int).toNat (4 : Int).toNat) 403 0 (-9)) 403 1 (-9)) 403 2 (-9)) 403 3 (-9)) 400 2) 404 20 (4 : Int).toNat (4 : Int).toNat) 400 3) 405 20 (240 : Int).toNat (240 : Int).toNat) 400 4) 410 20 (7 : Int).toNat (7 : Int).toNat) 400 9) 411 20 (7 : Int).toNat (7 : Int).toNat) 400 10) 412 20 (7 : Int).toNat (7 : Int).toNat) 400 11) 415 20 (7 : Int).toNat (7 : Int).toNat) 400 14) 416 20 (7 : Int).toNat (7 : Int).toNat) 400 15) 417 20 (7 : Int).toNat (7 : Int).toNat) 400 16) 418 20 (7 : Int).toNat (7 : Int).toNat) 400 17) 421 20 (4 : Int).toNat (4 : Int).toNat) 400 20) 422 20 (24 : Int).toNat (24 : Int).toNat) 400 21) 423 20 (24 : Int).toNat (24 : Int).toNat) 400 22) 424 20 (24 : Int).toNat (24 : Int).toNat) 400 23) 400 24 (-9)) 426 20 (18 : Int).toNat (18 : Int).toNat) 400 25) 428 20 (5040 : Int).toNat (5040 : Int).toNat) 400 27) 429 20 (5040 : Int).toNat (5040 : Int).toNat) 400 28) 430 20 (5040 : Int).toNat (5040 : Int).toNat) 400 29) 431 20 (5040 : Int).toNat (5040 : Int).toNat) 400 30) 433 20 (5040 : Int).toNat (5040 : Int).toNat) 400 32) 434 20 (5040 : Int).toNat (5040 : Int).toNat) 400 33) 436 = 0) ∧ (tg (mk (setF (mk (setF (mk (setF (mk (setF (mk (setF (mk (setF (mk (setF (mk (setI (setF (mk (setF (mk (setF (mk (setF (mk (setF (mk (setF (mk (setF (mk (setF (mk (setF (mk (setF (mk (setF (mk (setF (mk (setF (mk (setF (setI (setI (setI (setI (mk h 403 20 (4 : Int).toNat (4 : Int).toNat) 403 0 (-9)) 403 1 (-9)) 403 2 (-9)) 403 3 (-9)) 400 2) 404 20 (4 : Int).toNat (4 : Int).toNat) 400 3) 405 20 (240 : Int).toNat (240 : Int).toNat) 400 4) 410 20 (7 : Int).toNat (7 : Int).toNat) 400 9) 411 20 (7 : Int).toNat (7 : Int).toNat) 400 10) 412 20 (7 : Int).toNat (7 : Int).toNat) 400 11) 415 20 (7 : Int).toNat (7 : Int).toNat) 400 14) 416 20 (7 : Int).toNat (7 : Int).toNat) 400 15) 417 20 (7 : Int).toNat (7 : Int).toNat) 400 16) 418 20 (7 : Int).toNat (7 : Int).toNat) 400 17) 421 20 (4 : Int).toNat (4 : Int).toNat) 400 20) 422 20 (24 : Int).toNat (24 : Int).toNat) 400 21) 423 20 (24 : Int).toNat (24 : Int).toNat) 400 22) 424 20 (24 : Int).toNat (24 : Int).toNat) 400 23) 400 24 (-9)) 426 20 (18 : Int).toNat (18 : Int).toNat) 400 25) 428 20 (5040 : Int).toNat (5040 : Int).toNat) 400 27) 429 20 (5040 : Int).toNat (5040 : Int).toNat) 400 28) 430 20 (5040 : Int).toNat (5040 : Int).toNat) 400 29) 431 20 (5040 : Int).toNat (5040 : Int).toNat) 400 30) 433 20 (5040 : Int).toNat (5040 : Int).toNat) 400 32) 434 20 (5040 : Int).toNat (5040 : Int).toNat) 400 33) 436 20 (8 : Int).toNat (8 : Int).toNat) 400 = 13) ∧ (tg (setF (mk (setF (mk (setF (mk (setF (mk (setF (mk (setF (mk (setF (mk (setF (mk (setI (setF (mk (setF (mk (setF (mk (setF (mk (setF (mk (setF (mk (setF (mk (setF (mk (setF (mk (setF (mk (setF (mk (setF (mk (setF (mk (setF (setI (setI (setI (setI (mk h 403 20 (4 : Int).toNat (4 : Int).toNat) 403 0 (-9)) 403 1 (-9)) 403 2 (-9)) 403 3 (-9)) 400 2) 404 20 (4 : Int).toNat (4 : Int).toNat) 400 3) 405 20 (240 : Int).toNat (240 : Int).toNat) 400 4) 410 20 (7 : Int).toNat (7 : Int).toNat) 400 9) 411 20 (7 : Int).toNat (7 : Int).toNat) 400 10) 412 20 (7 : Int).toNat (7 : Int).toNat) 400 11) 415 20 (7 : Int).toNat (7 : Int).toNat) 400 14) 416 20 (7 : Int).toNat (7 : Int).toNat) 400 15) 417 20 (7 : Int).toNat (7 : Int).toNat) 400 16) 418 20 (7 : Int).toNat (7 : Int).toNat) 400 17) 421 20 (4 : Int).toNat (4 : Int).toNat) 400 20) 422 20 (24 : Int).toNat (24 : Int).toNat) 400 21) 423 20 (24 : Int).toNat (24 : Int).toNat) 400 22) 424 20 (24 : Int).toNat (24 : Int).toNat) 400 23) 400 24 (-9)) 426 20 (18 : Int).toNat (18 : Int).toNat) 400 25) 428 20 (5040 : Int).toNat (5040 : Int).toNat) 400 27) 429 20 (5040 : Int).toNat (5040 : Int).toNat) 400 28) 430 20 (5040 : Int).toNat (5040 : Int).toNat) 400 29) 431 20 (5040 : Int).toNat (5040 : Int).toNat) 400 30) 433 20 (5040 : Int).toNat (5040 : Int).toNat) 400 32) 434 20 (5040 : Int).toNat (5040 : Int).toNat) 400 33) 436 20 (8 : Int).toNat (8 : Int).toNat) 400 35) 437 = 0) ∧ (tg (mk (setF (mk (setF (mk (setF (mk (setF (mk (setF (mk (setF (mk (setF (mk (setF (mk (setI (setF (mk (setF (mk (setF (mk (setF (mk (setF (mk (setF (mk (setF (mk (setF (mk (setF (mk (setF (mk (setF (mk (setF (mk (setF (mk (setF (setI (setI (setI (setI (mk h 403 20 (4 : Int).toNat (4 : Int).toNat) 403 0 (-9)) 403 1 (-9)) 403 2 (-9)) 403 3 (-9)) 400 2) 404 20 (4 : Int).toNat (4 : Int).toNat) 400 3) 405 20 (240 : Int).toNat (240 : Int).toNat) 400 4) 410 20 (7 : Int).toNat (7 : Int).toNat) 400 9) 411 20 (7 : Int).toNat (7 : Int).toNat) 400 10) 412 20 (7 : Int).toNat (7 : Int).toNat) 400 11) 415 20 (7 : Int).toNat (7 : Int).toNat) 400 14) 416 20 (7 : Int).toNat (7 : Int).toNat) 400 15) 417 20 (7 : Int).toNat (7 : Int).toNat) 400 16) 418 20 (7 : Int).toNat (7 : Int).toNat) 400 17) 421 20 (4 : Int).toNat (4 : Int).toNat) 400 20) 422 20 (24 : Int).toNat (24 : Int).toNat) 400 21) 423 20 (24 : Int).toNat (24 : Int).toNat) 400 22) 424 20 (24 : Int).toNat (24 : Int).toNat) 400 23) 400 24 (-9)) 426 20 (18 : Int).toNat (18 : Int).toNat) 400 25) 428 20 (5040 : Int).toNat (5040 : Int).toNat) 400 27) 429 20 (5040 : Int).toNat (5040 : Int).toNat) 400 28) 430 20 (5040 : Int).toNat (5040 : Int).toNat) 400 29) 431 20 (5040 : Int).toNat (5040 : Int).toNat) 400 30) 433 20 (5040 : Int).toNat (5040 : Int).toNat) 400 32) 434 20 (5040 : Int).toNat (5040 : Int).toNat) 400 33) 436 20 (8 : Int).toNat (8 : Int).toNat) 400 35) 437 20 (8 : Int).toNat (8 : Int).toNat) 400 = 13) ∧ P .null (setF (mk (setF (mk (setF (mk (setF (mk (setF (mk (setF (mk (setF (mk (setF (mk (setF (mk (setI (setF (mk (setF (mk (setF (mk (setF (mk (setF (mk (setF (mk (setF (mk (setF (mk (setF (mk (setF (mk (setF (mk (setF (mk (setF (mk (setF (setI (setI (setI (setI (mk h 403 20 (4 : Int).toNat (4 : Int).toNat) 403 0 (-9)) 403 1 (-9)) 403 2 (-9)) 403 3 (-9)) 400 2) 404 20 (4 : Int).toNat (4 : Int).toNat) 400 3) 405 20 (240 : Int).toNat (240 : Int).toNat) 400 4) 410 20 (7 : Int).toNat (7 : Int).toNat) 400 9) 411 20 (7 : Int).toNat (7 : Int).toNat) 400 10) 412 20 (7 : Int).toNat (7 : Int).toNat) 400 11) 415 20 (7 : Int).toNat (7 : Int).toNat) 400 14) 416 20 (7 : Int).toNat (7 : Int).toNat) 400 15) 417 20 (7 : Int).toNat (7 : Int).toNat) 400 16) 418 20 (7 : Int).toNat (7 : Int).toNat) 400 17) 421 20 (4 : Int).toNat (4 : Int).toNat) 400 20) 422 20 (24 : Int).toNat (24 : Int).toNat) 400 21) 423 20 (24 : Int).toNat (24 : Int).toNat) 400 22) 424 20 (24 : Int).toNat (24 : Int).toNat) 400 23) 400 24 (-9)) 426 20 (18 : Int).toNat (18 : Int).toNat) 400 25) 428 20 (5040 : Int).toNat (5040 : Int).toNat) 400 27) 429 20 (5040 : Int).toNat (5040 : Int).toNat) 400 28) 430 20 (5040 : Int).toNat (5040 : Int).toNat) 400 29) 431 20 (5040 : Int).toNat (5040 : Int).toNat) 400 30) 433 20 (5040 : Int).toNat (5040 : Int).toNat) 400 32) 434 20 (5040 : Int).toNat (5040 : Int).toNat) 400 33) 436 20 (8 : Int).toNat (8 : Int).toNat) 400 35) 437 20 (8 : Int).toNat (8 : Int).toNat) 400 36)) : R 126 0 [.ref 400] [] h P := by
  refine R_aload_n (Dat dd_Y_init 0 rfl) rfl rfl ?_
  refine R_call8 (Dat dd_Y_init 1 rfl) rfl rfl ?_
  refine R_aload_n (Dat dd_Y_init 2 rfl) rfl rfl ?_
  refine R_iconst (Dat dd_Y_init 3 rfl) ?_
  obtain ⟨g1, T⟩ := T
  refine R_newa (Dat dd_Y_init 4 rfl) rfl (q := 403) rfl g1 (by decide) (by decide) (by decide) ?_
  refine R_dup (Dat dd_Y_init 5 rfl) rfl ?_
  refine R_iconst (Dat dd_Y_init 6 rfl) ?_
  refine R_bipush (Dat dd_Y_init 7 rfl) (a := (-9)) rfl ?_
  obtain ⟨g2, T⟩ := T
  obtain ⟨g3, T⟩ := T
  obtain ⟨g4, T⟩ := T
  refine R_iastore (Dat dd_Y_init 8 rfl) g2 g3 (by decide) g4 (v := (-9)) rfl ?_
  refine R_dup (Dat dd_Y_init 9 rfl) rfl ?_
  refine R_iconst (Dat dd_Y_init 10 rfl) ?_
  refine R_bipush (Dat dd_Y_init 11 rfl) (a := (-9)) rfl ?_
  obtain ⟨g5, T⟩ := T
  obtain ⟨g6, T⟩ := T
  obtain ⟨g7, T⟩ := T
  refine R_iastore (Dat dd_Y_init 12 rfl) g5 g6 (by decide) g7 (v := (-9)) rfl ?_
  refine R_dup (Dat dd_Y_init 13 rfl) rfl ?_
  refine R_iconst (Dat dd_Y_init 14 rfl) ?_
  refine R_bipush (Dat dd_Y_init 15 rfl) (a := (-9)) rfl ?_
  obtain ⟨g8, T⟩ := T
  obtain ⟨g9, T⟩ := T
  obtain ⟨g10, T⟩ := T
  refine R_iastore (Dat dd_Y_init 16 rfl) g8 g9 (by decide) g10 (v := (-9)) rfl ?_
  refine R_dup (Dat dd_Y_init 17 rfl) rfl ?_
  refine R_iconst (Dat dd_Y_init 18 rfl) ?_
  refine R_bipush (Dat dd_Y_init 19 rfl) (a := (-9)) rfl ?_
  obtain ⟨g11, T⟩ := T
  obtain ⟨g12, T⟩ := T
  obtain ⟨g13, T⟩ := T
  refine R_iastore (Dat dd_Y_init 20 rfl) g11 g12 (by decide) g13 (v := (-9)) rfl ?_
  obtain ⟨g14, T⟩ := T
  refine R_putr (Dat dd_Y_init 21 rfl) rfl rfl rfl (tok g14) rfl ?_
  refine R_aload_n (Dat dd_Y_init 22 rfl) rfl rfl ?_
  refine R_iconst (Dat dd_Y_init 23 rfl) ?_
  obtain ⟨g15, T⟩ := T
  refine R_newa (Dat dd_Y_init 24 rfl) rfl (q := 404) rfl g15 (by decide) (by decide) (by decide) ?_
  obtain ⟨g16, T⟩ := T
  refine R_putr (Dat dd_Y_init 25 rfl) rfl rfl rfl (tok g16) rfl ?_
  refine R_aload_n (Dat dd_Y_init 26 rfl) rfl rfl ?_
  refine R_sipush (Dat dd_Y_init 27 rfl) (a := 240) rfl ?_
  obtain ⟨g17, T⟩ := T
  refine R_newa (Dat dd_Y_init 28 rfl) rfl (q := 405) rfl g17 (by decide) (by decide) (by decide) ?_
  obtain ⟨g18, T⟩ := T
  refine R_putr (Dat dd_Y_init 29 rfl) rfl rfl rfl (tok g18) rfl ?_
  refine R_aload_n (Dat dd_Y_init 30 rfl) rfl rfl ?_
  refine R_bipush (Dat dd_Y_init 31 rfl) (a := 7) rfl ?_
  obtain ⟨g19, T⟩ := T
  refine R_newa (Dat dd_Y_init 32 rfl) rfl (q := 410) rfl g19 (by decide) (by decide) (by decide) ?_
  obtain ⟨g20, T⟩ := T
  refine R_putr (Dat dd_Y_init 33 rfl) rfl rfl rfl (tok g20) rfl ?_
  refine R_aload_n (Dat dd_Y_init 34 rfl) rfl rfl ?_
  refine R_bipush (Dat dd_Y_init 35 rfl) (a := 7) rfl ?_
  obtain ⟨g21, T⟩ := T
  refine R_newa (Dat dd_Y_init 36 rfl) rfl (q := 411) rfl g21 (by decide) (by decide) (by decide) ?_
  obtain ⟨g22, T⟩ := T
  refine R_putr (Dat dd_Y_init 37 rfl) rfl rfl rfl (tok g22) rfl ?_
  refine R_aload_n (Dat dd_Y_init 38 rfl) rfl rfl ?_
  refine R_bipush (Dat dd_Y_init 39 rfl) (a := 7) rfl ?_
  obtain ⟨g23, T⟩ := T
  refine R_newa (Dat dd_Y_init 40 rfl) rfl (q := 412) rfl g23 (by decide) (by decide) (by decide) ?_
  obtain ⟨g24, T⟩ := T
  refine R_putr (Dat dd_Y_init 41 rfl) rfl rfl rfl (tok g24) rfl ?_
  refine R_aload_n (Dat dd_Y_init 42 rfl) rfl rfl ?_
  refine R_bipush (Dat dd_Y_init 43 rfl) (a := 7) rfl ?_
  obtain ⟨g25, T⟩ := T
  refine R_newa (Dat dd_Y_init 44 rfl) rfl (q := 415) rfl g25 (by decide) (by decide) (by decide) ?_
  obtain ⟨g26, T⟩ := T
  refine R_putr (Dat dd_Y_init 45 rfl) rfl rfl rfl (tok g26) rfl ?_
  refine R_aload_n (Dat dd_Y_init 46 rfl) rfl rfl ?_
  refine R_bipush (Dat dd_Y_init 47 rfl) (a := 7) rfl ?_
  obtain ⟨g27, T⟩ := T
  refine R_newa (Dat dd_Y_init 48 rfl) rfl (q := 416) rfl g27 (by decide) (by decide) (by decide) ?_
  obtain ⟨g28, T⟩ := T
  refine R_putr (Dat dd_Y_init 49 rfl) rfl rfl rfl (tok g28) rfl ?_
  refine R_aload_n (Dat dd_Y_init 50 rfl) rfl rfl ?_
  refine R_bipush (Dat dd_Y_init 51 rfl) (a := 7) rfl ?_
  obtain ⟨g29, T⟩ := T
  refine R_newa (Dat dd_Y_init 52 rfl) rfl (q := 417) rfl g29 (by decide) (by decide) (by decide) ?_
  obtain ⟨g30, T⟩ := T
  refine R_putr (Dat dd_Y_init 53 rfl) rfl rfl rfl (tok g30) rfl ?_
  refine R_aload_n (Dat dd_Y_init 54 rfl) rfl rfl ?_
  refine R_bipush (Dat dd_Y_init 55 rfl) (a := 7) rfl ?_
  obtain ⟨g31, T⟩ := T
  refine R_newa (Dat dd_Y_init 56 rfl) rfl (q := 418) rfl g31 (by decide) (by decide) (by decide) ?_
  obtain ⟨g32, T⟩ := T
  refine R_putr (Dat dd_Y_init 57 rfl) rfl rfl rfl (tok g32) rfl ?_
  refine R_aload_n (Dat dd_Y_init 58 rfl) rfl rfl ?_
  refine R_iconst (Dat dd_Y_init 59 rfl) ?_
  obtain ⟨g33, T⟩ := T
  refine R_newa (Dat dd_Y_init 60 rfl) rfl (q := 421) rfl g33 (by decide) (by decide) (by decide) ?_
  obtain ⟨g34, T⟩ := T
  refine R_putr (Dat dd_Y_init 61 rfl) rfl rfl rfl (tok g34) rfl ?_
  refine R_aload_n (Dat dd_Y_init 62 rfl) rfl rfl ?_
  refine R_bipush (Dat dd_Y_init 63 rfl) (a := 24) rfl ?_
  obtain ⟨g35, T⟩ := T
  refine R_newa (Dat dd_Y_init 64 rfl) rfl (q := 422) rfl g35 (by decide) (by decide) (by decide) ?_
  obtain ⟨g36, T⟩ := T
  refine R_putr (Dat dd_Y_init 65 rfl) rfl rfl rfl (tok g36) rfl ?_
  refine R_aload_n (Dat dd_Y_init 66 rfl) rfl rfl ?_
  refine R_bipush (Dat dd_Y_init 67 rfl) (a := 24) rfl ?_
  obtain ⟨g37, T⟩ := T
  refine R_newa (Dat dd_Y_init 68 rfl) rfl (q := 423) rfl g37 (by decide) (by decide) (by decide) ?_
  obtain ⟨g38, T⟩ := T
  refine R_putr (Dat dd_Y_init 69 rfl) rfl rfl rfl (tok g38) rfl ?_
  refine R_aload_n (Dat dd_Y_init 70 rfl) rfl rfl ?_
  refine R_bipush (Dat dd_Y_init 71 rfl) (a := 24) rfl ?_
  obtain ⟨g39, T⟩ := T
  refine R_newa (Dat dd_Y_init 72 rfl) rfl (q := 424) rfl g39 (by decide) (by decide) (by decide) ?_
  obtain ⟨g40, T⟩ := T
  refine R_putr (Dat dd_Y_init 73 rfl) rfl rfl rfl (tok g40) rfl ?_
  refine R_aload_n (Dat dd_Y_init 74 rfl) rfl rfl ?_
  refine R_bipush (Dat dd_Y_init 75 rfl) (a := (-9)) rfl ?_
  obtain ⟨g41, T⟩ := T
  refine R_puti (Dat dd_Y_init 76 rfl) rfl rfl rfl (tok g41) rfl (v := (-9)) rfl ?_
  refine R_aload_n (Dat dd_Y_init 77 rfl) rfl rfl ?_
  refine R_bipush (Dat dd_Y_init 78 rfl) (a := 18) rfl ?_
  obtain ⟨g42, T⟩ := T
  refine R_newa (Dat dd_Y_init 79 rfl) rfl (q := 426) rfl g42 (by decide) (by decide) (by decide) ?_
  obtain ⟨g43, T⟩ := T
  refine R_putr (Dat dd_Y_init 80 rfl) rfl rfl rfl (tok g43) rfl ?_
  refine R_aload_n (Dat dd_Y_init 81 rfl) rfl rfl ?_
  refine R_sipush (Dat dd_Y_init 82 rfl) (a := 5040) rfl ?_
  obtain ⟨g44, T⟩ := T
  refine R_newa (Dat dd_Y_init 83 rfl) rfl (q := 428) rfl g44 (by decide) (by decide) (by decide) ?_
  obtain ⟨g45, T⟩ := T
  refine R_putr (Dat dd_Y_init 84 rfl) rfl rfl rfl (tok g45) rfl ?_
  refine R_aload_n (Dat dd_Y_init 85 rfl) rfl rfl ?_
  refine R_sipush (Dat dd_Y_init 86 rfl) (a := 5040) rfl ?_
  obtain ⟨g46, T⟩ := T
  refine R_newa (Dat dd_Y_init 87 rfl) rfl (q := 429) rfl g46 (by decide) (by decide) (by decide) ?_
  obtain ⟨g47, T⟩ := T
  refine R_putr (Dat dd_Y_init 88 rfl) rfl rfl rfl (tok g47) rfl ?_
  refine R_aload_n (Dat dd_Y_init 89 rfl) rfl rfl ?_
  refine R_sipush (Dat dd_Y_init 90 rfl) (a := 5040) rfl ?_
  obtain ⟨g48, T⟩ := T
  refine R_newa (Dat dd_Y_init 91 rfl) rfl (q := 430) rfl g48 (by decide) (by decide) (by decide) ?_
  obtain ⟨g49, T⟩ := T
  refine R_putr (Dat dd_Y_init 92 rfl) rfl rfl rfl (tok g49) rfl ?_
  refine R_aload_n (Dat dd_Y_init 93 rfl) rfl rfl ?_
  refine R_sipush (Dat dd_Y_init 94 rfl) (a := 5040) rfl ?_
  obtain ⟨g50, T⟩ := T
  refine R_newa (Dat dd_Y_init 95 rfl) rfl (q := 431) rfl g50 (by decide) (by decide) (by decide) ?_
  obtain ⟨g51, T⟩ := T
  refine R_putr (Dat dd_Y_init 96 rfl) rfl rfl rfl (tok g51) rfl ?_
  refine R_aload_n (Dat dd_Y_init 97 rfl) rfl rfl ?_
  refine R_sipush (Dat dd_Y_init 98 rfl) (a := 5040) rfl ?_
  obtain ⟨g52, T⟩ := T
  refine R_newa (Dat dd_Y_init 99 rfl) rfl (q := 433) rfl g52 (by decide) (by decide) (by decide) ?_
  obtain ⟨g53, T⟩ := T
  refine R_putr (Dat dd_Y_init 100 rfl) rfl rfl rfl (tok g53) rfl ?_
  refine R_aload_n (Dat dd_Y_init 101 rfl) rfl rfl ?_
  refine R_sipush (Dat dd_Y_init 102 rfl) (a := 5040) rfl ?_
  obtain ⟨g54, T⟩ := T
  refine R_newa (Dat dd_Y_init 103 rfl) rfl (q := 434) rfl g54 (by decide) (by decide) (by decide) ?_
  obtain ⟨g55, T⟩ := T
  refine R_putr (Dat dd_Y_init 104 rfl) rfl rfl rfl (tok g55) rfl ?_
  refine R_aload_n (Dat dd_Y_init 105 rfl) rfl rfl ?_
  refine R_bipush (Dat dd_Y_init 106 rfl) (a := 8) rfl ?_
  obtain ⟨g56, T⟩ := T
  refine R_newa (Dat dd_Y_init 107 rfl) rfl (q := 436) rfl g56 (by decide) (by decide) (by decide) ?_
  obtain ⟨g57, T⟩ := T
  refine R_putr (Dat dd_Y_init 108 rfl) rfl rfl rfl (tok g57) rfl ?_
  refine R_aload_n (Dat dd_Y_init 109 rfl) rfl rfl ?_
  refine R_bipush (Dat dd_Y_init 110 rfl) (a := 8) rfl ?_
  obtain ⟨g58, T⟩ := T
  refine R_newa (Dat dd_Y_init 111 rfl) rfl (q := 437) rfl g58 (by decide) (by decide) (by decide) ?_
  obtain ⟨g59, T⟩ := T
  refine R_putr (Dat dd_Y_init 112 rfl) rfl rfl rfl (tok g59) rfl ?_
  exact R_return (Dat dd_Y_init 113 rfl) rfl T
def dl_Y_box : List (Nat × Instr × Nat) := [(0, .aload_n 0, 1), (1, .iconst 0, 1), (2, .putfield 83, 3), (5, .iload_n 1, 1), (6, .invokestatic 101, 3), (9, .ifCond .ne 5, 3), (12, .iconst (-1), 1), (13, .ireturn, 1), (14, .iload_n 2, 1), (15, .invokestatic 105, 3), (18, .ifCond .ne 6, 3), (21, .bipush (-2), 2), (23, .ireturn, 1), (24, .aload_n 0, 1), (25, .iload_n 1, 1), (26, .iload_n 2, 1), (27, .iload_n 3, 1), (28, .iload 4, 2), (30, .invokevirtual 108, 3), (33, .istore 5, 2), (35, .iload 5, 2), (37, .ifCond .eq 10, 3), (40, .aload_n 0, 1), (41, .iload 5, 2), (43, .invokevirtual 112, 3), (46, .ireturn, 1), (47, .bipush 60, 2), (49, .iload_n 1, 1), (50, .imul, 1), (51, .iload_n 3, 1), (52, .iadd, 1), (53, .istore 6, 2), (55, .aload_n 0, 1), (56, .iload 6, 2), (58, .putfield 98, 3), (61, .aload_n 0, 1), (62, .iload 6, 2), (64, .iload 4, 2), (66, .iadd, 1), (67, .invokevirtual 116, 3), (70, .ifCond .ne 14, 3), (73, .bipush (-100), 2), (75, .aload_n 0, 1), (76, .getfield 98, 3), (79, .iload 6, 2), (81, .isub, 1), (82, .isub, 1), (83, .ireturn, 1), (84, .aload_n 0, 1), (85, .aload_n 0, 1), (86, .getfield 119, 3), (89, .putfield 92, 3), (92, .aload_n 0, 1), (93, .iconst 1, 1), (94, .putfield 95, 3), (97, .iconst 0, 1), (98, .istore 7, 2), (100, .iload 7, 2), (102, .aload_n 0, 1), (103, .getfield 92, 3), (106, .if_icmp .ge 64, 3), (109, .aload_n 0, 1), (110, .getfield 19, 3), (113, .iload 7, 2), (115, .aload_n 0, 1), (116, .getfield 28, 3), (119, .iload 7, 2), (121, .iaload, 1), (122, .iastore, 1), (123, .aload_n 0, 1), (124, .getfield 22, 3), (127, .iload 7, 2), (129, .aload_n 0, 1), (130, .getfield 31, 3), (133, .iload 7, 2), (135, .iaload, 1), (136, .iastore, 1), (137, .aload_n 0, 1), (138, .getfield 25, 3), (141, .iload 7, 2), (143, .aload_n 0, 1), (144, .getfield 34, 3), (147, .iload 7, 2), (149, .iaload, 1), (150, .iastore, 1), (151, .aload_n 0, 1), (152, .dup, 1), (153, .getfield 95, 3), (156, .iload 7, 2), (158, .iconst 1, 1), (159, .iadd, 1), (160, .imul, 1), (161, .putfield 95, 3), (164, .iinc 7 1, 3), (167, .goto (-67), 3), (170, .aload_n 0, 1), (171, .iconst 0, 1), (172, .putfield 122, 3), (175, .aload_n 0, 1), (176, .iconst 0, 1), (177, .putfield 125, 3), (180, .aload_n 0, 1), (181, .iconst 0, 1), (182, .putfield 128, 3), (185, .aload_n 0, 1), (186, .getfield 92, 3), (189, .ireturn, 1)]
theorem dd_Y_box : Dall 127 dl_Y_box = true := by decide +kernel
theorem t_Y_box {h : Hp} {P : Value → Hp → Prop} {p0 p1 p2 p3 : Int} (S : YS h) (T : R 128 0 [.int (I p0)] [] (setI h 400 0 0) (fun v h2 => R 127 9 [.ref 400, .int (I p0), .int (I p1), .int (I p2), .int (I p3), .retAddr 0, .retAddr 0, .retAddr 0] (v :: []) h2 P)) : R 127 0 [.ref 400, .int (I p0), .int (I p1), .int (I p2), .int (I p3), .retAddr 0, .retAddr 0, .retAddr 0] [] h P := by
  refine R_aload_n (Dat dd_Y_box 0 rfl) rfl rfl ?_
  refine R_iconst (Dat dd_Y_box 1 rfl) ?_
  refine R_puti (Dat dd_Y_box 2 rfl) rfl rfl rfl (tok S.t400) rfl (v := 0) rfl ?_
  refine R_iload_n (Dat dd_Y_box 3 rfl) rfl ?_
  exact R_call0 (Dat dd_Y_box 4 rfl) rfl rfl rfl rfl rfl rfl T
theorem t_Y_box_9 {h : Hp} {P : Value → Hp → Prop} {a1 a2 a3 a4 s0 : Int} {a5 a6 a7 : Value} (S : YS h) (T : (rng s0) ∧ ((s0 = 0 → P (.int (I (-1))) h) ∧ (¬ s0 = 0 → R 130 0 [.int (I a2)] [] h (fun v h2 => R 127 18 [.ref 400, .int (I a1), .int (I a2), .int (I a3), .int (I a4), a5, a6, a7] (v :: []) h2 P)))) : R 127 9 [.ref 400, .int (I a1), .int (I a2), .int (I a3), .int (I a4), a5, a6, a7] [.int (I s0)] h P := by
  obtain ⟨g1, T⟩ := T
  refine R_if_ne (Dat dd_Y_box 5 rfl) rfl g1  (fun c => ?_) (fun c => ?_)
  · replace T := T.1 c
    refine R_iconst (Dat dd_Y_box 6 rfl) ?_
    exact R_ireturn (Dat dd_Y_box 7 rfl) rfl T
  · replace T := T.2 c
    refine R_iload_n (Dat dd_Y_box 8 rfl) rfl ?_
    exact R_call0 (Dat dd_Y_box 9 rfl) rfl rfl rfl rfl rfl rfl T
theorem t_Y_box_18 {h : Hp} {P : Value → Hp → Prop} {a1 a2 a3 a4 s0 : Int} {a5 a6 a7 : Value} (S : YS h) (T : (rng s0) ∧ ((s0 = 0 → P (.int (I (-2))) h) ∧ (¬ s0 = 0 → R 131 0 [.ref 400, .int (I a1), .int (I a2), .int (I a3), .int (I a4)] [] h (fun v h2 => R 127 33 [.ref 400, .int (I a1), .int (I a2), .int (I a3), .int (I a4), a5, a6, a7] (v :: []) h2 P)))) : R 127 18 [.ref 400, .int (I a1), .int (I a2), .int (I a3), .int (I a4), a5, a6, a7] [.int (I s0)] h P := by
  obtain ⟨g1, T⟩ := T
  refine R_if_ne (Dat dd_Y_box 10 rfl) rfl g1  (fun c => ?_) (fun c => ?_)
  · replace T := T.1 c
    refine R_bipush (Dat dd_Y_box 11 rfl) (a := (-2)) rfl ?_
    exact R_ireturn (Dat dd_Y_box 12 rfl) rfl T
  · replace T := T.2 c
    refine R_aload_n (Dat dd_Y_box 13 rfl) rfl rfl ?_
    refine R_iload_n (Dat dd_Y_box 14 rfl) rfl ?_
    refine R_iload_n (Dat dd_Y_box 15 rfl) rfl ?_
    refine R_iload_n (Dat dd_Y_box 16 rfl) rfl ?_
    refine R_iload (Dat dd_Y_box 17 rfl) rfl ?_
    exact R_call1 (Dat dd_Y_box 18 rfl) rfl S.t400 rfl rfl rfl rfl rfl T
theorem t_Y_box_33 {h : Hp} {P : Value → Hp → Prop} {a1 a3 a4 s0 : Int} {a2 a5 a6 a7 : Value} (S : YS h) (T : (rng s0) ∧ ((s0 = 0 → R 133 0 [.ref 400, .int (I (((60 * a1) + a3) + a4))] [] (setI h 400 12 (wr ((60 * a1) + a3))) (fun v h2 => R 127 70 [.ref 400, .int (I a1), a2, .int (I a3), .int (I a4), .int (I s0), .int (I ((60 * a1) + a3)), a7] (v :: []) h2 P)) ∧ (¬ s0 = 0 → R 132 0 [.ref 400, .int (I s0)] [] h (fun v h2 => R 127 46 [.ref 400, .int (I a1), a2, .int (I a3), .int (I a4), .int (I s0), a6, a7] (v :: []) h2 P)))) : R 127 33 [.ref 400, .int (I a1), a2, .int (I a3), .int (I a4), a5, a6, a7] [.int (I s0)] h P := by
  refine R_istore (Dat dd_Y_box 19 rfl) rfl rfl ?_
  refine R_iload (Dat dd_Y_box 20 rfl) rfl ?_
  obtain ⟨g1, T⟩ := T
  refine R_if_eq (Dat dd_Y_box 21 rfl) rfl g1  (fun c => ?_) (fun c => ?_)
  · replace T := T.1 c
    refine R_bipush (Dat dd_Y_box 26 rfl) (a := 60) rfl ?_
    refine R_iload_n (Dat dd_Y_box 27 rfl) rfl ?_
    refine R_imul (Dat dd_Y_box 28 rfl) ?_
    refine R_iload_n (Dat dd_Y_box 29 rfl) rfl ?_
    refine R_iadd (Dat dd_Y_box 30 rfl) ?_
    refine R_istore (Dat dd_Y_box 31 rfl) rfl rfl ?_
    refine R_aload_n (Dat dd_Y_box 32 rfl) rfl rfl ?_
    refine R_iload (Dat dd_Y_box 33 rfl) rfl ?_
    refine R_puti (Dat dd_Y_box 34 rfl) rfl rfl rfl (tok S.t400) rfl (v := wr ((60 * a1) + a3)) rfl ?_
    refine R_aload_n (Dat dd_Y_box 35 rfl) rfl rfl ?_
    refine R_iload (Dat dd_Y_box 36 rfl) rfl ?_
    refine R_iload (Dat dd_Y_box 37 rfl) rfl ?_
    refine R_iadd (Dat dd_Y_box 38 rfl) ?_
    exact R_call1 (Dat dd_Y_box 39 rfl) rfl S.t400 rfl rfl rfl rfl rfl T
  · replace T := T.2 c
    refine R_aload_n (Dat dd_Y_box 22 rfl) rfl rfl ?_
    refine R_iload (Dat dd_Y_box 23 rfl) rfl ?_
    exact R_call1 (Dat dd_Y_box 24 rfl) rfl S.t400 rfl rfl rfl rfl rfl T
theorem t_Y_box_70 {h : Hp} {P : Value → Hp → Prop} {a6 s0 : Int} {a1 a2 a3 a4 a5 a7 : Value} (S : YS h) (T : (rng s0) ∧ ((s0 = 0 → P (.int (I ((-100) - ((iv h 400 12) - a6)))) h) ∧ (¬ s0 = 0 → R 127 100 [.ref 400, a1, a2, a3, a4, a5, .int (I a6), .int (I 0)] [] (setI (setI h 400 5 (wr (iv h 400 13))) 400 6 1) P))) : R 127 70 [.ref 400, a1, a2, a3, a4, a5, .int (I a6), a7] [.int (I s0)] h P := by
  obtain ⟨g1, T⟩ := T
  refine R_if_ne (Dat dd_Y_box 40 rfl) rfl g1  (fun c => ?_) (fun c => ?_)
  · replace T := T.1 c
    refine R_bipush (Dat dd_Y_box 41 rfl) (a := (-100)) rfl ?_
    refine R_aload_n (Dat dd_Y_box 42 rfl) rfl rfl ?_
    refine R_geti (Dat dd_Y_box 43 rfl) rfl rfl (tok S.t400) ?_
    refine R_iload (Dat dd_Y_box 44 rfl) rfl ?_
    refine R_isub (Dat dd_Y_box 45 rfl) ?_
    refine R_isub (Dat dd_Y_box 46 rfl) ?_
    exact R_ireturn (Dat dd_Y_box 47 rfl) rfl T
  · replace T := T.2 c
    refine R_aload_n (Dat dd_Y_box 48 rfl) rfl rfl ?_
    refine R_aload_n (Dat dd_Y_box 49 rfl) rfl rfl ?_
    refine R_geti (Dat dd_Y_box 50 rfl) rfl rfl (tok S.t400) ?_
    refine R_puti (Dat dd_Y_box 51 rfl) rfl rfl rfl (tok S.t400) rfl (v := wr (iv h 400 13)) rfl ?_
    refine R_aload_n (Dat dd_Y_box 52 rfl) rfl rfl ?_
    refine R_iconst (Dat dd_Y_box 53 rfl) ?_
    refine R_puti (Dat dd_Y_box 54 rfl) rfl rfl rfl (tok S.t400) rfl (v := 1) rfl ?_
    refine R_iconst (Dat dd_Y_box 55 rfl) ?_
    refine R_istore (Dat dd_Y_box 56 rfl) rfl rfl ?_
    exact T
theorem t_Y_box_46 {h : Hp} {P : Value → Hp → Prop} {s0 : Int} {a0 a1 a2 a3 a4 a5 a6 a7 : Value} (S : YS h) (T : P (.int (I s0)) h) : R 127 46 [a0, a1, a2, a3, a4, a5, a6, a7] [.int (I s0)] h P := by
  exact R_ireturn (Dat dd_Y_box 25 rfl) rfl T
theorem t_Y_box_100 {h : Hp} {P : Value → Hp → Prop} {a7 : Int} {a1 a2 a3 a4 a5 a6 : Value} (S : YS h) (T : (rng a7) ∧ (rng (iv h 400 5)) ∧ ((a7 < (iv h 400 5) → (0 ≤ a7) ∧ (a7 < 7) ∧ (0 ≤ a7) ∧ (a7 < 7) ∧ (0 ≤ a7) ∧ (a7 < 7) ∧ (0 ≤ a7) ∧ (a7 < 7) ∧ (0 ≤ a7) ∧ (a7 < 7) ∧ (0 ≤ a7) ∧ (a7 < 7) ∧ R 127 100 [.ref 400, a1, a2, a3, a4, a5, a6, .int (I (a7 + 1))] [] (setI (setI (setI (setI h 410 a7 (wr (iv h 415 a7))) 411 a7 (wr (iv (setI h 410 a7 (wr (iv h 415 a7))) 416 a7))) 412 a7 (wr (iv (setI (setI h 410 a7 (wr (iv h 415 a7))) 411 a7 (wr (iv (setI h 410 a7 (wr (iv h 415 a7))) 416 a7))) 417 a7))) 400 6 (wr ((iv (setI (setI (setI h 410 a7 (wr (iv h 415 a7))) 411 a7 (wr (iv (setI h 410 a7 (wr (iv h 415 a7))) 416 a7))) 412 a7 (wr (iv (setI (setI h 410 a7 (wr (iv h 415 a7))) 411 a7 (wr (iv (setI h 410 a7 (wr (iv h 415 a7))) 416 a7))) 417 a7))) 400 6) * (a7 + 1)))) P) ∧ (¬ a7 < (iv h 400 5) → P (.int (I (iv (setI (setI (setI h 400 7 0) 400 8 0) 400 34 0) 400 5))) (setI (setI (setI h 400 7 0) 400 8 0) 400 34 0)))) : R 127 100 [.ref 400, a1, a2, a3, a4, a5, a6, .int (I a7)] [] h P := by
  refine R_iload (Dat dd_Y_box 57 rfl) rfl ?_
  refine R_aload_n (Dat dd_Y_box 58 rfl) rfl rfl ?_
  refine R_geti (Dat dd_Y_box 59 rfl) rfl rfl (tok S.t400) ?_
  obtain ⟨g1, T⟩ := T
  obtain ⟨g2, T⟩ := T
  refine R_ic_ge (Dat dd_Y_box 60 rfl) rfl g1 g2 (fun c => ?_) (fun c => ?_)
  · replace T := T.1 c
    refine R_aload_n (Dat dd_Y_box 61 rfl) rfl rfl ?_
    refine R_getr (Dat dd_Y_box 62 rfl) rfl rfl (tok S.t400) S.f400_9 (q := 410) rfl (tnz S.t410) ?_
    refine R_iload (Dat dd_Y_box 63 rfl) rfl ?_
    refine R_aload_n (Dat dd_Y_box 64 rfl) rfl rfl ?_
    refine R_getr (Dat dd_Y_box 65 rfl) rfl rfl (tok S.t400) S.f400_14 (q := 415) rfl (tnz S.t415) ?_
    refine R_iload (Dat dd_Y_box 66 rfl) rfl ?_
    obtain ⟨g3, T⟩ := T
    obtain ⟨g4, T⟩ := T
    refine R_iaload (Dat dd_Y_box 67 rfl) (Or.inl S.t415) (lnle (show ln h 415 = 7 from S.l415) (by decide)) g3 (lnlt (show ln h 415 = 7 from S.l415) g4) ?_
    obtain ⟨g5, T⟩ := T
    obtain ⟨g6, T⟩ := T
    refine R_iastore (Dat dd_Y_box 68 rfl) S.t410 (lnle (show ln h 410 = 7 from S.l410) (by decide)) g5 (lnlt (show ln h 410 = 7 from S.l410) g6) (v := wr (iv h 415 a7)) rfl ?_
    refine R_aload_n (Dat dd_Y_box 69 rfl) rfl rfl ?_
    refine R_getr (Dat dd_Y_box 70 rfl) rfl rfl (tok S.t400) S.f400_10 (q := 411) rfl (tnz S.t411) ?_
    refine R_iload (Dat dd_Y_box 71 rfl) rfl ?_
    refine R_aload_n (Dat dd_Y_box 72 rfl) rfl rfl ?_
    refine R_getr (Dat dd_Y_box 73 rfl) rfl rfl (tok S.t400) S.f400_15 (q := 416) rfl (tnz S.t416) ?_
    refine R_iload (Dat dd_Y_box 74 rfl) rfl ?_
    obtain ⟨g7, T⟩ := T
    obtain ⟨g8, T⟩ := T
    refine R_iaload (Dat dd_Y_box 75 rfl) (Or.inl S.t416) (lnle (show ln (setI h 410 a7 (wr (iv h 415 a7))) 416 = 7 from S.l416) (by decide)) g7 (lnlt (show ln (setI h 410 a7 (wr (iv h 415 a7))) 416 = 7 from S.l416) g8) ?_
    obtain ⟨g9, T⟩ := T
    obtain ⟨g10, T⟩ := T
    refine R_iastore (Dat dd_Y_box 76 rfl) S.t411 (lnle (show ln (setI h 410 a7 (wr (iv h 415 a7))) 411 = 7 from S.l411) (by decide)) g9 (lnlt (show ln (setI h 410 a7 (wr (iv h 415 a7))) 411 = 7 from S.l411) g10) (v := wr (iv (setI h 410 a7 (wr (iv h 415 a7))) 416 a7)) rfl ?_
    refine R_aload_n (Dat dd_Y_box 77 rfl) rfl rfl ?_
    refine R_getr (Dat dd_Y_box 78 rfl) rfl rfl (tok S.t400) S.f400_11 (q := 412) rfl (tnz S.t412) ?_
    refine R_iload (Dat dd_Y_box 79 rfl) rfl ?_
    refine R_aload_n (Dat dd_Y_box 80 rfl) rfl rfl ?_
    refine R_getr (Dat dd_Y_box 81 rfl) rfl rfl (tok S.t400) S.f400_16 (q := 417) rfl (tnz S.t417) ?_
    refine R_iload (Dat dd_Y_box 82 rfl) rfl ?_
    obtain ⟨g11, T⟩ := T
    obtain ⟨g12, T⟩ := T
    refine R_iaload (Dat dd_Y_box 83 rfl) (Or.inl S.t417) (lnle (show ln (setI (setI h 410 a7 (wr (iv h 415 a7))) 411 a7 (wr (iv (setI h 410 a7 (wr (iv h 415 a7))) 416 a7))) 417 = 7 from S.l417) (by decide)) g11 (lnlt (show ln (setI (setI h 410 a7 (wr (iv h 415 a7))) 411 a7 (wr (iv (setI h 410 a7 (wr (iv h 415 a7))) 416 a7))) 417 = 7 from S.l417) g12) ?_
    obtain ⟨g13, T⟩ := T
    obtain ⟨g14, T⟩ := T
    refine R_iastore (Dat dd_Y_box 84 rfl) S.t412 (lnle (show ln (setI (setI h 410 a7 (wr (iv h 415 a7))) 411 a7 (wr (iv (setI h 410 a7 (wr (iv h 415 a7))) 416 a7))) 412 = 7 from S.l412) (by decide)) g13 (lnlt (show ln (setI (setI h 410 a7 (wr (iv h 415 a7))) 411 a7 (wr (iv (setI h 410 a7 (wr (iv h 415 a7))) 416 a7))) 412 = 7 from S.l412) g14) (v := wr (iv (setI (setI h 410 a7 (wr (iv h 415 a7))) 411 a7 (wr (iv (setI h 410 a7 (wr (iv h 415 a7))) 416 a7))) 417 a7)) rfl ?_
    refine R_aload_n (Dat dd_Y_box 85 rfl) rfl rfl ?_
    refine R_dup (Dat dd_Y_box 86 rfl) rfl ?_
    refine R_geti (Dat dd_Y_box 87 rfl) rfl rfl (tok S.t400) ?_
    refine R_iload (Dat dd_Y_box 88 rfl) rfl ?_
    refine R_iconst (Dat dd_Y_box 89 rfl) ?_
    refine R_iadd (Dat dd_Y_box 90 rfl) ?_
    refine R_imul (Dat dd_Y_box 91 rfl) ?_
    refine R_puti (Dat dd_Y_box 92 rfl) rfl rfl rfl (tok S.t400) rfl (v := wr ((iv (setI (setI (setI h 410 a7 (wr (iv h 415 a7))) 411 a7 (wr (iv (setI h 410 a7 (wr (iv h 415 a7))) 416 a7))) 412 a7 (wr (iv (setI (setI h 410 a7 (wr (iv h 415 a7))) 411 a7 (wr (iv (setI h 410 a7 (wr (iv h 415 a7))) 416 a7))) 417 a7))) 400 6) * (a7 + 1))) rfl ?_
    refine R_iinc (Dat dd_Y_box 93 rfl) rfl rfl rfl ?_
    refine R_goto (Dat dd_Y_box 94 rfl) rfl ?_
    exact T
  · replace T := T.2 c
    refine R_aload_n (Dat dd_Y_box 95 rfl) rfl rfl ?_
    refine R_iconst (Dat dd_Y_box 96 rfl) ?_
    refine R_puti (Dat dd_Y_box 97 rfl) rfl rfl rfl (tok S.t400) rfl (v := 0) rfl ?_
    refine R_aload_n (Dat dd_Y_box 98 rfl) rfl rfl ?_
    refine R_iconst (Dat dd_Y_box 99 rfl) ?_
    refine R_puti (Dat dd_Y_box 100 rfl) rfl rfl rfl (tok S.t400) rfl (v := 0) rfl ?_
    refine R_aload_n (Dat dd_Y_box 101 rfl) rfl rfl ?_
    refine R_iconst (Dat dd_Y_box 102 rfl) ?_
    refine R_puti (Dat dd_Y_box 103 rfl) rfl rfl rfl (tok S.t400) rfl (v := 0) rfl ?_
    refine R_aload_n (Dat dd_Y_box 104 rfl) rfl rfl ?_
    refine R_geti (Dat dd_Y_box 105 rfl) rfl rfl (tok S.t400) ?_
    exact R_ireturn (Dat dd_Y_box 106 rfl) rfl T
def dl_Y_isSheet : List (Nat × Instr × Nat) := [(0, .iload_n 0, 1), (1, .iconst 0, 1), (2, .iconst 3, 1), (3, .invokestatic 88, 3), (6, .ireturn, 1)]
theorem dd_Y_isSheet : Dall 128 dl_Y_isSheet = true := by decide +kernel
theorem t_Y_isSheet {h : Hp} {P : Value → Hp → Prop} {p0 : Int} (T : R 129 0 [.int (I p0), .int (I 0), .int (I 3)] [] h (fun v h2 => R 128 6 [.int (I p0)] (v :: []) h2 P)) : R 128 0 [.int (I p0)] [] h P := by
  refine R_iload_n (Dat dd_Y_isSheet 0 rfl) rfl ?_
  refine R_iconst (Dat dd_Y_isSheet 1 rfl) ?_
  refine R_iconst (Dat dd_Y_isSheet 2 rfl) ?_
  exact R_call0 (Dat dd_Y_isSheet 3 rfl) rfl rfl rfl rfl rfl rfl T
theorem t_Y_isSheet_6 {h : Hp} {P : Value → Hp → Prop} {s0 : Int} {a0 : Value} (T : (bz (I s0) = true) ∧ P (.int (I s0)) h) : R 128 6 [a0] [.int (I s0)] h P := by
  obtain ⟨g1, T⟩ := T
  exact R_ireturn (Dat dd_Y_isSheet 4 rfl) (by rw [g1]; rfl) T
def dl_Y_within : List (Nat × Instr × Nat) := [(0, .iload_n 0, 1), (1, .iload_n 1, 1), (2, .if_icmp .lt 12, 3), (5, .iload_n 0, 1), (6, .iload_n 2, 1), (7, .if_icmp .gt 7, 3), (10, .iconst 1, 1), (11, .goto 4, 3), (14, .iconst 0, 1), (15, .ireturn, 1)]
theorem dd_Y_within : Dall 129 dl_Y_within = true := by decide +kernel
theorem t_Y_within {h : Hp} {P : Value → Hp → Prop} {p0 p1 p2 : Int} (T : (rng p0) ∧ (rng p1) ∧ ((p0 < p1 → P (.int (I 0)) h) ∧ (¬ p0 < p1 → (rng p0) ∧ (rng p2) ∧ ((p2 < p0 → P (.int (I 0)) h) ∧ (¬ p2 < p0 → P (.int (I 1)) h))))) : R 129 0 [.int (I p0), .int (I p1), .int (I p2)] [] h P := by
  refine R_iload_n (Dat dd_Y_within 0 rfl) rfl ?_
  refine R_iload_n (Dat dd_Y_within 1 rfl) rfl ?_
  obtain ⟨g1, T⟩ := T
  obtain ⟨g2, T⟩ := T
  refine R_ic_lt (Dat dd_Y_within 2 rfl) rfl g1 g2 (fun c => ?_) (fun c => ?_)
  · replace T := T.1 c
    refine R_iconst (Dat dd_Y_within 8 rfl) ?_
    exact R_ireturn (Dat dd_Y_within 9 rfl) rfl T
  · replace T := T.2 c
    refine R_iload_n (Dat dd_Y_within 3 rfl) rfl ?_
    refine R_iload_n (Dat dd_Y_within 4 rfl) rfl ?_
    obtain ⟨g3, T⟩ := T
    obtain ⟨g4, T⟩ := T
    refine R_ic_gt (Dat dd_Y_within 5 rfl) rfl g3 g4 (fun c => ?_) (fun c => ?_)
    · replace T := T.1 c
      refine R_iconst (Dat dd_Y_within 8 rfl) ?_
      exact R_ireturn (Dat dd_Y_within 9 rfl) rfl T
    · replace T := T.2 c
      refine R_iconst (Dat dd_Y_within 6 rfl) ?_
      refine R_goto (Dat dd_Y_within 7 rfl) rfl ?_
      exact R_ireturn (Dat dd_Y_within 9 rfl) rfl T
def dl_Y_isSort : List (Nat × Instr × Nat) := [(0, .iload_n 0, 1), (1, .iconst 0, 1), (2, .iconst 2, 1), (3, .invokestatic 88, 3), (6, .ireturn, 1)]
theorem dd_Y_isSort : Dall 130 dl_Y_isSort = true := by decide +kernel
theorem t_Y_isSort {h : Hp} {P : Value → Hp → Prop} {p0 : Int} (T : R 129 0 [.int (I p0), .int (I 0), .int (I 2)] [] h (fun v h2 => R 130 6 [.int (I p0)] (v :: []) h2 P)) : R 130 0 [.int (I p0)] [] h P := by
  refine R_iload_n (Dat dd_Y_isSort 0 rfl) rfl ?_
  refine R_iconst (Dat dd_Y_isSort 1 rfl) ?_
  refine R_iconst (Dat dd_Y_isSort 2 rfl) ?_
  exact R_call0 (Dat dd_Y_isSort 3 rfl) rfl rfl rfl rfl rfl rfl T
theorem t_Y_isSort_6 {h : Hp} {P : Value → Hp → Prop} {s0 : Int} {a0 : Value} (T : (bz (I s0) = true) ∧ P (.int (I s0)) h) : R 130 6 [a0] [.int (I s0)] h P := by
  obtain ⟨g1, T⟩ := T
  exact R_ireturn (Dat dd_Y_isSort 4 rfl) (by rw [g1]; rfl) T
def dl_Y_against : List (Nat × Instr × Nat) := [(0, .aload_n 0, 1), (1, .getfield 9, 3), (4, .iload_n 1, 1), (5, .iaload, 1), (6, .bipush (-9), 2), (8, .if_icmp .eq 15, 3), (11, .aload_n 0, 1), (12, .getfield 9, 3), (15, .iload_n 1, 1), (16, .iaload, 1), (17, .iload_n 2, 1), (18, .if_icmp .eq 5, 3), (21, .iconst 2, 1), (22, .ireturn, 1), (23, .aload_n 0, 1), (24, .getfield 9, 3), (27, .iload_n 1, 1), (28, .iaload, 1), (29, .bipush (-9), 2), (31, .if_icmp .ne 5, 3), (34, .iconst 1, 1), (35, .ireturn, 1), (36, .iload 4, 2), (38, .ifCond .ge 5, 3), (41, .iconst 4, 1), (42, .ireturn, 1), (43, .iload_n 3, 1), (44, .ifCond .lt 26, 3), (47, .iload_n 3, 1), (48, .aload_n 0, 1), (49, .getfield 13, 3), (52, .iload_n 1, 1), (53, .iaload, 1), (54, .if_icmp .gt 16, 3), (57, .iload 4, 2), (59, .aload_n 0, 1), (60, .getfield 13, 3), (63, .iload_n 1, 1), (64, .iaload, 1), (65, .iload_n 3, 1), (66, .isub, 1), (67, .if_icmp .le 7, 3), (70, .iconst 3, 1), (71, .goto 4, 3), (74, .iconst 0, 1), (75, .ireturn, 1)]
theorem dd_Y_against : Dall 131 dl_Y_against = true := by decide +kernel
theorem t_Y_against {h : Hp} {P : Value → Hp → Prop} {p0 p1 p2 p3 : Int} (S : YS h) (T : (0 ≤ p0) ∧ (p0 < 4) ∧ (rng (iv h 403 p0)) ∧ (((iv h 403 p0) = (-9) → (0 ≤ p0) ∧ (p0 < 4) ∧ (rng (iv h 403 p0)) ∧ (((iv h 403 p0) = (-9) → P (.int (I 1)) h) ∧ (¬ (iv h 403 p0) = (-9) → (rng p3) ∧ ((p3 < 0 → P (.int (I 4)) h) ∧ (¬ p3 < 0 → (rng p2) ∧ ((p2 < 0 → P (.int (I 3)) h) ∧ (¬ p2 < 0 → (0 ≤ p0) ∧ (p0 < 4) ∧ (rng p2) ∧ (rng (iv h 404 p0)) ∧ (((iv h 404 p0) < p2 → P (.int (I 3)) h) ∧ (¬ (iv h 404 p0) < p2 → (0 ≤ p0) ∧ (p0 < 4) ∧ (rng p3) ∧ (rng ((iv h 404 p0) - p2)) ∧ ((((iv h 404 p0) - p2) < p3 → P (.int (I 3)) h) ∧ (¬ ((iv h 404 p0) - p2) < p3 → P (.int (I 0)) h))))))))))) ∧ (¬ (iv h 403 p0) = (-9) → (0 ≤ p0) ∧ (p0 < 4) ∧ (rng (iv h 403 p0)) ∧ (rng p1) ∧ (((iv h 403 p0) = p1 → (0 ≤ p0) ∧ (p0 < 4) ∧ (rng (iv h 403 p0)) ∧ (((iv h 403 p0) = (-9) → P (.int (I 1)) h) ∧ (¬ (iv h 403 p0) = (-9) → (rng p3) ∧ ((p3 < 0 → P (.int (I 4)) h) ∧ (¬ p3 < 0 → (rng p2) ∧ ((p2 < 0 → P (.int (I 3)) h) ∧ (¬ p2 < 0 → (0 ≤ p0) ∧ (p0 < 4) ∧ (rng p2) ∧ (rng (iv h 404 p0)) ∧ (((iv h 404 p0) < p2 → P (.int (I 3)) h) ∧ (¬ (iv h 404 p0) < p2 → (0 ≤ p0) ∧ (p0 < 4) ∧ (rng p3) ∧ (rng ((iv h 404 p0) - p2)) ∧ ((((iv h 404 p0) - p2) < p3 → P (.int (I 3)) h) ∧ (¬ ((iv h 404 p0) - p2) < p3 → P (.int (I 0)) h))))))))))) ∧ (¬ (iv h 403 p0) = p1 → P (.int (I 2)) h))))) : R 131 0 [.ref 400, .int (I p0), .int (I p1), .int (I p2), .int (I p3)] [] h P := by
  refine R_aload_n (Dat dd_Y_against 0 rfl) rfl rfl ?_
  refine R_getr (Dat dd_Y_against 1 rfl) rfl rfl (tok S.t400) S.f400_2 (q := 403) rfl (tnz S.t403) ?_
  refine R_iload_n (Dat dd_Y_against 2 rfl) rfl ?_
  obtain ⟨g1, T⟩ := T
  obtain ⟨g2, T⟩ := T
  refine R_iaload (Dat dd_Y_against 3 rfl) (Or.inl S.t403) (lnle (show ln h 403 = 4 from S.l403) (by decide)) g1 (lnlt (show ln h 403 = 4 from S.l403) g2) ?_
  refine R_bipush (Dat dd_Y_against 4 rfl) (a := (-9)) rfl ?_
  obtain ⟨g3, T⟩ := T
  refine R_ic_eq (Dat dd_Y_against 5 rfl) rfl g3 (by decide) (fun c => ?_) (fun c => ?_)
  · replace T := T.1 c
    refine R_aload_n (Dat dd_Y_against 14 rfl) rfl rfl ?_
    refine R_getr (Dat dd_Y_against 15 rfl) rfl rfl (tok S.t400) S.f400_2 (q := 403) rfl (tnz S.t403) ?_
    refine R_iload_n (Dat dd_Y_against 16 rfl) rfl ?_
    obtain ⟨g4, T⟩ := T
    obtain ⟨g5, T⟩ := T
    refine R_iaload (Dat dd_Y_against 17 rfl) (Or.inl S.t403) (lnle (show ln h 403 = 4 from S.l403) (by decide)) g4 (lnlt (show ln h 403 = 4 from S.l403) g5) ?_
    refine R_bipush (Dat dd_Y_against 18 rfl) (a := (-9)) rfl ?_
    obtain ⟨g6, T⟩ := T
    refine R_ic_ne (Dat dd_Y_against 19 rfl) rfl g6 (by decide) (fun c => ?_) (fun c => ?_)
    · replace T := T.1 c
      refine R_iconst (Dat dd_Y_against 20 rfl) ?_
      exact R_ireturn (Dat dd_Y_against 21 rfl) rfl T
    · replace T := T.2 c
      refine R_iload (Dat dd_Y_against 22 rfl) rfl ?_
      obtain ⟨g7, T⟩ := T
      refine R_if_ge (Dat dd_Y_against 23 rfl) rfl g7  (fun c => ?_) (fun c => ?_)
      · replace T := T.1 c
        refine R_iconst (Dat dd_Y_against 24 rfl) ?_
        exact R_ireturn (Dat dd_Y_against 25 rfl) rfl T
      · replace T := T.2 c
        refine R_iload_n (Dat dd_Y_against 26 rfl) rfl ?_
        obtain ⟨g8, T⟩ := T
        refine R_if_lt (Dat dd_Y_against 27 rfl) rfl g8  (fun c => ?_) (fun c => ?_)
        · replace T := T.1 c
          refine R_iconst (Dat dd_Y_against 42 rfl) ?_
          refine R_goto (Dat dd_Y_against 43 rfl) rfl ?_
          exact R_ireturn (Dat dd_Y_against 45 rfl) rfl T
        · replace T := T.2 c
          refine R_iload_n (Dat dd_Y_against 28 rfl) rfl ?_
          refine R_aload_n (Dat dd_Y_against 29 rfl) rfl rfl ?_
          refine R_getr (Dat dd_Y_against 30 rfl) rfl rfl (tok S.t400) S.f400_3 (q := 404) rfl (tnz S.t404) ?_
          refine R_iload_n (Dat dd_Y_against 31 rfl) rfl ?_
          obtain ⟨g9, T⟩ := T
          obtain ⟨g10, T⟩ := T
          refine R_iaload (Dat dd_Y_against 32 rfl) (Or.inl S.t404) (lnle (show ln h 404 = 4 from S.l404) (by decide)) g9 (lnlt (show ln h 404 = 4 from S.l404) g10) ?_
          obtain ⟨g11, T⟩ := T
          obtain ⟨g12, T⟩ := T
          refine R_ic_gt (Dat dd_Y_against 33 rfl) rfl g11 g12 (fun c => ?_) (fun c => ?_)
          · replace T := T.1 c
            refine R_iconst (Dat dd_Y_against 42 rfl) ?_
            refine R_goto (Dat dd_Y_against 43 rfl) rfl ?_
            exact R_ireturn (Dat dd_Y_against 45 rfl) rfl T
          · replace T := T.2 c
            refine R_iload (Dat dd_Y_against 34 rfl) rfl ?_
            refine R_aload_n (Dat dd_Y_against 35 rfl) rfl rfl ?_
            refine R_getr (Dat dd_Y_against 36 rfl) rfl rfl (tok S.t400) S.f400_3 (q := 404) rfl (tnz S.t404) ?_
            refine R_iload_n (Dat dd_Y_against 37 rfl) rfl ?_
            obtain ⟨g13, T⟩ := T
            obtain ⟨g14, T⟩ := T
            refine R_iaload (Dat dd_Y_against 38 rfl) (Or.inl S.t404) (lnle (show ln h 404 = 4 from S.l404) (by decide)) g13 (lnlt (show ln h 404 = 4 from S.l404) g14) ?_
            refine R_iload_n (Dat dd_Y_against 39 rfl) rfl ?_
            refine R_isub (Dat dd_Y_against 40 rfl) ?_
            obtain ⟨g15, T⟩ := T
            obtain ⟨g16, T⟩ := T
            refine R_ic_le (Dat dd_Y_against 41 rfl) rfl g15 g16 (fun c => ?_) (fun c => ?_)
            · replace T := T.1 c
              refine R_iconst (Dat dd_Y_against 42 rfl) ?_
              refine R_goto (Dat dd_Y_against 43 rfl) rfl ?_
              exact R_ireturn (Dat dd_Y_against 45 rfl) rfl T
            · replace T := T.2 c
              refine R_iconst (Dat dd_Y_against 44 rfl) ?_
              exact R_ireturn (Dat dd_Y_against 45 rfl) rfl T
  · replace T := T.2 c
    refine R_aload_n (Dat dd_Y_against 6 rfl) rfl rfl ?_
    refine R_getr (Dat dd_Y_against 7 rfl) rfl rfl (tok S.t400) S.f400_2 (q := 403) rfl (tnz S.t403) ?_
    refine R_iload_n (Dat dd_Y_against 8 rfl) rfl ?_
    obtain ⟨g17, T⟩ := T
    obtain ⟨g18, T⟩ := T
    refine R_iaload (Dat dd_Y_against 9 rfl) (Or.inl S.t403) (lnle (show ln h 403 = 4 from S.l403) (by decide)) g17 (lnlt (show ln h 403 = 4 from S.l403) g18) ?_
    refine R_iload_n (Dat dd_Y_against 10 rfl) rfl ?_
    obtain ⟨g19, T⟩ := T
    obtain ⟨g20, T⟩ := T
    refine R_ic_eq (Dat dd_Y_against 11 rfl) rfl g19 g20 (fun c => ?_) (fun c => ?_)
    · replace T := T.1 c
      refine R_aload_n (Dat dd_Y_against 14 rfl) rfl rfl ?_
      refine R_getr (Dat dd_Y_against 15 rfl) rfl rfl (tok S.t400) S.f400_2 (q := 403) rfl (tnz S.t403) ?_
      refine R_iload_n (Dat dd_Y_against 16 rfl) rfl ?_
      obtain ⟨g21, T⟩ := T
      obtain ⟨g22, T⟩ := T
      refine R_iaload (Dat dd_Y_against 17 rfl) (Or.inl S.t403) (lnle (show ln h 403 = 4 from S.l403) (by decide)) g21 (lnlt (show ln h 403 = 4 from S.l403) g22) ?_
      refine R_bipush (Dat dd_Y_against 18 rfl) (a := (-9)) rfl ?_
      obtain ⟨g23, T⟩ := T
      refine R_ic_ne (Dat dd_Y_against 19 rfl) rfl g23 (by decide) (fun c => ?_) (fun c => ?_)
      · replace T := T.1 c
        refine R_iconst (Dat dd_Y_against 20 rfl) ?_
        exact R_ireturn (Dat dd_Y_against 21 rfl) rfl T
      · replace T := T.2 c
        refine R_iload (Dat dd_Y_against 22 rfl) rfl ?_
        obtain ⟨g24, T⟩ := T
        refine R_if_ge (Dat dd_Y_against 23 rfl) rfl g24  (fun c => ?_) (fun c => ?_)
        · replace T := T.1 c
          refine R_iconst (Dat dd_Y_against 24 rfl) ?_
          exact R_ireturn (Dat dd_Y_against 25 rfl) rfl T
        · replace T := T.2 c
          refine R_iload_n (Dat dd_Y_against 26 rfl) rfl ?_
          obtain ⟨g25, T⟩ := T
          refine R_if_lt (Dat dd_Y_against 27 rfl) rfl g25  (fun c => ?_) (fun c => ?_)
          · replace T := T.1 c
            refine R_iconst (Dat dd_Y_against 42 rfl) ?_
            refine R_goto (Dat dd_Y_against 43 rfl) rfl ?_
            exact R_ireturn (Dat dd_Y_against 45 rfl) rfl T
          · replace T := T.2 c
            refine R_iload_n (Dat dd_Y_against 28 rfl) rfl ?_
            refine R_aload_n (Dat dd_Y_against 29 rfl) rfl rfl ?_
            refine R_getr (Dat dd_Y_against 30 rfl) rfl rfl (tok S.t400) S.f400_3 (q := 404) rfl (tnz S.t404) ?_
            refine R_iload_n (Dat dd_Y_against 31 rfl) rfl ?_
            obtain ⟨g26, T⟩ := T
            obtain ⟨g27, T⟩ := T
            refine R_iaload (Dat dd_Y_against 32 rfl) (Or.inl S.t404) (lnle (show ln h 404 = 4 from S.l404) (by decide)) g26 (lnlt (show ln h 404 = 4 from S.l404) g27) ?_
            obtain ⟨g28, T⟩ := T
            obtain ⟨g29, T⟩ := T
            refine R_ic_gt (Dat dd_Y_against 33 rfl) rfl g28 g29 (fun c => ?_) (fun c => ?_)
            · replace T := T.1 c
              refine R_iconst (Dat dd_Y_against 42 rfl) ?_
              refine R_goto (Dat dd_Y_against 43 rfl) rfl ?_
              exact R_ireturn (Dat dd_Y_against 45 rfl) rfl T
            · replace T := T.2 c
              refine R_iload (Dat dd_Y_against 34 rfl) rfl ?_
              refine R_aload_n (Dat dd_Y_against 35 rfl) rfl rfl ?_
              refine R_getr (Dat dd_Y_against 36 rfl) rfl rfl (tok S.t400) S.f400_3 (q := 404) rfl (tnz S.t404) ?_
              refine R_iload_n (Dat dd_Y_against 37 rfl) rfl ?_
              obtain ⟨g30, T⟩ := T
              obtain ⟨g31, T⟩ := T
              refine R_iaload (Dat dd_Y_against 38 rfl) (Or.inl S.t404) (lnle (show ln h 404 = 4 from S.l404) (by decide)) g30 (lnlt (show ln h 404 = 4 from S.l404) g31) ?_
              refine R_iload_n (Dat dd_Y_against 39 rfl) rfl ?_
              refine R_isub (Dat dd_Y_against 40 rfl) ?_
              obtain ⟨g32, T⟩ := T
              obtain ⟨g33, T⟩ := T
              refine R_ic_le (Dat dd_Y_against 41 rfl) rfl g32 g33 (fun c => ?_) (fun c => ?_)
              · replace T := T.1 c
                refine R_iconst (Dat dd_Y_against 42 rfl) ?_
                refine R_goto (Dat dd_Y_against 43 rfl) rfl ?_
                exact R_ireturn (Dat dd_Y_against 45 rfl) rfl T
              · replace T := T.2 c
                refine R_iconst (Dat dd_Y_against 44 rfl) ?_
                exact R_ireturn (Dat dd_Y_against 45 rfl) rfl T
    · replace T := T.2 c
      refine R_iconst (Dat dd_Y_against 12 rfl) ?_
      exact R_ireturn (Dat dd_Y_against 13 rfl) rfl T
def dl_Y_fails : List (Nat × Instr × Nat) := [(0, .aload_n 0, 1), (1, .iload_n 1, 1), (2, .putfield 83, 3), (5, .bipush (-10), 2), (7, .iload_n 1, 1), (8, .isub, 1), (9, .ireturn, 1)]
theorem dd_Y_fails : Dall 132 dl_Y_fails = true := by decide +kernel
theorem t_Y_fails {h : Hp} {P : Value → Hp → Prop} {p0 : Int} (S : YS h) (T : P (.int (I ((-10) - p0))) (setI h 400 0 (wr p0))) : R 132 0 [.ref 400, .int (I p0)] [] h P := by
  refine R_aload_n (Dat dd_Y_fails 0 rfl) rfl rfl ?_
  refine R_iload_n (Dat dd_Y_fails 1 rfl) rfl ?_
  refine R_puti (Dat dd_Y_fails 2 rfl) rfl rfl rfl (tok S.t400) rfl (v := wr p0) rfl ?_
  refine R_bipush (Dat dd_Y_fails 3 rfl) (a := (-10)) rfl ?_
  refine R_iload_n (Dat dd_Y_fails 4 rfl) rfl ?_
  refine R_isub (Dat dd_Y_fails 5 rfl) ?_
  exact R_ireturn (Dat dd_Y_fails 6 rfl) rfl T
def dl_Y_readBox : List (Nat × Instr × Nat) := [(0, .aload_n 0, 1), (1, .iconst 0, 1), (2, .putfield 119, 3), (5, .aload_n 0, 1), (6, .bipush 103, 2), (8, .iload_n 1, 1), (9, .invokevirtual 131, 3), (12, .ifCond .ne 5, 3), (15, .iconst 0, 1), (16, .ireturn, 1), (17, .aload_n 0, 1), (18, .dup, 1), (19, .getfield 98, 3), (22, .iconst 1, 1), (23, .iadd, 1), (24, .putfield 98, 3), (27, .aload_n 0, 1), (28, .getfield 28, 3), (31, .aload_n 0, 1), (32, .getfield 119, 3), (35, .aload_n 0, 1), (36, .aload_n 0, 1), (37, .getfield 98, 3), (40, .iload_n 1, 1), (41, .invokevirtual 135, 3), (44, .iastore, 1), (45, .aload_n 0, 1), (46, .getfield 28, 3), (49, .aload_n 0, 1), (50, .getfield 119, 3), (53, .iaload, 1), (54, .iconst 1, 1), (55, .if_icmp .ge 5, 3), (58, .iconst 0, 1), (59, .ireturn, 1), (60, .aload_n 0, 1), (61, .dup, 1), (62, .getfield 98, 3), (65, .iconst 1, 1), (66, .iadd, 1), (67, .putfield 98, 3), (70, .aload_n 0, 1), (71, .getfield 31, 3), (74, .aload_n 0, 1), (75, .getfield 119, 3), (78, .aload_n 0, 1), (79, .aload_n 0, 1), (80, .getfield 98, 3), (83, .iload_n 1, 1), (84, .invokevirtual 135, 3), (87, .iastore, 1), (88, .aload_n 0, 1), (89, .getfield 31, 3), (92, .aload_n 0, 1), (93, .getfield 119, 3), (96, .iaload, 1), (97, .iconst 1, 1), (98, .if_icmp .ge 5, 3), (101, .iconst 0, 1), (102, .ireturn, 1), (103, .aload_n 0, 1), (104, .dup, 1), (105, .getfield 98, 3), (108, .iconst 1, 1), (109, .iadd, 1), (110, .putfield 98, 3), (113, .aload_n 0, 1), (114, .getfield 34, 3), (117, .aload_n 0, 1), (118, .getfield 119, 3), (121, .iconst 0, 1), (122, .iastore, 1), (123, .aload_n 0, 1), (124, .bipush 108, 2), (126, .iload_n 1, 1), (127, .invokevirtual 131, 3), (130, .ifCond .eq 53, 3), (133, .aload_n 0, 1), (134, .dup, 1), (135, .getfield 98, 3), (138, .iconst 1, 1), (139, .iadd, 1), (140, .putfield 98, 3), (143, .aload_n 0, 1), (144, .getfield 34, 3), (147, .aload_n 0, 1), (148, .getfield 119, 3), (151, .iconst 1, 1), (152, .iastore, 1), (153, .aload_n 0, 1), (154, .bipush 111, 2), (156, .iload_n 1, 1), (157, .invokevirtual 131, 3), (160, .ifCond .eq 23, 3), (163, .aload_n 0, 1), (164, .dup, 1), (165, .getfield 98, 3), (168, .iconst 1, 1), (169, .iadd, 1), (170, .putfield 98, 3), (173, .aload_n 0, 1), (174, .getfield 34, 3), (177, .aload_n 0, 1), (178, .getfield 119, 3), (181, .iconst 2, 1), (182, .iastore, 1), (183, .aload_n 0, 1), (184, .dup, 1), (185, .getfield 119, 3), (188, .iconst 1, 1), (189, .iadd, 1), (190, .putfield 119, 3), (193, .aload_n 0, 1), (194, .getfield 98, 3), (197, .iload_n 1, 1), (198, .if_icmp .lt 13, 3), (201, .aload_n 0, 1), (202, .getfield 119, 3), (205, .iconst 1, 1), (206, .if_icmp .le 5, 3), (209, .iconst 1, 1), (210, .ireturn, 1), (211, .aload_n 0, 1), (212, .getfield 119, 3), (215, .bipush 7, 2), (217, .if_icmp .eq 13, 3), (220, .aload_n 0, 1), (221, .bipush 59, 2), (223, .iload_n 1, 1), (224, .invokevirtual 131, 3), (227, .ifCond .ne 5, 3), (230, .iconst 0, 1), (231, .ireturn, 1), (232, .aload_n 0, 1), (233, .dup, 1), (234, .getfield 98, 3), (237, .iconst 1, 1), (238, .iadd, 1), (239, .putfield 98, 3), (242, .goto (-237), 3)]
theorem dd_Y_readBox : Dall 133 dl_Y_readBox = true := by decide +kernel
theorem t_Y_readBox {h : Hp} {P : Value → Hp → Prop} {p0 : Int} (S : YS h) (T : R 133 5 [.ref 400, .int (I p0)] [] (setI h 400 13 0) P) : R 133 0 [.ref 400, .int (I p0)] [] h P := by
  refine R_aload_n (Dat dd_Y_readBox 0 rfl) rfl rfl ?_
  refine R_iconst (Dat dd_Y_readBox 1 rfl) ?_
  refine R_puti (Dat dd_Y_readBox 2 rfl) rfl rfl rfl (tok S.t400) rfl (v := 0) rfl ?_
  exact T
theorem t_Y_readBox_5 {h : Hp} {P : Value → Hp → Prop} {a1 : Int} (S : YS h) (T : R 134 0 [.ref 400, .int (I 103), .int (I a1)] [] h (fun v h2 => R 133 12 [.ref 400, .int (I a1)] (v :: []) h2 P)) : R 133 5 [.ref 400, .int (I a1)] [] h P := by
  refine R_aload_n (Dat dd_Y_readBox 3 rfl) rfl rfl ?_
  refine R_bipush (Dat dd_Y_readBox 4 rfl) (a := 103) rfl ?_
  refine R_iload_n (Dat dd_Y_readBox 5 rfl) rfl ?_
  exact R_call1 (Dat dd_Y_readBox 6 rfl) rfl S.t400 rfl rfl rfl rfl rfl T
theorem t_Y_readBox_12 {h : Hp} {P : Value → Hp → Prop} {a1 s0 : Int} (S : YS h) (T : (rng s0) ∧ ((s0 = 0 → P (.int (I 0)) h) ∧ (¬ s0 = 0 → R 135 0 [.ref 400, .int (I (iv (setI h 400 12 (wr ((iv h 400 12) + 1))) 400 12)), .int (I a1)] [] (setI h 400 12 (wr ((iv h 400 12) + 1))) (fun v h2 => R 133 44 [.ref 400, .int (I a1)] (v :: [.int (I (iv (setI h 400 12 (wr ((iv h 400 12) + 1))) 400 13)), .ref 415]) h2 P)))) : R 133 12 [.ref 400, .int (I a1)] [.int (I s0)] h P := by
  obtain ⟨g1, T⟩ := T
  refine R_if_ne (Dat dd_Y_readBox 7 rfl) rfl g1  (fun c => ?_) (fun c => ?_)
  · replace T := T.1 c
    refine R_iconst (Dat dd_Y_readBox 8 rfl) ?_
    exact R_ireturn (Dat dd_Y_readBox 9 rfl) rfl T
  · replace T := T.2 c
    refine R_aload_n (Dat dd_Y_readBox 10 rfl) rfl rfl ?_
    refine R_dup (Dat dd_Y_readBox 11 rfl) rfl ?_
    refine R_geti (Dat dd_Y_readBox 12 rfl) rfl rfl (tok S.t400) ?_
    refine R_iconst (Dat dd_Y_readBox 13 rfl) ?_
    refine R_iadd (Dat dd_Y_readBox 14 rfl) ?_
    refine R_puti (Dat dd_Y_readBox 15 rfl) rfl rfl rfl (tok S.t400) rfl (v := wr ((iv h 400 12) + 1)) rfl ?_
    refine R_aload_n (Dat dd_Y_readBox 16 rfl) rfl rfl ?_
    refine R_getr (Dat dd_Y_readBox 17 rfl) rfl rfl (tok S.t400) S.f400_14 (q := 415) rfl (tnz S.t415) ?_
    refine R_aload_n (Dat dd_Y_readBox 18 rfl) rfl rfl ?_
    refine R_geti (Dat dd_Y_readBox 19 rfl) rfl rfl (tok S.t400) ?_
    refine R_aload_n (Dat dd_Y_readBox 20 rfl) rfl rfl ?_
    refine R_aload_n (Dat dd_Y_readBox 21 rfl) rfl rfl ?_
    refine R_geti (Dat dd_Y_readBox 22 rfl) rfl rfl (tok S.t400) ?_
    refine R_iload_n (Dat dd_Y_readBox 23 rfl) rfl ?_
    exact R_call1 (Dat dd_Y_readBox 24 rfl) rfl S.t400 rfl rfl rfl rfl rfl T
theorem t_Y_readBox_44 {h : Hp} {P : Value → Hp → Prop} {a1 s0 s1 : Int} (S : YS h) (T : (0 ≤ s1) ∧ (s1 < 7) ∧ (0 ≤ (iv (setI h 415 s1 (wr s0)) 400 13)) ∧ ((iv (setI h 415 s1 (wr s0)) 400 13) < 7) ∧ (rng (iv (setI h 415 s1 (wr s0)) 415 (iv (setI h 415 s1 (wr s0)) 400 13))) ∧ (((iv (setI h 415 s1 (wr s0)) 415 (iv (setI h 415 s1 (wr s0)) 400 13)) < 1 → P (.int (I 0)) (setI h 415 s1 (wr s0))) ∧ (¬ (iv (setI h 415 s1 (wr s0)) 415 (iv (setI h 415 s1 (wr s0)) 400 13)) < 1 → R 135 0 [.ref 400, .int (I (iv (setI (setI h 415 s1 (wr s0)) 400 12 (wr ((iv (setI h 415 s1 (wr s0)) 400 12) + 1))) 400 12)), .int (I a1)] [] (setI (setI h 415 s1 (wr s0)) 400 12 (wr ((iv (setI h 415 s1 (wr s0)) 400 12) + 1))) (fun v h2 => R 133 87 [.ref 400, .int (I a1)] (v :: [.int (I (iv (setI (setI h 415 s1 (wr s0)) 400 12 (wr ((iv (setI h 415 s1 (wr s0)) 400 12) + 1))) 400 13)), .ref 416]) h2 P)))) : R 133 44 [.ref 400, .int (I a1)] [.int (I s0), .int (I s1), .ref 415] h P := by
  obtain ⟨g1, T⟩ := T
  obtain ⟨g2, T⟩ := T
  refine R_iastore (Dat dd_Y_readBox 25 rfl) S.t415 (lnle (show ln h 415 = 7 from S.l415) (by decide)) g1 (lnlt (show ln h 415 = 7 from S.l415) g2) (v := wr s0) rfl ?_
  refine R_aload_n (Dat dd_Y_readBox 26 rfl) rfl rfl ?_
  refine R_getr (Dat dd_Y_readBox 27 rfl) rfl rfl (tok S.t400) S.f400_14 (q := 415) rfl (tnz S.t415) ?_
  refine R_aload_n (Dat dd_Y_readBox 28 rfl) rfl rfl ?_
  refine R_geti (Dat dd_Y_readBox 29 rfl) rfl rfl (tok S.t400) ?_
  obtain ⟨g3, T⟩ := T
  obtain ⟨g4, T⟩ := T
  refine R_iaload (Dat dd_Y_readBox 30 rfl) (Or.inl S.t415) (lnle (show ln (setI h 415 s1 (wr s0)) 415 = 7 from S.l415) (by decide)) g3 (lnlt (show ln (setI h 415 s1 (wr s0)) 415 = 7 from S.l415) g4) ?_
  refine R_iconst (Dat dd_Y_readBox 31 rfl) ?_
  obtain ⟨g5, T⟩ := T
  refine R_ic_ge (Dat dd_Y_readBox 32 rfl) rfl g5 (by decide) (fun c => ?_) (fun c => ?_)
  · replace T := T.1 c
    refine R_iconst (Dat dd_Y_readBox 33 rfl) ?_
    exact R_ireturn (Dat dd_Y_readBox 34 rfl) rfl T
  · replace T := T.2 c
    refine R_aload_n (Dat dd_Y_readBox 35 rfl) rfl rfl ?_
    refine R_dup (Dat dd_Y_readBox 36 rfl) rfl ?_
    refine R_geti (Dat dd_Y_readBox 37 rfl) rfl rfl (tok S.t400) ?_
    refine R_iconst (Dat dd_Y_readBox 38 rfl) ?_
    refine R_iadd (Dat dd_Y_readBox 39 rfl) ?_
    refine R_puti (Dat dd_Y_readBox 40 rfl) rfl rfl rfl (tok S.t400) rfl (v := wr ((iv (setI h 415 s1 (wr s0)) 400 12) + 1)) rfl ?_
    refine R_aload_n (Dat dd_Y_readBox 41 rfl) rfl rfl ?_
    refine R_getr (Dat dd_Y_readBox 42 rfl) rfl rfl (tok S.t400) S.f400_15 (q := 416) rfl (tnz S.t416) ?_
    refine R_aload_n (Dat dd_Y_readBox 43 rfl) rfl rfl ?_
    refine R_geti (Dat dd_Y_readBox 44 rfl) rfl rfl (tok S.t400) ?_
    refine R_aload_n (Dat dd_Y_readBox 45 rfl) rfl rfl ?_
    refine R_aload_n (Dat dd_Y_readBox 46 rfl) rfl rfl ?_
    refine R_geti (Dat dd_Y_readBox 47 rfl) rfl rfl (tok S.t400) ?_
    refine R_iload_n (Dat dd_Y_readBox 48 rfl) rfl ?_
    exact R_call1 (Dat dd_Y_readBox 49 rfl) rfl S.t400 rfl rfl rfl rfl rfl T
theorem t_Y_readBox_87 {h : Hp} {P : Value → Hp → Prop} {a1 s0 s1 : Int} (S : YS h) (T : (0 ≤ s1) ∧ (s1 < 7) ∧ (0 ≤ (iv (setI h 416 s1 (wr s0)) 400 13)) ∧ ((iv (setI h 416 s1 (wr s0)) 400 13) < 7) ∧ (rng (iv (setI h 416 s1 (wr s0)) 416 (iv (setI h 416 s1 (wr s0)) 400 13))) ∧ (((iv (setI h 416 s1 (wr s0)) 416 (iv (setI h 416 s1 (wr s0)) 400 13)) < 1 → P (.int (I 0)) (setI h 416 s1 (wr s0))) ∧ (¬ (iv (setI h 416 s1 (wr s0)) 416 (iv (setI h 416 s1 (wr s0)) 400 13)) < 1 → (0 ≤ (iv (setI (setI h 416 s1 (wr s0)) 400 12 (wr ((iv (setI h 416 s1 (wr s0)) 400 12) + 1))) 400 13)) ∧ ((iv (setI (setI h 416 s1 (wr s0)) 400 12 (wr ((iv (setI h 416 s1 (wr s0)) 400 12) + 1))) 400 13) < 7) ∧ R 134 0 [.ref 400, .int (I 108), .int (I a1)] [] (setI (setI (setI h 416 s1 (wr s0)) 400 12 (wr ((iv (setI h 416 s1 (wr s0)) 400 12) + 1))) 417 (iv (setI (setI h 416 s1 (wr s0)) 400 12 (wr ((iv (setI h 416 s1 (wr s0)) 400 12) + 1))) 400 13) 0) (fun v h2 => R 133 130 [.ref 400, .int (I a1)] (v :: []) h2 P)))) : R 133 87 [.ref 400, .int (I a1)] [.int (I s0), .int (I s1), .ref 416] h P := by
  obtain ⟨g1, T⟩ := T
  obtain ⟨g2, T⟩ := T
  refine R_iastore (Dat dd_Y_readBox 50 rfl) S.t416 (lnle (show ln h 416 = 7 from S.l416) (by decide)) g1 (lnlt (show ln h 416 = 7 from S.l416) g2) (v := wr s0) rfl ?_
  refine R_aload_n (Dat dd_Y_readBox 51 rfl) rfl rfl ?_
  refine R_getr (Dat dd_Y_readBox 52 rfl) rfl rfl (tok S.t400) S.f400_15 (q := 416) rfl (tnz S.t416) ?_
  refine R_aload_n (Dat dd_Y_readBox 53 rfl) rfl rfl ?_
  refine R_geti (Dat dd_Y_readBox 54 rfl) rfl rfl (tok S.t400) ?_
  obtain ⟨g3, T⟩ := T
  obtain ⟨g4, T⟩ := T
  refine R_iaload (Dat dd_Y_readBox 55 rfl) (Or.inl S.t416) (lnle (show ln (setI h 416 s1 (wr s0)) 416 = 7 from S.l416) (by decide)) g3 (lnlt (show ln (setI h 416 s1 (wr s0)) 416 = 7 from S.l416) g4) ?_
  refine R_iconst (Dat dd_Y_readBox 56 rfl) ?_
  obtain ⟨g5, T⟩ := T
  refine R_ic_ge (Dat dd_Y_readBox 57 rfl) rfl g5 (by decide) (fun c => ?_) (fun c => ?_)
  · replace T := T.1 c
    refine R_iconst (Dat dd_Y_readBox 58 rfl) ?_
    exact R_ireturn (Dat dd_Y_readBox 59 rfl) rfl T
  · replace T := T.2 c
    refine R_aload_n (Dat dd_Y_readBox 60 rfl) rfl rfl ?_
    refine R_dup (Dat dd_Y_readBox 61 rfl) rfl ?_
    refine R_geti (Dat dd_Y_readBox 62 rfl) rfl rfl (tok S.t400) ?_
    refine R_iconst (Dat dd_Y_readBox 63 rfl) ?_
    refine R_iadd (Dat dd_Y_readBox 64 rfl) ?_
    refine R_puti (Dat dd_Y_readBox 65 rfl) rfl rfl rfl (tok S.t400) rfl (v := wr ((iv (setI h 416 s1 (wr s0)) 400 12) + 1)) rfl ?_
    refine R_aload_n (Dat dd_Y_readBox 66 rfl) rfl rfl ?_
    refine R_getr (Dat dd_Y_readBox 67 rfl) rfl rfl (tok S.t400) S.f400_16 (q := 417) rfl (tnz S.t417) ?_
    refine R_aload_n (Dat dd_Y_readBox 68 rfl) rfl rfl ?_
    refine R_geti (Dat dd_Y_readBox 69 rfl) rfl rfl (tok S.t400) ?_
    refine R_iconst (Dat dd_Y_readBox 70 rfl) ?_
    obtain ⟨g6, T⟩ := T
    obtain ⟨g7, T⟩ := T
    refine R_iastore (Dat dd_Y_readBox 71 rfl) S.t417 (lnle (show ln (setI (setI h 416 s1 (wr s0)) 400 12 (wr ((iv (setI h 416 s1 (wr s0)) 400 12) + 1))) 417 = 7 from S.l417) (by decide)) g6 (lnlt (show ln (setI (setI h 416 s1 (wr s0)) 400 12 (wr ((iv (setI h 416 s1 (wr s0)) 400 12) + 1))) 417 = 7 from S.l417) g7) (v := 0) rfl ?_
    refine R_aload_n (Dat dd_Y_readBox 72 rfl) rfl rfl ?_
    refine R_bipush (Dat dd_Y_readBox 73 rfl) (a := 108) rfl ?_
    refine R_iload_n (Dat dd_Y_readBox 74 rfl) rfl ?_
    exact R_call1 (Dat dd_Y_readBox 75 rfl) rfl S.t400 rfl rfl rfl rfl rfl T
theorem t_Y_readBox_130 {h : Hp} {P : Value → Hp → Prop} {a1 s0 : Int} (S : YS h) (T : (rng s0) ∧ ((s0 = 0 → (rng (iv (setI h 400 13 (wr ((iv h 400 13) + 1))) 400 12)) ∧ (rng a1) ∧ (((iv (setI h 400 13 (wr ((iv h 400 13) + 1))) 400 12) < a1 → (rng (iv (setI h 400 13 (wr ((iv h 400 13) + 1))) 400 13)) ∧ (((iv (setI h 400 13 (wr ((iv h 400 13) + 1))) 400 13) = 7 → P (.int (I 0)) (setI h 400 13 (wr ((iv h 400 13) + 1)))) ∧ (¬ (iv (setI h 400 13 (wr ((iv h 400 13) + 1))) 400 13) = 7 → R 134 0 [.ref 400, .int (I 59), .int (I a1)] [] (setI h 400 13 (wr ((iv h 400 13) + 1))) (fun v h2 => R 133 227 [.ref 400, .int (I a1)] (v :: []) h2 P)))) ∧ (¬ (iv (setI h 400 13 (wr ((iv h 400 13) + 1))) 400 12) < a1 → (rng (iv (setI h 400 13 (wr ((iv h 400 13) + 1))) 400 13)) ∧ (((1 : Int) < (iv (setI h 400 13 (wr ((iv h 400 13) + 1))) 400 13) → P (.int (I 1)) (setI h 400 13 (wr ((iv h 400 13) + 1)))) ∧ (¬ (1 : Int) < (iv (setI h 400 13 (wr ((iv h 400 13) + 1))) 400 13) → (rng (iv (setI h 400 13 (wr ((iv h 400 13) + 1))) 400 13)) ∧ (((iv (setI h 400 13 (wr ((iv h 400 13) + 1))) 400 13) = 7 → P (.int (I 0)) (setI h 400 13 (wr ((iv h 400 13) + 1)))) ∧ (¬ (iv (setI h 400 13 (wr ((iv h 400 13) + 1))) 400 13) = 7 → R 134 0 [.ref 400, .int (I 59), .int (I a1)] [] (setI h 400 13 (wr ((iv h 400 13) + 1))) (fun v h2 => R 133 227 [.ref 400, .int (I a1)] (v :: []) h2 P)))))))) ∧ (¬ s0 = 0 → (0 ≤ (iv (setI h 400 12 (wr ((iv h 400 12) + 1))) 400 13)) ∧ ((iv (setI h 400 12 (wr ((iv h 400 12) + 1))) 400 13) < 7) ∧ R 134 0 [.ref 400, .int (I 111), .int (I a1)] [] (setI (setI h 400 12 (wr ((iv h 400 12) + 1))) 417 (iv (setI h 400 12 (wr ((iv h 400 12) + 1))) 400 13) 1) (fun v h2 => R 133 160 [.ref 400, .int (I a1)] (v :: []) h2 P)))) : R 133 130 [.ref 400, .int (I a1)] [.int (I s0)] h P := by
  obtain ⟨g1, T⟩ := T
  refine R_if_eq (Dat dd_Y_readBox 76 rfl) rfl g1  (fun c => ?_) (fun c => ?_)
  · replace T := T.1 c
    refine R_aload_n (Dat dd_Y_readBox 106 rfl) rfl rfl ?_
    refine R_dup (Dat dd_Y_readBox 107 rfl) rfl ?_
    refine R_geti (Dat dd_Y_readBox 108 rfl) rfl rfl (tok S.t400) ?_
    refine R_iconst (Dat dd_Y_readBox 109 rfl) ?_
    refine R_iadd (Dat dd_Y_readBox 110 rfl) ?_
    refine R_puti (Dat dd_Y_readBox 111 rfl) rfl rfl rfl (tok S.t400) rfl (v := wr ((iv h 400 13) + 1)) rfl ?_
    refine R_aload_n (Dat dd_Y_readBox 112 rfl) rfl rfl ?_
    refine R_geti (Dat dd_Y_readBox 113 rfl) rfl rfl (tok S.t400) ?_
    refine R_iload_n (Dat dd_Y_readBox 114 rfl) rfl ?_
    obtain ⟨g2, T⟩ := T
    obtain ⟨g3, T⟩ := T
    refine R_ic_lt (Dat dd_Y_readBox 115 rfl) rfl g2 g3 (fun c => ?_) (fun c => ?_)
    · replace T := T.1 c
      refine R_aload_n (Dat dd_Y_readBox 122 rfl) rfl rfl ?_
      refine R_geti (Dat dd_Y_readBox 123 rfl) rfl rfl (tok S.t400) ?_
      refine R_bipush (Dat dd_Y_readBox 124 rfl) (a := 7) rfl ?_
      obtain ⟨g4, T⟩ := T
      refine R_ic_eq (Dat dd_Y_readBox 125 rfl) rfl g4 (by decide) (fun c => ?_) (fun c => ?_)
      · replace T := T.1 c
        refine R_iconst (Dat dd_Y_readBox 131 rfl) ?_
        exact R_ireturn (Dat dd_Y_readBox 132 rfl) rfl T
      · replace T := T.2 c
        refine R_aload_n (Dat dd_Y_readBox 126 rfl) rfl rfl ?_
        refine R_bipush (Dat dd_Y_readBox 127 rfl) (a := 59) rfl ?_
        refine R_iload_n (Dat dd_Y_readBox 128 rfl) rfl ?_
        exact R_call1 (Dat dd_Y_readBox 129 rfl) rfl S.t400 rfl rfl rfl rfl rfl T
    · replace T := T.2 c
      refine R_aload_n (Dat dd_Y_readBox 116 rfl) rfl rfl ?_
      refine R_geti (Dat dd_Y_readBox 117 rfl) rfl rfl (tok S.t400) ?_
      refine R_iconst (Dat dd_Y_readBox 118 rfl) ?_
      obtain ⟨g5, T⟩ := T
      refine R_ic_le (Dat dd_Y_readBox 119 rfl) rfl g5 (by decide) (fun c => ?_) (fun c => ?_)
      · replace T := T.1 c
        refine R_iconst (Dat dd_Y_readBox 120 rfl) ?_
        exact R_ireturn (Dat dd_Y_readBox 121 rfl) rfl T
      · replace T := T.2 c
        refine R_aload_n (Dat dd_Y_readBox 122 rfl) rfl rfl ?_
        refine R_geti (Dat dd_Y_readBox 123 rfl) rfl rfl (tok S.t400) ?_
        refine R_bipush (Dat dd_Y_readBox 124 rfl) (a := 7) rfl ?_
        obtain ⟨g6, T⟩ := T
        refine R_ic_eq (Dat dd_Y_readBox 125 rfl) rfl g6 (by decide) (fun c => ?_) (fun c => ?_)
        · replace T := T.1 c
          refine R_iconst (Dat dd_Y_readBox 131 rfl) ?_
          exact R_ireturn (Dat dd_Y_readBox 132 rfl) rfl T
        · replace T := T.2 c
          refine R_aload_n (Dat dd_Y_readBox 126 rfl) rfl rfl ?_
          refine R_bipush (Dat dd_Y_readBox 127 rfl) (a := 59) rfl ?_
          refine R_iload_n (Dat dd_Y_readBox 128 rfl) rfl ?_
          exact R_call1 (Dat dd_Y_readBox 129 rfl) rfl S.t400 rfl rfl rfl rfl rfl T
  · replace T := T.2 c
    refine R_aload_n (Dat dd_Y_readBox 77 rfl) rfl rfl ?_
    refine R_dup (Dat dd_Y_readBox 78 rfl) rfl ?_
    refine R_geti (Dat dd_Y_readBox 79 rfl) rfl rfl (tok S.t400) ?_
    refine R_iconst (Dat dd_Y_readBox 80 rfl) ?_
    refine R_iadd (Dat dd_Y_readBox 81 rfl) ?_
    refine R_puti (Dat dd_Y_readBox 82 rfl) rfl rfl rfl (tok S.t400) rfl (v := wr ((iv h 400 12) + 1)) rfl ?_
    refine R_aload_n (Dat dd_Y_readBox 83 rfl) rfl rfl ?_
    refine R_getr (Dat dd_Y_readBox 84 rfl) rfl rfl (tok S.t400) S.f400_16 (q := 417) rfl (tnz S.t417) ?_
    refine R_aload_n (Dat dd_Y_readBox 85 rfl) rfl rfl ?_
    refine R_geti (Dat dd_Y_readBox 86 rfl) rfl rfl (tok S.t400) ?_
    refine R_iconst (Dat dd_Y_readBox 87 rfl) ?_
    obtain ⟨g7, T⟩ := T
    obtain ⟨g8, T⟩ := T
    refine R_iastore (Dat dd_Y_readBox 88 rfl) S.t417 (lnle (show ln (setI h 400 12 (wr ((iv h 400 12) + 1))) 417 = 7 from S.l417) (by decide)) g7 (lnlt (show ln (setI h 400 12 (wr ((iv h 400 12) + 1))) 417 = 7 from S.l417) g8) (v := 1) rfl ?_
    refine R_aload_n (Dat dd_Y_readBox 89 rfl) rfl rfl ?_
    refine R_bipush (Dat dd_Y_readBox 90 rfl) (a := 111) rfl ?_
    refine R_iload_n (Dat dd_Y_readBox 91 rfl) rfl ?_
    exact R_call1 (Dat dd_Y_readBox 92 rfl) rfl S.t400 rfl rfl rfl rfl rfl T
theorem t_Y_readBox_227 {h : Hp} {P : Value → Hp → Prop} {a1 s0 : Int} (S : YS h) (T : (rng s0) ∧ ((s0 = 0 → P (.int (I 0)) h) ∧ (¬ s0 = 0 → R 133 5 [.ref 400, .int (I a1)] [] (setI h 400 12 (wr ((iv h 400 12) + 1))) P))) : R 133 227 [.ref 400, .int (I a1)] [.int (I s0)] h P := by
  obtain ⟨g1, T⟩ := T
  refine R_if_ne (Dat dd_Y_readBox 130 rfl) rfl g1  (fun c => ?_) (fun c => ?_)
  · replace T := T.1 c
    refine R_iconst (Dat dd_Y_readBox 131 rfl) ?_
    exact R_ireturn (Dat dd_Y_readBox 132 rfl) rfl T
  · replace T := T.2 c
    refine R_aload_n (Dat dd_Y_readBox 133 rfl) rfl rfl ?_
    refine R_dup (Dat dd_Y_readBox 134 rfl) rfl ?_
    refine R_geti (Dat dd_Y_readBox 135 rfl) rfl rfl (tok S.t400) ?_
    refine R_iconst (Dat dd_Y_readBox 136 rfl) ?_
    refine R_iadd (Dat dd_Y_readBox 137 rfl) ?_
    refine R_puti (Dat dd_Y_readBox 138 rfl) rfl rfl rfl (tok S.t400) rfl (v := wr ((iv h 400 12) + 1)) rfl ?_
    refine R_goto (Dat dd_Y_readBox 139 rfl) rfl ?_
    exact T
theorem t_Y_readBox_160 {h : Hp} {P : Value → Hp → Prop} {a1 s0 : Int} (S : YS h) (T : (rng s0) ∧ ((s0 = 0 → (rng (iv (setI h 400 13 (wr ((iv h 400 13) + 1))) 400 12)) ∧ (rng a1) ∧ (((iv (setI h 400 13 (wr ((iv h 400 13) + 1))) 400 12) < a1 → (rng (iv (setI h 400 13 (wr ((iv h 400 13) + 1))) 400 13)) ∧ (((iv (setI h 400 13 (wr ((iv h 400 13) + 1))) 400 13) = 7 → P (.int (I 0)) (setI h 400 13 (wr ((iv h 400 13) + 1)))) ∧ (¬ (iv (setI h 400 13 (wr ((iv h 400 13) + 1))) 400 13) = 7 → R 134 0 [.ref 400, .int (I 59), .int (I a1)] [] (setI h 400 13 (wr ((iv h 400 13) + 1))) (fun v h2 => R 133 227 [.ref 400, .int (I a1)] (v :: []) h2 P)))) ∧ (¬ (iv (setI h 400 13 (wr ((iv h 400 13) + 1))) 400 12) < a1 → (rng (iv (setI h 400 13 (wr ((iv h 400 13) + 1))) 400 13)) ∧ (((1 : Int) < (iv (setI h 400 13 (wr ((iv h 400 13) + 1))) 400 13) → P (.int (I 1)) (setI h 400 13 (wr ((iv h 400 13) + 1)))) ∧ (¬ (1 : Int) < (iv (setI h 400 13 (wr ((iv h 400 13) + 1))) 400 13) → (rng (iv (setI h 400 13 (wr ((iv h 400 13) + 1))) 400 13)) ∧ (((iv (setI h 400 13 (wr ((iv h 400 13) + 1))) 400 13) = 7 → P (.int (I 0)) (setI h 400 13 (wr ((iv h 400 13) + 1)))) ∧ (¬ (iv (setI h 400 13 (wr ((iv h 400 13) + 1))) 400 13) = 7 → R 134 0 [.ref 400, .int (I 59), .int (I a1)] [] (setI h 400 13 (wr ((iv h 400 13) + 1))) (fun v h2 => R 133 227 [.ref 400, .int (I a1)] (v :: []) h2 P)))))))) ∧ (¬ s0 = 0 → (0 ≤ (iv (setI h 400 12 (wr ((iv h 400 12) + 1))) 400 13)) ∧ ((iv (setI h 400 12 (wr ((iv h 400 12) + 1))) 400 13) < 7) ∧ (rng (iv (setI (setI (setI h 400 12 (wr ((iv h 400 12) + 1))) 417 (iv (setI h 400 12 (wr ((iv h 400 12) + 1))) 400 13) 2) 400 13 (wr ((iv (setI (setI h 400 12 (wr ((iv h 400 12) + 1))) 417 (iv (setI h 400 12 (wr ((iv h 400 12) + 1))) 400 13) 2) 400 13) + 1))) 400 12)) ∧ (rng a1) ∧ (((iv (setI (setI (setI h 400 12 (wr ((iv h 400 12) + 1))) 417 (iv (setI h 400 12 (wr ((iv h 400 12) + 1))) 400 13) 2) 400 13 (wr ((iv (setI (setI h 400 12 (wr ((iv h 400 12) + 1))) 417 (iv (setI h 400 12 (wr ((iv h 400 12) + 1))) 400 13) 2) 400 13) + 1))) 400 12) < a1 → (rng (iv (setI (setI (setI h 400 12 (wr ((iv h 400 12) + 1))) 417 (iv (setI h 400 12 (wr ((iv h 400 12) + 1))) 400 13) 2) 400 13 (wr ((iv (setI (setI h 400 12 (wr ((iv h 400 12) + 1))) 417 (iv (setI h 400 12 (wr ((iv h 400 12) + 1))) 400 13) 2) 400 13) + 1))) 400 13)) ∧ (((iv (setI (setI (setI h 400 12 (wr ((iv h 400 12) + 1))) 417 (iv (setI h 400 12 (wr ((iv h 400 12) + 1))) 400 13) 2) 400 13 (wr ((iv (setI (setI h 400 12 (wr ((iv h 400 12) + 1))) 417 (iv (setI h 400 12 (wr ((iv h 400 12) + 1))) 400 13) 2) 400 13) + 1))) 400 13) = 7 → P (.int (I 0)) (setI (setI (setI h 400 12 (wr ((iv h 400 12) + 1))) 417 (iv (setI h 400 12 (wr ((iv h 400 12) + 1))) 400 13) 2) 400 13 (wr ((iv (setI (setI h 400 12 (wr ((iv h 400 12) + 1))) 417 (iv (setI h 400 12 (wr ((iv h 400 12) + 1))) 400 13) 2) 400 13) + 1)))) ∧ (¬ (iv (setI (setI (setI h 400 12 (wr ((iv h 400 12) + 1))) 417 (iv (setI h 400 12 (wr ((iv h 400 12) + 1))) 400 13) 2) 400 13 (wr ((iv (setI (setI h 400 12 (wr ((iv h 400 12) + 1))) 417 (iv (setI h 400 12 (wr ((iv h 400 12) + 1))) 400 13) 2) 400 13) + 1))) 400 13) = 7 → R 134 0 [.ref 400, .int (I 59), .int (I a1)] [] (setI (setI (setI h 400 12 (wr ((iv h 400 12) + 1))) 417 (iv (setI h 400 12 (wr ((iv h 400 12) + 1))) 400 13) 2) 400 13 (wr ((iv (setI (setI h 400 12 (wr ((iv h 400 12) + 1))) 417 (iv (setI h 400 12 (wr ((iv h 400 12) + 1))) 400 13) 2) 400 13) + 1))) (fun v h2 => R 133 227 [.ref 400, .int (I a1)] (v :: []) h2 P)))) ∧ (¬ (iv (setI (setI (setI h 400 12 (wr ((iv h 400 12) + 1))) 417 (iv (setI h 400 12 (wr ((iv h 400 12) + 1))) 400 13) 2) 400 13 (wr ((iv (setI (setI h 400 12 (wr ((iv h 400 12) + 1))) 417 (iv (setI h 400 12 (wr ((iv h 400 12) + 1))) 400 13) 2) 400 13) + 1))) 400 12) < a1 → (rng (iv (setI (setI (setI h 400 12 (wr ((iv h 400 12) + 1))) 417 (iv (setI h 400 12 (wr ((iv h 400 12) + 1))) 400 13) 2) 400 13 (wr ((iv (setI (setI h 400 12 (wr ((iv h 400 12) + 1))) 417 (iv (setI h 400 12 (wr ((iv h 400 12) + 1))) 400 13) 2) 400 13) + 1))) 400 13)) ∧ (((1 : Int) < (iv (setI (setI (setI h 400 12 (wr ((iv h 400 12) + 1))) 417 (iv (setI h 400 12 (wr ((iv h 400 12) + 1))) 400 13) 2) 400 13 (wr ((iv (setI (setI h 400 12 (wr ((iv h 400 12) + 1))) 417 (iv (setI h 400 12 (wr ((iv h 400 12) + 1))) 400 13) 2) 400 13) + 1))) 400 13) → P (.int (I 1)) (setI (setI (setI h 400 12 (wr ((iv h 400 12) + 1))) 417 (iv (setI h 400 12 (wr ((iv h 400 12) + 1))) 400 13) 2) 400 13 (wr ((iv (setI (setI h 400 12 (wr ((iv h 400 12) + 1))) 417 (iv (setI h 400 12 (wr ((iv h 400 12) + 1))) 400 13) 2) 400 13) + 1)))) ∧ (¬ (1 : Int) < (iv (setI (setI (setI h 400 12 (wr ((iv h 400 12) + 1))) 417 (iv (setI h 400 12 (wr ((iv h 400 12) + 1))) 400 13) 2) 400 13 (wr ((iv (setI (setI h 400 12 (wr ((iv h 400 12) + 1))) 417 (iv (setI h 400 12 (wr ((iv h 400 12) + 1))) 400 13) 2) 400 13) + 1))) 400 13) → (rng (iv (setI (setI (setI h 400 12 (wr ((iv h 400 12) + 1))) 417 (iv (setI h 400 12 (wr ((iv h 400 12) + 1))) 400 13) 2) 400 13 (wr ((iv (setI (setI h 400 12 (wr ((iv h 400 12) + 1))) 417 (iv (setI h 400 12 (wr ((iv h 400 12) + 1))) 400 13) 2) 400 13) + 1))) 400 13)) ∧ (((iv (setI (setI (setI h 400 12 (wr ((iv h 400 12) + 1))) 417 (iv (setI h 400 12 (wr ((iv h 400 12) + 1))) 400 13) 2) 400 13 (wr ((iv (setI (setI h 400 12 (wr ((iv h 400 12) + 1))) 417 (iv (setI h 400 12 (wr ((iv h 400 12) + 1))) 400 13) 2) 400 13) + 1))) 400 13) = 7 → P (.int (I 0)) (setI (setI (setI h 400 12 (wr ((iv h 400 12) + 1))) 417 (iv (setI h 400 12 (wr ((iv h 400 12) + 1))) 400 13) 2) 400 13 (wr ((iv (setI (setI h 400 12 (wr ((iv h 400 12) + 1))) 417 (iv (setI h 400 12 (wr ((iv h 400 12) + 1))) 400 13) 2) 400 13) + 1)))) ∧ (¬ (iv (setI (setI (setI h 400 12 (wr ((iv h 400 12) + 1))) 417 (iv (setI h 400 12 (wr ((iv h 400 12) + 1))) 400 13) 2) 400 13 (wr ((iv (setI (setI h 400 12 (wr ((iv h 400 12) + 1))) 417 (iv (setI h 400 12 (wr ((iv h 400 12) + 1))) 400 13) 2) 400 13) + 1))) 400 13) = 7 → R 134 0 [.ref 400, .int (I 59), .int (I a1)] [] (setI (setI (setI h 400 12 (wr ((iv h 400 12) + 1))) 417 (iv (setI h 400 12 (wr ((iv h 400 12) + 1))) 400 13) 2) 400 13 (wr ((iv (setI (setI h 400 12 (wr ((iv h 400 12) + 1))) 417 (iv (setI h 400 12 (wr ((iv h 400 12) + 1))) 400 13) 2) 400 13) + 1))) (fun v h2 => R 133 227 [.ref 400, .int (I a1)] (v :: []) h2 P)))))))))) : R 133 160 [.ref 400, .int (I a1)] [.int (I s0)] h P := by
  obtain ⟨g1, T⟩ := T
  refine R_if_eq (Dat dd_Y_readBox 93 rfl) rfl g1  (fun c => ?_) (fun c => ?_)
  · replace T := T.1 c
    refine R_aload_n (Dat dd_Y_readBox 106 rfl) rfl rfl ?_
    refine R_dup (Dat dd_Y_readBox 107 rfl) rfl ?_
    refine R_geti (Dat dd_Y_readBox 108 rfl) rfl rfl (tok S.t400) ?_
    refine R_iconst (Dat dd_Y_readBox 109 rfl) ?_
    refine R_iadd (Dat dd_Y_readBox 110 rfl) ?_
    refine R_puti (Dat dd_Y_readBox 111 rfl) rfl rfl rfl (tok S.t400) rfl (v := wr ((iv h 400 13) + 1)) rfl ?_
    refine R_aload_n (Dat dd_Y_readBox 112 rfl) rfl rfl ?_
    refine R_geti (Dat dd_Y_readBox 113 rfl) rfl rfl (tok S.t400) ?_
    refine R_iload_n (Dat dd_Y_readBox 114 rfl) rfl ?_
    obtain ⟨g2, T⟩ := T
    obtain ⟨g3, T⟩ := T
    refine R_ic_lt (Dat dd_Y_readBox 115 rfl) rfl g2 g3 (fun c => ?_) (fun c => ?_)
    · replace T := T.1 c
      refine R_aload_n (Dat dd_Y_readBox 122 rfl) rfl rfl ?_
      refine R_geti (Dat dd_Y_readBox 123 rfl) rfl rfl (tok S.t400) ?_
      refine R_bipush (Dat dd_Y_readBox 124 rfl) (a := 7) rfl ?_
      obtain ⟨g4, T⟩ := T
      refine R_ic_eq (Dat dd_Y_readBox 125 rfl) rfl g4 (by decide) (fun c => ?_) (fun c => ?_)
      · replace T := T.1 c
        refine R_iconst (Dat dd_Y_readBox 131 rfl) ?_
        exact R_ireturn (Dat dd_Y_readBox 132 rfl) rfl T
      · replace T := T.2 c
        refine R_aload_n (Dat dd_Y_readBox 126 rfl) rfl rfl ?_
        refine R_bipush (Dat dd_Y_readBox 127 rfl) (a := 59) rfl ?_
        refine R_iload_n (Dat dd_Y_readBox 128 rfl) rfl ?_
        exact R_call1 (Dat dd_Y_readBox 129 rfl) rfl S.t400 rfl rfl rfl rfl rfl T
    · replace T := T.2 c
      refine R_aload_n (Dat dd_Y_readBox 116 rfl) rfl rfl ?_
      refine R_geti (Dat dd_Y_readBox 117 rfl) rfl rfl (tok S.t400) ?_
      refine R_iconst (Dat dd_Y_readBox 118 rfl) ?_
      obtain ⟨g5, T⟩ := T
      refine R_ic_le (Dat dd_Y_readBox 119 rfl) rfl g5 (by decide) (fun c => ?_) (fun c => ?_)
      · replace T := T.1 c
        refine R_iconst (Dat dd_Y_readBox 120 rfl) ?_
        exact R_ireturn (Dat dd_Y_readBox 121 rfl) rfl T
      · replace T := T.2 c
        refine R_aload_n (Dat dd_Y_readBox 122 rfl) rfl rfl ?_
        refine R_geti (Dat dd_Y_readBox 123 rfl) rfl rfl (tok S.t400) ?_
        refine R_bipush (Dat dd_Y_readBox 124 rfl) (a := 7) rfl ?_
        obtain ⟨g6, T⟩ := T
        refine R_ic_eq (Dat dd_Y_readBox 125 rfl) rfl g6 (by decide) (fun c => ?_) (fun c => ?_)
        · replace T := T.1 c
          refine R_iconst (Dat dd_Y_readBox 131 rfl) ?_
          exact R_ireturn (Dat dd_Y_readBox 132 rfl) rfl T
        · replace T := T.2 c
          refine R_aload_n (Dat dd_Y_readBox 126 rfl) rfl rfl ?_
          refine R_bipush (Dat dd_Y_readBox 127 rfl) (a := 59) rfl ?_
          refine R_iload_n (Dat dd_Y_readBox 128 rfl) rfl ?_
          exact R_call1 (Dat dd_Y_readBox 129 rfl) rfl S.t400 rfl rfl rfl rfl rfl T
  · replace T := T.2 c
    refine R_aload_n (Dat dd_Y_readBox 94 rfl) rfl rfl ?_
    refine R_dup (Dat dd_Y_readBox 95 rfl) rfl ?_
    refine R_geti (Dat dd_Y_readBox 96 rfl) rfl rfl (tok S.t400) ?_
    refine R_iconst (Dat dd_Y_readBox 97 rfl) ?_
    refine R_iadd (Dat dd_Y_readBox 98 rfl) ?_
    refine R_puti (Dat dd_Y_readBox 99 rfl) rfl rfl rfl (tok S.t400) rfl (v := wr ((iv h 400 12) + 1)) rfl ?_
    refine R_aload_n (Dat dd_Y_readBox 100 rfl) rfl rfl ?_
    refine R_getr (Dat dd_Y_readBox 101 rfl) rfl rfl (tok S.t400) S.f400_16 (q := 417) rfl (tnz S.t417) ?_
    refine R_aload_n (Dat dd_Y_readBox 102 rfl) rfl rfl ?_
    refine R_geti (Dat dd_Y_readBox 103 rfl) rfl rfl (tok S.t400) ?_
    refine R_iconst (Dat dd_Y_readBox 104 rfl) ?_
    obtain ⟨g7, T⟩ := T
    obtain ⟨g8, T⟩ := T
    refine R_iastore (Dat dd_Y_readBox 105 rfl) S.t417 (lnle (show ln (setI h 400 12 (wr ((iv h 400 12) + 1))) 417 = 7 from S.l417) (by decide)) g7 (lnlt (show ln (setI h 400 12 (wr ((iv h 400 12) + 1))) 417 = 7 from S.l417) g8) (v := 2) rfl ?_
    refine R_aload_n (Dat dd_Y_readBox 106 rfl) rfl rfl ?_
    refine R_dup (Dat dd_Y_readBox 107 rfl) rfl ?_
    refine R_geti (Dat dd_Y_readBox 108 rfl) rfl rfl (tok S.t400) ?_
    refine R_iconst (Dat dd_Y_readBox 109 rfl) ?_
    refine R_iadd (Dat dd_Y_readBox 110 rfl) ?_
    refine R_puti (Dat dd_Y_readBox 111 rfl) rfl rfl rfl (tok S.t400) rfl (v := wr ((iv (setI (setI h 400 12 (wr ((iv h 400 12) + 1))) 417 (iv (setI h 400 12 (wr ((iv h 400 12) + 1))) 400 13) 2) 400 13) + 1)) rfl ?_
    refine R_aload_n (Dat dd_Y_readBox 112 rfl) rfl rfl ?_
    refine R_geti (Dat dd_Y_readBox 113 rfl) rfl rfl (tok S.t400) ?_
    refine R_iload_n (Dat dd_Y_readBox 114 rfl) rfl ?_
    obtain ⟨g9, T⟩ := T
    obtain ⟨g10, T⟩ := T
    refine R_ic_lt (Dat dd_Y_readBox 115 rfl) rfl g9 g10 (fun c => ?_) (fun c => ?_)
    · replace T := T.1 c
      refine R_aload_n (Dat dd_Y_readBox 122 rfl) rfl rfl ?_
      refine R_geti (Dat dd_Y_readBox 123 rfl) rfl rfl (tok S.t400) ?_
      refine R_bipush (Dat dd_Y_readBox 124 rfl) (a := 7) rfl ?_
      obtain ⟨g11, T⟩ := T
      refine R_ic_eq (Dat dd_Y_readBox 125 rfl) rfl g11 (by decide) (fun c => ?_) (fun c => ?_)
      · replace T := T.1 c
        refine R_iconst (Dat dd_Y_readBox 131 rfl) ?_
        exact R_ireturn (Dat dd_Y_readBox 132 rfl) rfl T
      · replace T := T.2 c
        refine R_aload_n (Dat dd_Y_readBox 126 rfl) rfl rfl ?_
        refine R_bipush (Dat dd_Y_readBox 127 rfl) (a := 59) rfl ?_
        refine R_iload_n (Dat dd_Y_readBox 128 rfl) rfl ?_
        exact R_call1 (Dat dd_Y_readBox 129 rfl) rfl S.t400 rfl rfl rfl rfl rfl T
    · replace T := T.2 c
      refine R_aload_n (Dat dd_Y_readBox 116 rfl) rfl rfl ?_
      refine R_geti (Dat dd_Y_readBox 117 rfl) rfl rfl (tok S.t400) ?_
      refine R_iconst (Dat dd_Y_readBox 118 rfl) ?_
      obtain ⟨g12, T⟩ := T
      refine R_ic_le (Dat dd_Y_readBox 119 rfl) rfl g12 (by decide) (fun c => ?_) (fun c => ?_)
      · replace T := T.1 c
        refine R_iconst (Dat dd_Y_readBox 120 rfl) ?_
        exact R_ireturn (Dat dd_Y_readBox 121 rfl) rfl T
      · replace T := T.2 c
        refine R_aload_n (Dat dd_Y_readBox 122 rfl) rfl rfl ?_
        refine R_geti (Dat dd_Y_readBox 123 rfl) rfl rfl (tok S.t400) ?_
        refine R_bipush (Dat dd_Y_readBox 124 rfl) (a := 7) rfl ?_
        obtain ⟨g13, T⟩ := T
        refine R_ic_eq (Dat dd_Y_readBox 125 rfl) rfl g13 (by decide) (fun c => ?_) (fun c => ?_)
        · replace T := T.1 c
          refine R_iconst (Dat dd_Y_readBox 131 rfl) ?_
          exact R_ireturn (Dat dd_Y_readBox 132 rfl) rfl T
        · replace T := T.2 c
          refine R_aload_n (Dat dd_Y_readBox 126 rfl) rfl rfl ?_
          refine R_bipush (Dat dd_Y_readBox 127 rfl) (a := 59) rfl ?_
          refine R_iload_n (Dat dd_Y_readBox 128 rfl) rfl ?_
          exact R_call1 (Dat dd_Y_readBox 129 rfl) rfl S.t400 rfl rfl rfl rfl rfl T
def dl_Y_isCode : List (Nat × Instr × Nat) := [(0, .aload_n 0, 1), (1, .getfield 98, 3), (4, .iload_n 2, 1), (5, .if_icmp .ge 20, 3), (8, .aload_n 0, 1), (9, .getfield 16, 3), (12, .aload_n 0, 1), (13, .getfield 98, 3), (16, .iaload, 1), (17, .iload_n 1, 1), (18, .if_icmp .ne 7, 3), (21, .iconst 1, 1), (22, .goto 4, 3), (25, .iconst 0, 1), (26, .ireturn, 1)]
theorem dd_Y_isCode : Dall 134 dl_Y_isCode = true := by decide +kernel
theorem t_Y_isCode {h : Hp} {P : Value → Hp → Prop} {p0 p1 : Int} (S : YS h) (T : (rng (iv h 400 12)) ∧ (rng p1) ∧ (((iv h 400 12) < p1 → (0 ≤ (iv h 400 12)) ∧ ((iv h 400 12) < 240) ∧ (rng (iv h 405 (iv h 400 12))) ∧ (rng p0) ∧ (((iv h 405 (iv h 400 12)) = p0 → P (.int (I 1)) h) ∧ (¬ (iv h 405 (iv h 400 12)) = p0 → P (.int (I 0)) h))) ∧ (¬ (iv h 400 12) < p1 → P (.int (I 0)) h))) : R 134 0 [.ref 400, .int (I p0), .int (I p1)] [] h P := by
  refine R_aload_n (Dat dd_Y_isCode 0 rfl) rfl rfl ?_
  refine R_geti (Dat dd_Y_isCode 1 rfl) rfl rfl (tok S.t400) ?_
  refine R_iload_n (Dat dd_Y_isCode 2 rfl) rfl ?_
  obtain ⟨g1, T⟩ := T
  obtain ⟨g2, T⟩ := T
  refine R_ic_ge (Dat dd_Y_isCode 3 rfl) rfl g1 g2 (fun c => ?_) (fun c => ?_)
  · replace T := T.1 c
    refine R_aload_n (Dat dd_Y_isCode 4 rfl) rfl rfl ?_
    refine R_getr (Dat dd_Y_isCode 5 rfl) rfl rfl (tok S.t400) S.f400_4 (q := 405) rfl (tnz S.t405) ?_
    refine R_aload_n (Dat dd_Y_isCode 6 rfl) rfl rfl ?_
    refine R_geti (Dat dd_Y_isCode 7 rfl) rfl rfl (tok S.t400) ?_
    obtain ⟨g3, T⟩ := T
    obtain ⟨g4, T⟩ := T
    refine R_iaload (Dat dd_Y_isCode 8 rfl) (Or.inl S.t405) (lnle (show ln h 405 = 240 from S.l405) (by decide)) g3 (lnlt (show ln h 405 = 240 from S.l405) g4) ?_
    refine R_iload_n (Dat dd_Y_isCode 9 rfl) rfl ?_
    obtain ⟨g5, T⟩ := T
    obtain ⟨g6, T⟩ := T
    refine R_ic_ne (Dat dd_Y_isCode 10 rfl) rfl g5 g6 (fun c => ?_) (fun c => ?_)
    · replace T := T.1 c
      refine R_iconst (Dat dd_Y_isCode 11 rfl) ?_
      refine R_goto (Dat dd_Y_isCode 12 rfl) rfl ?_
      exact R_ireturn (Dat dd_Y_isCode 14 rfl) rfl T
    · replace T := T.2 c
      refine R_iconst (Dat dd_Y_isCode 13 rfl) ?_
      exact R_ireturn (Dat dd_Y_isCode 14 rfl) rfl T
  · replace T := T.2 c
    refine R_iconst (Dat dd_Y_isCode 13 rfl) ?_
    exact R_ireturn (Dat dd_Y_isCode 14 rfl) rfl T
def dl_Y_digitAt : List (Nat × Instr × Nat) := [(0, .iload_n 1, 1), (1, .iload_n 2, 1), (2, .if_icmp .ge 31, 3), (5, .aload_n 0, 1), (6, .getfield 16, 3), (9, .iload_n 1, 1), (10, .iaload, 1), (11, .bipush 48, 2), (13, .bipush 57, 2), (15, .invokestatic 88, 3), (18, .ifCond .eq 15, 3), (21, .aload_n 0, 1), (22, .getfield 16, 3), (25, .iload_n 1, 1), (26, .iaload, 1), (27, .bipush 48, 2), (29, .isub, 1), (30, .goto 5, 3), (33, .bipush (-9), 2), (35, .ireturn, 1)]
theorem dd_Y_digitAt : Dall 135 dl_Y_digitAt = true := by decide +kernel
theorem t_Y_digitAt {h : Hp} {P : Value → Hp → Prop} {p0 p1 : Int} (S : YS h) (T : (rng p0) ∧ (rng p1) ∧ ((p0 < p1 → (0 ≤ p0) ∧ (p0 < 240) ∧ R 129 0 [.int (I (iv h 405 p0)), .int (I 48), .int (I 57)] [] h (fun v h2 => R 135 18 [.ref 400, .int (I p0), .int (I p1)] (v :: []) h2 P)) ∧ (¬ p0 < p1 → P (.int (I (-9))) h))) : R 135 0 [.ref 400, .int (I p0), .int (I p1)] [] h P := by
  refine R_iload_n (Dat dd_Y_digitAt 0 rfl) rfl ?_
  refine R_iload_n (Dat dd_Y_digitAt 1 rfl) rfl ?_
  obtain ⟨g1, T⟩ := T
  obtain ⟨g2, T⟩ := T
  refine R_ic_ge (Dat dd_Y_digitAt 2 rfl) rfl g1 g2 (fun c => ?_) (fun c => ?_)
  · replace T := T.1 c
    refine R_aload_n (Dat dd_Y_digitAt 3 rfl) rfl rfl ?_
    refine R_getr (Dat dd_Y_digitAt 4 rfl) rfl rfl (tok S.t400) S.f400_4 (q := 405) rfl (tnz S.t405) ?_
    refine R_iload_n (Dat dd_Y_digitAt 5 rfl) rfl ?_
    obtain ⟨g3, T⟩ := T
    obtain ⟨g4, T⟩ := T
    refine R_iaload (Dat dd_Y_digitAt 6 rfl) (Or.inl S.t405) (lnle (show ln h 405 = 240 from S.l405) (by decide)) g3 (lnlt (show ln h 405 = 240 from S.l405) g4) ?_
    refine R_bipush (Dat dd_Y_digitAt 7 rfl) (a := 48) rfl ?_
    refine R_bipush (Dat dd_Y_digitAt 8 rfl) (a := 57) rfl ?_
    exact R_call0 (Dat dd_Y_digitAt 9 rfl) rfl rfl rfl rfl rfl rfl T
  · replace T := T.2 c
    refine R_bipush (Dat dd_Y_digitAt 18 rfl) (a := (-9)) rfl ?_
    exact R_ireturn (Dat dd_Y_digitAt 19 rfl) rfl T
theorem t_Y_digitAt_18 {h : Hp} {P : Value → Hp → Prop} {a1 s0 : Int} {a2 : Value} (S : YS h) (T : (rng s0) ∧ ((s0 = 0 → P (.int (I (-9))) h) ∧ (¬ s0 = 0 → (0 ≤ a1) ∧ (a1 < 240) ∧ P (.int (I ((iv h 405 a1) - 48))) h))) : R 135 18 [.ref 400, .int (I a1), a2] [.int (I s0)] h P := by
  obtain ⟨g1, T⟩ := T
  refine R_if_eq (Dat dd_Y_digitAt 10 rfl) rfl g1  (fun c => ?_) (fun c => ?_)
  · replace T := T.1 c
    refine R_bipush (Dat dd_Y_digitAt 18 rfl) (a := (-9)) rfl ?_
    exact R_ireturn (Dat dd_Y_digitAt 19 rfl) rfl T
  · replace T := T.2 c
    refine R_aload_n (Dat dd_Y_digitAt 11 rfl) rfl rfl ?_
    refine R_getr (Dat dd_Y_digitAt 12 rfl) rfl rfl (tok S.t400) S.f400_4 (q := 405) rfl (tnz S.t405) ?_
    refine R_iload_n (Dat dd_Y_digitAt 13 rfl) rfl ?_
    obtain ⟨g2, T⟩ := T
    obtain ⟨g3, T⟩ := T
    refine R_iaload (Dat dd_Y_digitAt 14 rfl) (Or.inl S.t405) (lnle (show ln h 405 = 240 from S.l405) (by decide)) g2 (lnlt (show ln h 405 = 240 from S.l405) g3) ?_
    refine R_bipush (Dat dd_Y_digitAt 15 rfl) (a := 48) rfl ?_
    refine R_isub (Dat dd_Y_digitAt 16 rfl) ?_
    refine R_goto (Dat dd_Y_digitAt 17 rfl) rfl ?_
    exact R_ireturn (Dat dd_Y_digitAt 19 rfl) rfl T
def dl_Y_ofGrain : List (Nat × Instr × Nat) := [(0, .aload_n 0, 1), (1, .iload_n 1, 1), (2, .invokevirtual 142, 3), (5, .ifCond .ne 5, 3), (8, .iconst (-1), 1), (9, .ireturn, 1), (10, .iload_n 2, 1), (11, .tableswitch 80 0 5 #[37, 44, 51, 58, 64, 70], 37), (48, .aload_n 0, 1), (49, .getfield 25, 3), (52, .iload_n 1, 1), (53, .iaload, 1), (54, .ireturn, 1), (55, .aload_n 0, 1), (56, .getfield 19, 3), (59, .iload_n 1, 1), (60, .iaload, 1), (61, .ireturn, 1), (62, .aload_n 0, 1), (63, .getfield 22, 3), (66, .iload_n 1, 1), (67, .iaload, 1), (68, .ireturn, 1), (69, .aload_n 0, 1), (70, .iload_n 1, 1), (71, .invokevirtual 145, 3), (74, .ireturn, 1), (75, .aload_n 0, 1), (76, .iload_n 1, 1), (77, .invokevirtual 148, 3), (80, .ireturn, 1), (81, .aload_n 0, 1), (82, .iload_n 1, 1), (83, .aload_n 0, 1), (84, .getfield 122, 3), (87, .invokevirtual 151, 3), (90, .ireturn, 1), (91, .bipush (-2), 2), (93, .ireturn, 1)]
theorem dd_Y_ofGrain : Dall 136 dl_Y_ofGrain = true := by decide +kernel
theorem t_Y_ofGrain {h : Hp} {P : Value → Hp → Prop} {p0 p1 : Int} (S : YS h) (T : R 137 0 [.ref 400, .int (I p0)] [] h (fun v h2 => R 136 5 [.ref 400, .int (I p0), .int (I p1)] (v :: []) h2 P)) : R 136 0 [.ref 400, .int (I p0), .int (I p1)] [] h P := by
  refine R_aload_n (Dat dd_Y_ofGrain 0 rfl) rfl rfl ?_
  refine R_iload_n (Dat dd_Y_ofGrain 1 rfl) rfl ?_
  exact R_call1 (Dat dd_Y_ofGrain 2 rfl) rfl S.t400 rfl rfl rfl rfl rfl T
theorem t_Y_ofGrain_5 {h : Hp} {P : Value → Hp → Prop} {a1 a2 s0 : Int} (S : YS h) (T : (rng s0) ∧ ((s0 = 0 → P (.int (I (-1))) h) ∧ (¬ s0 = 0 → (rng a2) ∧ (((a2 = 0 → (0 ≤ a1) ∧ (a1 < 7) ∧ P (.int (I (iv h 412 a1))) h) ∧ (a2 = 1 → (0 ≤ a1) ∧ (a1 < 7) ∧ P (.int (I (iv h 410 a1))) h) ∧ (a2 = 2 → (0 ≤ a1) ∧ (a1 < 7) ∧ P (.int (I (iv h 411 a1))) h) ∧ (a2 = 3 → R 138 0 [.ref 400, .int (I a1)] [] h (fun v h2 => R 136 74 [.ref 400, .int (I a1), .int (I a2)] (v :: []) h2 P)) ∧ (a2 = 4 → R 139 0 [.ref 400, .int (I a1)] [] h (fun v h2 => R 136 80 [.ref 400, .int (I a1), .int (I a2)] (v :: []) h2 P)) ∧ (a2 = 5 → R 140 0 [.ref 400, .int (I a1), .int (I (iv h 400 7)), .retAddr 0] [] h (fun v h2 => R 136 90 [.ref 400, .int (I a1), .int (I a2)] (v :: []) h2 P))) ∧ (a2 < 0 ∨ 5 < a2 → P (.int (I (-2))) h))))) : R 136 5 [.ref 400, .int (I a1), .int (I a2)] [.int (I s0)] h P := by
  obtain ⟨g1, T⟩ := T
  refine R_if_ne (Dat dd_Y_ofGrain 3 rfl) rfl g1  (fun c => ?_) (fun c => ?_)
  · replace T := T.1 c
    refine R_iconst (Dat dd_Y_ofGrain 4 rfl) ?_
    exact R_ireturn (Dat dd_Y_ofGrain 5 rfl) rfl T
  · replace T := T.2 c
    refine R_iload_n (Dat dd_Y_ofGrain 6 rfl) rfl ?_
    obtain ⟨g2, T⟩ := T
    refine R_tsw (lo := 0) (hi := 5) (Dat dd_Y_ofGrain 7 rfl) (td := 91) (ts := [48, 55, 62, 69, 75, 81]) g2 rfl rfl rfl rfl (fun i hi hc => ?_) (fun c => ?_)
    · obtain ⟨T, -⟩ := T
      have hi : i < 6 := hi
      rcases (show i = 0 ∨ i = 1 ∨ i = 2 ∨ i = 3 ∨ i = 4 ∨ i = 5 by omega) with rfl | rfl | rfl | rfl | rfl | rfl
      · replace T := T.1 (by exact hc)
        refine R_aload_n (Dat dd_Y_ofGrain 8 rfl) rfl rfl ?_
        refine R_getr (Dat dd_Y_ofGrain 9 rfl) rfl rfl (tok S.t400) S.f400_11 (q := 412) rfl (tnz S.t412) ?_
        refine R_iload_n (Dat dd_Y_ofGrain 10 rfl) rfl ?_
        obtain ⟨g3, T⟩ := T
        obtain ⟨g4, T⟩ := T
        refine R_iaload (Dat dd_Y_ofGrain 11 rfl) (Or.inl S.t412) (lnle (show ln h 412 = 7 from S.l412) (by decide)) g3 (lnlt (show ln h 412 = 7 from S.l412) g4) ?_
        exact R_ireturn (Dat dd_Y_ofGrain 12 rfl) rfl T
      · replace T := T.2.1 (by exact hc)
        refine R_aload_n (Dat dd_Y_ofGrain 13 rfl) rfl rfl ?_
        refine R_getr (Dat dd_Y_ofGrain 14 rfl) rfl rfl (tok S.t400) S.f400_9 (q := 410) rfl (tnz S.t410) ?_
        refine R_iload_n (Dat dd_Y_ofGrain 15 rfl) rfl ?_
        obtain ⟨g5, T⟩ := T
        obtain ⟨g6, T⟩ := T
        refine R_iaload (Dat dd_Y_ofGrain 16 rfl) (Or.inl S.t410) (lnle (show ln h 410 = 7 from S.l410) (by decide)) g5 (lnlt (show ln h 410 = 7 from S.l410) g6) ?_
        exact R_ireturn (Dat dd_Y_ofGrain 17 rfl) rfl T
      · replace T := T.2.2.1 (by exact hc)
        refine R_aload_n (Dat dd_Y_ofGrain 18 rfl) rfl rfl ?_
        refine R_getr (Dat dd_Y_ofGrain 19 rfl) rfl rfl (tok S.t400) S.f400_10 (q := 411) rfl (tnz S.t411) ?_
        refine R_iload_n (Dat dd_Y_ofGrain 20 rfl) rfl ?_
        obtain ⟨g7, T⟩ := T
        obtain ⟨g8, T⟩ := T
        refine R_iaload (Dat dd_Y_ofGrain 21 rfl) (Or.inl S.t411) (lnle (show ln h 411 = 7 from S.l411) (by decide)) g7 (lnlt (show ln h 411 = 7 from S.l411) g8) ?_
        exact R_ireturn (Dat dd_Y_ofGrain 22 rfl) rfl T
      · replace T := T.2.2.2.1 (by exact hc)
        refine R_aload_n (Dat dd_Y_ofGrain 23 rfl) rfl rfl ?_
        refine R_iload_n (Dat dd_Y_ofGrain 24 rfl) rfl ?_
        exact R_call1 (Dat dd_Y_ofGrain 25 rfl) rfl S.t400 rfl rfl rfl rfl rfl T
      · replace T := T.2.2.2.2.1 (by exact hc)
        refine R_aload_n (Dat dd_Y_ofGrain 27 rfl) rfl rfl ?_
        refine R_iload_n (Dat dd_Y_ofGrain 28 rfl) rfl ?_
        exact R_call1 (Dat dd_Y_ofGrain 29 rfl) rfl S.t400 rfl rfl rfl rfl rfl T
      · replace T := T.2.2.2.2.2 (by exact hc)
        refine R_aload_n (Dat dd_Y_ofGrain 31 rfl) rfl rfl ?_
        refine R_iload_n (Dat dd_Y_ofGrain 32 rfl) rfl ?_
        refine R_aload_n (Dat dd_Y_ofGrain 33 rfl) rfl rfl ?_
        refine R_geti (Dat dd_Y_ofGrain 34 rfl) rfl rfl (tok S.t400) ?_
        exact R_call1 (Dat dd_Y_ofGrain 35 rfl) rfl S.t400 rfl rfl rfl rfl rfl T
    · replace T := T.2 c
      refine R_bipush (Dat dd_Y_ofGrain 37 rfl) (a := (-2)) rfl ?_
      exact R_ireturn (Dat dd_Y_ofGrain 38 rfl) rfl T
theorem t_Y_ofGrain_74 {h : Hp} {P : Value → Hp → Prop} {s0 : Int} {a0 a1 a2 : Value} (S : YS h) (T : P (.int (I s0)) h) : R 136 74 [a0, a1, a2] [.int (I s0)] h P := by
  exact R_ireturn (Dat dd_Y_ofGrain 26 rfl) rfl T
theorem t_Y_ofGrain_80 {h : Hp} {P : Value → Hp → Prop} {s0 : Int} {a0 a1 a2 : Value} (S : YS h) (T : P (.int (I s0)) h) : R 136 80 [a0, a1, a2] [.int (I s0)] h P := by
  exact R_ireturn (Dat dd_Y_ofGrain 30 rfl) rfl T
theorem t_Y_ofGrain_90 {h : Hp} {P : Value → Hp → Prop} {s0 : Int} {a0 a1 a2 : Value} (S : YS h) (T : P (.int (I s0)) h) : R 136 90 [a0, a1, a2] [.int (I s0)] h P := by
  exact R_ireturn (Dat dd_Y_ofGrain 36 rfl) rfl T
def dl_Y_isGrain : List (Nat × Instr × Nat) := [(0, .iload_n 1, 1), (1, .ifCond .lt 15, 3), (4, .iload_n 1, 1), (5, .aload_n 0, 1), (6, .getfield 92, 3), (9, .if_icmp .ge 7, 3), (12, .iconst 1, 1), (13, .goto 4, 3), (16, .iconst 0, 1), (17, .ireturn, 1)]
theorem dd_Y_isGrain : Dall 137 dl_Y_isGrain = true := by decide +kernel
theorem t_Y_isGrain {h : Hp} {P : Value → Hp → Prop} {p0 : Int} (S : YS h) (T : (rng p0) ∧ ((p0 < 0 → P (.int (I 0)) h) ∧ (¬ p0 < 0 → (rng p0) ∧ (rng (iv h 400 5)) ∧ ((p0 < (iv h 400 5) → P (.int (I 1)) h) ∧ (¬ p0 < (iv h 400 5) → P (.int (I 0)) h))))) : R 137 0 [.ref 400, .int (I p0)] [] h P := by
  refine R_iload_n (Dat dd_Y_isGrain 0 rfl) rfl ?_
  obtain ⟨g1, T⟩ := T
  refine R_if_lt (Dat dd_Y_isGrain 1 rfl) rfl g1  (fun c => ?_) (fun c => ?_)
  · replace T := T.1 c
    refine R_iconst (Dat dd_Y_isGrain 8 rfl) ?_
    exact R_ireturn (Dat dd_Y_isGrain 9 rfl) rfl T
  · replace T := T.2 c
    refine R_iload_n (Dat dd_Y_isGrain 2 rfl) rfl ?_
    refine R_aload_n (Dat dd_Y_isGrain 3 rfl) rfl rfl ?_
    refine R_geti (Dat dd_Y_isGrain 4 rfl) rfl rfl (tok S.t400) ?_
    obtain ⟨g2, T⟩ := T
    obtain ⟨g3, T⟩ := T
    refine R_ic_ge (Dat dd_Y_isGrain 5 rfl) rfl g2 g3 (fun c => ?_) (fun c => ?_)
    · replace T := T.1 c
      refine R_iconst (Dat dd_Y_isGrain 6 rfl) ?_
      refine R_goto (Dat dd_Y_isGrain 7 rfl) rfl ?_
      exact R_ireturn (Dat dd_Y_isGrain 9 rfl) rfl T
    · replace T := T.2 c
      refine R_iconst (Dat dd_Y_isGrain 8 rfl) ?_
      exact R_ireturn (Dat dd_Y_isGrain 9 rfl) rfl T
def dl_Y_bulk : List (Nat × Instr × Nat) := [(0, .aload_n 0, 1), (1, .getfield 25, 3), (4, .iload_n 1, 1), (5, .iaload, 1), (6, .ifCond .le 14, 3), (9, .aload_n 0, 1), (10, .getfield 19, 3), (13, .iload_n 1, 1), (14, .iaload, 1), (15, .iconst 1, 1), (16, .isub, 1), (17, .goto 9, 3), (20, .aload_n 0, 1), (21, .getfield 19, 3), (24, .iload_n 1, 1), (25, .iaload, 1), (26, .ireturn, 1)]
theorem dd_Y_bulk : Dall 138 dl_Y_bulk = true := by decide +kernel
theorem t_Y_bulk {h : Hp} {P : Value → Hp → Prop} {p0 : Int} (S : YS h) (T : (0 ≤ p0) ∧ (p0 < 7) ∧ (rng (iv h 412 p0)) ∧ (((0 : Int) < (iv h 412 p0) → (0 ≤ p0) ∧ (p0 < 7) ∧ P (.int (I ((iv h 410 p0) - 1))) h) ∧ (¬ (0 : Int) < (iv h 412 p0) → (0 ≤ p0) ∧ (p0 < 7) ∧ P (.int (I (iv h 410 p0))) h))) : R 138 0 [.ref 400, .int (I p0)] [] h P := by
  refine R_aload_n (Dat dd_Y_bulk 0 rfl) rfl rfl ?_
  refine R_getr (Dat dd_Y_bulk 1 rfl) rfl rfl (tok S.t400) S.f400_11 (q := 412) rfl (tnz S.t412) ?_
  refine R_iload_n (Dat dd_Y_bulk 2 rfl) rfl ?_
  obtain ⟨g1, T⟩ := T
  obtain ⟨g2, T⟩ := T
  refine R_iaload (Dat dd_Y_bulk 3 rfl) (Or.inl S.t412) (lnle (show ln h 412 = 7 from S.l412) (by decide)) g1 (lnlt (show ln h 412 = 7 from S.l412) g2) ?_
  obtain ⟨g3, T⟩ := T
  refine R_if_le (Dat dd_Y_bulk 4 rfl) rfl g3  (fun c => ?_) (fun c => ?_)
  · replace T := T.1 c
    refine R_aload_n (Dat dd_Y_bulk 5 rfl) rfl rfl ?_
    refine R_getr (Dat dd_Y_bulk 6 rfl) rfl rfl (tok S.t400) S.f400_9 (q := 410) rfl (tnz S.t410) ?_
    refine R_iload_n (Dat dd_Y_bulk 7 rfl) rfl ?_
    obtain ⟨g4, T⟩ := T
    obtain ⟨g5, T⟩ := T
    refine R_iaload (Dat dd_Y_bulk 8 rfl) (Or.inl S.t410) (lnle (show ln h 410 = 7 from S.l410) (by decide)) g4 (lnlt (show ln h 410 = 7 from S.l410) g5) ?_
    refine R_iconst (Dat dd_Y_bulk 9 rfl) ?_
    refine R_isub (Dat dd_Y_bulk 10 rfl) ?_
    refine R_goto (Dat dd_Y_bulk 11 rfl) rfl ?_
    exact R_ireturn (Dat dd_Y_bulk 16 rfl) rfl T
  · replace T := T.2 c
    refine R_aload_n (Dat dd_Y_bulk 12 rfl) rfl rfl ?_
    refine R_getr (Dat dd_Y_bulk 13 rfl) rfl rfl (tok S.t400) S.f400_9 (q := 410) rfl (tnz S.t410) ?_
    refine R_iload_n (Dat dd_Y_bulk 14 rfl) rfl ?_
    obtain ⟨g6, T⟩ := T
    obtain ⟨g7, T⟩ := T
    refine R_iaload (Dat dd_Y_bulk 15 rfl) (Or.inl S.t410) (lnle (show ln h 410 = 7 from S.l410) (by decide)) g6 (lnlt (show ln h 410 = 7 from S.l410) g7) ?_
    exact R_ireturn (Dat dd_Y_bulk 16 rfl) rfl T
def dl_Y_heft : List (Nat × Instr × Nat) := [(0, .aload_n 0, 1), (1, .getfield 25, 3), (4, .iload_n 1, 1), (5, .iaload, 1), (6, .iconst 2, 1), (7, .if_icmp .ne 14, 3), (10, .aload_n 0, 1), (11, .getfield 22, 3), (14, .iload_n 1, 1), (15, .iaload, 1), (16, .iconst 2, 1), (17, .iadd, 1), (18, .goto 9, 3), (21, .aload_n 0, 1), (22, .getfield 22, 3), (25, .iload_n 1, 1), (26, .iaload, 1), (27, .ireturn, 1)]
theorem dd_Y_heft : Dall 139 dl_Y_heft = true := by decide +kernel
theorem t_Y_heft {h : Hp} {P : Value → Hp → Prop} {p0 : Int} (S : YS h) (T : (0 ≤ p0) ∧ (p0 < 7) ∧ (rng (iv h 412 p0)) ∧ (((iv h 412 p0) = 2 → (0 ≤ p0) ∧ (p0 < 7) ∧ P (.int (I ((iv h 411 p0) + 2))) h) ∧ (¬ (iv h 412 p0) = 2 → (0 ≤ p0) ∧ (p0 < 7) ∧ P (.int (I (iv h 411 p0))) h))) : R 139 0 [.ref 400, .int (I p0)] [] h P := by
  refine R_aload_n (Dat dd_Y_heft 0 rfl) rfl rfl ?_
  refine R_getr (Dat dd_Y_heft 1 rfl) rfl rfl (tok S.t400) S.f400_11 (q := 412) rfl (tnz S.t412) ?_
  refine R_iload_n (Dat dd_Y_heft 2 rfl) rfl ?_
  obtain ⟨g1, T⟩ := T
  obtain ⟨g2, T⟩ := T
  refine R_iaload (Dat dd_Y_heft 3 rfl) (Or.inl S.t412) (lnle (show ln h 412 = 7 from S.l412) (by decide)) g1 (lnlt (show ln h 412 = 7 from S.l412) g2) ?_
  refine R_iconst (Dat dd_Y_heft 4 rfl) ?_
  obtain ⟨g3, T⟩ := T
  refine R_ic_ne (Dat dd_Y_heft 5 rfl) rfl g3 (by decide) (fun c => ?_) (fun c => ?_)
  · replace T := T.1 c
    refine R_aload_n (Dat dd_Y_heft 6 rfl) rfl rfl ?_
    refine R_getr (Dat dd_Y_heft 7 rfl) rfl rfl (tok S.t400) S.f400_10 (q := 411) rfl (tnz S.t411) ?_
    refine R_iload_n (Dat dd_Y_heft 8 rfl) rfl ?_
    obtain ⟨g4, T⟩ := T
    obtain ⟨g5, T⟩ := T
    refine R_iaload (Dat dd_Y_heft 9 rfl) (Or.inl S.t411) (lnle (show ln h 411 = 7 from S.l411) (by decide)) g4 (lnlt (show ln h 411 = 7 from S.l411) g5) ?_
    refine R_iconst (Dat dd_Y_heft 10 rfl) ?_
    refine R_iadd (Dat dd_Y_heft 11 rfl) ?_
    refine R_goto (Dat dd_Y_heft 12 rfl) rfl ?_
    exact R_ireturn (Dat dd_Y_heft 17 rfl) rfl T
  · replace T := T.2 c
    refine R_aload_n (Dat dd_Y_heft 13 rfl) rfl rfl ?_
    refine R_getr (Dat dd_Y_heft 14 rfl) rfl rfl (tok S.t400) S.f400_10 (q := 411) rfl (tnz S.t411) ?_
    refine R_iload_n (Dat dd_Y_heft 15 rfl) rfl ?_
    obtain ⟨g6, T⟩ := T
    obtain ⟨g7, T⟩ := T
    refine R_iaload (Dat dd_Y_heft 16 rfl) (Or.inl S.t411) (lnle (show ln h 411 = 7 from S.l411) (by decide)) g6 (lnlt (show ln h 411 = 7 from S.l411) g7) ?_
    exact R_ireturn (Dat dd_Y_heft 17 rfl) rfl T
def dl_Y_placeOf : List (Nat × Instr × Nat) := [(0, .aload_n 0, 1), (1, .iload_n 2, 1), (2, .invokevirtual 154, 3), (5, .iconst 0, 1), (6, .istore_n 3, 1), (7, .aload_n 0, 1), (8, .getfield 37, 3), (11, .iload_n 3, 1), (12, .iaload, 1), (13, .iload_n 1, 1), (14, .if_icmp .eq 9, 3), (17, .iinc 3 1, 3), (20, .goto (-13), 3), (23, .iload_n 3, 1), (24, .ireturn, 1)]
theorem dd_Y_placeOf : Dall 140 dl_Y_placeOf = true := by decide +kernel
theorem t_Y_placeOf {h : Hp} {P : Value → Hp → Prop} {p0 p1 : Int} (S : YS h) (T : R 141 0 [.ref 400, .int (I p1), .retAddr 0, .retAddr 0, .retAddr 0, .retAddr 0, .retAddr 0, .retAddr 0] [] h (fun _ h2 => R 140 5 [.ref 400, .int (I p0), .int (I p1), .retAddr 0] [] h2 P)) : R 140 0 [.ref 400, .int (I p0), .int (I p1), .retAddr 0] [] h P := by
  refine R_aload_n (Dat dd_Y_placeOf 0 rfl) rfl rfl ?_
  refine R_iload_n (Dat dd_Y_placeOf 1 rfl) rfl ?_
  exact R_call1 (Dat dd_Y_placeOf 2 rfl) rfl S.t400 rfl rfl rfl rfl rfl T
theorem t_Y_placeOf_5 {h : Hp} {P : Value → Hp → Prop} {a1 : Int} {a2 a3 : Value} (S : YS h) (T : R 140 7 [.ref 400, .int (I a1), a2, .int (I 0)] [] h P) : R 140 5 [.ref 400, .int (I a1), a2, a3] [] h P := by
  refine R_iconst (Dat dd_Y_placeOf 3 rfl) ?_
  refine R_istore_n (Dat dd_Y_placeOf 4 rfl) rfl rfl ?_
  exact T
theorem t_Y_placeOf_7 {h : Hp} {P : Value → Hp → Prop} {a1 a3 : Int} {a2 : Value} (S : YS h) (T : (0 ≤ a3) ∧ (a3 < 7) ∧ (rng (iv h 418 a3)) ∧ (rng a1) ∧ (((iv h 418 a3) = a1 → P (.int (I a3)) h) ∧ (¬ (iv h 418 a3) = a1 → R 140 7 [.ref 400, .int (I a1), a2, .int (I (a3 + 1))] [] h P))) : R 140 7 [.ref 400, .int (I a1), a2, .int (I a3)] [] h P := by
  refine R_aload_n (Dat dd_Y_placeOf 5 rfl) rfl rfl ?_
  refine R_getr (Dat dd_Y_placeOf 6 rfl) rfl rfl (tok S.t400) S.f400_17 (q := 418) rfl (tnz S.t418) ?_
  refine R_iload_n (Dat dd_Y_placeOf 7 rfl) rfl ?_
  obtain ⟨g1, T⟩ := T
  obtain ⟨g2, T⟩ := T
  refine R_iaload (Dat dd_Y_placeOf 8 rfl) (Or.inl S.t418) (lnle (show ln h 418 = 7 from S.l418) (by decide)) g1 (lnlt (show ln h 418 = 7 from S.l418) g2) ?_
  refine R_iload_n (Dat dd_Y_placeOf 9 rfl) rfl ?_
  obtain ⟨g3, T⟩ := T
  obtain ⟨g4, T⟩ := T
  refine R_ic_eq (Dat dd_Y_placeOf 10 rfl) rfl g3 g4 (fun c => ?_) (fun c => ?_)
  · replace T := T.1 c
    refine R_iload_n (Dat dd_Y_placeOf 13 rfl) rfl ?_
    exact R_ireturn (Dat dd_Y_placeOf 14 rfl) rfl T
  · replace T := T.2 c
    refine R_iinc (Dat dd_Y_placeOf 11 rfl) rfl rfl rfl ?_
    refine R_goto (Dat dd_Y_placeOf 12 rfl) rfl ?_
    exact T
def dl_Y_open : List (Nat × Instr × Nat) := [(0, .iload_n 1, 1), (1, .istore_n 2, 1), (2, .iconst 0, 1), (3, .istore_n 3, 1), (4, .aload_n 0, 1), (5, .getfield 95, 3), (8, .istore 4, 2), (10, .iconst 0, 1), (11, .istore 5, 2), (13, .iload 5, 2), (15, .aload_n 0, 1), (16, .getfield 92, 3), (19, .if_icmp .ge 90, 3), (22, .iload 4, 2), (24, .aload_n 0, 1), (25, .getfield 92, 3), (28, .iload 5, 2), (30, .isub, 1), (31, .idiv, 1), (32, .istore 4, 2), (34, .iload_n 2, 1), (35, .iload 4, 2), (37, .idiv, 1), (38, .istore 6, 2), (40, .iload_n 2, 1), (41, .iload 4, 2), (43, .irem, 1), (44, .istore_n 2, 1), (45, .iconst 0, 1), (46, .istore 7, 2), (48, .iload_n 3, 1), (49, .iload 7, 2), (51, .invokestatic 139, 3), (54, .ifCond .ne 8, 3), (57, .iload 6, 2), (59, .ifCond .le 28, 3), (62, .iload 6, 2), (64, .iload_n 3, 1), (65, .iload 7, 2), (67, .invokestatic 139, 3), (70, .ifCond .eq 7, 3), (73, .iconst 0, 1), (74, .goto 4, 3), (77, .iconst 1, 1), (78, .isub, 1), (79, .istore 6, 2), (81, .iinc 7 1, 3), (84, .goto (-36), 3), (87, .aload_n 0, 1), (88, .getfield 37, 3), (91, .iload 5, 2), (93, .iload 7, 2), (95, .iastore, 1), (96, .iload_n 3, 1), (97, .iconst 1, 1), (98, .iload 7, 2), (100, .ishl, 1), (101, .ior, 1), (102, .istore_n 3, 1), (103, .iinc 5 1, 3), (106, .goto (-93), 3), (109, .return_, 1)]
theorem dd_Y_open : Dall 141 dl_Y_open = true := by decide +kernel
theorem t_Y_open {h : Hp} {P : Value → Hp → Prop} {p0 : Int} (S : YS h) (T : R 141 13 [.ref 400, .int (I p0), .int (I p0), .int (I 0), .int (I (iv h 400 6)), .int (I 0), .retAddr 0, .retAddr 0] [] h P) : R 141 0 [.ref 400, .int (I p0), .retAddr 0, .retAddr 0, .retAddr 0, .retAddr 0, .retAddr 0, .retAddr 0] [] h P := by
  refine R_iload_n (Dat dd_Y_open 0 rfl) rfl ?_
  refine R_istore_n (Dat dd_Y_open 1 rfl) rfl rfl ?_
  refine R_iconst (Dat dd_Y_open 2 rfl) ?_
  refine R_istore_n (Dat dd_Y_open 3 rfl) rfl rfl ?_
  refine R_aload_n (Dat dd_Y_open 4 rfl) rfl rfl ?_
  refine R_geti (Dat dd_Y_open 5 rfl) rfl rfl (tok S.t400) ?_
  refine R_istore (Dat dd_Y_open 6 rfl) rfl rfl ?_
  refine R_iconst (Dat dd_Y_open 7 rfl) ?_
  refine R_istore (Dat dd_Y_open 8 rfl) rfl rfl ?_
  exact T
theorem t_Y_open_13 {h : Hp} {P : Value → Hp → Prop} {a2 a3 a4 a5 : Int} {a1 a6 a7 : Value} (S : YS h) (T : (rng a5) ∧ (rng (iv h 400 5)) ∧ ((a5 < (iv h 400 5) → (0 ≤ a4 ∧ a4 < 2147483648) ∧ (0 < ((iv h 400 5) - a5) ∧ ((iv h 400 5) - a5) < 2147483648) ∧ (0 ≤ a2 ∧ a2 < 2147483648) ∧ (0 < (a4 / ((iv h 400 5) - a5)) ∧ (a4 / ((iv h 400 5) - a5)) < 2147483648) ∧ (0 ≤ a2 ∧ a2 < 2147483648) ∧ (0 < (a4 / ((iv h 400 5) - a5)) ∧ (a4 / ((iv h 400 5) - a5)) < 2147483648) ∧ R 141 48 [.ref 400, a1, .int (I (a2 % (a4 / ((iv h 400 5) - a5)))), .int (I a3), .int (I (a4 / ((iv h 400 5) - a5))), .int (I a5), .int (I (a2 / (a4 / ((iv h 400 5) - a5)))), .int (I 0)] [] h P) ∧ (¬ a5 < (iv h 400 5) → P .null h))) : R 141 13 [.ref 400, a1, .int (I a2), .int (I a3), .int (I a4), .int (I a5), a6, a7] [] h P := by
  refine R_iload (Dat dd_Y_open 9 rfl) rfl ?_
  refine R_aload_n (Dat dd_Y_open 10 rfl) rfl rfl ?_
  refine R_geti (Dat dd_Y_open 11 rfl) rfl rfl (tok S.t400) ?_
  obtain ⟨g1, T⟩ := T
  obtain ⟨g2, T⟩ := T
  refine R_ic_ge (Dat dd_Y_open 12 rfl) rfl g1 g2 (fun c => ?_) (fun c => ?_)
  · replace T := T.1 c
    refine R_iload (Dat dd_Y_open 13 rfl) rfl ?_
    refine R_aload_n (Dat dd_Y_open 14 rfl) rfl rfl ?_
    refine R_geti (Dat dd_Y_open 15 rfl) rfl rfl (tok S.t400) ?_
    refine R_iload (Dat dd_Y_open 16 rfl) rfl ?_
    refine R_isub (Dat dd_Y_open 17 rfl) ?_
    obtain ⟨g3, T⟩ := T
    obtain ⟨g4, T⟩ := T
    refine R_idiv (Dat dd_Y_open 18 rfl) g3 g4 ?_
    refine R_istore (Dat dd_Y_open 19 rfl) rfl rfl ?_
    refine R_iload_n (Dat dd_Y_open 20 rfl) rfl ?_
    refine R_iload (Dat dd_Y_open 21 rfl) rfl ?_
    obtain ⟨g5, T⟩ := T
    obtain ⟨g6, T⟩ := T
    refine R_idiv (Dat dd_Y_open 22 rfl) g5 g6 ?_
    refine R_istore (Dat dd_Y_open 23 rfl) rfl rfl ?_
    refine R_iload_n (Dat dd_Y_open 24 rfl) rfl ?_
    refine R_iload (Dat dd_Y_open 25 rfl) rfl ?_
    obtain ⟨g7, T⟩ := T
    obtain ⟨g8, T⟩ := T
    refine R_irem (Dat dd_Y_open 26 rfl) g7 g8 ?_
    refine R_istore_n (Dat dd_Y_open 27 rfl) rfl rfl ?_
    refine R_iconst (Dat dd_Y_open 28 rfl) ?_
    refine R_istore (Dat dd_Y_open 29 rfl) rfl rfl ?_
    exact T
  · replace T := T.2 c
    exact R_return (Dat dd_Y_open 61 rfl) rfl T
theorem t_Y_open_48 {h : Hp} {P : Value → Hp → Prop} {a2 a3 a4 a5 a6 a7 : Int} {a1 : Value} (S : YS h) (T : R 142 0 [.int (I a3), .int (I a7)] [] h (fun v h2 => R 141 54 [.ref 400, a1, .int (I a2), .int (I a3), .int (I a4), .int (I a5), .int (I a6), .int (I a7)] (v :: []) h2 P)) : R 141 48 [.ref 400, a1, .int (I a2), .int (I a3), .int (I a4), .int (I a5), .int (I a6), .int (I a7)] [] h P := by
  refine R_iload_n (Dat dd_Y_open 30 rfl) rfl ?_
  refine R_iload (Dat dd_Y_open 31 rfl) rfl ?_
  exact R_call0 (Dat dd_Y_open 32 rfl) rfl rfl rfl rfl rfl rfl T
theorem t_Y_open_54 {h : Hp} {P : Value → Hp → Prop} {a2 a3 a4 a5 a6 a7 s0 : Int} {a1 : Value} (S : YS h) (T : (rng s0) ∧ ((s0 = 0 → (rng a6) ∧ (((0 : Int) < a6 → R 142 0 [.int (I a3), .int (I a7)] [] h (fun v h2 => R 141 70 [.ref 400, a1, .int (I a2), .int (I a3), .int (I a4), .int (I a5), .int (I a6), .int (I a7)] (v :: [.int (I a6)]) h2 P)) ∧ (¬ (0 : Int) < a6 → (0 ≤ a5) ∧ (a5 < 7) ∧ R 141 13 [.ref 400, a1, .int (I a2), .int (I (bor a3 (shl 1 a7))), .int (I a4), .int (I (a5 + 1)), .int (I a6), .int (I a7)] [] (setI h 418 a5 (wr a7)) P))) ∧ (¬ s0 = 0 → R 142 0 [.int (I a3), .int (I a7)] [] h (fun v h2 => R 141 70 [.ref 400, a1, .int (I a2), .int (I a3), .int (I a4), .int (I a5), .int (I a6), .int (I a7)] (v :: [.int (I a6)]) h2 P)))) : R 141 54 [.ref 400, a1, .int (I a2), .int (I a3), .int (I a4), .int (I a5), .int (I a6), .int (I a7)] [.int (I s0)] h P := by
  obtain ⟨g1, T⟩ := T
  refine R_if_ne (Dat dd_Y_open 33 rfl) rfl g1  (fun c => ?_) (fun c => ?_)
  · replace T := T.1 c
    refine R_iload (Dat dd_Y_open 34 rfl) rfl ?_
    obtain ⟨g2, T⟩ := T
    refine R_if_le (Dat dd_Y_open 35 rfl) rfl g2  (fun c => ?_) (fun c => ?_)
    · replace T := T.1 c
      refine R_iload (Dat dd_Y_open 36 rfl) rfl ?_
      refine R_iload_n (Dat dd_Y_open 37 rfl) rfl ?_
      refine R_iload (Dat dd_Y_open 38 rfl) rfl ?_
      exact R_call0 (Dat dd_Y_open 39 rfl) rfl rfl rfl rfl rfl rfl T
    · replace T := T.2 c
      refine R_aload_n (Dat dd_Y_open 48 rfl) rfl rfl ?_
      refine R_getr (Dat dd_Y_open 49 rfl) rfl rfl (tok S.t400) S.f400_17 (q := 418) rfl (tnz S.t418) ?_
      refine R_iload (Dat dd_Y_open 50 rfl) rfl ?_
      refine R_iload (Dat dd_Y_open 51 rfl) rfl ?_
      obtain ⟨g3, T⟩ := T
      obtain ⟨g4, T⟩ := T
      refine R_iastore (Dat dd_Y_open 52 rfl) S.t418 (lnle (show ln h 418 = 7 from S.l418) (by decide)) g3 (lnlt (show ln h 418 = 7 from S.l418) g4) (v := wr a7) rfl ?_
      refine R_iload_n (Dat dd_Y_open 53 rfl) rfl ?_
      refine R_iconst (Dat dd_Y_open 54 rfl) ?_
      refine R_iload (Dat dd_Y_open 55 rfl) rfl ?_
      refine R_ishl (Dat dd_Y_open 56 rfl) ?_
      refine R_ior (Dat dd_Y_open 57 rfl) ?_
      refine R_istore_n (Dat dd_Y_open 58 rfl) rfl rfl ?_
      refine R_iinc (Dat dd_Y_open 59 rfl) rfl rfl rfl ?_
      refine R_goto (Dat dd_Y_open 60 rfl) rfl ?_
      exact T
  · replace T := T.2 c
    refine R_iload (Dat dd_Y_open 36 rfl) rfl ?_
    refine R_iload_n (Dat dd_Y_open 37 rfl) rfl ?_
    refine R_iload (Dat dd_Y_open 38 rfl) rfl ?_
    exact R_call0 (Dat dd_Y_open 39 rfl) rfl rfl rfl rfl rfl rfl T
theorem t_Y_open_70 {h : Hp} {P : Value → Hp → Prop} {a2 a3 a4 a5 a7 s0 s1 : Int} {a1 a6 : Value} (S : YS h) (T : (rng s0) ∧ ((s0 = 0 → R 141 48 [.ref 400, a1, .int (I a2), .int (I a3), .int (I a4), .int (I a5), .int (I (s1 - 1)), .int (I (a7 + 1))] [] h P) ∧ (¬ s0 = 0 → R 141 48 [.ref 400, a1, .int (I a2), .int (I a3), .int (I a4), .int (I a5), .int (I (s1 - 0)), .int (I (a7 + 1))] [] h P))) : R 141 70 [.ref 400, a1, .int (I a2), .int (I a3), .int (I a4), .int (I a5), a6, .int (I a7)] [.int (I s0), .int (I s1)] h P := by
  obtain ⟨g1, T⟩ := T
  refine R_if_eq (Dat dd_Y_open 40 rfl) rfl g1  (fun c => ?_) (fun c => ?_)
  · replace T := T.1 c
    refine R_iconst (Dat dd_Y_open 43 rfl) ?_
    refine R_isub (Dat dd_Y_open 44 rfl) ?_
    refine R_istore (Dat dd_Y_open 45 rfl) rfl rfl ?_
    refine R_iinc (Dat dd_Y_open 46 rfl) rfl rfl rfl ?_
    refine R_goto (Dat dd_Y_open 47 rfl) rfl ?_
    exact T
  · replace T := T.2 c
    refine R_iconst (Dat dd_Y_open 41 rfl) ?_
    refine R_goto (Dat dd_Y_open 42 rfl) rfl ?_
    refine R_isub (Dat dd_Y_open 44 rfl) ?_
    refine R_istore (Dat dd_Y_open 45 rfl) rfl rfl ?_
    refine R_iinc (Dat dd_Y_open 46 rfl) rfl rfl rfl ?_
    refine R_goto (Dat dd_Y_open 47 rfl) rfl ?_
    exact T
def dl_Y_has : List (Nat × Instr × Nat) := [(0, .iload_n 0, 1), (1, .iload_n 1, 1), (2, .ishr, 1), (3, .iconst 1, 1), (4, .iand, 1), (5, .iconst 1, 1), (6, .if_icmp .ne 7, 3), (9, .iconst 1, 1), (10, .goto 4, 3), (13, .iconst 0, 1), (14, .ireturn, 1)]
theorem dd_Y_has : Dall 142 dl_Y_has = true := by decide +kernel
theorem t_Y_has {h : Hp} {P : Value → Hp → Prop} {p0 p1 : Int} (T : (rng (band (shr p0 p1) 1)) ∧ (((band (shr p0 p1) 1) = 1 → P (.int (I 1)) h) ∧ (¬ (band (shr p0 p1) 1) = 1 → P (.int (I 0)) h))) : R 142 0 [.int (I p0), .int (I p1)] [] h P := by
  refine R_iload_n (Dat dd_Y_has 0 rfl) rfl ?_
  refine R_iload_n (Dat dd_Y_has 1 rfl) rfl ?_
  refine R_ishr (Dat dd_Y_has 2 rfl) ?_
  refine R_iconst (Dat dd_Y_has 3 rfl) ?_
  refine R_iand (Dat dd_Y_has 4 rfl) ?_
  refine R_iconst (Dat dd_Y_has 5 rfl) ?_
  obtain ⟨g1, T⟩ := T
  refine R_ic_ne (Dat dd_Y_has 6 rfl) rfl g1 (by decide) (fun c => ?_) (fun c => ?_)
  · replace T := T.1 c
    refine R_iconst (Dat dd_Y_has 7 rfl) ?_
    refine R_goto (Dat dd_Y_has 8 rfl) rfl ?_
    exact R_ireturn (Dat dd_Y_has 10 rfl) rfl T
  · replace T := T.2 c
    refine R_iconst (Dat dd_Y_has 9 rfl) ?_
    exact R_ireturn (Dat dd_Y_has 10 rfl) rfl T
def dl_Y_at : List (Nat × Instr × Nat) := [(0, .iload_n 1, 1), (1, .ifCond .lt 11, 3), (4, .iload_n 1, 1), (5, .aload_n 0, 1), (6, .getfield 92, 3), (9, .if_icmp .lt 5, 3), (12, .iconst (-1), 1), (13, .ireturn, 1), (14, .aload_n 0, 1), (15, .aload_n 0, 1), (16, .getfield 122, 3), (19, .invokevirtual 154, 3), (22, .aload_n 0, 1), (23, .getfield 37, 3), (26, .iload_n 1, 1), (27, .iaload, 1), (28, .ireturn, 1)]
theorem dd_Y_at : Dall 143 dl_Y_at = true := by decide +kernel
theorem t_Y_at {h : Hp} {P : Value → Hp → Prop} {p0 : Int} (S : YS h) (T : (rng p0) ∧ ((p0 < 0 → P (.int (I (-1))) h) ∧ (¬ p0 < 0 → (rng p0) ∧ (rng (iv h 400 5)) ∧ ((p0 < (iv h 400 5) → R 141 0 [.ref 400, .int (I (iv h 400 7)), .retAddr 0, .retAddr 0, .retAddr 0, .retAddr 0, .retAddr 0, .retAddr 0] [] h (fun _ h2 => R 143 22 [.ref 400, .int (I p0)] [] h2 P)) ∧ (¬ p0 < (iv h 400 5) → P (.int (I (-1))) h))))) : R 143 0 [.ref 400, .int (I p0)] [] h P := by
  refine R_iload_n (Dat dd_Y_at 0 rfl) rfl ?_
  obtain ⟨g1, T⟩ := T
  refine R_if_lt (Dat dd_Y_at 1 rfl) rfl g1  (fun c => ?_) (fun c => ?_)
  · replace T := T.1 c
    refine R_iconst (Dat dd_Y_at 6 rfl) ?_
    exact R_ireturn (Dat dd_Y_at 7 rfl) rfl T
  · replace T := T.2 c
    refine R_iload_n (Dat dd_Y_at 2 rfl) rfl ?_
    refine R_aload_n (Dat dd_Y_at 3 rfl) rfl rfl ?_
    refine R_geti (Dat dd_Y_at 4 rfl) rfl rfl (tok S.t400) ?_
    obtain ⟨g2, T⟩ := T
    obtain ⟨g3, T⟩ := T
    refine R_ic_lt (Dat dd_Y_at 5 rfl) rfl g2 g3 (fun c => ?_) (fun c => ?_)
    · replace T := T.1 c
      refine R_aload_n (Dat dd_Y_at 8 rfl) rfl rfl ?_
      refine R_aload_n (Dat dd_Y_at 9 rfl) rfl rfl ?_
      refine R_geti (Dat dd_Y_at 10 rfl) rfl rfl (tok S.t400) ?_
      exact R_call1 (Dat dd_Y_at 11 rfl) rfl S.t400 rfl rfl rfl rfl rfl T
    · replace T := T.2 c
      refine R_iconst (Dat dd_Y_at 6 rfl) ?_
      exact R_ireturn (Dat dd_Y_at 7 rfl) rfl T
theorem t_Y_at_22 {h : Hp} {P : Value → Hp → Prop} {a1 : Int} (S : YS h) (T : (0 ≤ a1) ∧ (a1 < 7) ∧ P (.int (I (iv h 418 a1))) h) : R 143 22 [.ref 400, .int (I a1)] [] h P := by
  refine R_aload_n (Dat dd_Y_at 12 rfl) rfl rfl ?_
  refine R_getr (Dat dd_Y_at 13 rfl) rfl rfl (tok S.t400) S.f400_17 (q := 418) rfl (tnz S.t418) ?_
  refine R_iload_n (Dat dd_Y_at 14 rfl) rfl ?_
  obtain ⟨g1, T⟩ := T
  obtain ⟨g2, T⟩ := T
  refine R_iaload (Dat dd_Y_at 15 rfl) (Or.inl S.t418) (lnle (show ln h 418 = 7 from S.l418) (by decide)) g1 (lnlt (show ln h 418 = 7 from S.l418) g2) ?_
  exact R_ireturn (Dat dd_Y_at 16 rfl) rfl T
def dl_Y_lie : List (Nat × Instr × Nat) := [(0, .aload_n 0, 1), (1, .getfield 92, 3), (4, .ifCond .ne 8, 3), (7, .bipush (-3), 2), (9, .goto 7, 3), (12, .aload_n 0, 1), (13, .getfield 122, 3), (16, .ireturn, 1)]
theorem dd_Y_lie : Dall 144 dl_Y_lie = true := by decide +kernel
theorem t_Y_lie {h : Hp} {P : Value → Hp → Prop}  (S : YS h) (T : (rng (iv h 400 5)) ∧ (((iv h 400 5) = 0 → P (.int (I (-3))) h) ∧ (¬ (iv h 400 5) = 0 → P (.int (I (iv h 400 7))) h))) : R 144 0 [.ref 400] [] h P := by
  refine R_aload_n (Dat dd_Y_lie 0 rfl) rfl rfl ?_
  refine R_geti (Dat dd_Y_lie 1 rfl) rfl rfl (tok S.t400) ?_
  obtain ⟨g1, T⟩ := T
  refine R_if_ne (Dat dd_Y_lie 2 rfl) rfl g1  (fun c => ?_) (fun c => ?_)
  · replace T := T.1 c
    refine R_bipush (Dat dd_Y_lie 3 rfl) (a := (-3)) rfl ?_
    refine R_goto (Dat dd_Y_lie 4 rfl) rfl ?_
    exact R_ireturn (Dat dd_Y_lie 7 rfl) rfl T
  · replace T := T.2 c
    refine R_aload_n (Dat dd_Y_lie 5 rfl) rfl rfl ?_
    refine R_geti (Dat dd_Y_lie 6 rfl) rfl rfl (tok S.t400) ?_
    exact R_ireturn (Dat dd_Y_lie 7 rfl) rfl T
def dl_Y_lay : List (Nat × Instr × Nat) := [(0, .aload_n 0, 1), (1, .iload_n 1, 1), (2, .invokevirtual 158, 3), (5, .ifCond .ne 5, 3), (8, .iconst (-1), 1), (9, .ireturn, 1), (10, .aload_n 0, 1), (11, .getfield 122, 3), (14, .istore_n 2, 1), (15, .aload_n 0, 1), (16, .iload_n 1, 1), (17, .putfield 122, 3), (20, .iload_n 2, 1), (21, .ireturn, 1)]
theorem dd_Y_lay : Dall 145 dl_Y_lay = true := by decide +kernel
theorem t_Y_lay {h : Hp} {P : Value → Hp → Prop} {p0 : Int} (S : YS h) (T : R 146 0 [.ref 400, .int (I p0)] [] h (fun v h2 => R 145 5 [.ref 400, .int (I p0), .retAddr 0] (v :: []) h2 P)) : R 145 0 [.ref 400, .int (I p0), .retAddr 0] [] h P := by
  refine R_aload_n (Dat dd_Y_lay 0 rfl) rfl rfl ?_
  refine R_iload_n (Dat dd_Y_lay 1 rfl) rfl ?_
  exact R_call1 (Dat dd_Y_lay 2 rfl) rfl S.t400 rfl rfl rfl rfl rfl T
theorem t_Y_lay_5 {h : Hp} {P : Value → Hp → Prop} {a1 s0 : Int} {a2 : Value} (S : YS h) (T : (rng s0) ∧ ((s0 = 0 → P (.int (I (-1))) h) ∧ (¬ s0 = 0 → P (.int (I (iv h 400 7))) (setI h 400 7 (wr a1))))) : R 145 5 [.ref 400, .int (I a1), a2] [.int (I s0)] h P := by
  obtain ⟨g1, T⟩ := T
  refine R_if_ne (Dat dd_Y_lay 3 rfl) rfl g1  (fun c => ?_) (fun c => ?_)
  · replace T := T.1 c
    refine R_iconst (Dat dd_Y_lay 4 rfl) ?_
    exact R_ireturn (Dat dd_Y_lay 5 rfl) rfl T
  · replace T := T.2 c
    refine R_aload_n (Dat dd_Y_lay 6 rfl) rfl rfl ?_
    refine R_geti (Dat dd_Y_lay 7 rfl) rfl rfl (tok S.t400) ?_
    refine R_istore_n (Dat dd_Y_lay 8 rfl) rfl rfl ?_
    refine R_aload_n (Dat dd_Y_lay 9 rfl) rfl rfl ?_
    refine R_iload_n (Dat dd_Y_lay 10 rfl) rfl ?_
    refine R_puti (Dat dd_Y_lay 11 rfl) rfl rfl rfl (tok S.t400) rfl (v := wr a1) rfl ?_
    refine R_iload_n (Dat dd_Y_lay 12 rfl) rfl ?_
    exact R_ireturn (Dat dd_Y_lay 13 rfl) rfl T
def dl_Y_isLie : List (Nat × Instr × Nat) := [(0, .iload_n 1, 1), (1, .ifCond .lt 15, 3), (4, .iload_n 1, 1), (5, .aload_n 0, 1), (6, .getfield 95, 3), (9, .if_icmp .ge 7, 3), (12, .iconst 1, 1), (13, .goto 4, 3), (16, .iconst 0, 1), (17, .ireturn, 1)]
theorem dd_Y_isLie : Dall 146 dl_Y_isLie = true := by decide +kernel
theorem t_Y_isLie {h : Hp} {P : Value → Hp → Prop} {p0 : Int} (S : YS h) (T : (rng p0) ∧ ((p0 < 0 → P (.int (I 0)) h) ∧ (¬ p0 < 0 → (rng p0) ∧ (rng (iv h 400 6)) ∧ ((p0 < (iv h 400 6) → P (.int (I 1)) h) ∧ (¬ p0 < (iv h 400 6) → P (.int (I 0)) h))))) : R 146 0 [.ref 400, .int (I p0)] [] h P := by
  refine R_iload_n (Dat dd_Y_isLie 0 rfl) rfl ?_
  obtain ⟨g1, T⟩ := T
  refine R_if_lt (Dat dd_Y_isLie 1 rfl) rfl g1  (fun c => ?_) (fun c => ?_)
  · replace T := T.1 c
    refine R_iconst (Dat dd_Y_isLie 8 rfl) ?_
    exact R_ireturn (Dat dd_Y_isLie 9 rfl) rfl T
  · replace T := T.2 c
    refine R_iload_n (Dat dd_Y_isLie 2 rfl) rfl ?_
    refine R_aload_n (Dat dd_Y_isLie 3 rfl) rfl rfl ?_
    refine R_geti (Dat dd_Y_isLie 4 rfl) rfl rfl (tok S.t400) ?_
    obtain ⟨g2, T⟩ := T
    obtain ⟨g3, T⟩ := T
    refine R_ic_ge (Dat dd_Y_isLie 5 rfl) rfl g2 g3 (fun c => ?_) (fun c => ?_)
    · replace T := T.1 c
      refine R_iconst (Dat dd_Y_isLie 6 rfl) ?_
      refine R_goto (Dat dd_Y_isLie 7 rfl) rfl ?_
      exact R_ireturn (Dat dd_Y_isLie 9 rfl) rfl T
    · replace T := T.2 c
      refine R_iconst (Dat dd_Y_isLie 8 rfl) ?_
      exact R_ireturn (Dat dd_Y_isLie 9 rfl) rfl T
def dl_Y_of : List (Nat × Instr × Nat) := [(0, .aload_n 0, 1), (1, .iload_n 1, 1), (2, .invokevirtual 158, 3), (5, .ifCond .eq 15, 3), (8, .iload_n 2, 1), (9, .ifCond .lt 11, 3), (12, .iload_n 2, 1), (13, .aload_n 0, 1), (14, .getfield 92, 3), (17, .if_icmp .lt 5, 3), (20, .iconst (-1), 1), (21, .ireturn, 1), (22, .aload_n 0, 1), (23, .iload_n 1, 1), (24, .invokevirtual 154, 3), (27, .aload_n 0, 1), (28, .getfield 37, 3), (31, .iload_n 2, 1), (32, .iaload, 1), (33, .ireturn, 1)]
theorem dd_Y_of : Dall 147 dl_Y_of = true := by decide +kernel
theorem t_Y_of {h : Hp} {P : Value → Hp → Prop} {p0 p1 : Int} (S : YS h) (T : R 146 0 [.ref 400, .int (I p0)] [] h (fun v h2 => R 147 5 [.ref 400, .int (I p0), .int (I p1)] (v :: []) h2 P)) : R 147 0 [.ref 400, .int (I p0), .int (I p1)] [] h P := by
  refine R_aload_n (Dat dd_Y_of 0 rfl) rfl rfl ?_
  refine R_iload_n (Dat dd_Y_of 1 rfl) rfl ?_
  exact R_call1 (Dat dd_Y_of 2 rfl) rfl S.t400 rfl rfl rfl rfl rfl T
theorem t_Y_of_5 {h : Hp} {P : Value → Hp → Prop} {a1 a2 s0 : Int} (S : YS h) (T : (rng s0) ∧ ((s0 = 0 → P (.int (I (-1))) h) ∧ (¬ s0 = 0 → (rng a2) ∧ ((a2 < 0 → P (.int (I (-1))) h) ∧ (¬ a2 < 0 → (rng a2) ∧ (rng (iv h 400 5)) ∧ ((a2 < (iv h 400 5) → R 141 0 [.ref 400, .int (I a1), .retAddr 0, .retAddr 0, .retAddr 0, .retAddr 0, .retAddr 0, .retAddr 0] [] h (fun _ h2 => R 147 27 [.ref 400, .int (I a1), .int (I a2)] [] h2 P)) ∧ (¬ a2 < (iv h 400 5) → P (.int (I (-1))) h))))))) : R 147 5 [.ref 400, .int (I a1), .int (I a2)] [.int (I s0)] h P := by
  obtain ⟨g1, T⟩ := T
  refine R_if_eq (Dat dd_Y_of 3 rfl) rfl g1  (fun c => ?_) (fun c => ?_)
  · replace T := T.1 c
    refine R_iconst (Dat dd_Y_of 10 rfl) ?_
    exact R_ireturn (Dat dd_Y_of 11 rfl) rfl T
  · replace T := T.2 c
    refine R_iload_n (Dat dd_Y_of 4 rfl) rfl ?_
    obtain ⟨g2, T⟩ := T
    refine R_if_lt (Dat dd_Y_of 5 rfl) rfl g2  (fun c => ?_) (fun c => ?_)
    · replace T := T.1 c
      refine R_iconst (Dat dd_Y_of 10 rfl) ?_
      exact R_ireturn (Dat dd_Y_of 11 rfl) rfl T
    · replace T := T.2 c
      refine R_iload_n (Dat dd_Y_of 6 rfl) rfl ?_
      refine R_aload_n (Dat dd_Y_of 7 rfl) rfl rfl ?_
      refine R_geti (Dat dd_Y_of 8 rfl) rfl rfl (tok S.t400) ?_
      obtain ⟨g3, T⟩ := T
      obtain ⟨g4, T⟩ := T
      refine R_ic_lt (Dat dd_Y_of 9 rfl) rfl g3 g4 (fun c => ?_) (fun c => ?_)
      · replace T := T.1 c
        refine R_aload_n (Dat dd_Y_of 12 rfl) rfl rfl ?_
        refine R_iload_n (Dat dd_Y_of 13 rfl) rfl ?_
        exact R_call1 (Dat dd_Y_of 14 rfl) rfl S.t400 rfl rfl rfl rfl rfl T
      · replace T := T.2 c
        refine R_iconst (Dat dd_Y_of 10 rfl) ?_
        exact R_ireturn (Dat dd_Y_of 11 rfl) rfl T
theorem t_Y_of_27 {h : Hp} {P : Value → Hp → Prop} {a2 : Int} {a1 : Value} (S : YS h) (T : (0 ≤ a2) ∧ (a2 < 7) ∧ P (.int (I (iv h 418 a2))) h) : R 147 27 [.ref 400, a1, .int (I a2)] [] h P := by
  refine R_aload_n (Dat dd_Y_of 15 rfl) rfl rfl ?_
  refine R_getr (Dat dd_Y_of 16 rfl) rfl rfl (tok S.t400) S.f400_17 (q := 418) rfl (tnz S.t418) ?_
  refine R_iload_n (Dat dd_Y_of 17 rfl) rfl ?_
  obtain ⟨g1, T⟩ := T
  obtain ⟨g2, T⟩ := T
  refine R_iaload (Dat dd_Y_of 18 rfl) (Or.inl S.t418) (lnle (show ln h 418 = 7 from S.l418) (by decide)) g1 (lnlt (show ln h 418 = 7 from S.l418) g2) ?_
  exact R_ireturn (Dat dd_Y_of 19 rfl) rfl T
def dl_Y_law : List (Nat × Instr × Nat) := [(0, .aload_n 0, 1), (1, .iconst 0, 1), (2, .putfield 83, 3), (5, .iload_n 1, 1), (6, .invokestatic 101, 3), (9, .ifCond .ne 5, 3), (12, .iconst (-1), 1), (13, .ireturn, 1), (14, .iload_n 2, 1), (15, .invokestatic 105, 3), (18, .ifCond .ne 6, 3), (21, .bipush (-2), 2), (23, .ireturn, 1), (24, .aload_n 0, 1), (25, .iload_n 1, 1), (26, .iload_n 2, 1), (27, .iload_n 3, 1), (28, .iload 4, 2), (30, .invokevirtual 108, 3), (33, .istore 5, 2), (35, .iload 5, 2), (37, .ifCond .eq 10, 3), (40, .aload_n 0, 1), (41, .iload 5, 2), (43, .invokevirtual 112, 3), (46, .ireturn, 1), (47, .bipush 60, 2), (49, .iload_n 1, 1), (50, .imul, 1), (51, .iload_n 3, 1), (52, .iadd, 1), (53, .istore 6, 2), (55, .aload_n 0, 1), (56, .iload 6, 2), (58, .putfield 98, 3), (61, .aload_n 0, 1), (62, .iload 6, 2), (64, .iload 4, 2), (66, .iadd, 1), (67, .invokevirtual 167, 3), (70, .ifCond .ne 14, 3), (73, .bipush (-100), 2), (75, .aload_n 0, 1), (76, .getfield 98, 3), (79, .iload 6, 2), (81, .isub, 1), (82, .isub, 1), (83, .ireturn, 1), (84, .aload_n 0, 1), (85, .getfield 161, 3), (88, .iconst 4, 1), (89, .if_icmp .ne 6, 3), (92, .bipush (-4), 2), (94, .ireturn, 1), (95, .aload_n 0, 1), (96, .getfield 40, 3), (99, .aload_n 0, 1), (100, .getfield 161, 3), (103, .aload_n 0, 1), (104, .getfield 119, 3), (107, .iastore, 1), (108, .iconst 0, 1), (109, .istore 7, 2), (111, .iload 7, 2), (113, .aload_n 0, 1), (114, .getfield 119, 3), (117, .if_icmp .ge 85, 3), (120, .aload_n 0, 1), (121, .getfield 43, 3), (124, .bipush 6, 2), (126, .aload_n 0, 1), (127, .getfield 161, 3), (130, .imul, 1), (131, .iload 7, 2), (133, .iadd, 1), (134, .aload_n 0, 1), (135, .getfield 56, 3), (138, .iconst 3, 1), (139, .iload 7, 2), (141, .imul, 1), (142, .iaload, 1), (143, .iastore, 1), (144, .aload_n 0, 1), (145, .getfield 46, 3), (148, .bipush 6, 2), (150, .aload_n 0, 1), (151, .getfield 161, 3), (154, .imul, 1), (155, .iload 7, 2), (157, .iadd, 1), (158, .aload_n 0, 1), (159, .getfield 56, 3), (162, .iconst 3, 1), (163, .iload 7, 2), (165, .imul, 1), (166, .iconst 1, 1), (167, .iadd, 1), (168, .iaload, 1), (169, .iastore, 1), (170, .aload_n 0, 1), (171, .getfield 49, 3), (174, .bipush 6, 2), (176, .aload_n 0, 1), (177, .getfield 161, 3), (180, .imul, 1), (181, .iload 7, 2), (183, .iadd, 1), (184, .aload_n 0, 1), (185, .getfield 56, 3), (188, .iconst 3, 1), (189, .iload 7, 2), (191, .imul, 1), (192, .iconst 2, 1), (193, .iadd, 1), (194, .iaload, 1), (195, .iastore, 1), (196, .iinc 7 1, 3), (199, .goto (-88), 3), (202, .aload_n 0, 1), (203, .dup, 1), (204, .getfield 161, 3), (207, .iconst 1, 1), (208, .iadd, 1), (209, .putfield 161, 3), (212, .aload_n 0, 1), (213, .getfield 161, 3), (216, .iconst 1, 1), (217, .isub, 1), (218, .ireturn, 1)]
theorem dd_Y_law : Dall 148 dl_Y_law = true := by decide +kernel
theorem t_Y_law {h : Hp} {P : Value → Hp → Prop} {p0 p1 p2 p3 : Int} (S : YS h) (T : R 128 0 [.int (I p0)] [] (setI h 400 0 0) (fun v h2 => R 148 9 [.ref 400, .int (I p0), .int (I p1), .int (I p2), .int (I p3), .retAddr 0, .retAddr 0, .retAddr 0] (v :: []) h2 P)) : R 148 0 [.ref 400, .int (I p0), .int (I p1), .int (I p2), .int (I p3), .retAddr 0, .retAddr 0, .retAddr 0] [] h P := by
  refine R_aload_n (Dat dd_Y_law 0 rfl) rfl rfl ?_
  refine R_iconst (Dat dd_Y_law 1 rfl) ?_
  refine R_puti (Dat dd_Y_law 2 rfl) rfl rfl rfl (tok S.t400) rfl (v := 0) rfl ?_
  refine R_iload_n (Dat dd_Y_law 3 rfl) rfl ?_
  exact R_call0 (Dat dd_Y_law 4 rfl) rfl rfl rfl rfl rfl rfl T
theorem t_Y_law_9 {h : Hp} {P : Value → Hp → Prop} {a1 a2 a3 a4 s0 : Int} {a5 a6 a7 : Value} (S : YS h) (T : (rng s0) ∧ ((s0 = 0 → P (.int (I (-1))) h) ∧ (¬ s0 = 0 → R 130 0 [.int (I a2)] [] h (fun v h2 => R 148 18 [.ref 400, .int (I a1), .int (I a2), .int (I a3), .int (I a4), a5, a6, a7] (v :: []) h2 P)))) : R 148 9 [.ref 400, .int (I a1), .int (I a2), .int (I a3), .int (I a4), a5, a6, a7] [.int (I s0)] h P := by
  obtain ⟨g1, T⟩ := T
  refine R_if_ne (Dat dd_Y_law 5 rfl) rfl g1  (fun c => ?_) (fun c => ?_)
  · replace T := T.1 c
    refine R_iconst (Dat dd_Y_law 6 rfl) ?_
    exact R_ireturn (Dat dd_Y_law 7 rfl) rfl T
  · replace T := T.2 c
    refine R_iload_n (Dat dd_Y_law 8 rfl) rfl ?_
    exact R_call0 (Dat dd_Y_law 9 rfl) rfl rfl rfl rfl rfl rfl T
theorem t_Y_law_18 {h : Hp} {P : Value → Hp → Prop} {a1 a2 a3 a4 s0 : Int} {a5 a6 a7 : Value} (S : YS h) (T : (rng s0) ∧ ((s0 = 0 → P (.int (I (-2))) h) ∧ (¬ s0 = 0 → R 131 0 [.ref 400, .int (I a1), .int (I a2), .int (I a3), .int (I a4)] [] h (fun v h2 => R 148 33 [.ref 400, .int (I a1), .int (I a2), .int (I a3), .int (I a4), a5, a6, a7] (v :: []) h2 P)))) : R 148 18 [.ref 400, .int (I a1), .int (I a2), .int (I a3), .int (I a4), a5, a6, a7] [.int (I s0)] h P := by
  obtain ⟨g1, T⟩ := T
  refine R_if_ne (Dat dd_Y_law 10 rfl) rfl g1  (fun c => ?_) (fun c => ?_)
  · replace T := T.1 c
    refine R_bipush (Dat dd_Y_law 11 rfl) (a := (-2)) rfl ?_
    exact R_ireturn (Dat dd_Y_law 12 rfl) rfl T
  · replace T := T.2 c
    refine R_aload_n (Dat dd_Y_law 13 rfl) rfl rfl ?_
    refine R_iload_n (Dat dd_Y_law 14 rfl) rfl ?_
    refine R_iload_n (Dat dd_Y_law 15 rfl) rfl ?_
    refine R_iload_n (Dat dd_Y_law 16 rfl) rfl ?_
    refine R_iload (Dat dd_Y_law 17 rfl) rfl ?_
    exact R_call1 (Dat dd_Y_law 18 rfl) rfl S.t400 rfl rfl rfl rfl rfl T
theorem t_Y_law_33 {h : Hp} {P : Value → Hp → Prop} {a1 a3 a4 s0 : Int} {a2 a5 a6 a7 : Value} (S : YS h) (T : (rng s0) ∧ ((s0 = 0 → R 149 0 [.ref 400, .int (I (((60 * a1) + a3) + a4)), .retAddr 0, .retAddr 0, .retAddr 0] [] (setI h 400 12 (wr ((60 * a1) + a3))) (fun v h2 => R 148 70 [.ref 400, .int (I a1), a2, .int (I a3), .int (I a4), .int (I s0), .int (I ((60 * a1) + a3)), a7] (v :: []) h2 P)) ∧ (¬ s0 = 0 → R 132 0 [.ref 400, .int (I s0)] [] h (fun v h2 => R 148 46 [.ref 400, .int (I a1), a2, .int (I a3), .int (I a4), .int (I s0), a6, a7] (v :: []) h2 P)))) : R 148 33 [.ref 400, .int (I a1), a2, .int (I a3), .int (I a4), a5, a6, a7] [.int (I s0)] h P := by
  refine R_istore (Dat dd_Y_law 19 rfl) rfl rfl ?_
  refine R_iload (Dat dd_Y_law 20 rfl) rfl ?_
  obtain ⟨g1, T⟩ := T
  refine R_if_eq (Dat dd_Y_law 21 rfl) rfl g1  (fun c => ?_) (fun c => ?_)
  · replace T := T.1 c
    refine R_bipush (Dat dd_Y_law 26 rfl) (a := 60) rfl ?_
    refine R_iload_n (Dat dd_Y_law 27 rfl) rfl ?_
    refine R_imul (Dat dd_Y_law 28 rfl) ?_
    refine R_iload_n (Dat dd_Y_law 29 rfl) rfl ?_
    refine R_iadd (Dat dd_Y_law 30 rfl) ?_
    refine R_istore (Dat dd_Y_law 31 rfl) rfl rfl ?_
    refine R_aload_n (Dat dd_Y_law 32 rfl) rfl rfl ?_
    refine R_iload (Dat dd_Y_law 33 rfl) rfl ?_
    refine R_puti (Dat dd_Y_law 34 rfl) rfl rfl rfl (tok S.t400) rfl (v := wr ((60 * a1) + a3)) rfl ?_
    refine R_aload_n (Dat dd_Y_law 35 rfl) rfl rfl ?_
    refine R_iload (Dat dd_Y_law 36 rfl) rfl ?_
    refine R_iload (Dat dd_Y_law 37 rfl) rfl ?_
    refine R_iadd (Dat dd_Y_law 38 rfl) ?_
    exact R_call1 (Dat dd_Y_law 39 rfl) rfl S.t400 rfl rfl rfl rfl rfl T
  · replace T := T.2 c
    refine R_aload_n (Dat dd_Y_law 22 rfl) rfl rfl ?_
    refine R_iload (Dat dd_Y_law 23 rfl) rfl ?_
    exact R_call1 (Dat dd_Y_law 24 rfl) rfl S.t400 rfl rfl rfl rfl rfl T
theorem t_Y_law_70 {h : Hp} {P : Value → Hp → Prop} {a6 s0 : Int} {a1 a2 a3 a4 a5 a7 : Value} (S : YS h) (T : (rng s0) ∧ ((s0 = 0 → P (.int (I ((-100) - ((iv h 400 12) - a6)))) h) ∧ (¬ s0 = 0 → (rng (iv h 400 18)) ∧ (((iv h 400 18) = 4 → P (.int (I (-4))) h) ∧ (¬ (iv h 400 18) = 4 → (0 ≤ (iv h 400 18)) ∧ ((iv h 400 18) < 4) ∧ R 148 111 [.ref 400, a1, a2, a3, a4, a5, .int (I a6), .int (I 0)] [] (setI h 421 (iv h 400 18) (wr (iv h 400 13))) P))))) : R 148 70 [.ref 400, a1, a2, a3, a4, a5, .int (I a6), a7] [.int (I s0)] h P := by
  obtain ⟨g1, T⟩ := T
  refine R_if_ne (Dat dd_Y_law 40 rfl) rfl g1  (fun c => ?_) (fun c => ?_)
  · replace T := T.1 c
    refine R_bipush (Dat dd_Y_law 41 rfl) (a := (-100)) rfl ?_
    refine R_aload_n (Dat dd_Y_law 42 rfl) rfl rfl ?_
    refine R_geti (Dat dd_Y_law 43 rfl) rfl rfl (tok S.t400) ?_
    refine R_iload (Dat dd_Y_law 44 rfl) rfl ?_
    refine R_isub (Dat dd_Y_law 45 rfl) ?_
    refine R_isub (Dat dd_Y_law 46 rfl) ?_
    exact R_ireturn (Dat dd_Y_law 47 rfl) rfl T
  · replace T := T.2 c
    refine R_aload_n (Dat dd_Y_law 48 rfl) rfl rfl ?_
    refine R_geti (Dat dd_Y_law 49 rfl) rfl rfl (tok S.t400) ?_
    refine R_iconst (Dat dd_Y_law 50 rfl) ?_
    obtain ⟨g2, T⟩ := T
    refine R_ic_ne (Dat dd_Y_law 51 rfl) rfl g2 (by decide) (fun c => ?_) (fun c => ?_)
    · replace T := T.1 c
      refine R_bipush (Dat dd_Y_law 52 rfl) (a := (-4)) rfl ?_
      exact R_ireturn (Dat dd_Y_law 53 rfl) rfl T
    · replace T := T.2 c
      refine R_aload_n (Dat dd_Y_law 54 rfl) rfl rfl ?_
      refine R_getr (Dat dd_Y_law 55 rfl) rfl rfl (tok S.t400) S.f400_20 (q := 421) rfl (tnz S.t421) ?_
      refine R_aload_n (Dat dd_Y_law 56 rfl) rfl rfl ?_
      refine R_geti (Dat dd_Y_law 57 rfl) rfl rfl (tok S.t400) ?_
      refine R_aload_n (Dat dd_Y_law 58 rfl) rfl rfl ?_
      refine R_geti (Dat dd_Y_law 59 rfl) rfl rfl (tok S.t400) ?_
      obtain ⟨g3, T⟩ := T
      obtain ⟨g4, T⟩ := T
      refine R_iastore (Dat dd_Y_law 60 rfl) S.t421 (lnle (show ln h 421 = 4 from S.l421) (by decide)) g3 (lnlt (show ln h 421 = 4 from S.l421) g4) (v := wr (iv h 400 13)) rfl ?_
      refine R_iconst (Dat dd_Y_law 61 rfl) ?_
      refine R_istore (Dat dd_Y_law 62 rfl) rfl rfl ?_
      exact T
theorem t_Y_law_46 {h : Hp} {P : Value → Hp → Prop} {s0 : Int} {a0 a1 a2 a3 a4 a5 a6 a7 : Value} (S : YS h) (T : P (.int (I s0)) h) : R 148 46 [a0, a1, a2, a3, a4, a5, a6, a7] [.int (I s0)] h P := by
  exact R_ireturn (Dat dd_Y_law 25 rfl) rfl T
theorem t_Y_law_111 {h : Hp} {P : Value → Hp → Prop} {a7 : Int} {a1 a2 a3 a4 a5 a6 : Value} (S : YS h) (T : (rng a7) ∧ (rng (iv h 400 13)) ∧ ((a7 < (iv h 400 13) → (0 ≤ (3 * a7)) ∧ ((3 * a7) < 18) ∧ (0 ≤ ((6 * (iv h 400 18)) + a7)) ∧ (((6 * (iv h 400 18)) + a7) < 24) ∧ (0 ≤ ((3 * a7) + 1)) ∧ (((3 * a7) + 1) < 18) ∧ (0 ≤ ((6 * (iv (setI h 422 ((6 * (iv h 400 18)) + a7) (wr (iv h 426 (3 * a7)))) 400 18)) + a7)) ∧ (((6 * (iv (setI h 422 ((6 * (iv h 400 18)) + a7) (wr (iv h 426 (3 * a7)))) 400 18)) + a7) < 24) ∧ (0 ≤ ((3 * a7) + 2)) ∧ (((3 * a7) + 2) < 18) ∧ (0 ≤ ((6 * (iv (setI (setI h 422 ((6 * (iv h 400 18)) + a7) (wr (iv h 426 (3 * a7)))) 423 ((6 * (iv (setI h 422 ((6 * (iv h 400 18)) + a7) (wr (iv h 426 (3 * a7)))) 400 18)) + a7) (wr (iv (setI h 422 ((6 * (iv h 400 18)) + a7) (wr (iv h 426 (3 * a7)))) 426 ((3 * a7) + 1)))) 400 18)) + a7)) ∧ (((6 * (iv (setI (setI h 422 ((6 * (iv h 400 18)) + a7) (wr (iv h 426 (3 * a7)))) 423 ((6 * (iv (setI h 422 ((6 * (iv h 400 18)) + a7) (wr (iv h 426 (3 * a7)))) 400 18)) + a7) (wr (iv (setI h 422 ((6 * (iv h 400 18)) + a7) (wr (iv h 426 (3 * a7)))) 426 ((3 * a7) + 1)))) 400 18)) + a7) < 24) ∧ R 148 111 [.ref 400, a1, a2, a3, a4, a5, a6, .int (I (a7 + 1))] [] (setI (setI (setI h 422 ((6 * (iv h 400 18)) + a7) (wr (iv h 426 (3 * a7)))) 423 ((6 * (iv (setI h 422 ((6 * (iv h 400 18)) + a7) (wr (iv h 426 (3 * a7)))) 400 18)) + a7) (wr (iv (setI h 422 ((6 * (iv h 400 18)) + a7) (wr (iv h 426 (3 * a7)))) 426 ((3 * a7) + 1)))) 424 ((6 * (iv (setI (setI h 422 ((6 * (iv h 400 18)) + a7) (wr (iv h 426 (3 * a7)))) 423 ((6 * (iv (setI h 422 ((6 * (iv h 400 18)) + a7) (wr (iv h 426 (3 * a7)))) 400 18)) + a7) (wr (iv (setI h 422 ((6 * (iv h 400 18)) + a7) (wr (iv h 426 (3 * a7)))) 426 ((3 * a7) + 1)))) 400 18)) + a7) (wr (iv (setI (setI h 422 ((6 * (iv h 400 18)) + a7) (wr (iv h 426 (3 * a7)))) 423 ((6 * (iv (setI h 422 ((6 * (iv h 400 18)) + a7) (wr (iv h 426 (3 * a7)))) 400 18)) + a7) (wr (iv (setI h 422 ((6 * (iv h 400 18)) + a7) (wr (iv h 426 (3 * a7)))) 426 ((3 * a7) + 1)))) 426 ((3 * a7) + 2)))) P) ∧ (¬ a7 < (iv h 400 13) → P (.int (I ((iv (setI h 400 18 (wr ((iv h 400 18) + 1))) 400 18) - 1))) (setI h 400 18 (wr ((iv h 400 18) + 1)))))) : R 148 111 [.ref 400, a1, a2, a3, a4, a5, a6, .int (I a7)] [] h P := by
  refine R_iload (Dat dd_Y_law 63 rfl) rfl ?_
  refine R_aload_n (Dat dd_Y_law 64 rfl) rfl rfl ?_
  refine R_geti (Dat dd_Y_law 65 rfl) rfl rfl (tok S.t400) ?_
  obtain ⟨g1, T⟩ := T
  obtain ⟨g2, T⟩ := T
  refine R_ic_ge (Dat dd_Y_law 66 rfl) rfl g1 g2 (fun c => ?_) (fun c => ?_)
  · replace T := T.1 c
    refine R_aload_n (Dat dd_Y_law 67 rfl) rfl rfl ?_
    refine R_getr (Dat dd_Y_law 68 rfl) rfl rfl (tok S.t400) S.f400_21 (q := 422) rfl (tnz S.t422) ?_
    refine R_bipush (Dat dd_Y_law 69 rfl) (a := 6) rfl ?_
    refine R_aload_n (Dat dd_Y_law 70 rfl) rfl rfl ?_
    refine R_geti (Dat dd_Y_law 71 rfl) rfl rfl (tok S.t400) ?_
    refine R_imul (Dat dd_Y_law 72 rfl) ?_
    refine R_iload (Dat dd_Y_law 73 rfl) rfl ?_
    refine R_iadd (Dat dd_Y_law 74 rfl) ?_
    refine R_aload_n (Dat dd_Y_law 75 rfl) rfl rfl ?_
    refine R_getr (Dat dd_Y_law 76 rfl) rfl rfl (tok S.t400) S.f400_25 (q := 426) rfl (tnz S.t426) ?_
    refine R_iconst (Dat dd_Y_law 77 rfl) ?_
    refine R_iload (Dat dd_Y_law 78 rfl) rfl ?_
    refine R_imul (Dat dd_Y_law 79 rfl) ?_
    obtain ⟨g3, T⟩ := T
    obtain ⟨g4, T⟩ := T
    refine R_iaload (Dat dd_Y_law 80 rfl) (Or.inl S.t426) (lnle (show ln h 426 = 18 from S.l426) (by decide)) g3 (lnlt (show ln h 426 = 18 from S.l426) g4) ?_
    obtain ⟨g5, T⟩ := T
    obtain ⟨g6, T⟩ := T
    refine R_iastore (Dat dd_Y_law 81 rfl) S.t422 (lnle (show ln h 422 = 24 from S.l422) (by decide)) g5 (lnlt (show ln h 422 = 24 from S.l422) g6) (v := wr (iv h 426 (3 * a7))) rfl ?_
    refine R_aload_n (Dat dd_Y_law 82 rfl) rfl rfl ?_
    refine R_getr (Dat dd_Y_law 83 rfl) rfl rfl (tok S.t400) S.f400_22 (q := 423) rfl (tnz S.t423) ?_
    refine R_bipush (Dat dd_Y_law 84 rfl) (a := 6) rfl ?_
    refine R_aload_n (Dat dd_Y_law 85 rfl) rfl rfl ?_
    refine R_geti (Dat dd_Y_law 86 rfl) rfl rfl (tok S.t400) ?_
    refine R_imul (Dat dd_Y_law 87 rfl) ?_
    refine R_iload (Dat dd_Y_law 88 rfl) rfl ?_
    refine R_iadd (Dat dd_Y_law 89 rfl) ?_
    refine R_aload_n (Dat dd_Y_law 90 rfl) rfl rfl ?_
    refine R_getr (Dat dd_Y_law 91 rfl) rfl rfl (tok S.t400) S.f400_25 (q := 426) rfl (tnz S.t426) ?_
    refine R_iconst (Dat dd_Y_law 92 rfl) ?_
    refine R_iload (Dat dd_Y_law 93 rfl) rfl ?_
    refine R_imul (Dat dd_Y_law 94 rfl) ?_
    refine R_iconst (Dat dd_Y_law 95 rfl) ?_
    refine R_iadd (Dat dd_Y_law 96 rfl) ?_
    obtain ⟨g7, T⟩ := T
    obtain ⟨g8, T⟩ := T
    refine R_iaload (Dat dd_Y_law 97 rfl) (Or.inl S.t426) (lnle (show ln (setI h 422 ((6 * (iv h 400 18)) + a7) (wr (iv h 426 (3 * a7)))) 426 = 18 from S.l426) (by decide)) g7 (lnlt (show ln (setI h 422 ((6 * (iv h 400 18)) + a7) (wr (iv h 426 (3 * a7)))) 426 = 18 from S.l426) g8) ?_
    obtain ⟨g9, T⟩ := T
    obtain ⟨g10, T⟩ := T
    refine R_iastore (Dat dd_Y_law 98 rfl) S.t423 (lnle (show ln (setI h 422 ((6 * (iv h 400 18)) + a7) (wr (iv h 426 (3 * a7)))) 423 = 24 from S.l423) (by decide)) g9 (lnlt (show ln (setI h 422 ((6 * (iv h 400 18)) + a7) (wr (iv h 426 (3 * a7)))) 423 = 24 from S.l423) g10) (v := wr (iv (setI h 422 ((6 * (iv h 400 18)) + a7) (wr (iv h 426 (3 * a7)))) 426 ((3 * a7) + 1))) rfl ?_
    refine R_aload_n (Dat dd_Y_law 99 rfl) rfl rfl ?_
    refine R_getr (Dat dd_Y_law 100 rfl) rfl rfl (tok S.t400) S.f400_23 (q := 424) rfl (tnz S.t424) ?_
    refine R_bipush (Dat dd_Y_law 101 rfl) (a := 6) rfl ?_
    refine R_aload_n (Dat dd_Y_law 102 rfl) rfl rfl ?_
    refine R_geti (Dat dd_Y_law 103 rfl) rfl rfl (tok S.t400) ?_
    refine R_imul (Dat dd_Y_law 104 rfl) ?_
    refine R_iload (Dat dd_Y_law 105 rfl) rfl ?_
    refine R_iadd (Dat dd_Y_law 106 rfl) ?_
    refine R_aload_n (Dat dd_Y_law 107 rfl) rfl rfl ?_
    refine R_getr (Dat dd_Y_law 108 rfl) rfl rfl (tok S.t400) S.f400_25 (q := 426) rfl (tnz S.t426) ?_
    refine R_iconst (Dat dd_Y_law 109 rfl) ?_
    refine R_iload (Dat dd_Y_law 110 rfl) rfl ?_
    refine R_imul (Dat dd_Y_law 111 rfl) ?_
    refine R_iconst (Dat dd_Y_law 112 rfl) ?_
    refine R_iadd (Dat dd_Y_law 113 rfl) ?_
    obtain ⟨g11, T⟩ := T
    obtain ⟨g12, T⟩ := T
    refine R_iaload (Dat dd_Y_law 114 rfl) (Or.inl S.t426) (lnle (show ln (setI (setI h 422 ((6 * (iv h 400 18)) + a7) (wr (iv h 426 (3 * a7)))) 423 ((6 * (iv (setI h 422 ((6 * (iv h 400 18)) + a7) (wr (iv h 426 (3 * a7)))) 400 18)) + a7) (wr (iv (setI h 422 ((6 * (iv h 400 18)) + a7) (wr (iv h 426 (3 * a7)))) 426 ((3 * a7) + 1)))) 426 = 18 from S.l426) (by decide)) g11 (lnlt (show ln (setI (setI h 422 ((6 * (iv h 400 18)) + a7) (wr (iv h 426 (3 * a7)))) 423 ((6 * (iv (setI h 422 ((6 * (iv h 400 18)) + a7) (wr (iv h 426 (3 * a7)))) 400 18)) + a7) (wr (iv (setI h 422 ((6 * (iv h 400 18)) + a7) (wr (iv h 426 (3 * a7)))) 426 ((3 * a7) + 1)))) 426 = 18 from S.l426) g12) ?_
    obtain ⟨g13, T⟩ := T
    obtain ⟨g14, T⟩ := T
    refine R_iastore (Dat dd_Y_law 115 rfl) S.t424 (lnle (show ln (setI (setI h 422 ((6 * (iv h 400 18)) + a7) (wr (iv h 426 (3 * a7)))) 423 ((6 * (iv (setI h 422 ((6 * (iv h 400 18)) + a7) (wr (iv h 426 (3 * a7)))) 400 18)) + a7) (wr (iv (setI h 422 ((6 * (iv h 400 18)) + a7) (wr (iv h 426 (3 * a7)))) 426 ((3 * a7) + 1)))) 424 = 24 from S.l424) (by decide)) g13 (lnlt (show ln (setI (setI h 422 ((6 * (iv h 400 18)) + a7) (wr (iv h 426 (3 * a7)))) 423 ((6 * (iv (setI h 422 ((6 * (iv h 400 18)) + a7) (wr (iv h 426 (3 * a7)))) 400 18)) + a7) (wr (iv (setI h 422 ((6 * (iv h 400 18)) + a7) (wr (iv h 426 (3 * a7)))) 426 ((3 * a7) + 1)))) 424 = 24 from S.l424) g14) (v := wr (iv (setI (setI h 422 ((6 * (iv h 400 18)) + a7) (wr (iv h 426 (3 * a7)))) 423 ((6 * (iv (setI h 422 ((6 * (iv h 400 18)) + a7) (wr (iv h 426 (3 * a7)))) 400 18)) + a7) (wr (iv (setI h 422 ((6 * (iv h 400 18)) + a7) (wr (iv h 426 (3 * a7)))) 426 ((3 * a7) + 1)))) 426 ((3 * a7) + 2))) rfl ?_
    refine R_iinc (Dat dd_Y_law 116 rfl) rfl rfl rfl ?_
    refine R_goto (Dat dd_Y_law 117 rfl) rfl ?_
    exact T
  · replace T := T.2 c
    refine R_aload_n (Dat dd_Y_law 118 rfl) rfl rfl ?_
    refine R_dup (Dat dd_Y_law 119 rfl) rfl ?_
    refine R_geti (Dat dd_Y_law 120 rfl) rfl rfl (tok S.t400) ?_
    refine R_iconst (Dat dd_Y_law 121 rfl) ?_
    refine R_iadd (Dat dd_Y_law 122 rfl) ?_
    refine R_puti (Dat dd_Y_law 123 rfl) rfl rfl rfl (tok S.t400) rfl (v := wr ((iv h 400 18) + 1)) rfl ?_
    refine R_aload_n (Dat dd_Y_law 124 rfl) rfl rfl ?_
    refine R_geti (Dat dd_Y_law 125 rfl) rfl rfl (tok S.t400) ?_
    refine R_iconst (Dat dd_Y_law 126 rfl) ?_
    refine R_isub (Dat dd_Y_law 127 rfl) ?_
    exact R_ireturn (Dat dd_Y_law 128 rfl) rfl T
def dl_Y_readLaw : List (Nat × Instr × Nat) := [(0, .aload_n 0, 1), (1, .iconst 0, 1), (2, .putfield 119, 3), (5, .aload_n 0, 1), (6, .getfield 98, 3), (9, .iload_n 1, 1), (10, .if_icmp .ge 18, 3), (13, .aload_n 0, 1), (14, .getfield 16, 3), (17, .aload_n 0, 1), (18, .getfield 98, 3), (21, .iaload, 1), (22, .invokestatic 164, 3), (25, .goto 5, 3), (28, .bipush (-9), 2), (30, .istore_n 2, 1), (31, .iload_n 2, 1), (32, .bipush (-9), 2), (34, .if_icmp .ne 5, 3), (37, .iconst 0, 1), (38, .ireturn, 1), (39, .aload_n 0, 1), (40, .dup, 1), (41, .getfield 98, 3), (44, .iconst 1, 1), (45, .iadd, 1), (46, .putfield 98, 3), (49, .aload_n 0, 1), (50, .aload_n 0, 1), (51, .getfield 98, 3), (54, .iload_n 1, 1), (55, .invokevirtual 135, 3), (58, .istore_n 3, 1), (59, .iload_n 3, 1), (60, .bipush (-9), 2), (62, .if_icmp .ne 5, 3), (65, .iconst 0, 1), (66, .ireturn, 1), (67, .aload_n 0, 1), (68, .dup, 1), (69, .getfield 98, 3), (72, .iconst 1, 1), (73, .iadd, 1), (74, .putfield 98, 3), (77, .aload_n 0, 1), (78, .aload_n 0, 1), (79, .getfield 98, 3), (82, .iload_n 1, 1), (83, .invokevirtual 135, 3), (86, .istore 4, 2), (88, .iload 4, 2), (90, .iconst 1, 1), (91, .iconst 3, 1), (92, .invokestatic 88, 3), (95, .ifCond .ne 5, 3), (98, .iconst 0, 1), (99, .ireturn, 1), (100, .aload_n 0, 1), (101, .dup, 1), (102, .getfield 98, 3), (105, .iconst 1, 1), (106, .iadd, 1), (107, .putfield 98, 3), (110, .aload_n 0, 1), (111, .getfield 56, 3), (114, .iconst 3, 1), (115, .aload_n 0, 1), (116, .getfield 119, 3), (119, .imul, 1), (120, .iload_n 2, 1), (121, .iastore, 1), (122, .aload_n 0, 1), (123, .getfield 56, 3), (126, .iconst 3, 1), (127, .aload_n 0, 1), (128, .getfield 119, 3), (131, .imul, 1), (132, .iconst 1, 1), (133, .iadd, 1), (134, .iload_n 3, 1), (135, .iastore, 1), (136, .aload_n 0, 1), (137, .getfield 56, 3), (140, .iconst 3, 1), (141, .aload_n 0, 1), (142, .getfield 119, 3), (145, .imul, 1), (146, .iconst 2, 1), (147, .iadd, 1), (148, .iload 4, 2), (150, .iastore, 1), (151, .aload_n 0, 1), (152, .dup, 1), (153, .getfield 119, 3), (156, .iconst 1, 1), (157, .iadd, 1), (158, .putfield 119, 3), (161, .aload_n 0, 1), (162, .getfield 98, 3), (165, .iload_n 1, 1), (166, .if_icmp .lt 5, 3), (169, .iconst 1, 1), (170, .ireturn, 1), (171, .aload_n 0, 1), (172, .getfield 119, 3), (175, .bipush 6, 2), (177, .if_icmp .eq 13, 3), (180, .aload_n 0, 1), (181, .bipush 59, 2), (183, .iload_n 1, 1), (184, .invokevirtual 131, 3), (187, .ifCond .ne 5, 3), (190, .iconst 0, 1), (191, .ireturn, 1), (192, .aload_n 0, 1), (193, .dup, 1), (194, .getfield 98, 3), (197, .iconst 1, 1), (198, .iadd, 1), (199, .putfield 98, 3), (202, .goto (-197), 3)]
theorem dd_Y_readLaw : Dall 149 dl_Y_readLaw = true := by decide +kernel
theorem t_Y_readLaw {h : Hp} {P : Value → Hp → Prop} {p0 : Int} (S : YS h) (T : R 149 5 [.ref 400, .int (I p0), .retAddr 0, .retAddr 0, .retAddr 0] [] (setI h 400 13 0) P) : R 149 0 [.ref 400, .int (I p0), .retAddr 0, .retAddr 0, .retAddr 0] [] h P := by
  refine R_aload_n (Dat dd_Y_readLaw 0 rfl) rfl rfl ?_
  refine R_iconst (Dat dd_Y_readLaw 1 rfl) ?_
  refine R_puti (Dat dd_Y_readLaw 2 rfl) rfl rfl rfl (tok S.t400) rfl (v := 0) rfl ?_
  exact T
theorem t_Y_readLaw_5 {h : Hp} {P : Value → Hp → Prop} {a1 : Int} {a2 a3 a4 : Value} (S : YS h) (T : (rng (iv h 400 12)) ∧ (rng a1) ∧ (((iv h 400 12) < a1 → (0 ≤ (iv h 400 12)) ∧ ((iv h 400 12) < 240) ∧ R 150 0 [.int (I (iv h 405 (iv h 400 12)))] [] h (fun v h2 => R 149 25 [.ref 400, .int (I a1), a2, a3, a4] (v :: []) h2 P)) ∧ (¬ (iv h 400 12) < a1 → (((-9) = (-9) → P (.int (I 0)) h) ∧ (¬ (-9) = (-9) → R 135 0 [.ref 400, .int (I (iv (setI h 400 12 (wr ((iv h 400 12) + 1))) 400 12)), .int (I a1)] [] (setI h 400 12 (wr ((iv h 400 12) + 1))) (fun v h2 => R 149 58 [.ref 400, .int (I a1), .int (I (-9)), a3, a4] (v :: []) h2 P)))))) : R 149 5 [.ref 400, .int (I a1), a2, a3, a4] [] h P := by
  refine R_aload_n (Dat dd_Y_readLaw 3 rfl) rfl rfl ?_
  refine R_geti (Dat dd_Y_readLaw 4 rfl) rfl rfl (tok S.t400) ?_
  refine R_iload_n (Dat dd_Y_readLaw 5 rfl) rfl ?_
  obtain ⟨g1, T⟩ := T
  obtain ⟨g2, T⟩ := T
  refine R_ic_ge (Dat dd_Y_readLaw 6 rfl) rfl g1 g2 (fun c => ?_) (fun c => ?_)
  · replace T := T.1 c
    refine R_aload_n (Dat dd_Y_readLaw 7 rfl) rfl rfl ?_
    refine R_getr (Dat dd_Y_readLaw 8 rfl) rfl rfl (tok S.t400) S.f400_4 (q := 405) rfl (tnz S.t405) ?_
    refine R_aload_n (Dat dd_Y_readLaw 9 rfl) rfl rfl ?_
    refine R_geti (Dat dd_Y_readLaw 10 rfl) rfl rfl (tok S.t400) ?_
    obtain ⟨g3, T⟩ := T
    obtain ⟨g4, T⟩ := T
    refine R_iaload (Dat dd_Y_readLaw 11 rfl) (Or.inl S.t405) (lnle (show ln h 405 = 240 from S.l405) (by decide)) g3 (lnlt (show ln h 405 = 240 from S.l405) g4) ?_
    exact R_call0 (Dat dd_Y_readLaw 12 rfl) rfl rfl rfl rfl rfl rfl T
  · replace T := T.2 c
    refine R_bipush (Dat dd_Y_readLaw 14 rfl) (a := (-9)) rfl ?_
    refine R_istore_n (Dat dd_Y_readLaw 15 rfl) rfl rfl ?_
    refine R_iload_n (Dat dd_Y_readLaw 16 rfl) rfl ?_
    refine R_bipush (Dat dd_Y_readLaw 17 rfl) (a := (-9)) rfl ?_
    refine R_ic_ne (Dat dd_Y_readLaw 18 rfl) rfl (by decide) (by decide) (fun c => ?_) (fun c => ?_)
    · replace T := T.1 c
      refine R_iconst (Dat dd_Y_readLaw 19 rfl) ?_
      exact R_ireturn (Dat dd_Y_readLaw 20 rfl) rfl T
    · replace T := T.2 c
      refine R_aload_n (Dat dd_Y_readLaw 21 rfl) rfl rfl ?_
      refine R_dup (Dat dd_Y_readLaw 22 rfl) rfl ?_
      refine R_geti (Dat dd_Y_readLaw 23 rfl) rfl rfl (tok S.t400) ?_
      refine R_iconst (Dat dd_Y_readLaw 24 rfl) ?_
      refine R_iadd (Dat dd_Y_readLaw 25 rfl) ?_
      refine R_puti (Dat dd_Y_readLaw 26 rfl) rfl rfl rfl (tok S.t400) rfl (v := wr ((iv h 400 12) + 1)) rfl ?_
      refine R_aload_n (Dat dd_Y_readLaw 27 rfl) rfl rfl ?_
      refine R_aload_n (Dat dd_Y_readLaw 28 rfl) rfl rfl ?_
      refine R_geti (Dat dd_Y_readLaw 29 rfl) rfl rfl (tok S.t400) ?_
      refine R_iload_n (Dat dd_Y_readLaw 30 rfl) rfl ?_
      exact R_call1 (Dat dd_Y_readLaw 31 rfl) rfl S.t400 rfl rfl rfl rfl rfl T
theorem t_Y_readLaw_25 {h : Hp} {P : Value → Hp → Prop} {a1 s0 : Int} {a2 a3 a4 : Value} (S : YS h) (T : (rng s0) ∧ ((s0 = (-9) → P (.int (I 0)) h) ∧ (¬ s0 = (-9) → R 135 0 [.ref 400, .int (I (iv (setI h 400 12 (wr ((iv h 400 12) + 1))) 400 12)), .int (I a1)] [] (setI h 400 12 (wr ((iv h 400 12) + 1))) (fun v h2 => R 149 58 [.ref 400, .int (I a1), .int (I s0), a3, a4] (v :: []) h2 P)))) : R 149 25 [.ref 400, .int (I a1), a2, a3, a4] [.int (I s0)] h P := by
  refine R_goto (Dat dd_Y_readLaw 13 rfl) rfl ?_
  refine R_istore_n (Dat dd_Y_readLaw 15 rfl) rfl rfl ?_
  refine R_iload_n (Dat dd_Y_readLaw 16 rfl) rfl ?_
  refine R_bipush (Dat dd_Y_readLaw 17 rfl) (a := (-9)) rfl ?_
  obtain ⟨g1, T⟩ := T
  refine R_ic_ne (Dat dd_Y_readLaw 18 rfl) rfl g1 (by decide) (fun c => ?_) (fun c => ?_)
  · replace T := T.1 c
    refine R_iconst (Dat dd_Y_readLaw 19 rfl) ?_
    exact R_ireturn (Dat dd_Y_readLaw 20 rfl) rfl T
  · replace T := T.2 c
    refine R_aload_n (Dat dd_Y_readLaw 21 rfl) rfl rfl ?_
    refine R_dup (Dat dd_Y_readLaw 22 rfl) rfl ?_
    refine R_geti (Dat dd_Y_readLaw 23 rfl) rfl rfl (tok S.t400) ?_
    refine R_iconst (Dat dd_Y_readLaw 24 rfl) ?_
    refine R_iadd (Dat dd_Y_readLaw 25 rfl) ?_
    refine R_puti (Dat dd_Y_readLaw 26 rfl) rfl rfl rfl (tok S.t400) rfl (v := wr ((iv h 400 12) + 1)) rfl ?_
    refine R_aload_n (Dat dd_Y_readLaw 27 rfl) rfl rfl ?_
    refine R_aload_n (Dat dd_Y_readLaw 28 rfl) rfl rfl ?_
    refine R_geti (Dat dd_Y_readLaw 29 rfl) rfl rfl (tok S.t400) ?_
    refine R_iload_n (Dat dd_Y_readLaw 30 rfl) rfl ?_
    exact R_call1 (Dat dd_Y_readLaw 31 rfl) rfl S.t400 rfl rfl rfl rfl rfl T
theorem t_Y_readLaw_58 {h : Hp} {P : Value → Hp → Prop} {a1 a2 s0 : Int} {a3 a4 : Value} (S : YS h) (T : (rng s0) ∧ ((s0 = (-9) → P (.int (I 0)) h) ∧ (¬ s0 = (-9) → R 135 0 [.ref 400, .int (I (iv (setI h 400 12 (wr ((iv h 400 12) + 1))) 400 12)), .int (I a1)] [] (setI h 400 12 (wr ((iv h 400 12) + 1))) (fun v h2 => R 149 86 [.ref 400, .int (I a1), .int (I a2), .int (I s0), a4] (v :: []) h2 P)))) : R 149 58 [.ref 400, .int (I a1), .int (I a2), a3, a4] [.int (I s0)] h P := by
  refine R_istore_n (Dat dd_Y_readLaw 32 rfl) rfl rfl ?_
  refine R_iload_n (Dat dd_Y_readLaw 33 rfl) rfl ?_
  refine R_bipush (Dat dd_Y_readLaw 34 rfl) (a := (-9)) rfl ?_
  obtain ⟨g1, T⟩ := T
  refine R_ic_ne (Dat dd_Y_readLaw 35 rfl) rfl g1 (by decide) (fun c => ?_) (fun c => ?_)
  · replace T := T.1 c
    refine R_iconst (Dat dd_Y_readLaw 36 rfl) ?_
    exact R_ireturn (Dat dd_Y_readLaw 37 rfl) rfl T
  · replace T := T.2 c
    refine R_aload_n (Dat dd_Y_readLaw 38 rfl) rfl rfl ?_
    refine R_dup (Dat dd_Y_readLaw 39 rfl) rfl ?_
    refine R_geti (Dat dd_Y_readLaw 40 rfl) rfl rfl (tok S.t400) ?_
    refine R_iconst (Dat dd_Y_readLaw 41 rfl) ?_
    refine R_iadd (Dat dd_Y_readLaw 42 rfl) ?_
    refine R_puti (Dat dd_Y_readLaw 43 rfl) rfl rfl rfl (tok S.t400) rfl (v := wr ((iv h 400 12) + 1)) rfl ?_
    refine R_aload_n (Dat dd_Y_readLaw 44 rfl) rfl rfl ?_
    refine R_aload_n (Dat dd_Y_readLaw 45 rfl) rfl rfl ?_
    refine R_geti (Dat dd_Y_readLaw 46 rfl) rfl rfl (tok S.t400) ?_
    refine R_iload_n (Dat dd_Y_readLaw 47 rfl) rfl ?_
    exact R_call1 (Dat dd_Y_readLaw 48 rfl) rfl S.t400 rfl rfl rfl rfl rfl T
theorem t_Y_readLaw_86 {h : Hp} {P : Value → Hp → Prop} {a1 a2 a3 s0 : Int} {a4 : Value} (S : YS h) (T : R 129 0 [.int (I s0), .int (I 1), .int (I 3)] [] h (fun v h2 => R 149 95 [.ref 400, .int (I a1), .int (I a2), .int (I a3), .int (I s0)] (v :: []) h2 P)) : R 149 86 [.ref 400, .int (I a1), .int (I a2), .int (I a3), a4] [.int (I s0)] h P := by
  refine R_istore (Dat dd_Y_readLaw 49 rfl) rfl rfl ?_
  refine R_iload (Dat dd_Y_readLaw 50 rfl) rfl ?_
  refine R_iconst (Dat dd_Y_readLaw 51 rfl) ?_
  refine R_iconst (Dat dd_Y_readLaw 52 rfl) ?_
  exact R_call0 (Dat dd_Y_readLaw 53 rfl) rfl rfl rfl rfl rfl rfl T
theorem t_Y_readLaw_95 {h : Hp} {P : Value → Hp → Prop} {a1 a2 a3 a4 s0 : Int} (S : YS h) (T : (rng s0) ∧ ((s0 = 0 → P (.int (I 0)) h) ∧ (¬ s0 = 0 → (0 ≤ (3 * (iv (setI h 400 12 (wr ((iv h 400 12) + 1))) 400 13))) ∧ ((3 * (iv (setI h 400 12 (wr ((iv h 400 12) + 1))) 400 13)) < 18) ∧ (0 ≤ ((3 * (iv (setI (setI h 400 12 (wr ((iv h 400 12) + 1))) 426 (3 * (iv (setI h 400 12 (wr ((iv h 400 12) + 1))) 400 13)) (wr a2)) 400 13)) + 1)) ∧ (((3 * (iv (setI (setI h 400 12 (wr ((iv h 400 12) + 1))) 426 (3 * (iv (setI h 400 12 (wr ((iv h 400 12) + 1))) 400 13)) (wr a2)) 400 13)) + 1) < 18) ∧ (0 ≤ ((3 * (iv (setI (setI (setI h 400 12 (wr ((iv h 400 12) + 1))) 426 (3 * (iv (setI h 400 12 (wr ((iv h 400 12) + 1))) 400 13)) (wr a2)) 426 ((3 * (iv (setI (setI h 400 12 (wr ((iv h 400 12) + 1))) 426 (3 * (iv (setI h 400 12 (wr ((iv h 400 12) + 1))) 400 13)) (wr a2)) 400 13)) + 1) (wr a3)) 400 13)) + 2)) ∧ (((3 * (iv (setI (setI (setI h 400 12 (wr ((iv h 400 12) + 1))) 426 (3 * (iv (setI h 400 12 (wr ((iv h 400 12) + 1))) 400 13)) (wr a2)) 426 ((3 * (iv (setI (setI h 400 12 (wr ((iv h 400 12) + 1))) 426 (3 * (iv (setI h 400 12 (wr ((iv h 400 12) + 1))) 400 13)) (wr a2)) 400 13)) + 1) (wr a3)) 400 13)) + 2) < 18) ∧ (rng (iv (setI (setI (setI (setI (setI h 400 12 (wr ((iv h 400 12) + 1))) 426 (3 * (iv (setI h 400 12 (wr ((iv h 400 12) + 1))) 400 13)) (wr a2)) 426 ((3 * (iv (setI (setI h 400 12 (wr ((iv h 400 12) + 1))) 426 (3 * (iv (setI h 400 12 (wr ((iv h 400 12) + 1))) 400 13)) (wr a2)) 400 13)) + 1) (wr a3)) 426 ((3 * (iv (setI (setI (setI h 400 12 (wr ((iv h 400 12) + 1))) 426 (3 * (iv (setI h 400 12 (wr ((iv h 400 12) + 1))) 400 13)) (wr a2)) 426 ((3 * (iv (setI (setI h 400 12 (wr ((iv h 400 12) + 1))) 426 (3 * (iv (setI h 400 12 (wr ((iv h 400 12) + 1))) 400 13)) (wr a2)) 400 13)) + 1) (wr a3)) 400 13)) + 2) (wr a4)) 400 13 (wr ((iv (setI (setI (setI (setI h 400 12 (wr ((iv h 400 12) + 1))) 426 (3 * (iv (setI h 400 12 (wr ((iv h 400 12) + 1))) 400 13)) (wr a2)) 426 ((3 * (iv (setI (setI h 400 12 (wr ((iv h 400 12) + 1))) 426 (3 * (iv (setI h 400 12 (wr ((iv h 400 12) + 1))) 400 13)) (wr a2)) 400 13)) + 1) (wr a3)) 426 ((3 * (iv (setI (setI (setI h 400 12 (wr ((iv h 400 12) + 1))) 426 (3 * (iv (setI h 400 12 (wr ((iv h 400 12) + 1))) 400 13)) (wr a2)) 426 ((3 * (iv (setI (setI h 400 12 (wr ((iv h 400 12) + 1))) 426 (3 * (iv (setI h 400 12 (wr ((iv h 400 12) + 1))) 400 13)) (wr a2)) 400 13)) + 1) (wr a3)) 400 13)) + 2) (wr a4)) 400 13) + 1))) 400 12)) ∧ (rng a1) ∧ (((iv (setI (setI (setI (setI (setI h 400 12 (wr ((iv h 400 12) + 1))) 426 (3 * (iv (setI h 400 12 (wr ((iv h 400 12) + 1))) 400 13)) (wr a2)) 426 ((3 * (iv (setI (setI h 400 12 (wr ((iv h 400 12) + 1))) 426 (3 * (iv (setI h 400 12 (wr ((iv h 400 12) + 1))) 400 13)) (wr a2)) 400 13)) + 1) (wr a3)) 426 ((3 * (iv (setI (setI (setI h 400 12 (wr ((iv h 400 12) + 1))) 426 (3 * (iv (setI h 400 12 (wr ((iv h 400 12) + 1))) 400 13)) (wr a2)) 426 ((3 * (iv (setI (setI h 400 12 (wr ((iv h 400 12) + 1))) 426 (3 * (iv (setI h 400 12 (wr ((iv h 400 12) + 1))) 400 13)) (wr a2)) 400 13)) + 1) (wr a3)) 400 13)) + 2) (wr a4)) 400 13 (wr ((iv (setI (setI (setI (setI h 400 12 (wr ((iv h 400 12) + 1))) 426 (3 * (iv (setI h 400 12 (wr ((iv h 400 12) + 1))) 400 13)) (wr a2)) 426 ((3 * (iv (setI (setI h 400 12 (wr ((iv h 400 12) + 1))) 426 (3 * (iv (setI h 400 12 (wr ((iv h 400 12) + 1))) 400 13)) (wr a2)) 400 13)) + 1) (wr a3)) 426 ((3 * (iv (setI (setI (setI h 400 12 (wr ((iv h 400 12) + 1))) 426 (3 * (iv (setI h 400 12 (wr ((iv h 400 12) + 1))) 400 13)) (wr a2)) 426 ((3 * (iv (setI (setI h 400 12 (wr ((iv h 400 12) + 1))) 426 (3 * (iv (setI h 400 12 (wr ((iv h 400 12) + 1))) 400 13)) (wr a2)) 400 13)) + 1) (wr a3)) 400 13)) + 2) (wr a4)) 400 13) + 1))) 400 12) < a1 → (rng (iv (setI (setI (setI (setI (setI h 400 12 (wr ((iv h 400 12) + 1))) 426 (3 * (iv (setI h 400 12 (wr ((iv h 400 12) + 1))) 400 13)) (wr a2)) 426 ((3 * (iv (setI (setI h 400 12 (wr ((iv h 400 12) + 1))) 426 (3 * (iv (setI h 400 12 (wr ((iv h 400 12) + 1))) 400 13)) (wr a2)) 400 13)) + 1) (wr a3)) 426 ((3 * (iv (setI (setI (setI h 400 12 (wr ((iv h 400 12) + 1))) 426 (3 * (iv (setI h 400 12 (wr ((iv h 400 12) + 1))) 400 13)) (wr a2)) 426 ((3 * (iv (setI (setI h 400 12 (wr ((iv h 400 12) + 1))) 426 (3 * (iv (setI h 400 12 (wr ((iv h 400 12) + 1))) 400 13)) (wr a2)) 400 13)) + 1) (wr a3)) 400 13)) + 2) (wr a4)) 400 13 (wr ((iv (setI (setI (setI (setI h 400 12 (wr ((iv h 400 12) + 1))) 426 (3 * (iv (setI h 400 12 (wr ((iv h 400 12) + 1))) 400 13)) (wr a2)) 426 ((3 * (iv (setI (setI h 400 12 (wr ((iv h 400 12) + 1))) 426 (3 * (iv (setI h 400 12 (wr ((iv h 400 12) + 1))) 400 13)) (wr a2)) 400 13)) + 1) (wr a3)) 426 ((3 * (iv (setI (setI (setI h 400 12 (wr ((iv h 400 12) + 1))) 426 (3 * (iv (setI h 400 12 (wr ((iv h 400 12) + 1))) 400 13)) (wr a2)) 426 ((3 * (iv (setI (setI h 400 12 (wr ((iv h 400 12) + 1))) 426 (3 * (iv (setI h 400 12 (wr ((iv h 400 12) + 1))) 400 13)) (wr a2)) 400 13)) + 1) (wr a3)) 400 13)) + 2) (wr a4)) 400 13) + 1))) 400 13)) ∧ (((iv (setI (setI (setI (setI (setI h 400 12 (wr ((iv h 400 12) + 1))) 426 (3 * (iv (setI h 400 12 (wr ((iv h 400 12) + 1))) 400 13)) (wr a2)) 426 ((3 * (iv (setI (setI h 400 12 (wr ((iv h 400 12) + 1))) 426 (3 * (iv (setI h 400 12 (wr ((iv h 400 12) + 1))) 400 13)) (wr a2)) 400 13)) + 1) (wr a3)) 426 ((3 * (iv (setI (setI (setI h 400 12 (wr ((iv h 400 12) + 1))) 426 (3 * (iv (setI h 400 12 (wr ((iv h 400 12) + 1))) 400 13)) (wr a2)) 426 ((3 * (iv (setI (setI h 400 12 (wr ((iv h 400 12) + 1))) 426 (3 * (iv (setI h 400 12 (wr ((iv h 400 12) + 1))) 400 13)) (wr a2)) 400 13)) + 1) (wr a3)) 400 13)) + 2) (wr a4)) 400 13 (wr ((iv (setI (setI (setI (setI h 400 12 (wr ((iv h 400 12) + 1))) 426 (3 * (iv (setI h 400 12 (wr ((iv h 400 12) + 1))) 400 13)) (wr a2)) 426 ((3 * (iv (setI (setI h 400 12 (wr ((iv h 400 12) + 1))) 426 (3 * (iv (setI h 400 12 (wr ((iv h 400 12) + 1))) 400 13)) (wr a2)) 400 13)) + 1) (wr a3)) 426 ((3 * (iv (setI (setI (setI h 400 12 (wr ((iv h 400 12) + 1))) 426 (3 * (iv (setI h 400 12 (wr ((iv h 400 12) + 1))) 400 13)) (wr a2)) 426 ((3 * (iv (setI (setI h 400 12 (wr ((iv h 400 12) + 1))) 426 (3 * (iv (setI h 400 12 (wr ((iv h 400 12) + 1))) 400 13)) (wr a2)) 400 13)) + 1) (wr a3)) 400 13)) + 2) (wr a4)) 400 13) + 1))) 400 13) = 6 → P (.int (I 0)) (setI (setI (setI (setI (setI h 400 12 (wr ((iv h 400 12) + 1))) 426 (3 * (iv (setI h 400 12 (wr ((iv h 400 12) + 1))) 400 13)) (wr a2)) 426 ((3 * (iv (setI (setI h 400 12 (wr ((iv h 400 12) + 1))) 426 (3 * (iv (setI h 400 12 (wr ((iv h 400 12) + 1))) 400 13)) (wr a2)) 400 13)) + 1) (wr a3)) 426 ((3 * (iv (setI (setI (setI h 400 12 (wr ((iv h 400 12) + 1))) 426 (3 * (iv (setI h 400 12 (wr ((iv h 400 12) + 1))) 400 13)) (wr a2)) 426 ((3 * (iv (setI (setI h 400 12 (wr ((iv h 400 12) + 1))) 426 (3 * (iv (setI h 400 12 (wr ((iv h 400 12) + 1))) 400 13)) (wr a2)) 400 13)) + 1) (wr a3)) 400 13)) + 2) (wr a4)) 400 13 (wr ((iv (setI (setI (setI (setI h 400 12 (wr ((iv h 400 12) + 1))) 426 (3 * (iv (setI h 400 12 (wr ((iv h 400 12) + 1))) 400 13)) (wr a2)) 426 ((3 * (iv (setI (setI h 400 12 (wr ((iv h 400 12) + 1))) 426 (3 * (iv (setI h 400 12 (wr ((iv h 400 12) + 1))) 400 13)) (wr a2)) 400 13)) + 1) (wr a3)) 426 ((3 * (iv (setI (setI (setI h 400 12 (wr ((iv h 400 12) + 1))) 426 (3 * (iv (setI h 400 12 (wr ((iv h 400 12) + 1))) 400 13)) (wr a2)) 426 ((3 * (iv (setI (setI h 400 12 (wr ((iv h 400 12) + 1))) 426 (3 * (iv (setI h 400 12 (wr ((iv h 400 12) + 1))) 400 13)) (wr a2)) 400 13)) + 1) (wr a3)) 400 13)) + 2) (wr a4)) 400 13) + 1)))) ∧ (¬ (iv (setI (setI (setI (setI (setI h 400 12 (wr ((iv h 400 12) + 1))) 426 (3 * (iv (setI h 400 12 (wr ((iv h 400 12) + 1))) 400 13)) (wr a2)) 426 ((3 * (iv (setI (setI h 400 12 (wr ((iv h 400 12) + 1))) 426 (3 * (iv (setI h 400 12 (wr ((iv h 400 12) + 1))) 400 13)) (wr a2)) 400 13)) + 1) (wr a3)) 426 ((3 * (iv (setI (setI (setI h 400 12 (wr ((iv h 400 12) + 1))) 426 (3 * (iv (setI h 400 12 (wr ((iv h 400 12) + 1))) 400 13)) (wr a2)) 426 ((3 * (iv (setI (setI h 400 12 (wr ((iv h 400 12) + 1))) 426 (3 * (iv (setI h 400 12 (wr ((iv h 400 12) + 1))) 400 13)) (wr a2)) 400 13)) + 1) (wr a3)) 400 13)) + 2) (wr a4)) 400 13 (wr ((iv (setI (setI (setI (setI h 400 12 (wr ((iv h 400 12) + 1))) 426 (3 * (iv (setI h 400 12 (wr ((iv h 400 12) + 1))) 400 13)) (wr a2)) 426 ((3 * (iv (setI (setI h 400 12 (wr ((iv h 400 12) + 1))) 426 (3 * (iv (setI h 400 12 (wr ((iv h 400 12) + 1))) 400 13)) (wr a2)) 400 13)) + 1) (wr a3)) 426 ((3 * (iv (setI (setI (setI h 400 12 (wr ((iv h 400 12) + 1))) 426 (3 * (iv (setI h 400 12 (wr ((iv h 400 12) + 1))) 400 13)) (wr a2)) 426 ((3 * (iv (setI (setI h 400 12 (wr ((iv h 400 12) + 1))) 426 (3 * (iv (setI h 400 12 (wr ((iv h 400 12) + 1))) 400 13)) (wr a2)) 400 13)) + 1) (wr a3)) 400 13)) + 2) (wr a4)) 400 13) + 1))) 400 13) = 6 → R 134 0 [.ref 400, .int (I 59), .int (I a1)] [] (setI (setI (setI (setI (setI h 400 12 (wr ((iv h 400 12) + 1))) 426 (3 * (iv (setI h 400 12 (wr ((iv h 400 12) + 1))) 400 13)) (wr a2)) 426 ((3 * (iv (setI (setI h 400 12 (wr ((iv h 400 12) + 1))) 426 (3 * (iv (setI h 400 12 (wr ((iv h 400 12) + 1))) 400 13)) (wr a2)) 400 13)) + 1) (wr a3)) 426 ((3 * (iv (setI (setI (setI h 400 12 (wr ((iv h 400 12) + 1))) 426 (3 * (iv (setI h 400 12 (wr ((iv h 400 12) + 1))) 400 13)) (wr a2)) 426 ((3 * (iv (setI (setI h 400 12 (wr ((iv h 400 12) + 1))) 426 (3 * (iv (setI h 400 12 (wr ((iv h 400 12) + 1))) 400 13)) (wr a2)) 400 13)) + 1) (wr a3)) 400 13)) + 2) (wr a4)) 400 13 (wr ((iv (setI (setI (setI (setI h 400 12 (wr ((iv h 400 12) + 1))) 426 (3 * (iv (setI h 400 12 (wr ((iv h 400 12) + 1))) 400 13)) (wr a2)) 426 ((3 * (iv (setI (setI h 400 12 (wr ((iv h 400 12) + 1))) 426 (3 * (iv (setI h 400 12 (wr ((iv h 400 12) + 1))) 400 13)) (wr a2)) 400 13)) + 1) (wr a3)) 426 ((3 * (iv (setI (setI (setI h 400 12 (wr ((iv h 400 12) + 1))) 426 (3 * (iv (setI h 400 12 (wr ((iv h 400 12) + 1))) 400 13)) (wr a2)) 426 ((3 * (iv (setI (setI h 400 12 (wr ((iv h 400 12) + 1))) 426 (3 * (iv (setI h 400 12 (wr ((iv h 400 12) + 1))) 400 13)) (wr a2)) 400 13)) + 1) (wr a3)) 400 13)) + 2) (wr a4)) 400 13) + 1))) (fun v h2 => R 149 187 [.ref 400, .int (I a1), .int (I a2), .int (I a3), .int (I a4)] (v :: []) h2 P)))) ∧ (¬ (iv (setI (setI (setI (setI (setI h 400 12 (wr ((iv h 400 12) + 1))) 426 (3 * (iv (setI h 400 12 (wr ((iv h 400 12) + 1))) 400 13)) (wr a2)) 426 ((3 * (iv (setI (setI h 400 12 (wr ((iv h 400 12) + 1))) 426 (3 * (iv (setI h 400 12 (wr ((iv h 400 12) + 1))) 400 13)) (wr a2)) 400 13)) + 1) (wr a3)) 426 ((3 * (iv (setI (setI (setI h 400 12 (wr ((iv h 400 12) + 1))) 426 (3 * (iv (setI h 400 12 (wr ((iv h 400 12) + 1))) 400 13)) (wr a2)) 426 ((3 * (iv (setI (setI h 400 12 (wr ((iv h 400 12) + 1))) 426 (3 * (iv (setI h 400 12 (wr ((iv h 400 12) + 1))) 400 13)) (wr a2)) 400 13)) + 1) (wr a3)) 400 13)) + 2) (wr a4)) 400 13 (wr ((iv (setI (setI (setI (setI h 400 12 (wr ((iv h 400 12) + 1))) 426 (3 * (iv (setI h 400 12 (wr ((iv h 400 12) + 1))) 400 13)) (wr a2)) 426 ((3 * (iv (setI (setI h 400 12 (wr ((iv h 400 12) + 1))) 426 (3 * (iv (setI h 400 12 (wr ((iv h 400 12) + 1))) 400 13)) (wr a2)) 400 13)) + 1) (wr a3)) 426 ((3 * (iv (setI (setI (setI h 400 12 (wr ((iv h 400 12) + 1))) 426 (3 * (iv (setI h 400 12 (wr ((iv h 400 12) + 1))) 400 13)) (wr a2)) 426 ((3 * (iv (setI (setI h 400 12 (wr ((iv h 400 12) + 1))) 426 (3 * (iv (setI h 400 12 (wr ((iv h 400 12) + 1))) 400 13)) (wr a2)) 400 13)) + 1) (wr a3)) 400 13)) + 2) (wr a4)) 400 13) + 1))) 400 12) < a1 → P (.int (I 1)) (setI (setI (setI (setI (setI h 400 12 (wr ((iv h 400 12) + 1))) 426 (3 * (iv (setI h 400 12 (wr ((iv h 400 12) + 1))) 400 13)) (wr a2)) 426 ((3 * (iv (setI (setI h 400 12 (wr ((iv h 400 12) + 1))) 426 (3 * (iv (setI h 400 12 (wr ((iv h 400 12) + 1))) 400 13)) (wr a2)) 400 13)) + 1) (wr a3)) 426 ((3 * (iv (setI (setI (setI h 400 12 (wr ((iv h 400 12) + 1))) 426 (3 * (iv (setI h 400 12 (wr ((iv h 400 12) + 1))) 400 13)) (wr a2)) 426 ((3 * (iv (setI (setI h 400 12 (wr ((iv h 400 12) + 1))) 426 (3 * (iv (setI h 400 12 (wr ((iv h 400 12) + 1))) 400 13)) (wr a2)) 400 13)) + 1) (wr a3)) 400 13)) + 2) (wr a4)) 400 13 (wr ((iv (setI (setI (setI (setI h 400 12 (wr ((iv h 400 12) + 1))) 426 (3 * (iv (setI h 400 12 (wr ((iv h 400 12) + 1))) 400 13)) (wr a2)) 426 ((3 * (iv (setI (setI h 400 12 (wr ((iv h 400 12) + 1))) 426 (3 * (iv (setI h 400 12 (wr ((iv h 400 12) + 1))) 400 13)) (wr a2)) 400 13)) + 1) (wr a3)) 426 ((3 * (iv (setI (setI (setI h 400 12 (wr ((iv h 400 12) + 1))) 426 (3 * (iv (setI h 400 12 (wr ((iv h 400 12) + 1))) 400 13)) (wr a2)) 426 ((3 * (iv (setI (setI h 400 12 (wr ((iv h 400 12) + 1))) 426 (3 * (iv (setI h 400 12 (wr ((iv h 400 12) + 1))) 400 13)) (wr a2)) 400 13)) + 1) (wr a3)) 400 13)) + 2) (wr a4)) 400 13) + 1)))))))) : R 149 95 [.ref 400, .int (I a1), .int (I a2), .int (I a3), .int (I a4)] [.int (I s0)] h P := by
  obtain ⟨g1, T⟩ := T
  refine R_if_ne (Dat dd_Y_readLaw 54 rfl) rfl g1  (fun c => ?_) (fun c => ?_)
  · replace T := T.1 c
    refine R_iconst (Dat dd_Y_readLaw 55 rfl) ?_
    exact R_ireturn (Dat dd_Y_readLaw 56 rfl) rfl T
  · replace T := T.2 c
    refine R_aload_n (Dat dd_Y_readLaw 57 rfl) rfl rfl ?_
    refine R_dup (Dat dd_Y_readLaw 58 rfl) rfl ?_
    refine R_geti (Dat dd_Y_readLaw 59 rfl) rfl rfl (tok S.t400) ?_
    refine R_iconst (Dat dd_Y_readLaw 60 rfl) ?_
    refine R_iadd (Dat dd_Y_readLaw 61 rfl) ?_
    refine R_puti (Dat dd_Y_readLaw 62 rfl) rfl rfl rfl (tok S.t400) rfl (v := wr ((iv h 400 12) + 1)) rfl ?_
    refine R_aload_n (Dat dd_Y_readLaw 63 rfl) rfl rfl ?_
    refine R_getr (Dat dd_Y_readLaw 64 rfl) rfl rfl (tok S.t400) S.f400_25 (q := 426) rfl (tnz S.t426) ?_
    refine R_iconst (Dat dd_Y_readLaw 65 rfl) ?_
    refine R_aload_n (Dat dd_Y_readLaw 66 rfl) rfl rfl ?_
    refine R_geti (Dat dd_Y_readLaw 67 rfl) rfl rfl (tok S.t400) ?_
    refine R_imul (Dat dd_Y_readLaw 68 rfl) ?_
    refine R_iload_n (Dat dd_Y_readLaw 69 rfl) rfl ?_
    obtain ⟨g2, T⟩ := T
    obtain ⟨g3, T⟩ := T
    refine R_iastore (Dat dd_Y_readLaw 70 rfl) S.t426 (lnle (show ln (setI h 400 12 (wr ((iv h 400 12) + 1))) 426 = 18 from S.l426) (by decide)) g2 (lnlt (show ln (setI h 400 12 (wr ((iv h 400 12) + 1))) 426 = 18 from S.l426) g3) (v := wr a2) rfl ?_
    refine R_aload_n (Dat dd_Y_readLaw 71 rfl) rfl rfl ?_
    refine R_getr (Dat dd_Y_readLaw 72 rfl) rfl rfl (tok S.t400) S.f400_25 (q := 426) rfl (tnz S.t426) ?_
    refine R_iconst (Dat dd_Y_readLaw 73 rfl) ?_
    refine R_aload_n (Dat dd_Y_readLaw 74 rfl) rfl rfl ?_
    refine R_geti (Dat dd_Y_readLaw 75 rfl) rfl rfl (tok S.t400) ?_
    refine R_imul (Dat dd_Y_readLaw 76 rfl) ?_
    refine R_iconst (Dat dd_Y_readLaw 77 rfl) ?_
    refine R_iadd (Dat dd_Y_readLaw 78 rfl) ?_
    refine R_iload_n (Dat dd_Y_readLaw 79 rfl) rfl ?_
    obtain ⟨g4, T⟩ := T
    obtain ⟨g5, T⟩ := T
    refine R_iastore (Dat dd_Y_readLaw 80 rfl) S.t426 (lnle (show ln (setI (setI h 400 12 (wr ((iv h 400 12) + 1))) 426 (3 * (iv (setI h 400 12 (wr ((iv h 400 12) + 1))) 400 13)) (wr a2)) 426 = 18 from S.l426) (by decide)) g4 (lnlt (show ln (setI (setI h 400 12 (wr ((iv h 400 12) + 1))) 426 (3 * (iv (setI h 400 12 (wr ((iv h 400 12) + 1))) 400 13)) (wr a2)) 426 = 18 from S.l426) g5) (v := wr a3) rfl ?_
    refine R_aload_n (Dat dd_Y_readLaw 81 rfl) rfl rfl ?_
    refine R_getr (Dat dd_Y_readLaw 82 rfl) rfl rfl (tok S.t400) S.f400_25 (q := 426) rfl (tnz S.t426) ?_
    refine R_iconst (Dat dd_Y_readLaw 83 rfl) ?_
    refine R_aload_n (Dat dd_Y_readLaw 84 rfl) rfl rfl ?_
    refine R_geti (Dat dd_Y_readLaw 85 rfl) rfl rfl (tok S.t400) ?_
    refine R_imul (Dat dd_Y_readLaw 86 rfl) ?_
    refine R_iconst (Dat dd_Y_readLaw 87 rfl) ?_
    refine R_iadd (Dat dd_Y_readLaw 88 rfl) ?_
    refine R_iload (Dat dd_Y_readLaw 89 rfl) rfl ?_
    obtain ⟨g6, T⟩ := T
    obtain ⟨g7, T⟩ := T
    refine R_iastore (Dat dd_Y_readLaw 90 rfl) S.t426 (lnle (show ln (setI (setI (setI h 400 12 (wr ((iv h 400 12) + 1))) 426 (3 * (iv (setI h 400 12 (wr ((iv h 400 12) + 1))) 400 13)) (wr a2)) 426 ((3 * (iv (setI (setI h 400 12 (wr ((iv h 400 12) + 1))) 426 (3 * (iv (setI h 400 12 (wr ((iv h 400 12) + 1))) 400 13)) (wr a2)) 400 13)) + 1) (wr a3)) 426 = 18 from S.l426) (by decide)) g6 (lnlt (show ln (setI (setI (setI h 400 12 (wr ((iv h 400 12) + 1))) 426 (3 * (iv (setI h 400 12 (wr ((iv h 400 12) + 1))) 400 13)) (wr a2)) 426 ((3 * (iv (setI (setI h 400 12 (wr ((iv h 400 12) + 1))) 426 (3 * (iv (setI h 400 12 (wr ((iv h 400 12) + 1))) 400 13)) (wr a2)) 400 13)) + 1) (wr a3)) 426 = 18 from S.l426) g7) (v := wr a4) rfl ?_
    refine R_aload_n (Dat dd_Y_readLaw 91 rfl) rfl rfl ?_
    refine R_dup (Dat dd_Y_readLaw 92 rfl) rfl ?_
    refine R_geti (Dat dd_Y_readLaw 93 rfl) rfl rfl (tok S.t400) ?_
    refine R_iconst (Dat dd_Y_readLaw 94 rfl) ?_
    refine R_iadd (Dat dd_Y_readLaw 95 rfl) ?_
    refine R_puti (Dat dd_Y_readLaw 96 rfl) rfl rfl rfl (tok S.t400) rfl (v := wr ((iv (setI (setI (setI (setI h 400 12 (wr ((iv h 400 12) + 1))) 426 (3 * (iv (setI h 400 12 (wr ((iv h 400 12) + 1))) 400 13)) (wr a2)) 426 ((3 * (iv (setI (setI h 400 12 (wr ((iv h 400 12) + 1))) 426 (3 * (iv (setI h 400 12 (wr ((iv h 400 12) + 1))) 400 13)) (wr a2)) 400 13)) + 1) (wr a3)) 426 ((3 * (iv (setI (setI (setI h 400 12 (wr ((iv h 400 12) + 1))) 426 (3 * (iv (setI h 400 12 (wr ((iv h 400 12) + 1))) 400 13)) (wr a2)) 426 ((3 * (iv (setI (setI h 400 12 (wr ((iv h 400 12) + 1))) 426 (3 * (iv (setI h 400 12 (wr ((iv h 400 12) + 1))) 400 13)) (wr a2)) 400 13)) + 1) (wr a3)) 400 13)) + 2) (wr a4)) 400 13) + 1)) rfl ?_
    refine R_aload_n (Dat dd_Y_readLaw 97 rfl) rfl rfl ?_
    refine R_geti (Dat dd_Y_readLaw 98 rfl) rfl rfl (tok S.t400) ?_
    refine R_iload_n (Dat dd_Y_readLaw 99 rfl) rfl ?_
    obtain ⟨g8, T⟩ := T
    obtain ⟨g9, T⟩ := T
    refine R_ic_lt (Dat dd_Y_readLaw 100 rfl) rfl g8 g9 (fun c => ?_) (fun c => ?_)
    · replace T := T.1 c
      refine R_aload_n (Dat dd_Y_readLaw 103 rfl) rfl rfl ?_
      refine R_geti (Dat dd_Y_readLaw 104 rfl) rfl rfl (tok S.t400) ?_
      refine R_bipush (Dat dd_Y_readLaw 105 rfl) (a := 6) rfl ?_
      obtain ⟨g10, T⟩ := T
      refine R_ic_eq (Dat dd_Y_readLaw 106 rfl) rfl g10 (by decide) (fun c => ?_) (fun c => ?_)
      · replace T := T.1 c
        refine R_iconst (Dat dd_Y_readLaw 112 rfl) ?_
        exact R_ireturn (Dat dd_Y_readLaw 113 rfl) rfl T
      · replace T := T.2 c
        refine R_aload_n (Dat dd_Y_readLaw 107 rfl) rfl rfl ?_
        refine R_bipush (Dat dd_Y_readLaw 108 rfl) (a := 59) rfl ?_
        refine R_iload_n (Dat dd_Y_readLaw 109 rfl) rfl ?_
        exact R_call1 (Dat dd_Y_readLaw 110 rfl) rfl S.t400 rfl rfl rfl rfl rfl T
    · replace T := T.2 c
      refine R_iconst (Dat dd_Y_readLaw 101 rfl) ?_
      exact R_ireturn (Dat dd_Y_readLaw 102 rfl) rfl T
theorem t_Y_readLaw_187 {h : Hp} {P : Value → Hp → Prop} {a1 s0 : Int} {a2 a3 a4 : Value} (S : YS h) (T : (rng s0) ∧ ((s0 = 0 → P (.int (I 0)) h) ∧ (¬ s0 = 0 → R 149 5 [.ref 400, .int (I a1), a2, a3, a4] [] (setI h 400 12 (wr ((iv h 400 12) + 1))) P))) : R 149 187 [.ref 400, .int (I a1), a2, a3, a4] [.int (I s0)] h P := by
  obtain ⟨g1, T⟩ := T
  refine R_if_ne (Dat dd_Y_readLaw 111 rfl) rfl g1  (fun c => ?_) (fun c => ?_)
  · replace T := T.1 c
    refine R_iconst (Dat dd_Y_readLaw 112 rfl) ?_
    exact R_ireturn (Dat dd_Y_readLaw 113 rfl) rfl T
  · replace T := T.2 c
    refine R_aload_n (Dat dd_Y_readLaw 114 rfl) rfl rfl ?_
    refine R_dup (Dat dd_Y_readLaw 115 rfl) rfl ?_
    refine R_geti (Dat dd_Y_readLaw 116 rfl) rfl rfl (tok S.t400) ?_
    refine R_iconst (Dat dd_Y_readLaw 117 rfl) ?_
    refine R_iadd (Dat dd_Y_readLaw 118 rfl) ?_
    refine R_puti (Dat dd_Y_readLaw 119 rfl) rfl rfl rfl (tok S.t400) rfl (v := wr ((iv h 400 12) + 1)) rfl ?_
    refine R_goto (Dat dd_Y_readLaw 120 rfl) rfl ?_
    exact T
def dl_Y_letterOf : List (Nat × Instr × Nat) := [(0, .iload_n 0, 1), (1, .tableswitch 107 97 116 #[105, 107, 107, 107, 107, 95, 107, 97, 107, 107, 107, 107, 107, 103, 107, 107, 107, 99, 107, 101], 95), (96, .iconst 0, 1), (97, .ireturn, 1), (98, .iconst 1, 1), (99, .ireturn, 1), (100, .iconst 2, 1), (101, .ireturn, 1), (102, .iconst 3, 1), (103, .ireturn, 1), (104, .iconst 4, 1), (105, .ireturn, 1), (106, .iconst 5, 1), (107, .ireturn, 1), (108, .bipush (-9), 2), (110, .ireturn, 1)]
theorem dd_Y_letterOf : Dall 150 dl_Y_letterOf = true := by decide +kernel
theorem t_Y_letterOf {h : Hp} {P : Value → Hp → Prop} {p0 : Int} (T : (rng p0) ∧ (((p0 = 97 → P (.int (I 5)) h) ∧ (p0 = 98 → P (.int (I (-9))) h) ∧ (p0 = 99 → P (.int (I (-9))) h) ∧ (p0 = 100 → P (.int (I (-9))) h) ∧ (p0 = 101 → P (.int (I (-9))) h) ∧ (p0 = 102 → P (.int (I 0)) h) ∧ (p0 = 103 → P (.int (I (-9))) h) ∧ (p0 = 104 → P (.int (I 1)) h) ∧ (p0 = 105 → P (.int (I (-9))) h) ∧ (p0 = 106 → P (.int (I (-9))) h) ∧ (p0 = 107 → P (.int (I (-9))) h) ∧ (p0 = 108 → P (.int (I (-9))) h) ∧ (p0 = 109 → P (.int (I (-9))) h) ∧ (p0 = 110 → P (.int (I 4)) h) ∧ (p0 = 111 → P (.int (I (-9))) h) ∧ (p0 = 112 → P (.int (I (-9))) h) ∧ (p0 = 113 → P (.int (I (-9))) h) ∧ (p0 = 114 → P (.int (I 2)) h) ∧ (p0 = 115 → P (.int (I (-9))) h) ∧ (p0 = 116 → P (.int (I 3)) h)) ∧ (p0 < 97 ∨ 116 < p0 → P (.int (I (-9))) h))) : R 150 0 [.int (I p0)] [] h P := by
  refine R_iload_n (Dat dd_Y_letterOf 0 rfl) rfl ?_
  obtain ⟨g1, T⟩ := T
  refine R_tsw (lo := 97) (hi := 116) (Dat dd_Y_letterOf 1 rfl) (td := 108) (ts := [106, 108, 108, 108, 108, 96, 108, 98, 108, 108, 108, 108, 108, 104, 108, 108, 108, 100, 108, 102]) g1 rfl rfl rfl rfl (fun i hi hc => ?_) (fun c => ?_)
  · obtain ⟨T, -⟩ := T
    have hi : i < 20 := hi
    rcases (show i = 0 ∨ i = 1 ∨ i = 2 ∨ i = 3 ∨ i = 4 ∨ i = 5 ∨ i = 6 ∨ i = 7 ∨ i = 8 ∨ i = 9 ∨ i = 10 ∨ i = 11 ∨ i = 12 ∨ i = 13 ∨ i = 14 ∨ i = 15 ∨ i = 16 ∨ i = 17 ∨ i = 18 ∨ i = 19 by omega) with rfl | rfl | rfl | rfl | rfl | rfl | rfl | rfl | rfl | rfl | rfl | rfl | rfl | rfl | rfl | rfl | rfl | rfl | rfl | rfl
    · replace T := T.1 (by exact hc)
      refine R_iconst (Dat dd_Y_letterOf 12 rfl) ?_
      exact R_ireturn (Dat dd_Y_letterOf 13 rfl) rfl T
    · replace T := T.2.1 (by exact hc)
      refine R_bipush (Dat dd_Y_letterOf 14 rfl) (a := (-9)) rfl ?_
      exact R_ireturn (Dat dd_Y_letterOf 15 rfl) rfl T
    · replace T := T.2.2.1 (by exact hc)
      refine R_bipush (Dat dd_Y_letterOf 14 rfl) (a := (-9)) rfl ?_
      exact R_ireturn (Dat dd_Y_letterOf 15 rfl) rfl T
    · replace T := T.2.2.2.1 (by exact hc)
      refine R_bipush (Dat dd_Y_letterOf 14 rfl) (a := (-9)) rfl ?_
      exact R_ireturn (Dat dd_Y_letterOf 15 rfl) rfl T
    · replace T := T.2.2.2.2.1 (by exact hc)
      refine R_bipush (Dat dd_Y_letterOf 14 rfl) (a := (-9)) rfl ?_
      exact R_ireturn (Dat dd_Y_letterOf 15 rfl) rfl T
    · replace T := T.2.2.2.2.2.1 (by exact hc)
      refine R_iconst (Dat dd_Y_letterOf 2 rfl) ?_
      exact R_ireturn (Dat dd_Y_letterOf 3 rfl) rfl T
    · replace T := T.2.2.2.2.2.2.1 (by exact hc)
      refine R_bipush (Dat dd_Y_letterOf 14 rfl) (a := (-9)) rfl ?_
      exact R_ireturn (Dat dd_Y_letterOf 15 rfl) rfl T
    · replace T := T.2.2.2.2.2.2.2.1 (by exact hc)
      refine R_iconst (Dat dd_Y_letterOf 4 rfl) ?_
      exact R_ireturn (Dat dd_Y_letterOf 5 rfl) rfl T
    · replace T := T.2.2.2.2.2.2.2.2.1 (by exact hc)
      refine R_bipush (Dat dd_Y_letterOf 14 rfl) (a := (-9)) rfl ?_
      exact R_ireturn (Dat dd_Y_letterOf 15 rfl) rfl T
    · replace T := T.2.2.2.2.2.2.2.2.2.1 (by exact hc)
      refine R_bipush (Dat dd_Y_letterOf 14 rfl) (a := (-9)) rfl ?_
      exact R_ireturn (Dat dd_Y_letterOf 15 rfl) rfl T
    · replace T := T.2.2.2.2.2.2.2.2.2.2.1 (by exact hc)
      refine R_bipush (Dat dd_Y_letterOf 14 rfl) (a := (-9)) rfl ?_
      exact R_ireturn (Dat dd_Y_letterOf 15 rfl) rfl T
    · replace T := T.2.2.2.2.2.2.2.2.2.2.2.1 (by exact hc)
      refine R_bipush (Dat dd_Y_letterOf 14 rfl) (a := (-9)) rfl ?_
      exact R_ireturn (Dat dd_Y_letterOf 15 rfl) rfl T
    · replace T := T.2.2.2.2.2.2.2.2.2.2.2.2.1 (by exact hc)
      refine R_bipush (Dat dd_Y_letterOf 14 rfl) (a := (-9)) rfl ?_
      exact R_ireturn (Dat dd_Y_letterOf 15 rfl) rfl T
    · replace T := T.2.2.2.2.2.2.2.2.2.2.2.2.2.1 (by exact hc)
      refine R_iconst (Dat dd_Y_letterOf 10 rfl) ?_
      exact R_ireturn (Dat dd_Y_letterOf 11 rfl) rfl T
    · replace T := T.2.2.2.2.2.2.2.2.2.2.2.2.2.2.1 (by exact hc)
      refine R_bipush (Dat dd_Y_letterOf 14 rfl) (a := (-9)) rfl ?_
      exact R_ireturn (Dat dd_Y_letterOf 15 rfl) rfl T
    · replace T := T.2.2.2.2.2.2.2.2.2.2.2.2.2.2.2.1 (by exact hc)
      refine R_bipush (Dat dd_Y_letterOf 14 rfl) (a := (-9)) rfl ?_
      exact R_ireturn (Dat dd_Y_letterOf 15 rfl) rfl T
    · replace T := T.2.2.2.2.2.2.2.2.2.2.2.2.2.2.2.2.1 (by exact hc)
      refine R_bipush (Dat dd_Y_letterOf 14 rfl) (a := (-9)) rfl ?_
      exact R_ireturn (Dat dd_Y_letterOf 15 rfl) rfl T
    · replace T := T.2.2.2.2.2.2.2.2.2.2.2.2.2.2.2.2.2.1 (by exact hc)
      refine R_iconst (Dat dd_Y_letterOf 6 rfl) ?_
      exact R_ireturn (Dat dd_Y_letterOf 7 rfl) rfl T
    · replace T := T.2.2.2.2.2.2.2.2.2.2.2.2.2.2.2.2.2.2.1 (by exact hc)
      refine R_bipush (Dat dd_Y_letterOf 14 rfl) (a := (-9)) rfl ?_
      exact R_ireturn (Dat dd_Y_letterOf 15 rfl) rfl T
    · replace T := T.2.2.2.2.2.2.2.2.2.2.2.2.2.2.2.2.2.2.2 (by exact hc)
      refine R_iconst (Dat dd_Y_letterOf 8 rfl) ?_
      exact R_ireturn (Dat dd_Y_letterOf 9 rfl) rfl T
  · replace T := T.2 c
    refine R_bipush (Dat dd_Y_letterOf 14 rfl) (a := (-9)) rfl ?_
    exact R_ireturn (Dat dd_Y_letterOf 15 rfl) rfl T
def dl_Y_ofCause : List (Nat × Instr × Nat) := [(0, .aload_n 0, 1), (1, .iload_n 1, 1), (2, .invokevirtual 170, 3), (5, .ifCond .eq 17, 3), (8, .iload_n 2, 1), (9, .ifCond .lt 13, 3), (12, .iload_n 2, 1), (13, .aload_n 0, 1), (14, .getfield 40, 3), (17, .iload_n 1, 1), (18, .iaload, 1), (19, .if_icmp .lt 5, 3), (22, .iconst (-1), 1), (23, .ireturn, 1), (24, .iload_n 3, 1), (25, .tableswitch 63 0 2 #[27, 39, 51], 27), (52, .aload_n 0, 1), (53, .getfield 43, 3), (56, .bipush 6, 2), (58, .iload_n 1, 1), (59, .imul, 1), (60, .iload_n 2, 1), (61, .iadd, 1), (62, .iaload, 1), (63, .ireturn, 1), (64, .aload_n 0, 1), (65, .getfield 46, 3), (68, .bipush 6, 2), (70, .iload_n 1, 1), (71, .imul, 1), (72, .iload_n 2, 1), (73, .iadd, 1), (74, .iaload, 1), (75, .ireturn, 1), (76, .aload_n 0, 1), (77, .getfield 49, 3), (80, .bipush 6, 2), (82, .iload_n 1, 1), (83, .imul, 1), (84, .iload_n 2, 1), (85, .iadd, 1), (86, .iaload, 1), (87, .ireturn, 1), (88, .bipush (-2), 2), (90, .ireturn, 1)]
theorem dd_Y_ofCause : Dall 151 dl_Y_ofCause = true := by decide +kernel
theorem t_Y_ofCause {h : Hp} {P : Value → Hp → Prop} {p0 p1 p2 : Int} (S : YS h) (T : R 152 0 [.ref 400, .int (I p0)] [] h (fun v h2 => R 151 5 [.ref 400, .int (I p0), .int (I p1), .int (I p2)] (v :: []) h2 P)) : R 151 0 [.ref 400, .int (I p0), .int (I p1), .int (I p2)] [] h P := by
  refine R_aload_n (Dat dd_Y_ofCause 0 rfl) rfl rfl ?_
  refine R_iload_n (Dat dd_Y_ofCause 1 rfl) rfl ?_
  exact R_call1 (Dat dd_Y_ofCause 2 rfl) rfl S.t400 rfl rfl rfl rfl rfl T
theorem t_Y_ofCause_5 {h : Hp} {P : Value → Hp → Prop} {a1 a2 a3 s0 : Int} (S : YS h) (T : (rng s0) ∧ ((s0 = 0 → P (.int (I (-1))) h) ∧ (¬ s0 = 0 → (rng a2) ∧ ((a2 < 0 → P (.int (I (-1))) h) ∧ (¬ a2 < 0 → (0 ≤ a1) ∧ (a1 < 4) ∧ (rng a2) ∧ (rng (iv h 421 a1)) ∧ ((a2 < (iv h 421 a1) → (rng a3) ∧ (((a3 = 0 → (0 ≤ ((6 * a1) + a2)) ∧ (((6 * a1) + a2) < 24) ∧ P (.int (I (iv h 422 ((6 * a1) + a2)))) h) ∧ (a3 = 1 → (0 ≤ ((6 * a1) + a2)) ∧ (((6 * a1) + a2) < 24) ∧ P (.int (I (iv h 423 ((6 * a1) + a2)))) h) ∧ (a3 = 2 → (0 ≤ ((6 * a1) + a2)) ∧ (((6 * a1) + a2) < 24) ∧ P (.int (I (iv h 424 ((6 * a1) + a2)))) h)) ∧ (a3 < 0 ∨ 2 < a3 → P (.int (I (-2))) h))) ∧ (¬ a2 < (iv h 421 a1) → P (.int (I (-1))) h))))))) : R 151 5 [.ref 400, .int (I a1), .int (I a2), .int (I a3)] [.int (I s0)] h P := by
  obtain ⟨g1, T⟩ := T
  refine R_if_eq (Dat dd_Y_ofCause 3 rfl) rfl g1  (fun c => ?_) (fun c => ?_)
  · replace T := T.1 c
    refine R_iconst (Dat dd_Y_ofCause 12 rfl) ?_
    exact R_ireturn (Dat dd_Y_ofCause 13 rfl) rfl T
  · replace T := T.2 c
    refine R_iload_n (Dat dd_Y_ofCause 4 rfl) rfl ?_
    obtain ⟨g2, T⟩ := T
    refine R_if_lt (Dat dd_Y_ofCause 5 rfl) rfl g2  (fun c => ?_) (fun c => ?_)
    · replace T := T.1 c
      refine R_iconst (Dat dd_Y_ofCause 12 rfl) ?_
      exact R_ireturn (Dat dd_Y_ofCause 13 rfl) rfl T
    · replace T := T.2 c
      refine R_iload_n (Dat dd_Y_ofCause 6 rfl) rfl ?_
      refine R_aload_n (Dat dd_Y_ofCause 7 rfl) rfl rfl ?_
      refine R_getr (Dat dd_Y_ofCause 8 rfl) rfl rfl (tok S.t400) S.f400_20 (q := 421) rfl (tnz S.t421) ?_
      refine R_iload_n (Dat dd_Y_ofCause 9 rfl) rfl ?_
      obtain ⟨g3, T⟩ := T
      obtain ⟨g4, T⟩ := T
      refine R_iaload (Dat dd_Y_ofCause 10 rfl) (Or.inl S.t421) (lnle (show ln h 421 = 4 from S.l421) (by decide)) g3 (lnlt (show ln h 421 = 4 from S.l421) g4) ?_
      obtain ⟨g5, T⟩ := T
      obtain ⟨g6, T⟩ := T
      refine R_ic_lt (Dat dd_Y_ofCause 11 rfl) rfl g5 g6 (fun c => ?_) (fun c => ?_)
      · replace T := T.1 c
        refine R_iload_n (Dat dd_Y_ofCause 14 rfl) rfl ?_
        obtain ⟨g7, T⟩ := T
        refine R_tsw (lo := 0) (hi := 2) (Dat dd_Y_ofCause 15 rfl) (td := 88) (ts := [52, 64, 76]) g7 rfl rfl rfl rfl (fun i hi hc => ?_) (fun c => ?_)
        · obtain ⟨T, -⟩ := T
          have hi : i < 3 := hi
          rcases (show i = 0 ∨ i = 1 ∨ i = 2 by omega) with rfl | rfl | rfl
          · replace T := T.1 (by exact hc)
            refine R_aload_n (Dat dd_Y_ofCause 16 rfl) rfl rfl ?_
            refine R_getr (Dat dd_Y_ofCause 17 rfl) rfl rfl (tok S.t400) S.f400_21 (q := 422) rfl (tnz S.t422) ?_
            refine R_bipush (Dat dd_Y_ofCause 18 rfl) (a := 6) rfl ?_
            refine R_iload_n (Dat dd_Y_ofCause 19 rfl) rfl ?_
            refine R_imul (Dat dd_Y_ofCause 20 rfl) ?_
            refine R_iload_n (Dat dd_Y_ofCause 21 rfl) rfl ?_
            refine R_iadd (Dat dd_Y_ofCause 22 rfl) ?_
            obtain ⟨g8, T⟩ := T
            obtain ⟨g9, T⟩ := T
            refine R_iaload (Dat dd_Y_ofCause 23 rfl) (Or.inl S.t422) (lnle (show ln h 422 = 24 from S.l422) (by decide)) g8 (lnlt (show ln h 422 = 24 from S.l422) g9) ?_
            exact R_ireturn (Dat dd_Y_ofCause 24 rfl) rfl T
          · replace T := T.2.1 (by exact hc)
            refine R_aload_n (Dat dd_Y_ofCause 25 rfl) rfl rfl ?_
            refine R_getr (Dat dd_Y_ofCause 26 rfl) rfl rfl (tok S.t400) S.f400_22 (q := 423) rfl (tnz S.t423) ?_
            refine R_bipush (Dat dd_Y_ofCause 27 rfl) (a := 6) rfl ?_
            refine R_iload_n (Dat dd_Y_ofCause 28 rfl) rfl ?_
            refine R_imul (Dat dd_Y_ofCause 29 rfl) ?_
            refine R_iload_n (Dat dd_Y_ofCause 30 rfl) rfl ?_
            refine R_iadd (Dat dd_Y_ofCause 31 rfl) ?_
            obtain ⟨g10, T⟩ := T
            obtain ⟨g11, T⟩ := T
            refine R_iaload (Dat dd_Y_ofCause 32 rfl) (Or.inl S.t423) (lnle (show ln h 423 = 24 from S.l423) (by decide)) g10 (lnlt (show ln h 423 = 24 from S.l423) g11) ?_
            exact R_ireturn (Dat dd_Y_ofCause 33 rfl) rfl T
          · replace T := T.2.2 (by exact hc)
            refine R_aload_n (Dat dd_Y_ofCause 34 rfl) rfl rfl ?_
            refine R_getr (Dat dd_Y_ofCause 35 rfl) rfl rfl (tok S.t400) S.f400_23 (q := 424) rfl (tnz S.t424) ?_
            refine R_bipush (Dat dd_Y_ofCause 36 rfl) (a := 6) rfl ?_
            refine R_iload_n (Dat dd_Y_ofCause 37 rfl) rfl ?_
            refine R_imul (Dat dd_Y_ofCause 38 rfl) ?_
            refine R_iload_n (Dat dd_Y_ofCause 39 rfl) rfl ?_
            refine R_iadd (Dat dd_Y_ofCause 40 rfl) ?_
            obtain ⟨g12, T⟩ := T
            obtain ⟨g13, T⟩ := T
            refine R_iaload (Dat dd_Y_ofCause 41 rfl) (Or.inl S.t424) (lnle (show ln h 424 = 24 from S.l424) (by decide)) g12 (lnlt (show ln h 424 = 24 from S.l424) g13) ?_
            exact R_ireturn (Dat dd_Y_ofCause 42 rfl) rfl T
        · replace T := T.2 c
          refine R_bipush (Dat dd_Y_ofCause 43 rfl) (a := (-2)) rfl ?_
          exact R_ireturn (Dat dd_Y_ofCause 44 rfl) rfl T
      · replace T := T.2 c
        refine R_iconst (Dat dd_Y_ofCause 12 rfl) ?_
        exact R_ireturn (Dat dd_Y_ofCause 13 rfl) rfl T
def dl_Y_isLaw : List (Nat × Instr × Nat) := [(0, .iload_n 1, 1), (1, .ifCond .lt 15, 3), (4, .iload_n 1, 1), (5, .aload_n 0, 1), (6, .getfield 161, 3), (9, .if_icmp .ge 7, 3), (12, .iconst 1, 1), (13, .goto 4, 3), (16, .iconst 0, 1), (17, .ireturn, 1)]
theorem dd_Y_isLaw : Dall 152 dl_Y_isLaw = true := by decide +kernel
theorem t_Y_isLaw {h : Hp} {P : Value → Hp → Prop} {p0 : Int} (S : YS h) (T : (rng p0) ∧ ((p0 < 0 → P (.int (I 0)) h) ∧ (¬ p0 < 0 → (rng p0) ∧ (rng (iv h 400 18)) ∧ ((p0 < (iv h 400 18) → P (.int (I 1)) h) ∧ (¬ p0 < (iv h 400 18) → P (.int (I 0)) h))))) : R 152 0 [.ref 400, .int (I p0)] [] h P := by
  refine R_iload_n (Dat dd_Y_isLaw 0 rfl) rfl ?_
  obtain ⟨g1, T⟩ := T
  refine R_if_lt (Dat dd_Y_isLaw 1 rfl) rfl g1  (fun c => ?_) (fun c => ?_)
  · replace T := T.1 c
    refine R_iconst (Dat dd_Y_isLaw 8 rfl) ?_
    exact R_ireturn (Dat dd_Y_isLaw 9 rfl) rfl T
  · replace T := T.2 c
    refine R_iload_n (Dat dd_Y_isLaw 2 rfl) rfl ?_
    refine R_aload_n (Dat dd_Y_isLaw 3 rfl) rfl rfl ?_
    refine R_geti (Dat dd_Y_isLaw 4 rfl) rfl rfl (tok S.t400) ?_
    obtain ⟨g2, T⟩ := T
    obtain ⟨g3, T⟩ := T
    refine R_ic_ge (Dat dd_Y_isLaw 5 rfl) rfl g2 g3 (fun c => ?_) (fun c => ?_)
    · replace T := T.1 c
      refine R_iconst (Dat dd_Y_isLaw 6 rfl) ?_
      refine R_goto (Dat dd_Y_isLaw 7 rfl) rfl ?_
      exact R_ireturn (Dat dd_Y_isLaw 9 rfl) rfl T
    · replace T := T.2 c
      refine R_iconst (Dat dd_Y_isLaw 8 rfl) ?_
      exact R_ireturn (Dat dd_Y_isLaw 9 rfl) rfl T
def dl_Y_use : List (Nat × Instr × Nat) := [(0, .aload_n 0, 1), (1, .iload_n 1, 1), (2, .invokevirtual 170, 3), (5, .ifCond .ne 5, 3), (8, .iconst (-1), 1), (9, .ireturn, 1), (10, .aload_n 0, 1), (11, .getfield 173, 3), (14, .istore_n 2, 1), (15, .aload_n 0, 1), (16, .iload_n 1, 1), (17, .putfield 173, 3), (20, .iload_n 2, 1), (21, .ireturn, 1)]
theorem dd_Y_use : Dall 153 dl_Y_use = true := by decide +kernel
theorem t_Y_use {h : Hp} {P : Value → Hp → Prop} {p0 : Int} (S : YS h) (T : R 152 0 [.ref 400, .int (I p0)] [] h (fun v h2 => R 153 5 [.ref 400, .int (I p0), .retAddr 0] (v :: []) h2 P)) : R 153 0 [.ref 400, .int (I p0), .retAddr 0] [] h P := by
  refine R_aload_n (Dat dd_Y_use 0 rfl) rfl rfl ?_
  refine R_iload_n (Dat dd_Y_use 1 rfl) rfl ?_
  exact R_call1 (Dat dd_Y_use 2 rfl) rfl S.t400 rfl rfl rfl rfl rfl T
theorem t_Y_use_5 {h : Hp} {P : Value → Hp → Prop} {a1 s0 : Int} {a2 : Value} (S : YS h) (T : (rng s0) ∧ ((s0 = 0 → P (.int (I (-1))) h) ∧ (¬ s0 = 0 → P (.int (I (iv h 400 19))) (setI h 400 19 (wr a1))))) : R 153 5 [.ref 400, .int (I a1), a2] [.int (I s0)] h P := by
  obtain ⟨g1, T⟩ := T
  refine R_if_ne (Dat dd_Y_use 3 rfl) rfl g1  (fun c => ?_) (fun c => ?_)
  · replace T := T.1 c
    refine R_iconst (Dat dd_Y_use 4 rfl) ?_
    exact R_ireturn (Dat dd_Y_use 5 rfl) rfl T
  · replace T := T.2 c
    refine R_aload_n (Dat dd_Y_use 6 rfl) rfl rfl ?_
    refine R_geti (Dat dd_Y_use 7 rfl) rfl rfl (tok S.t400) ?_
    refine R_istore_n (Dat dd_Y_use 8 rfl) rfl rfl ?_
    refine R_aload_n (Dat dd_Y_use 9 rfl) rfl rfl ?_
    refine R_iload_n (Dat dd_Y_use 10 rfl) rfl ?_
    refine R_puti (Dat dd_Y_use 11 rfl) rfl rfl rfl (tok S.t400) rfl (v := wr a1) rfl ?_
    refine R_iload_n (Dat dd_Y_use 12 rfl) rfl ?_
    exact R_ireturn (Dat dd_Y_use 13 rfl) rfl T
def dl_Y_cause : List (Nat × Instr × Nat) := [(0, .aload_n 0, 1), (1, .iload_n 1, 1), (2, .invokevirtual 142, 3), (5, .ifCond .eq 11, 3), (8, .aload_n 0, 1), (9, .iload_n 2, 1), (10, .invokevirtual 142, 3), (13, .ifCond .ne 5, 3), (16, .iconst (-1), 1), (17, .ireturn, 1), (18, .iload_n 1, 1), (19, .iload_n 2, 1), (20, .if_icmp .eq 25, 3), (23, .iload_n 3, 1), (24, .iconst 0, 1), (25, .aload_n 0, 1), (26, .getfield 92, 3), (29, .iconst 2, 1), (30, .isub, 1), (31, .invokestatic 88, 3), (34, .ifCond .eq 11, 3), (37, .iload 4, 2), (39, .invokestatic 180, 3), (42, .ifCond .ne 6, 3), (45, .bipush (-2), 2), (47, .ireturn, 1), (48, .aload_n 0, 1), (49, .getfield 161, 3), (52, .ifCond .ne 8, 3), (55, .bipush (-3), 2), (57, .goto 16, 3), (60, .aload_n 0, 1), (61, .aload_n 0, 1), (62, .getfield 173, 3), (65, .iload_n 1, 1), (66, .iload_n 2, 1), (67, .iload_n 3, 1), (68, .iload 4, 2), (70, .invokevirtual 183, 3), (73, .ireturn, 1)]
theorem dd_Y_cause : Dall 154 dl_Y_cause = true := by decide +kernel
theorem t_Y_cause {h : Hp} {P : Value → Hp → Prop} {p0 p1 p2 p3 : Int} (S : YS h) (T : R 137 0 [.ref 400, .int (I p0)] [] h (fun v h2 => R 154 5 [.ref 400, .int (I p0), .int (I p1), .int (I p2), .int (I p3)] (v :: []) h2 P)) : R 154 0 [.ref 400, .int (I p0), .int (I p1), .int (I p2), .int (I p3)] [] h P := by
  refine R_aload_n (Dat dd_Y_cause 0 rfl) rfl rfl ?_
  refine R_iload_n (Dat dd_Y_cause 1 rfl) rfl ?_
  exact R_call1 (Dat dd_Y_cause 2 rfl) rfl S.t400 rfl rfl rfl rfl rfl T
theorem t_Y_cause_5 {h : Hp} {P : Value → Hp → Prop} {a1 a2 a3 a4 s0 : Int} (S : YS h) (T : (rng s0) ∧ ((s0 = 0 → P (.int (I (-1))) h) ∧ (¬ s0 = 0 → R 137 0 [.ref 400, .int (I a2)] [] h (fun v h2 => R 154 13 [.ref 400, .int (I a1), .int (I a2), .int (I a3), .int (I a4)] (v :: []) h2 P)))) : R 154 5 [.ref 400, .int (I a1), .int (I a2), .int (I a3), .int (I a4)] [.int (I s0)] h P := by
  obtain ⟨g1, T⟩ := T
  refine R_if_eq (Dat dd_Y_cause 3 rfl) rfl g1  (fun c => ?_) (fun c => ?_)
  · replace T := T.1 c
    refine R_iconst (Dat dd_Y_cause 8 rfl) ?_
    exact R_ireturn (Dat dd_Y_cause 9 rfl) rfl T
  · replace T := T.2 c
    refine R_aload_n (Dat dd_Y_cause 4 rfl) rfl rfl ?_
    refine R_iload_n (Dat dd_Y_cause 5 rfl) rfl ?_
    exact R_call1 (Dat dd_Y_cause 6 rfl) rfl S.t400 rfl rfl rfl rfl rfl T
theorem t_Y_cause_13 {h : Hp} {P : Value → Hp → Prop} {a1 a2 a3 a4 s0 : Int} (S : YS h) (T : (rng s0) ∧ ((s0 = 0 → P (.int (I (-1))) h) ∧ (¬ s0 = 0 → (rng a1) ∧ (rng a2) ∧ ((a1 = a2 → P (.int (I (-2))) h) ∧ (¬ a1 = a2 → R 129 0 [.int (I a3), .int (I 0), .int (I ((iv h 400 5) - 2))] [] h (fun v h2 => R 154 34 [.ref 400, .int (I a1), .int (I a2), .int (I a3), .int (I a4)] (v :: []) h2 P)))))) : R 154 13 [.ref 400, .int (I a1), .int (I a2), .int (I a3), .int (I a4)] [.int (I s0)] h P := by
  obtain ⟨g1, T⟩ := T
  refine R_if_ne (Dat dd_Y_cause 7 rfl) rfl g1  (fun c => ?_) (fun c => ?_)
  · replace T := T.1 c
    refine R_iconst (Dat dd_Y_cause 8 rfl) ?_
    exact R_ireturn (Dat dd_Y_cause 9 rfl) rfl T
  · replace T := T.2 c
    refine R_iload_n (Dat dd_Y_cause 10 rfl) rfl ?_
    refine R_iload_n (Dat dd_Y_cause 11 rfl) rfl ?_
    obtain ⟨g2, T⟩ := T
    obtain ⟨g3, T⟩ := T
    refine R_ic_eq (Dat dd_Y_cause 12 rfl) rfl g2 g3 (fun c => ?_) (fun c => ?_)
    · replace T := T.1 c
      refine R_bipush (Dat dd_Y_cause 24 rfl) (a := (-2)) rfl ?_
      exact R_ireturn (Dat dd_Y_cause 25 rfl) rfl T
    · replace T := T.2 c
      refine R_iload_n (Dat dd_Y_cause 13 rfl) rfl ?_
      refine R_iconst (Dat dd_Y_cause 14 rfl) ?_
      refine R_aload_n (Dat dd_Y_cause 15 rfl) rfl rfl ?_
      refine R_geti (Dat dd_Y_cause 16 rfl) rfl rfl (tok S.t400) ?_
      refine R_iconst (Dat dd_Y_cause 17 rfl) ?_
      refine R_isub (Dat dd_Y_cause 18 rfl) ?_
      exact R_call0 (Dat dd_Y_cause 19 rfl) rfl rfl rfl rfl rfl rfl T
theorem t_Y_cause_34 {h : Hp} {P : Value → Hp → Prop} {a1 a2 a3 a4 s0 : Int} (S : YS h) (T : (rng s0) ∧ ((s0 = 0 → P (.int (I (-2))) h) ∧ (¬ s0 = 0 → R 155 0 [.int (I a4)] [] h (fun v h2 => R 154 42 [.ref 400, .int (I a1), .int (I a2), .int (I a3), .int (I a4)] (v :: []) h2 P)))) : R 154 34 [.ref 400, .int (I a1), .int (I a2), .int (I a3), .int (I a4)] [.int (I s0)] h P := by
  obtain ⟨g1, T⟩ := T
  refine R_if_eq (Dat dd_Y_cause 20 rfl) rfl g1  (fun c => ?_) (fun c => ?_)
  · replace T := T.1 c
    refine R_bipush (Dat dd_Y_cause 24 rfl) (a := (-2)) rfl ?_
    exact R_ireturn (Dat dd_Y_cause 25 rfl) rfl T
  · replace T := T.2 c
    refine R_iload (Dat dd_Y_cause 21 rfl) rfl ?_
    exact R_call0 (Dat dd_Y_cause 22 rfl) rfl rfl rfl rfl rfl rfl T
theorem t_Y_cause_42 {h : Hp} {P : Value → Hp → Prop} {a1 a2 a3 a4 s0 : Int} (S : YS h) (T : (rng s0) ∧ ((s0 = 0 → P (.int (I (-2))) h) ∧ (¬ s0 = 0 → (rng (iv h 400 18)) ∧ (((iv h 400 18) = 0 → P (.int (I (-3))) h) ∧ (¬ (iv h 400 18) = 0 → R 156 0 [.ref 400, .int (I (iv h 400 19)), .int (I a1), .int (I a2), .int (I a3), .int (I a4), .retAddr 0, .retAddr 0] [] h (fun v h2 => R 154 73 [.ref 400, .int (I a1), .int (I a2), .int (I a3), .int (I a4)] (v :: []) h2 P)))))) : R 154 42 [.ref 400, .int (I a1), .int (I a2), .int (I a3), .int (I a4)] [.int (I s0)] h P := by
  obtain ⟨g1, T⟩ := T
  refine R_if_ne (Dat dd_Y_cause 23 rfl) rfl g1  (fun c => ?_) (fun c => ?_)
  · replace T := T.1 c
    refine R_bipush (Dat dd_Y_cause 24 rfl) (a := (-2)) rfl ?_
    exact R_ireturn (Dat dd_Y_cause 25 rfl) rfl T
  · replace T := T.2 c
    refine R_aload_n (Dat dd_Y_cause 26 rfl) rfl rfl ?_
    refine R_geti (Dat dd_Y_cause 27 rfl) rfl rfl (tok S.t400) ?_
    obtain ⟨g2, T⟩ := T
    refine R_if_ne (Dat dd_Y_cause 28 rfl) rfl g2  (fun c => ?_) (fun c => ?_)
    · replace T := T.1 c
      refine R_bipush (Dat dd_Y_cause 29 rfl) (a := (-3)) rfl ?_
      refine R_goto (Dat dd_Y_cause 30 rfl) rfl ?_
      exact R_ireturn (Dat dd_Y_cause 39 rfl) rfl T
    · replace T := T.2 c
      refine R_aload_n (Dat dd_Y_cause 31 rfl) rfl rfl ?_
      refine R_aload_n (Dat dd_Y_cause 32 rfl) rfl rfl ?_
      refine R_geti (Dat dd_Y_cause 33 rfl) rfl rfl (tok S.t400) ?_
      refine R_iload_n (Dat dd_Y_cause 34 rfl) rfl ?_
      refine R_iload_n (Dat dd_Y_cause 35 rfl) rfl ?_
      refine R_iload_n (Dat dd_Y_cause 36 rfl) rfl ?_
      refine R_iload (Dat dd_Y_cause 37 rfl) rfl ?_
      exact R_call1 (Dat dd_Y_cause 38 rfl) rfl S.t400 rfl rfl rfl rfl rfl T
theorem t_Y_cause_73 {h : Hp} {P : Value → Hp → Prop} {s0 : Int} {a0 a1 a2 a3 a4 : Value} (S : YS h) (T : P (.int (I s0)) h) : R 154 73 [a0, a1, a2, a3, a4] [.int (I s0)] h P := by
  exact R_ireturn (Dat dd_Y_cause 39 rfl) rfl T
def dl_Y_isHard : List (Nat × Instr × Nat) := [(0, .iload_n 0, 1), (1, .iconst 1, 1), (2, .iconst 3, 1), (3, .invokestatic 88, 3), (6, .ireturn, 1)]
theorem dd_Y_isHard : Dall 155 dl_Y_isHard = true := by decide +kernel
theorem t_Y_isHard {h : Hp} {P : Value → Hp → Prop} {p0 : Int} (T : R 129 0 [.int (I p0), .int (I 1), .int (I 3)] [] h (fun v h2 => R 155 6 [.int (I p0)] (v :: []) h2 P)) : R 155 0 [.int (I p0)] [] h P := by
  refine R_iload_n (Dat dd_Y_isHard 0 rfl) rfl ?_
  refine R_iconst (Dat dd_Y_isHard 1 rfl) ?_
  refine R_iconst (Dat dd_Y_isHard 2 rfl) ?_
  exact R_call0 (Dat dd_Y_isHard 3 rfl) rfl rfl rfl rfl rfl rfl T
theorem t_Y_isHard_6 {h : Hp} {P : Value → Hp → Prop} {s0 : Int} {a0 : Value} (T : (bz (I s0) = true) ∧ P (.int (I s0)) h) : R 155 6 [a0] [.int (I s0)] h P := by
  obtain ⟨g1, T⟩ := T
  exact R_ireturn (Dat dd_Y_isHard 4 rfl) (by rw [g1]; rfl) T
def dl_Y_ruling : List (Nat × Instr × Nat) := [(0, .iconst 0, 1), (1, .istore 6, 2), (3, .iload 6, 2), (5, .aload_n 0, 1), (6, .getfield 40, 3), (9, .iload_n 1, 1), (10, .iaload, 1), (11, .if_icmp .ge 67, 3), (14, .bipush 6, 2), (16, .iload_n 1, 1), (17, .imul, 1), (18, .iload 6, 2), (20, .iadd, 1), (21, .istore 7, 2), (23, .iload 6, 2), (25, .aload_n 0, 1), (26, .getfield 52, 3), (29, .if_icmp .eq 43, 3), (32, .aload_n 0, 1), (33, .getfield 49, 3), (36, .iload 7, 2), (38, .iaload, 1), (39, .iload 5, 2), (41, .if_icmp .gt 31, 3), (44, .aload_n 0, 1), (45, .aload_n 0, 1), (46, .getfield 43, 3), (49, .iload 7, 2), (51, .iaload, 1), (52, .aload_n 0, 1), (53, .getfield 46, 3), (56, .iload 7, 2), (58, .iaload, 1), (59, .iload_n 2, 1), (60, .iload_n 3, 1), (61, .iload 4, 2), (63, .invokevirtual 176, 3), (66, .ifCond .eq 6, 3), (69, .iload 6, 2), (71, .ireturn, 1), (72, .iinc 6 1, 3), (75, .goto (-72), 3), (78, .bipush (-9), 2), (80, .ireturn, 1)]
theorem dd_Y_ruling : Dall 156 dl_Y_ruling = true := by decide +kernel
theorem t_Y_ruling {h : Hp} {P : Value → Hp → Prop} {p0 p1 p2 p3 p4 : Int} (S : YS h) (T : R 156 3 [.ref 400, .int (I p0), .int (I p1), .int (I p2), .int (I p3), .int (I p4), .int (I 0), .retAddr 0] [] h P) : R 156 0 [.ref 400, .int (I p0), .int (I p1), .int (I p2), .int (I p3), .int (I p4), .retAddr 0, .retAddr 0] [] h P := by
  refine R_iconst (Dat dd_Y_ruling 0 rfl) ?_
  refine R_istore (Dat dd_Y_ruling 1 rfl) rfl rfl ?_
  exact T
theorem t_Y_ruling_3 {h : Hp} {P : Value → Hp → Prop} {a1 a2 a3 a4 a5 a6 : Int} {a7 : Value} (S : YS h) (T : (0 ≤ a1) ∧ (a1 < 4) ∧ (rng a6) ∧ (rng (iv h 421 a1)) ∧ ((a6 < (iv h 421 a1) → (rng a6) ∧ (rng (iv h 400 24)) ∧ ((a6 = (iv h 400 24) → R 156 3 [.ref 400, .int (I a1), .int (I a2), .int (I a3), .int (I a4), .int (I a5), .int (I (a6 + 1)), .int (I ((6 * a1) + a6))] [] h P) ∧ (¬ a6 = (iv h 400 24) → (0 ≤ ((6 * a1) + a6)) ∧ (((6 * a1) + a6) < 24) ∧ (rng (iv h 424 ((6 * a1) + a6))) ∧ (rng a5) ∧ ((a5 < (iv h 424 ((6 * a1) + a6)) → R 156 3 [.ref 400, .int (I a1), .int (I a2), .int (I a3), .int (I a4), .int (I a5), .int (I (a6 + 1)), .int (I ((6 * a1) + a6))] [] h P) ∧ (¬ a5 < (iv h 424 ((6 * a1) + a6)) → (0 ≤ ((6 * a1) + a6)) ∧ (((6 * a1) + a6) < 24) ∧ (0 ≤ ((6 * a1) + a6)) ∧ (((6 * a1) + a6) < 24) ∧ R 157 0 [.ref 400, .int (I (iv h 422 ((6 * a1) + a6))), .int (I (iv h 423 ((6 * a1) + a6))), .int (I a2), .int (I a3), .int (I a4), .retAddr 0] [] h (fun v h2 => R 156 66 [.ref 400, .int (I a1), .int (I a2), .int (I a3), .int (I a4), .int (I a5), .int (I a6), .int (I ((6 * a1) + a6))] (v :: []) h2 P)))))) ∧ (¬ a6 < (iv h 421 a1) → P (.int (I (-9))) h))) : R 156 3 [.ref 400, .int (I a1), .int (I a2), .int (I a3), .int (I a4), .int (I a5), .int (I a6), a7] [] h P := by
  refine R_iload (Dat dd_Y_ruling 2 rfl) rfl ?_
  refine R_aload_n (Dat dd_Y_ruling 3 rfl) rfl rfl ?_
  refine R_getr (Dat dd_Y_ruling 4 rfl) rfl rfl (tok S.t400) S.f400_20 (q := 421) rfl (tnz S.t421) ?_
  refine R_iload_n (Dat dd_Y_ruling 5 rfl) rfl ?_
  obtain ⟨g1, T⟩ := T
  obtain ⟨g2, T⟩ := T
  refine R_iaload (Dat dd_Y_ruling 6 rfl) (Or.inl S.t421) (lnle (show ln h 421 = 4 from S.l421) (by decide)) g1 (lnlt (show ln h 421 = 4 from S.l421) g2) ?_
  obtain ⟨g3, T⟩ := T
  obtain ⟨g4, T⟩ := T
  refine R_ic_ge (Dat dd_Y_ruling 7 rfl) rfl g3 g4 (fun c => ?_) (fun c => ?_)
  · replace T := T.1 c
    refine R_bipush (Dat dd_Y_ruling 8 rfl) (a := 6) rfl ?_
    refine R_iload_n (Dat dd_Y_ruling 9 rfl) rfl ?_
    refine R_imul (Dat dd_Y_ruling 10 rfl) ?_
    refine R_iload (Dat dd_Y_ruling 11 rfl) rfl ?_
    refine R_iadd (Dat dd_Y_ruling 12 rfl) ?_
    refine R_istore (Dat dd_Y_ruling 13 rfl) rfl rfl ?_
    refine R_iload (Dat dd_Y_ruling 14 rfl) rfl ?_
    refine R_aload_n (Dat dd_Y_ruling 15 rfl) rfl rfl ?_
    refine R_geti (Dat dd_Y_ruling 16 rfl) rfl rfl (tok S.t400) ?_
    obtain ⟨g5, T⟩ := T
    obtain ⟨g6, T⟩ := T
    refine R_ic_eq (Dat dd_Y_ruling 17 rfl) rfl g5 g6 (fun c => ?_) (fun c => ?_)
    · replace T := T.1 c
      refine R_iinc (Dat dd_Y_ruling 40 rfl) rfl rfl rfl ?_
      refine R_goto (Dat dd_Y_ruling 41 rfl) rfl ?_
      exact T
    · replace T := T.2 c
      refine R_aload_n (Dat dd_Y_ruling 18 rfl) rfl rfl ?_
      refine R_getr (Dat dd_Y_ruling 19 rfl) rfl rfl (tok S.t400) S.f400_23 (q := 424) rfl (tnz S.t424) ?_
      refine R_iload (Dat dd_Y_ruling 20 rfl) rfl ?_
      obtain ⟨g7, T⟩ := T
      obtain ⟨g8, T⟩ := T
      refine R_iaload (Dat dd_Y_ruling 21 rfl) (Or.inl S.t424) (lnle (show ln h 424 = 24 from S.l424) (by decide)) g7 (lnlt (show ln h 424 = 24 from S.l424) g8) ?_
      refine R_iload (Dat dd_Y_ruling 22 rfl) rfl ?_
      obtain ⟨g9, T⟩ := T
      obtain ⟨g10, T⟩ := T
      refine R_ic_gt (Dat dd_Y_ruling 23 rfl) rfl g9 g10 (fun c => ?_) (fun c => ?_)
      · replace T := T.1 c
        refine R_iinc (Dat dd_Y_ruling 40 rfl) rfl rfl rfl ?_
        refine R_goto (Dat dd_Y_ruling 41 rfl) rfl ?_
        exact T
      · replace T := T.2 c
        refine R_aload_n (Dat dd_Y_ruling 24 rfl) rfl rfl ?_
        refine R_aload_n (Dat dd_Y_ruling 25 rfl) rfl rfl ?_
        refine R_getr (Dat dd_Y_ruling 26 rfl) rfl rfl (tok S.t400) S.f400_21 (q := 422) rfl (tnz S.t422) ?_
        refine R_iload (Dat dd_Y_ruling 27 rfl) rfl ?_
        obtain ⟨g11, T⟩ := T
        obtain ⟨g12, T⟩ := T
        refine R_iaload (Dat dd_Y_ruling 28 rfl) (Or.inl S.t422) (lnle (show ln h 422 = 24 from S.l422) (by decide)) g11 (lnlt (show ln h 422 = 24 from S.l422) g12) ?_
        refine R_aload_n (Dat dd_Y_ruling 29 rfl) rfl rfl ?_
        refine R_getr (Dat dd_Y_ruling 30 rfl) rfl rfl (tok S.t400) S.f400_22 (q := 423) rfl (tnz S.t423) ?_
        refine R_iload (Dat dd_Y_ruling 31 rfl) rfl ?_
        obtain ⟨g13, T⟩ := T
        obtain ⟨g14, T⟩ := T
        refine R_iaload (Dat dd_Y_ruling 32 rfl) (Or.inl S.t423) (lnle (show ln h 423 = 24 from S.l423) (by decide)) g13 (lnlt (show ln h 423 = 24 from S.l423) g14) ?_
        refine R_iload_n (Dat dd_Y_ruling 33 rfl) rfl ?_
        refine R_iload_n (Dat dd_Y_ruling 34 rfl) rfl ?_
        refine R_iload (Dat dd_Y_ruling 35 rfl) rfl ?_
        exact R_call1 (Dat dd_Y_ruling 36 rfl) rfl S.t400 rfl rfl rfl rfl rfl T
  · replace T := T.2 c
    refine R_bipush (Dat dd_Y_ruling 42 rfl) (a := (-9)) rfl ?_
    exact R_ireturn (Dat dd_Y_ruling 43 rfl) rfl T
theorem t_Y_ruling_66 {h : Hp} {P : Value → Hp → Prop} {a1 a2 a3 a4 a5 a6 s0 : Int} {a7 : Value} (S : YS h) (T : (rng s0) ∧ ((s0 = 0 → R 156 3 [.ref 400, .int (I a1), .int (I a2), .int (I a3), .int (I a4), .int (I a5), .int (I (a6 + 1)), a7] [] h P) ∧ (¬ s0 = 0 → P (.int (I a6)) h))) : R 156 66 [.ref 400, .int (I a1), .int (I a2), .int (I a3), .int (I a4), .int (I a5), .int (I a6), a7] [.int (I s0)] h P := by
  obtain ⟨g1, T⟩ := T
  refine R_if_eq (Dat dd_Y_ruling 37 rfl) rfl g1  (fun c => ?_) (fun c => ?_)
  · replace T := T.1 c
    refine R_iinc (Dat dd_Y_ruling 40 rfl) rfl rfl rfl ?_
    refine R_goto (Dat dd_Y_ruling 41 rfl) rfl ?_
    exact T
  · replace T := T.2 c
    refine R_iload (Dat dd_Y_ruling 38 rfl) rfl ?_
    exact R_ireturn (Dat dd_Y_ruling 39 rfl) rfl T
def dl_Y_isSo : List (Nat × Instr × Nat) := [(0, .iload_n 1, 1), (1, .tableswitch 179 0 4 #[35, 57, 93, 136, 167], 35), (36, .aload_n 0, 1), (37, .iload_n 3, 1), (38, .invokevirtual 145, 3), (41, .aload_n 0, 1), (42, .iload 4, 2), (44, .invokevirtual 145, 3), (47, .iload_n 2, 1), (48, .iadd, 1), (49, .if_icmp .lt 7, 3), (52, .iconst 1, 1), (53, .goto 4, 3), (56, .iconst 0, 1), (57, .ireturn, 1), (58, .aload_n 0, 1), (59, .iload 4, 2), (61, .invokevirtual 148, 3), (64, .aload_n 0, 1), (65, .iload_n 3, 1), (66, .invokevirtual 148, 3), (69, .iload_n 2, 1), (70, .iadd, 1), (71, .if_icmp .lt 21, 3), (74, .aload_n 0, 1), (75, .iload 4, 2), (77, .invokevirtual 148, 3), (80, .aload_n 0, 1), (81, .iload_n 3, 1), (82, .invokevirtual 148, 3), (85, .if_icmp .le 7, 3), (88, .iconst 1, 1), (89, .goto 4, 3), (92, .iconst 0, 1), (93, .ireturn, 1), (94, .aload_n 0, 1), (95, .iload_n 3, 1), (96, .invokevirtual 145, 3), (99, .iload_n 2, 1), (100, .if_icmp .lt 35, 3), (103, .aload_n 0, 1), (104, .iload_n 3, 1), (105, .invokevirtual 148, 3), (108, .aload_n 0, 1), (109, .iload 4, 2), (111, .invokevirtual 148, 3), (114, .if_icmp .lt 21, 3), (117, .aload_n 0, 1), (118, .iload_n 3, 1), (119, .invokevirtual 145, 3), (122, .aload_n 0, 1), (123, .iload 4, 2), (125, .invokevirtual 145, 3), (128, .if_icmp .le 7, 3), (131, .iconst 1, 1), (132, .goto 4, 3), (135, .iconst 0, 1), (136, .ireturn, 1), (137, .aload_n 0, 1), (138, .getfield 25, 3), (141, .iload_n 3, 1), (142, .iaload, 1), (143, .ifCond .le 23, 3), (146, .aload_n 0, 1), (147, .getfield 25, 3), (150, .iload 4, 2), (152, .iaload, 1), (153, .ifCond .ne 13, 3), (156, .iload 5, 2), (158, .iload_n 2, 1), (159, .if_icmp .ge 7, 3), (162, .iconst 1, 1), (163, .goto 4, 3), (166, .iconst 0, 1), (167, .ireturn, 1), (168, .iload 5, 2), (170, .iload_n 2, 1), (171, .if_icmp .lt 7, 3), (174, .iconst 1, 1), (175, .goto 4, 3), (178, .iconst 0, 1), (179, .ireturn, 1), (180, .aload_n 0, 1), (181, .iload_n 3, 1), (182, .invokevirtual 148, 3), (185, .aload_n 0, 1), (186, .iload 4, 2), (188, .invokevirtual 148, 3), (191, .isub, 1), (192, .istore 6, 2), (194, .iload 6, 2), (196, .ifCond .ge 9, 3), (199, .iload 6, 2), (201, .ineg, 1), (202, .goto 5, 3), (205, .iload 6, 2), (207, .iload_n 2, 1), (208, .if_icmp .ge 7, 3), (211, .iconst 1, 1), (212, .goto 4, 3), (215, .iconst 0, 1), (216, .ireturn, 1)]
theorem dd_Y_isSo : Dall 157 dl_Y_isSo = true := by decide +kernel
theorem t_Y_isSo {h : Hp} {P : Value → Hp → Prop} {p0 p1 p2 p3 p4 : Int} (S : YS h) (T : (rng p0) ∧ (((p0 = 0 → R 138 0 [.ref 400, .int (I p2)] [] h (fun v h2 => R 157 41 [.ref 400, .int (I p0), .int (I p1), .int (I p2), .int (I p3), .int (I p4), .retAddr 0] (v :: []) h2 P)) ∧ (p0 = 1 → R 139 0 [.ref 400, .int (I p3)] [] h (fun v h2 => R 157 64 [.ref 400, .int (I p0), .int (I p1), .int (I p2), .int (I p3), .int (I p4), .retAddr 0] (v :: []) h2 P)) ∧ (p0 = 2 → R 138 0 [.ref 400, .int (I p2)] [] h (fun v h2 => R 157 99 [.ref 400, .int (I p0), .int (I p1), .int (I p2), .int (I p3), .int (I p4), .retAddr 0] (v :: []) h2 P)) ∧ (p0 = 3 → (0 ≤ p2) ∧ (p2 < 7) ∧ (rng (iv h 412 p2)) ∧ (((0 : Int) < (iv h 412 p2) → (0 ≤ p3) ∧ (p3 < 7) ∧ (rng (iv h 412 p3)) ∧ (((iv h 412 p3) = 0 → (rng p4) ∧ (rng p1) ∧ ((p4 < p1 → P (.int (I 1)) h) ∧ (¬ p4 < p1 → P (.int (I 0)) h))) ∧ (¬ (iv h 412 p3) = 0 → P (.int (I 0)) h))) ∧ (¬ (0 : Int) < (iv h 412 p2) → P (.int (I 0)) h))) ∧ (p0 = 4 → (rng p4) ∧ (rng p1) ∧ ((p4 < p1 → P (.int (I 0)) h) ∧ (¬ p4 < p1 → P (.int (I 1)) h)))) ∧ (p0 < 0 ∨ 4 < p0 → R 139 0 [.ref 400, .int (I p2)] [] h (fun v h2 => R 157 185 [.ref 400, .int (I p0), .int (I p1), .int (I p2), .int (I p3), .int (I p4), .retAddr 0] (v :: []) h2 P)))) : R 157 0 [.ref 400, .int (I p0), .int (I p1), .int (I p2), .int (I p3), .int (I p4), .retAddr 0] [] h P := by
  refine R_iload_n (Dat dd_Y_isSo 0 rfl) rfl ?_
  obtain ⟨g1, T⟩ := T
  refine R_tsw (lo := 0) (hi := 4) (Dat dd_Y_isSo 1 rfl) (td := 180) (ts := [36, 58, 94, 137, 168]) g1 rfl rfl rfl rfl (fun i hi hc => ?_) (fun c => ?_)
  · obtain ⟨T, -⟩ := T
    have hi : i < 5 := hi
    rcases (show i = 0 ∨ i = 1 ∨ i = 2 ∨ i = 3 ∨ i = 4 by omega) with rfl | rfl | rfl | rfl | rfl
    · replace T := T.1 (by exact hc)
      refine R_aload_n (Dat dd_Y_isSo 2 rfl) rfl rfl ?_
      refine R_iload_n (Dat dd_Y_isSo 3 rfl) rfl ?_
      exact R_call1 (Dat dd_Y_isSo 4 rfl) rfl S.t400 rfl rfl rfl rfl rfl T
    · replace T := T.2.1 (by exact hc)
      refine R_aload_n (Dat dd_Y_isSo 15 rfl) rfl rfl ?_
      refine R_iload (Dat dd_Y_isSo 16 rfl) rfl ?_
      exact R_call1 (Dat dd_Y_isSo 17 rfl) rfl S.t400 rfl rfl rfl rfl rfl T
    · replace T := T.2.2.1 (by exact hc)
      refine R_aload_n (Dat dd_Y_isSo 35 rfl) rfl rfl ?_
      refine R_iload_n (Dat dd_Y_isSo 36 rfl) rfl ?_
      exact R_call1 (Dat dd_Y_isSo 37 rfl) rfl S.t400 rfl rfl rfl rfl rfl T
    · replace T := T.2.2.2.1 (by exact hc)
      refine R_aload_n (Dat dd_Y_isSo 58 rfl) rfl rfl ?_
      refine R_getr (Dat dd_Y_isSo 59 rfl) rfl rfl (tok S.t400) S.f400_11 (q := 412) rfl (tnz S.t412) ?_
      refine R_iload_n (Dat dd_Y_isSo 60 rfl) rfl ?_
      obtain ⟨g2, T⟩ := T
      obtain ⟨g3, T⟩ := T
      refine R_iaload (Dat dd_Y_isSo 61 rfl) (Or.inl S.t412) (lnle (show ln h 412 = 7 from S.l412) (by decide)) g2 (lnlt (show ln h 412 = 7 from S.l412) g3) ?_
      obtain ⟨g4, T⟩ := T
      refine R_if_le (Dat dd_Y_isSo 62 rfl) rfl g4  (fun c => ?_) (fun c => ?_)
      · replace T := T.1 c
        refine R_aload_n (Dat dd_Y_isSo 63 rfl) rfl rfl ?_
        refine R_getr (Dat dd_Y_isSo 64 rfl) rfl rfl (tok S.t400) S.f400_11 (q := 412) rfl (tnz S.t412) ?_
        refine R_iload (Dat dd_Y_isSo 65 rfl) rfl ?_
        obtain ⟨g5, T⟩ := T
        obtain ⟨g6, T⟩ := T
        refine R_iaload (Dat dd_Y_isSo 66 rfl) (Or.inl S.t412) (lnle (show ln h 412 = 7 from S.l412) (by decide)) g5 (lnlt (show ln h 412 = 7 from S.l412) g6) ?_
        obtain ⟨g7, T⟩ := T
        refine R_if_ne (Dat dd_Y_isSo 67 rfl) rfl g7  (fun c => ?_) (fun c => ?_)
        · replace T := T.1 c
          refine R_iload (Dat dd_Y_isSo 68 rfl) rfl ?_
          refine R_iload_n (Dat dd_Y_isSo 69 rfl) rfl ?_
          obtain ⟨g8, T⟩ := T
          obtain ⟨g9, T⟩ := T
          refine R_ic_ge (Dat dd_Y_isSo 70 rfl) rfl g8 g9 (fun c => ?_) (fun c => ?_)
          · replace T := T.1 c
            refine R_iconst (Dat dd_Y_isSo 71 rfl) ?_
            refine R_goto (Dat dd_Y_isSo 72 rfl) rfl ?_
            exact R_ireturn (Dat dd_Y_isSo 74 rfl) rfl T
          · replace T := T.2 c
            refine R_iconst (Dat dd_Y_isSo 73 rfl) ?_
            exact R_ireturn (Dat dd_Y_isSo 74 rfl) rfl T
        · replace T := T.2 c
          refine R_iconst (Dat dd_Y_isSo 73 rfl) ?_
          exact R_ireturn (Dat dd_Y_isSo 74 rfl) rfl T
      · replace T := T.2 c
        refine R_iconst (Dat dd_Y_isSo 73 rfl) ?_
        exact R_ireturn (Dat dd_Y_isSo 74 rfl) rfl T
    · replace T := T.2.2.2.2 (by exact hc)
      refine R_iload (Dat dd_Y_isSo 75 rfl) rfl ?_
      refine R_iload_n (Dat dd_Y_isSo 76 rfl) rfl ?_
      obtain ⟨g10, T⟩ := T
      obtain ⟨g11, T⟩ := T
      refine R_ic_lt (Dat dd_Y_isSo 77 rfl) rfl g10 g11 (fun c => ?_) (fun c => ?_)
      · replace T := T.1 c
        refine R_iconst (Dat dd_Y_isSo 80 rfl) ?_
        exact R_ireturn (Dat dd_Y_isSo 81 rfl) rfl T
      · replace T := T.2 c
        refine R_iconst (Dat dd_Y_isSo 78 rfl) ?_
        refine R_goto (Dat dd_Y_isSo 79 rfl) rfl ?_
        exact R_ireturn (Dat dd_Y_isSo 81 rfl) rfl T
  · replace T := T.2 c
    refine R_aload_n (Dat dd_Y_isSo 82 rfl) rfl rfl ?_
    refine R_iload_n (Dat dd_Y_isSo 83 rfl) rfl ?_
    exact R_call1 (Dat dd_Y_isSo 84 rfl) rfl S.t400 rfl rfl rfl rfl rfl T
theorem t_Y_isSo_41 {h : Hp} {P : Value → Hp → Prop} {a2 a4 s0 : Int} {a1 a3 a5 a6 : Value} (S : YS h) (T : R 138 0 [.ref 400, .int (I a4)] [] h (fun v h2 => R 157 47 [.ref 400, a1, .int (I a2), a3, .int (I a4), a5, a6] (v :: [.int (I s0)]) h2 P)) : R 157 41 [.ref 400, a1, .int (I a2), a3, .int (I a4), a5, a6] [.int (I s0)] h P := by
  refine R_aload_n (Dat dd_Y_isSo 5 rfl) rfl rfl ?_
  refine R_iload (Dat dd_Y_isSo 6 rfl) rfl ?_
  exact R_call1 (Dat dd_Y_isSo 7 rfl) rfl S.t400 rfl rfl rfl rfl rfl T
theorem t_Y_isSo_64 {h : Hp} {P : Value → Hp → Prop} {a2 a3 a4 s0 : Int} {a1 a5 a6 : Value} (S : YS h) (T : R 139 0 [.ref 400, .int (I a3)] [] h (fun v h2 => R 157 69 [.ref 400, a1, .int (I a2), .int (I a3), .int (I a4), a5, a6] (v :: [.int (I s0)]) h2 P)) : R 157 64 [.ref 400, a1, .int (I a2), .int (I a3), .int (I a4), a5, a6] [.int (I s0)] h P := by
  refine R_aload_n (Dat dd_Y_isSo 18 rfl) rfl rfl ?_
  refine R_iload_n (Dat dd_Y_isSo 19 rfl) rfl ?_
  exact R_call1 (Dat dd_Y_isSo 20 rfl) rfl S.t400 rfl rfl rfl rfl rfl T
theorem t_Y_isSo_99 {h : Hp} {P : Value → Hp → Prop} {a2 a3 a4 s0 : Int} {a1 a5 a6 : Value} (S : YS h) (T : (rng s0) ∧ (rng a2) ∧ ((s0 < a2 → P (.int (I 0)) h) ∧ (¬ s0 < a2 → R 139 0 [.ref 400, .int (I a3)] [] h (fun v h2 => R 157 108 [.ref 400, a1, .int (I a2), .int (I a3), .int (I a4), a5, a6] (v :: []) h2 P)))) : R 157 99 [.ref 400, a1, .int (I a2), .int (I a3), .int (I a4), a5, a6] [.int (I s0)] h P := by
  refine R_iload_n (Dat dd_Y_isSo 38 rfl) rfl ?_
  obtain ⟨g1, T⟩ := T
  obtain ⟨g2, T⟩ := T
  refine R_ic_lt (Dat dd_Y_isSo 39 rfl) rfl g1 g2 (fun c => ?_) (fun c => ?_)
  · replace T := T.1 c
    refine R_iconst (Dat dd_Y_isSo 56 rfl) ?_
    exact R_ireturn (Dat dd_Y_isSo 57 rfl) rfl T
  · replace T := T.2 c
    refine R_aload_n (Dat dd_Y_isSo 40 rfl) rfl rfl ?_
    refine R_iload_n (Dat dd_Y_isSo 41 rfl) rfl ?_
    exact R_call1 (Dat dd_Y_isSo 42 rfl) rfl S.t400 rfl rfl rfl rfl rfl T
theorem t_Y_isSo_185 {h : Hp} {P : Value → Hp → Prop} {a2 a4 s0 : Int} {a1 a3 a5 a6 : Value} (S : YS h) (T : R 139 0 [.ref 400, .int (I a4)] [] h (fun v h2 => R 157 191 [.ref 400, a1, .int (I a2), a3, .int (I a4), a5, a6] (v :: [.int (I s0)]) h2 P)) : R 157 185 [.ref 400, a1, .int (I a2), a3, .int (I a4), a5, a6] [.int (I s0)] h P := by
  refine R_aload_n (Dat dd_Y_isSo 85 rfl) rfl rfl ?_
  refine R_iload (Dat dd_Y_isSo 86 rfl) rfl ?_
  exact R_call1 (Dat dd_Y_isSo 87 rfl) rfl S.t400 rfl rfl rfl rfl rfl T
theorem t_Y_isSo_47 {h : Hp} {P : Value → Hp → Prop} {a2 s0 s1 : Int} {a0 a1 a3 a4 a5 a6 : Value} (S : YS h) (T : (rng s1) ∧ (rng (s0 + a2)) ∧ ((s1 < (s0 + a2) → P (.int (I 0)) h) ∧ (¬ s1 < (s0 + a2) → P (.int (I 1)) h))) : R 157 47 [a0, a1, .int (I a2), a3, a4, a5, a6] [.int (I s0), .int (I s1)] h P := by
  refine R_iload_n (Dat dd_Y_isSo 8 rfl) rfl ?_
  refine R_iadd (Dat dd_Y_isSo 9 rfl) ?_
  obtain ⟨g1, T⟩ := T
  obtain ⟨g2, T⟩ := T
  refine R_ic_lt (Dat dd_Y_isSo 10 rfl) rfl g1 g2 (fun c => ?_) (fun c => ?_)
  · replace T := T.1 c
    refine R_iconst (Dat dd_Y_isSo 13 rfl) ?_
    exact R_ireturn (Dat dd_Y_isSo 14 rfl) rfl T
  · replace T := T.2 c
    refine R_iconst (Dat dd_Y_isSo 11 rfl) ?_
    refine R_goto (Dat dd_Y_isSo 12 rfl) rfl ?_
    exact R_ireturn (Dat dd_Y_isSo 14 rfl) rfl T
theorem t_Y_isSo_69 {h : Hp} {P : Value → Hp → Prop} {a2 a3 a4 s0 s1 : Int} {a1 a5 a6 : Value} (S : YS h) (T : (rng s1) ∧ (rng (s0 + a2)) ∧ ((s1 < (s0 + a2) → P (.int (I 0)) h) ∧ (¬ s1 < (s0 + a2) → R 139 0 [.ref 400, .int (I a4)] [] h (fun v h2 => R 157 80 [.ref 400, a1, .int (I a2), .int (I a3), .int (I a4), a5, a6] (v :: []) h2 P)))) : R 157 69 [.ref 400, a1, .int (I a2), .int (I a3), .int (I a4), a5, a6] [.int (I s0), .int (I s1)] h P := by
  refine R_iload_n (Dat dd_Y_isSo 21 rfl) rfl ?_
  refine R_iadd (Dat dd_Y_isSo 22 rfl) ?_
  obtain ⟨g1, T⟩ := T
  obtain ⟨g2, T⟩ := T
  refine R_ic_lt (Dat dd_Y_isSo 23 rfl) rfl g1 g2 (fun c => ?_) (fun c => ?_)
  · replace T := T.1 c
    refine R_iconst (Dat dd_Y_isSo 33 rfl) ?_
    exact R_ireturn (Dat dd_Y_isSo 34 rfl) rfl T
  · replace T := T.2 c
    refine R_aload_n (Dat dd_Y_isSo 24 rfl) rfl rfl ?_
    refine R_iload (Dat dd_Y_isSo 25 rfl) rfl ?_
    exact R_call1 (Dat dd_Y_isSo 26 rfl) rfl S.t400 rfl rfl rfl rfl rfl T
theorem t_Y_isSo_108 {h : Hp} {P : Value → Hp → Prop} {a3 a4 s0 : Int} {a1 a2 a5 a6 : Value} (S : YS h) (T : R 139 0 [.ref 400, .int (I a4)] [] h (fun v h2 => R 157 114 [.ref 400, a1, a2, .int (I a3), .int (I a4), a5, a6] (v :: [.int (I s0)]) h2 P)) : R 157 108 [.ref 400, a1, a2, .int (I a3), .int (I a4), a5, a6] [.int (I s0)] h P := by
  refine R_aload_n (Dat dd_Y_isSo 43 rfl) rfl rfl ?_
  refine R_iload (Dat dd_Y_isSo 44 rfl) rfl ?_
  exact R_call1 (Dat dd_Y_isSo 45 rfl) rfl S.t400 rfl rfl rfl rfl rfl T
theorem t_Y_isSo_191 {h : Hp} {P : Value → Hp → Prop} {a2 s0 s1 : Int} {a0 a1 a3 a4 a5 a6 : Value} (S : YS h) (T : (rng (s1 - s0)) ∧ (((s1 - s0) < 0 → (rng (-(s1 - s0))) ∧ (rng a2) ∧ (((-(s1 - s0)) < a2 → P (.int (I 1)) h) ∧ (¬ (-(s1 - s0)) < a2 → P (.int (I 0)) h))) ∧ (¬ (s1 - s0) < 0 → (rng (s1 - s0)) ∧ (rng a2) ∧ (((s1 - s0) < a2 → P (.int (I 1)) h) ∧ (¬ (s1 - s0) < a2 → P (.int (I 0)) h))))) : R 157 191 [a0, a1, .int (I a2), a3, a4, a5, a6] [.int (I s0), .int (I s1)] h P := by
  refine R_isub (Dat dd_Y_isSo 88 rfl) ?_
  refine R_istore (Dat dd_Y_isSo 89 rfl) rfl rfl ?_
  refine R_iload (Dat dd_Y_isSo 90 rfl) rfl ?_
  obtain ⟨g1, T⟩ := T
  refine R_if_ge (Dat dd_Y_isSo 91 rfl) rfl g1  (fun c => ?_) (fun c => ?_)
  · replace T := T.1 c
    refine R_iload (Dat dd_Y_isSo 92 rfl) rfl ?_
    refine R_ineg (Dat dd_Y_isSo 93 rfl) ?_
    refine R_goto (Dat dd_Y_isSo 94 rfl) rfl ?_
    refine R_iload_n (Dat dd_Y_isSo 96 rfl) rfl ?_
    obtain ⟨g2, T⟩ := T
    obtain ⟨g3, T⟩ := T
    refine R_ic_ge (Dat dd_Y_isSo 97 rfl) rfl g2 g3 (fun c => ?_) (fun c => ?_)
    · replace T := T.1 c
      refine R_iconst (Dat dd_Y_isSo 98 rfl) ?_
      refine R_goto (Dat dd_Y_isSo 99 rfl) rfl ?_
      exact R_ireturn (Dat dd_Y_isSo 101 rfl) rfl T
    · replace T := T.2 c
      refine R_iconst (Dat dd_Y_isSo 100 rfl) ?_
      exact R_ireturn (Dat dd_Y_isSo 101 rfl) rfl T
  · replace T := T.2 c
    refine R_iload (Dat dd_Y_isSo 95 rfl) rfl ?_
    refine R_iload_n (Dat dd_Y_isSo 96 rfl) rfl ?_
    obtain ⟨g4, T⟩ := T
    obtain ⟨g5, T⟩ := T
    refine R_ic_ge (Dat dd_Y_isSo 97 rfl) rfl g4 g5 (fun c => ?_) (fun c => ?_)
    · replace T := T.1 c
      refine R_iconst (Dat dd_Y_isSo 98 rfl) ?_
      refine R_goto (Dat dd_Y_isSo 99 rfl) rfl ?_
      exact R_ireturn (Dat dd_Y_isSo 101 rfl) rfl T
    · replace T := T.2 c
      refine R_iconst (Dat dd_Y_isSo 100 rfl) ?_
      exact R_ireturn (Dat dd_Y_isSo 101 rfl) rfl T
theorem t_Y_isSo_80 {h : Hp} {P : Value → Hp → Prop} {a3 s0 : Int} {a1 a2 a4 a5 a6 : Value} (S : YS h) (T : R 139 0 [.ref 400, .int (I a3)] [] h (fun v h2 => R 157 85 [.ref 400, a1, a2, .int (I a3), a4, a5, a6] (v :: [.int (I s0)]) h2 P)) : R 157 80 [.ref 400, a1, a2, .int (I a3), a4, a5, a6] [.int (I s0)] h P := by
  refine R_aload_n (Dat dd_Y_isSo 27 rfl) rfl rfl ?_
  refine R_iload_n (Dat dd_Y_isSo 28 rfl) rfl ?_
  exact R_call1 (Dat dd_Y_isSo 29 rfl) rfl S.t400 rfl rfl rfl rfl rfl T
theorem t_Y_isSo_114 {h : Hp} {P : Value → Hp → Prop} {a3 a4 s0 s1 : Int} {a1 a2 a5 a6 : Value} (S : YS h) (T : (rng s1) ∧ (rng s0) ∧ ((s1 < s0 → P (.int (I 0)) h) ∧ (¬ s1 < s0 → R 138 0 [.ref 400, .int (I a3)] [] h (fun v h2 => R 157 122 [.ref 400, a1, a2, .int (I a3), .int (I a4), a5, a6] (v :: []) h2 P)))) : R 157 114 [.ref 400, a1, a2, .int (I a3), .int (I a4), a5, a6] [.int (I s0), .int (I s1)] h P := by
  obtain ⟨g1, T⟩ := T
  obtain ⟨g2, T⟩ := T
  refine R_ic_lt (Dat dd_Y_isSo 46 rfl) rfl g1 g2 (fun c => ?_) (fun c => ?_)
  · replace T := T.1 c
    refine R_iconst (Dat dd_Y_isSo 56 rfl) ?_
    exact R_ireturn (Dat dd_Y_isSo 57 rfl) rfl T
  · replace T := T.2 c
    refine R_aload_n (Dat dd_Y_isSo 47 rfl) rfl rfl ?_
    refine R_iload_n (Dat dd_Y_isSo 48 rfl) rfl ?_
    exact R_call1 (Dat dd_Y_isSo 49 rfl) rfl S.t400 rfl rfl rfl rfl rfl T
theorem t_Y_isSo_85 {h : Hp} {P : Value → Hp → Prop} {s0 s1 : Int} {a0 a1 a2 a3 a4 a5 a6 : Value} (S : YS h) (T : (rng s1) ∧ (rng s0) ∧ ((s0 < s1 → P (.int (I 1)) h) ∧ (¬ s0 < s1 → P (.int (I 0)) h))) : R 157 85 [a0, a1, a2, a3, a4, a5, a6] [.int (I s0), .int (I s1)] h P := by
  obtain ⟨g1, T⟩ := T
  obtain ⟨g2, T⟩ := T
  refine R_ic_le (Dat dd_Y_isSo 30 rfl) rfl g1 g2 (fun c => ?_) (fun c => ?_)
  · replace T := T.1 c
    refine R_iconst (Dat dd_Y_isSo 31 rfl) ?_
    refine R_goto (Dat dd_Y_isSo 32 rfl) rfl ?_
    exact R_ireturn (Dat dd_Y_isSo 34 rfl) rfl T
  · replace T := T.2 c
    refine R_iconst (Dat dd_Y_isSo 33 rfl) ?_
    exact R_ireturn (Dat dd_Y_isSo 34 rfl) rfl T
theorem t_Y_isSo_122 {h : Hp} {P : Value → Hp → Prop} {a4 s0 : Int} {a1 a2 a3 a5 a6 : Value} (S : YS h) (T : R 138 0 [.ref 400, .int (I a4)] [] h (fun v h2 => R 157 128 [.ref 400, a1, a2, a3, .int (I a4), a5, a6] (v :: [.int (I s0)]) h2 P)) : R 157 122 [.ref 400, a1, a2, a3, .int (I a4), a5, a6] [.int (I s0)] h P := by
  refine R_aload_n (Dat dd_Y_isSo 50 rfl) rfl rfl ?_
  refine R_iload (Dat dd_Y_isSo 51 rfl) rfl ?_
  exact R_call1 (Dat dd_Y_isSo 52 rfl) rfl S.t400 rfl rfl rfl rfl rfl T
theorem t_Y_isSo_128 {h : Hp} {P : Value → Hp → Prop} {s0 s1 : Int} {a0 a1 a2 a3 a4 a5 a6 : Value} (S : YS h) (T : (rng s1) ∧ (rng s0) ∧ ((s0 < s1 → P (.int (I 1)) h) ∧ (¬ s0 < s1 → P (.int (I 0)) h))) : R 157 128 [a0, a1, a2, a3, a4, a5, a6] [.int (I s0), .int (I s1)] h P := by
  obtain ⟨g1, T⟩ := T
  obtain ⟨g2, T⟩ := T
  refine R_ic_le (Dat dd_Y_isSo 53 rfl) rfl g1 g2 (fun c => ?_) (fun c => ?_)
  · replace T := T.1 c
    refine R_iconst (Dat dd_Y_isSo 54 rfl) ?_
    refine R_goto (Dat dd_Y_isSo 55 rfl) rfl ?_
    exact R_ireturn (Dat dd_Y_isSo 57 rfl) rfl T
  · replace T := T.2 c
    refine R_iconst (Dat dd_Y_isSo 56 rfl) ?_
    exact R_ireturn (Dat dd_Y_isSo 57 rfl) rfl T
def dl_Y_shake : List (Nat × Instr × Nat) := [(0, .iload_n 1, 1), (1, .invokestatic 180, 3), (4, .ifCond .eq 13, 3), (7, .iload_n 2, 1), (8, .iconst 0, 1), (9, .bipush 99, 2), (11, .invokestatic 88, 3), (14, .ifCond .ne 6, 3), (17, .bipush (-2), 2), (19, .ireturn, 1), (20, .aload_n 0, 1), (21, .getfield 92, 3), (24, .ifCond .eq 10, 3), (27, .aload_n 0, 1), (28, .getfield 161, 3), (31, .ifCond .ne 6, 3), (34, .bipush (-3), 2), (36, .ireturn, 1), (37, .aload_n 0, 1), (38, .iconst 0, 1), (39, .putfield 187, 3), (42, .aload_n 0, 1), (43, .aload_n 0, 1), (44, .getfield 122, 3), (47, .invokevirtual 154, 3), (50, .iconst 0, 1), (51, .istore_n 3, 1), (52, .iload_n 3, 1), (53, .iload_n 2, 1), (54, .if_icmp .ge 18, 3), (57, .aload_n 0, 1), (58, .aload_n 0, 1), (59, .getfield 173, 3), (62, .iload_n 1, 1), (63, .invokevirtual 194, 3), (66, .iinc 3 1, 3), (69, .goto (-17), 3), (72, .aload_n 0, 1), (73, .aload_n 0, 1), (74, .invokevirtual 198, 3), (77, .putfield 122, 3), (80, .aload_n 0, 1), (81, .dup, 1), (82, .getfield 125, 3), (85, .iload_n 2, 1), (86, .iadd, 1), (87, .putfield 125, 3), (90, .aload_n 0, 1), (91, .getfield 187, 3), (94, .ireturn, 1)]
theorem dd_Y_shake : Dall 158 dl_Y_shake = true := by decide +kernel
theorem t_Y_shake {h : Hp} {P : Value → Hp → Prop} {p0 p1 : Int} (S : YS h) (T : R 155 0 [.int (I p0)] [] h (fun v h2 => R 158 4 [.ref 400, .int (I p0), .int (I p1), .retAddr 0] (v :: []) h2 P)) : R 158 0 [.ref 400, .int (I p0), .int (I p1), .retAddr 0] [] h P := by
  refine R_iload_n (Dat dd_Y_shake 0 rfl) rfl ?_
  exact R_call0 (Dat dd_Y_shake 1 rfl) rfl rfl rfl rfl rfl rfl T
theorem t_Y_shake_4 {h : Hp} {P : Value → Hp → Prop} {a1 a2 s0 : Int} {a3 : Value} (S : YS h) (T : (rng s0) ∧ ((s0 = 0 → P (.int (I (-2))) h) ∧ (¬ s0 = 0 → R 129 0 [.int (I a2), .int (I 0), .int (I 99)] [] h (fun v h2 => R 158 14 [.ref 400, .int (I a1), .int (I a2), a3] (v :: []) h2 P)))) : R 158 4 [.ref 400, .int (I a1), .int (I a2), a3] [.int (I s0)] h P := by
  obtain ⟨g1, T⟩ := T
  refine R_if_eq (Dat dd_Y_shake 2 rfl) rfl g1  (fun c => ?_) (fun c => ?_)
  · replace T := T.1 c
    refine R_bipush (Dat dd_Y_shake 8 rfl) (a := (-2)) rfl ?_
    exact R_ireturn (Dat dd_Y_shake 9 rfl) rfl T
  · replace T := T.2 c
    refine R_iload_n (Dat dd_Y_shake 3 rfl) rfl ?_
    refine R_iconst (Dat dd_Y_shake 4 rfl) ?_
    refine R_bipush (Dat dd_Y_shake 5 rfl) (a := 99) rfl ?_
    exact R_call0 (Dat dd_Y_shake 6 rfl) rfl rfl rfl rfl rfl rfl T
theorem t_Y_shake_14 {h : Hp} {P : Value → Hp → Prop} {a1 a2 s0 : Int} {a3 : Value} (S : YS h) (T : (rng s0) ∧ ((s0 = 0 → P (.int (I (-2))) h) ∧ (¬ s0 = 0 → (rng (iv h 400 5)) ∧ (((iv h 400 5) = 0 → P (.int (I (-3))) h) ∧ (¬ (iv h 400 5) = 0 → (rng (iv h 400 18)) ∧ (((iv h 400 18) = 0 → P (.int (I (-3))) h) ∧ (¬ (iv h 400 18) = 0 → R 141 0 [.ref 400, .int (I (iv (setI h 400 26 0) 400 7)), .retAddr 0, .retAddr 0, .retAddr 0, .retAddr 0, .retAddr 0, .retAddr 0] [] (setI h 400 26 0) (fun _ h2 => R 158 50 [.ref 400, .int (I a1), .int (I a2), a3] [] h2 P)))))))) : R 158 14 [.ref 400, .int (I a1), .int (I a2), a3] [.int (I s0)] h P := by
  obtain ⟨g1, T⟩ := T
  refine R_if_ne (Dat dd_Y_shake 7 rfl) rfl g1  (fun c => ?_) (fun c => ?_)
  · replace T := T.1 c
    refine R_bipush (Dat dd_Y_shake 8 rfl) (a := (-2)) rfl ?_
    exact R_ireturn (Dat dd_Y_shake 9 rfl) rfl T
  · replace T := T.2 c
    refine R_aload_n (Dat dd_Y_shake 10 rfl) rfl rfl ?_
    refine R_geti (Dat dd_Y_shake 11 rfl) rfl rfl (tok S.t400) ?_
    obtain ⟨g2, T⟩ := T
    refine R_if_eq (Dat dd_Y_shake 12 rfl) rfl g2  (fun c => ?_) (fun c => ?_)
    · replace T := T.1 c
      refine R_bipush (Dat dd_Y_shake 16 rfl) (a := (-3)) rfl ?_
      exact R_ireturn (Dat dd_Y_shake 17 rfl) rfl T
    · replace T := T.2 c
      refine R_aload_n (Dat dd_Y_shake 13 rfl) rfl rfl ?_
      refine R_geti (Dat dd_Y_shake 14 rfl) rfl rfl (tok S.t400) ?_
      obtain ⟨g3, T⟩ := T
      refine R_if_ne (Dat dd_Y_shake 15 rfl) rfl g3  (fun c => ?_) (fun c => ?_)
      · replace T := T.1 c
        refine R_bipush (Dat dd_Y_shake 16 rfl) (a := (-3)) rfl ?_
        exact R_ireturn (Dat dd_Y_shake 17 rfl) rfl T
      · replace T := T.2 c
        refine R_aload_n (Dat dd_Y_shake 18 rfl) rfl rfl ?_
        refine R_iconst (Dat dd_Y_shake 19 rfl) ?_
        refine R_puti (Dat dd_Y_shake 20 rfl) rfl rfl rfl (tok S.t400) rfl (v := 0) rfl ?_
        refine R_aload_n (Dat dd_Y_shake 21 rfl) rfl rfl ?_
        refine R_aload_n (Dat dd_Y_shake 22 rfl) rfl rfl ?_
        refine R_geti (Dat dd_Y_shake 23 rfl) rfl rfl (tok S.t400) ?_
        exact R_call1 (Dat dd_Y_shake 24 rfl) rfl S.t400 rfl rfl rfl rfl rfl T
theorem t_Y_shake_50 {h : Hp} {P : Value → Hp → Prop} {a1 a2 : Int} {a3 : Value} (S : YS h) (T : R 158 52 [.ref 400, .int (I a1), .int (I a2), .int (I 0)] [] h P) : R 158 50 [.ref 400, .int (I a1), .int (I a2), a3] [] h P := by
  refine R_iconst (Dat dd_Y_shake 25 rfl) ?_
  refine R_istore_n (Dat dd_Y_shake 26 rfl) rfl rfl ?_
  exact T
theorem t_Y_shake_52 {h : Hp} {P : Value → Hp → Prop} {a1 a2 a3 : Int} (S : YS h) (T : (rng a3) ∧ (rng a2) ∧ ((a3 < a2 → R 159 0 [.ref 400, .int (I (iv h 400 19)), .int (I a1), .retAddr 0, .retAddr 0] [] h (fun _ h2 => R 158 66 [.ref 400, .int (I a1), .int (I a2), .int (I a3)] [] h2 P)) ∧ (¬ a3 < a2 → R 161 0 [.ref 400, .retAddr 0, .retAddr 0, .retAddr 0, .retAddr 0] [] h (fun v h2 => R 158 77 [.ref 400, .int (I a1), .int (I a2), .int (I a3)] (v :: [.ref 400]) h2 P)))) : R 158 52 [.ref 400, .int (I a1), .int (I a2), .int (I a3)] [] h P := by
  refine R_iload_n (Dat dd_Y_shake 27 rfl) rfl ?_
  refine R_iload_n (Dat dd_Y_shake 28 rfl) rfl ?_
  obtain ⟨g1, T⟩ := T
  obtain ⟨g2, T⟩ := T
  refine R_ic_ge (Dat dd_Y_shake 29 rfl) rfl g1 g2 (fun c => ?_) (fun c => ?_)
  · replace T := T.1 c
    refine R_aload_n (Dat dd_Y_shake 30 rfl) rfl rfl ?_
    refine R_aload_n (Dat dd_Y_shake 31 rfl) rfl rfl ?_
    refine R_geti (Dat dd_Y_shake 32 rfl) rfl rfl (tok S.t400) ?_
    refine R_iload_n (Dat dd_Y_shake 33 rfl) rfl ?_
    exact R_call1 (Dat dd_Y_shake 34 rfl) rfl S.t400 rfl rfl rfl rfl rfl T
  · replace T := T.2 c
    refine R_aload_n (Dat dd_Y_shake 37 rfl) rfl rfl ?_
    refine R_aload_n (Dat dd_Y_shake 38 rfl) rfl rfl ?_
    exact R_call1 (Dat dd_Y_shake 39 rfl) rfl S.t400 rfl rfl rfl rfl rfl T
theorem t_Y_shake_66 {h : Hp} {P : Value → Hp → Prop} {a1 a2 a3 : Int} (S : YS h) (T : R 158 52 [.ref 400, .int (I a1), .int (I a2), .int (I (a3 + 1))] [] h P) : R 158 66 [.ref 400, .int (I a1), .int (I a2), .int (I a3)] [] h P := by
  refine R_iinc (Dat dd_Y_shake 35 rfl) rfl rfl rfl ?_
  refine R_goto (Dat dd_Y_shake 36 rfl) rfl ?_
  exact T
theorem t_Y_shake_77 {h : Hp} {P : Value → Hp → Prop} {a2 s0 : Int} {a1 a3 : Value} (S : YS h) (T : P (.int (I (iv (setI (setI h 400 7 (wr s0)) 400 8 (wr ((iv (setI h 400 7 (wr s0)) 400 8) + a2))) 400 26))) (setI (setI h 400 7 (wr s0)) 400 8 (wr ((iv (setI h 400 7 (wr s0)) 400 8) + a2)))) : R 158 77 [.ref 400, a1, .int (I a2), a3] [.int (I s0), .ref 400] h P := by
  refine R_puti (Dat dd_Y_shake 40 rfl) rfl rfl rfl (tok S.t400) rfl (v := wr s0) rfl ?_
  refine R_aload_n (Dat dd_Y_shake 41 rfl) rfl rfl ?_
  refine R_dup (Dat dd_Y_shake 42 rfl) rfl ?_
  refine R_geti (Dat dd_Y_shake 43 rfl) rfl rfl (tok S.t400) ?_
  refine R_iload_n (Dat dd_Y_shake 44 rfl) rfl ?_
  refine R_iadd (Dat dd_Y_shake 45 rfl) ?_
  refine R_puti (Dat dd_Y_shake 46 rfl) rfl rfl rfl (tok S.t400) rfl (v := wr ((iv (setI h 400 7 (wr s0)) 400 8) + a2)) rfl ?_
  refine R_aload_n (Dat dd_Y_shake 47 rfl) rfl rfl ?_
  refine R_geti (Dat dd_Y_shake 48 rfl) rfl rfl (tok S.t400) ?_
  exact R_ireturn (Dat dd_Y_shake 49 rfl) rfl T
def dl_Y_shaken : List (Nat × Instr × Nat) := [(0, .iconst 0, 1), (1, .istore_n 3, 1), (2, .iload_n 3, 1), (3, .iconst 2, 1), (4, .if_icmp .ge 37, 3), (7, .iload_n 3, 1), (8, .istore 4, 2), (10, .iload 4, 2), (12, .iconst 1, 1), (13, .iadd, 1), (14, .aload_n 0, 1), (15, .getfield 92, 3), (18, .if_icmp .ge 17, 3), (21, .aload_n 0, 1), (22, .iload_n 1, 1), (23, .iload 4, 2), (25, .iload_n 2, 1), (26, .invokevirtual 190, 3), (29, .iinc 4 2, 3), (32, .goto (-22), 3), (35, .iinc 3 1, 3), (38, .goto (-36), 3), (41, .return_, 1)]
theorem dd_Y_shaken : Dall 159 dl_Y_shaken = true := by decide +kernel
theorem t_Y_shaken {h : Hp} {P : Value → Hp → Prop} {p0 p1 : Int} (S : YS h) (T : R 159 2 [.ref 400, .int (I p0), .int (I p1), .int (I 0), .retAddr 0] [] h P) : R 159 0 [.ref 400, .int (I p0), .int (I p1), .retAddr 0, .retAddr 0] [] h P := by
  refine R_iconst (Dat dd_Y_shaken 0 rfl) ?_
  refine R_istore_n (Dat dd_Y_shaken 1 rfl) rfl rfl ?_
  exact T
theorem t_Y_shaken_2 {h : Hp} {P : Value → Hp → Prop} {a1 a2 a3 : Int} {a4 : Value} (S : YS h) (T : (rng a3) ∧ ((a3 < 2 → R 159 10 [.ref 400, .int (I a1), .int (I a2), .int (I a3), .int (I a3)] [] h P) ∧ (¬ a3 < 2 → P .null h))) : R 159 2 [.ref 400, .int (I a1), .int (I a2), .int (I a3), a4] [] h P := by
  refine R_iload_n (Dat dd_Y_shaken 2 rfl) rfl ?_
  refine R_iconst (Dat dd_Y_shaken 3 rfl) ?_
  obtain ⟨g1, T⟩ := T
  refine R_ic_ge (Dat dd_Y_shaken 4 rfl) rfl g1 (by decide) (fun c => ?_) (fun c => ?_)
  · replace T := T.1 c
    refine R_iload_n (Dat dd_Y_shaken 5 rfl) rfl ?_
    refine R_istore (Dat dd_Y_shaken 6 rfl) rfl rfl ?_
    exact T
  · replace T := T.2 c
    exact R_return (Dat dd_Y_shaken 22 rfl) rfl T
theorem t_Y_shaken_10 {h : Hp} {P : Value → Hp → Prop} {a1 a2 a3 a4 : Int} (S : YS h) (T : (rng (a4 + 1)) ∧ (rng (iv h 400 5)) ∧ (((a4 + 1) < (iv h 400 5) → R 160 0 [.ref 400, .int (I a1), .int (I a4), .int (I a2), .retAddr 0, .retAddr 0, .retAddr 0] [] h (fun _ h2 => R 159 29 [.ref 400, .int (I a1), .int (I a2), .int (I a3), .int (I a4)] [] h2 P)) ∧ (¬ (a4 + 1) < (iv h 400 5) → R 159 2 [.ref 400, .int (I a1), .int (I a2), .int (I (a3 + 1)), .int (I a4)] [] h P))) : R 159 10 [.ref 400, .int (I a1), .int (I a2), .int (I a3), .int (I a4)] [] h P := by
  refine R_iload (Dat dd_Y_shaken 7 rfl) rfl ?_
  refine R_iconst (Dat dd_Y_shaken 8 rfl) ?_
  refine R_iadd (Dat dd_Y_shaken 9 rfl) ?_
  refine R_aload_n (Dat dd_Y_shaken 10 rfl) rfl rfl ?_
  refine R_geti (Dat dd_Y_shaken 11 rfl) rfl rfl (tok S.t400) ?_
  obtain ⟨g1, T⟩ := T
  obtain ⟨g2, T⟩ := T
  refine R_ic_ge (Dat dd_Y_shaken 12 rfl) rfl g1 g2 (fun c => ?_) (fun c => ?_)
  · replace T := T.1 c
    refine R_aload_n (Dat dd_Y_shaken 13 rfl) rfl rfl ?_
    refine R_iload_n (Dat dd_Y_shaken 14 rfl) rfl ?_
    refine R_iload (Dat dd_Y_shaken 15 rfl) rfl ?_
    refine R_iload_n (Dat dd_Y_shaken 16 rfl) rfl ?_
    exact R_call1 (Dat dd_Y_shaken 17 rfl) rfl S.t400 rfl rfl rfl rfl rfl T
  · replace T := T.2 c
    refine R_iinc (Dat dd_Y_shaken 20 rfl) rfl rfl rfl ?_
    refine R_goto (Dat dd_Y_shaken 21 rfl) rfl ?_
    exact T
theorem t_Y_shaken_29 {h : Hp} {P : Value → Hp → Prop} {a1 a2 a3 a4 : Int} (S : YS h) (T : R 159 10 [.ref 400, .int (I a1), .int (I a2), .int (I a3), .int (I (a4 + 2))] [] h P) : R 159 29 [.ref 400, .int (I a1), .int (I a2), .int (I a3), .int (I a4)] [] h P := by
  refine R_iinc (Dat dd_Y_shaken 18 rfl) rfl rfl rfl ?_
  refine R_goto (Dat dd_Y_shaken 19 rfl) rfl ?_
  exact T
def dl_Y_pair : List (Nat × Instr × Nat) := [(0, .aload_n 0, 1), (1, .getfield 37, 3), (4, .iload_n 2, 1), (5, .iaload, 1), (6, .istore 4, 2), (8, .aload_n 0, 1), (9, .getfield 37, 3), (12, .iload_n 2, 1), (13, .iconst 1, 1), (14, .iadd, 1), (15, .iaload, 1), (16, .istore 5, 2), (18, .aload_n 0, 1), (19, .iload_n 1, 1), (20, .iload 4, 2), (22, .iload 5, 2), (24, .iload_n 2, 1), (25, .iload_n 3, 1), (26, .invokevirtual 183, 3), (29, .istore 6, 2), (31, .iload 6, 2), (33, .bipush (-9), 2), (35, .if_icmp .eq 47, 3), (38, .aload_n 0, 1), (39, .getfield 43, 3), (42, .bipush 6, 2), (44, .iload_n 1, 1), (45, .imul, 1), (46, .iload 6, 2), (48, .iadd, 1), (49, .iaload, 1), (50, .iconst 4, 1), (51, .if_icmp .ge 31, 3), (54, .aload_n 0, 1), (55, .getfield 37, 3), (58, .iload_n 2, 1), (59, .iload 5, 2), (61, .iastore, 1), (62, .aload_n 0, 1), (63, .getfield 37, 3), (66, .iload_n 2, 1), (67, .iconst 1, 1), (68, .iadd, 1), (69, .iload 4, 2), (71, .iastore, 1), (72, .aload_n 0, 1), (73, .dup, 1), (74, .getfield 187, 3), (77, .iconst 1, 1), (78, .iadd, 1), (79, .putfield 187, 3), (82, .return_, 1)]
theorem dd_Y_pair : Dall 160 dl_Y_pair = true := by decide +kernel
theorem t_Y_pair {h : Hp} {P : Value → Hp → Prop} {p0 p1 p2 : Int} (S : YS h) (T : (0 ≤ p1) ∧ (p1 < 7) ∧ (0 ≤ (p1 + 1)) ∧ ((p1 + 1) < 7) ∧ R 156 0 [.ref 400, .int (I p0), .int (I (iv h 418 p1)), .int (I (iv h 418 (p1 + 1))), .int (I p1), .int (I p2), .retAddr 0, .retAddr 0] [] h (fun v h2 => R 160 29 [.ref 400, .int (I p0), .int (I p1), .int (I p2), .int (I (iv h 418 p1)), .int (I (iv h 418 (p1 + 1))), .retAddr 0] (v :: []) h2 P)) : R 160 0 [.ref 400, .int (I p0), .int (I p1), .int (I p2), .retAddr 0, .retAddr 0, .retAddr 0] [] h P := by
  refine R_aload_n (Dat dd_Y_pair 0 rfl) rfl rfl ?_
  refine R_getr (Dat dd_Y_pair 1 rfl) rfl rfl (tok S.t400) S.f400_17 (q := 418) rfl (tnz S.t418) ?_
  refine R_iload_n (Dat dd_Y_pair 2 rfl) rfl ?_
  obtain ⟨g1, T⟩ := T
  obtain ⟨g2, T⟩ := T
  refine R_iaload (Dat dd_Y_pair 3 rfl) (Or.inl S.t418) (lnle (show ln h 418 = 7 from S.l418) (by decide)) g1 (lnlt (show ln h 418 = 7 from S.l418) g2) ?_
  refine R_istore (Dat dd_Y_pair 4 rfl) rfl rfl ?_
  refine R_aload_n (Dat dd_Y_pair 5 rfl) rfl rfl ?_
  refine R_getr (Dat dd_Y_pair 6 rfl) rfl rfl (tok S.t400) S.f400_17 (q := 418) rfl (tnz S.t418) ?_
  refine R_iload_n (Dat dd_Y_pair 7 rfl) rfl ?_
  refine R_iconst (Dat dd_Y_pair 8 rfl) ?_
  refine R_iadd (Dat dd_Y_pair 9 rfl) ?_
  obtain ⟨g3, T⟩ := T
  obtain ⟨g4, T⟩ := T
  refine R_iaload (Dat dd_Y_pair 10 rfl) (Or.inl S.t418) (lnle (show ln h 418 = 7 from S.l418) (by decide)) g3 (lnlt (show ln h 418 = 7 from S.l418) g4) ?_
  refine R_istore (Dat dd_Y_pair 11 rfl) rfl rfl ?_
  refine R_aload_n (Dat dd_Y_pair 12 rfl) rfl rfl ?_
  refine R_iload_n (Dat dd_Y_pair 13 rfl) rfl ?_
  refine R_iload (Dat dd_Y_pair 14 rfl) rfl ?_
  refine R_iload (Dat dd_Y_pair 15 rfl) rfl ?_
  refine R_iload_n (Dat dd_Y_pair 16 rfl) rfl ?_
  refine R_iload_n (Dat dd_Y_pair 17 rfl) rfl ?_
  exact R_call1 (Dat dd_Y_pair 18 rfl) rfl S.t400 rfl rfl rfl rfl rfl T
theorem t_Y_pair_29 {h : Hp} {P : Value → Hp → Prop} {a1 a2 a4 a5 s0 : Int} {a3 a6 : Value} (S : YS h) (T : (rng s0) ∧ ((s0 = (-9) → P .null h) ∧ (¬ s0 = (-9) → (0 ≤ ((6 * a1) + s0)) ∧ (((6 * a1) + s0) < 24) ∧ (rng (iv h 422 ((6 * a1) + s0))) ∧ (((iv h 422 ((6 * a1) + s0)) < 4 → (0 ≤ a2) ∧ (a2 < 7) ∧ (0 ≤ (a2 + 1)) ∧ ((a2 + 1) < 7) ∧ P .null (setI (setI (setI h 418 a2 (wr a5)) 418 (a2 + 1) (wr a4)) 400 26 (wr ((iv (setI (setI h 418 a2 (wr a5)) 418 (a2 + 1) (wr a4)) 400 26) + 1)))) ∧ (¬ (iv h 422 ((6 * a1) + s0)) < 4 → P .null h))))) : R 160 29 [.ref 400, .int (I a1), .int (I a2), a3, .int (I a4), .int (I a5), a6] [.int (I s0)] h P := by
  refine R_istore (Dat dd_Y_pair 19 rfl) rfl rfl ?_
  refine R_iload (Dat dd_Y_pair 20 rfl) rfl ?_
  refine R_bipush (Dat dd_Y_pair 21 rfl) (a := (-9)) rfl ?_
  obtain ⟨g1, T⟩ := T
  refine R_ic_eq (Dat dd_Y_pair 22 rfl) rfl g1 (by decide) (fun c => ?_) (fun c => ?_)
  · replace T := T.1 c
    exact R_return (Dat dd_Y_pair 51 rfl) rfl T
  · replace T := T.2 c
    refine R_aload_n (Dat dd_Y_pair 23 rfl) rfl rfl ?_
    refine R_getr (Dat dd_Y_pair 24 rfl) rfl rfl (tok S.t400) S.f400_21 (q := 422) rfl (tnz S.t422) ?_
    refine R_bipush (Dat dd_Y_pair 25 rfl) (a := 6) rfl ?_
    refine R_iload_n (Dat dd_Y_pair 26 rfl) rfl ?_
    refine R_imul (Dat dd_Y_pair 27 rfl) ?_
    refine R_iload (Dat dd_Y_pair 28 rfl) rfl ?_
    refine R_iadd (Dat dd_Y_pair 29 rfl) ?_
    obtain ⟨g2, T⟩ := T
    obtain ⟨g3, T⟩ := T
    refine R_iaload (Dat dd_Y_pair 30 rfl) (Or.inl S.t422) (lnle (show ln h 422 = 24 from S.l422) (by decide)) g2 (lnlt (show ln h 422 = 24 from S.l422) g3) ?_
    refine R_iconst (Dat dd_Y_pair 31 rfl) ?_
    obtain ⟨g4, T⟩ := T
    refine R_ic_ge (Dat dd_Y_pair 32 rfl) rfl g4 (by decide) (fun c => ?_) (fun c => ?_)
    · replace T := T.1 c
      refine R_aload_n (Dat dd_Y_pair 33 rfl) rfl rfl ?_
      refine R_getr (Dat dd_Y_pair 34 rfl) rfl rfl (tok S.t400) S.f400_17 (q := 418) rfl (tnz S.t418) ?_
      refine R_iload_n (Dat dd_Y_pair 35 rfl) rfl ?_
      refine R_iload (Dat dd_Y_pair 36 rfl) rfl ?_
      obtain ⟨g5, T⟩ := T
      obtain ⟨g6, T⟩ := T
      refine R_iastore (Dat dd_Y_pair 37 rfl) S.t418 (lnle (show ln h 418 = 7 from S.l418) (by decide)) g5 (lnlt (show ln h 418 = 7 from S.l418) g6) (v := wr a5) rfl ?_
      refine R_aload_n (Dat dd_Y_pair 38 rfl) rfl rfl ?_
      refine R_getr (Dat dd_Y_pair 39 rfl) rfl rfl (tok S.t400) S.f400_17 (q := 418) rfl (tnz S.t418) ?_
      refine R_iload_n (Dat dd_Y_pair 40 rfl) rfl ?_
      refine R_iconst (Dat dd_Y_pair 41 rfl) ?_
      refine R_iadd (Dat dd_Y_pair 42 rfl) ?_
      refine R_iload (Dat dd_Y_pair 43 rfl) rfl ?_
      obtain ⟨g7, T⟩ := T
      obtain ⟨g8, T⟩ := T
      refine R_iastore (Dat dd_Y_pair 44 rfl) S.t418 (lnle (show ln (setI h 418 a2 (wr a5)) 418 = 7 from S.l418) (by decide)) g7 (lnlt (show ln (setI h 418 a2 (wr a5)) 418 = 7 from S.l418) g8) (v := wr a4) rfl ?_
      refine R_aload_n (Dat dd_Y_pair 45 rfl) rfl rfl ?_
      refine R_dup (Dat dd_Y_pair 46 rfl) rfl ?_
      refine R_geti (Dat dd_Y_pair 47 rfl) rfl rfl (tok S.t400) ?_
      refine R_iconst (Dat dd_Y_pair 48 rfl) ?_
      refine R_iadd (Dat dd_Y_pair 49 rfl) ?_
      refine R_puti (Dat dd_Y_pair 50 rfl) rfl rfl rfl (tok S.t400) rfl (v := wr ((iv (setI (setI h 418 a2 (wr a5)) 418 (a2 + 1) (wr a4)) 400 26) + 1)) rfl ?_
      exact R_return (Dat dd_Y_pair 51 rfl) rfl T
    · replace T := T.2 c
      exact R_return (Dat dd_Y_pair 51 rfl) rfl T
def dl_Y_closed : List (Nat × Instr × Nat) := [(0, .iconst 0, 1), (1, .istore_n 1, 1), (2, .iconst 0, 1), (3, .istore_n 2, 1), (4, .iload_n 2, 1), (5, .aload_n 0, 1), (6, .getfield 92, 3), (9, .if_icmp .ge 66, 3), (12, .iconst 0, 1), (13, .istore_n 3, 1), (14, .iload_n 2, 1), (15, .iconst 1, 1), (16, .iadd, 1), (17, .istore 4, 2), (19, .iload 4, 2), (21, .aload_n 0, 1), (22, .getfield 92, 3), (25, .if_icmp .ge 33, 3), (28, .iload_n 3, 1), (29, .aload_n 0, 1), (30, .getfield 37, 3), (33, .iload 4, 2), (35, .iaload, 1), (36, .aload_n 0, 1), (37, .getfield 37, 3), (40, .iload_n 2, 1), (41, .iaload, 1), (42, .if_icmp .ge 7, 3), (45, .iconst 1, 1), (46, .goto 4, 3), (49, .iconst 0, 1), (50, .iadd, 1), (51, .istore_n 3, 1), (52, .iinc 4 1, 3), (55, .goto (-36), 3), (58, .iload_n 1, 1), (59, .aload_n 0, 1), (60, .getfield 92, 3), (63, .iload_n 2, 1), (64, .isub, 1), (65, .imul, 1), (66, .iload_n 3, 1), (67, .iadd, 1), (68, .istore_n 1, 1), (69, .iinc 2 1, 3), (72, .goto (-68), 3), (75, .iload_n 1, 1), (76, .ireturn, 1)]
theorem dd_Y_closed : Dall 161 dl_Y_closed = true := by decide +kernel
theorem t_Y_closed {h : Hp} {P : Value → Hp → Prop}  (S : YS h) (T : R 161 4 [.ref 400, .int (I 0), .int (I 0), .retAddr 0, .retAddr 0] [] h P) : R 161 0 [.ref 400, .retAddr 0, .retAddr 0, .retAddr 0, .retAddr 0] [] h P := by
  refine R_iconst (Dat dd_Y_closed 0 rfl) ?_
  refine R_istore_n (Dat dd_Y_closed 1 rfl) rfl rfl ?_
  refine R_iconst (Dat dd_Y_closed 2 rfl) ?_
  refine R_istore_n (Dat dd_Y_closed 3 rfl) rfl rfl ?_
  exact T
theorem t_Y_closed_4 {h : Hp} {P : Value → Hp → Prop} {a1 a2 : Int} {a3 a4 : Value} (S : YS h) (T : (rng a2) ∧ (rng (iv h 400 5)) ∧ ((a2 < (iv h 400 5) → R 161 19 [.ref 400, .int (I a1), .int (I a2), .int (I 0), .int (I (a2 + 1))] [] h P) ∧ (¬ a2 < (iv h 400 5) → P (.int (I a1)) h))) : R 161 4 [.ref 400, .int (I a1), .int (I a2), a3, a4] [] h P := by
  refine R_iload_n (Dat dd_Y_closed 4 rfl) rfl ?_
  refine R_aload_n (Dat dd_Y_closed 5 rfl) rfl rfl ?_
  refine R_geti (Dat dd_Y_closed 6 rfl) rfl rfl (tok S.t400) ?_
  obtain ⟨g1, T⟩ := T
  obtain ⟨g2, T⟩ := T
  refine R_ic_ge (Dat dd_Y_closed 7 rfl) rfl g1 g2 (fun c => ?_) (fun c => ?_)
  · replace T := T.1 c
    refine R_iconst (Dat dd_Y_closed 8 rfl) ?_
    refine R_istore_n (Dat dd_Y_closed 9 rfl) rfl rfl ?_
    refine R_iload_n (Dat dd_Y_closed 10 rfl) rfl ?_
    refine R_iconst (Dat dd_Y_closed 11 rfl) ?_
    refine R_iadd (Dat dd_Y_closed 12 rfl) ?_
    refine R_istore (Dat dd_Y_closed 13 rfl) rfl rfl ?_
    exact T
  · replace T := T.2 c
    refine R_iload_n (Dat dd_Y_closed 46 rfl) rfl ?_
    exact R_ireturn (Dat dd_Y_closed 47 rfl) rfl T
theorem t_Y_closed_19 {h : Hp} {P : Value → Hp → Prop} {a1 a2 a3 a4 : Int} (S : YS h) (T : (rng a4) ∧ (rng (iv h 400 5)) ∧ ((a4 < (iv h 400 5) → (0 ≤ a4) ∧ (a4 < 7) ∧ (0 ≤ a2) ∧ (a2 < 7) ∧ (rng (iv h 418 a4)) ∧ (rng (iv h 418 a2)) ∧ (((iv h 418 a4) < (iv h 418 a2) → R 161 19 [.ref 400, .int (I a1), .int (I a2), .int (I (a3 + 1)), .int (I (a4 + 1))] [] h P) ∧ (¬ (iv h 418 a4) < (iv h 418 a2) → R 161 19 [.ref 400, .int (I a1), .int (I a2), .int (I (a3 + 0)), .int (I (a4 + 1))] [] h P))) ∧ (¬ a4 < (iv h 400 5) → R 161 4 [.ref 400, .int (I ((a1 * ((iv h 400 5) - a2)) + a3)), .int (I (a2 + 1)), .int (I a3), .int (I a4)] [] h P))) : R 161 19 [.ref 400, .int (I a1), .int (I a2), .int (I a3), .int (I a4)] [] h P := by
  refine R_iload (Dat dd_Y_closed 14 rfl) rfl ?_
  refine R_aload_n (Dat dd_Y_closed 15 rfl) rfl rfl ?_
  refine R_geti (Dat dd_Y_closed 16 rfl) rfl rfl (tok S.t400) ?_
  obtain ⟨g1, T⟩ := T
  obtain ⟨g2, T⟩ := T
  refine R_ic_ge (Dat dd_Y_closed 17 rfl) rfl g1 g2 (fun c => ?_) (fun c => ?_)
  · replace T := T.1 c
    refine R_iload_n (Dat dd_Y_closed 18 rfl) rfl ?_
    refine R_aload_n (Dat dd_Y_closed 19 rfl) rfl rfl ?_
    refine R_getr (Dat dd_Y_closed 20 rfl) rfl rfl (tok S.t400) S.f400_17 (q := 418) rfl (tnz S.t418) ?_
    refine R_iload (Dat dd_Y_closed 21 rfl) rfl ?_
    obtain ⟨g3, T⟩ := T
    obtain ⟨g4, T⟩ := T
    refine R_iaload (Dat dd_Y_closed 22 rfl) (Or.inl S.t418) (lnle (show ln h 418 = 7 from S.l418) (by decide)) g3 (lnlt (show ln h 418 = 7 from S.l418) g4) ?_
    refine R_aload_n (Dat dd_Y_closed 23 rfl) rfl rfl ?_
    refine R_getr (Dat dd_Y_closed 24 rfl) rfl rfl (tok S.t400) S.f400_17 (q := 418) rfl (tnz S.t418) ?_
    refine R_iload_n (Dat dd_Y_closed 25 rfl) rfl ?_
    obtain ⟨g5, T⟩ := T
    obtain ⟨g6, T⟩ := T
    refine R_iaload (Dat dd_Y_closed 26 rfl) (Or.inl S.t418) (lnle (show ln h 418 = 7 from S.l418) (by decide)) g5 (lnlt (show ln h 418 = 7 from S.l418) g6) ?_
    obtain ⟨g7, T⟩ := T
    obtain ⟨g8, T⟩ := T
    refine R_ic_ge (Dat dd_Y_closed 27 rfl) rfl g7 g8 (fun c => ?_) (fun c => ?_)
    · replace T := T.1 c
      refine R_iconst (Dat dd_Y_closed 28 rfl) ?_
      refine R_goto (Dat dd_Y_closed 29 rfl) rfl ?_
      refine R_iadd (Dat dd_Y_closed 31 rfl) ?_
      refine R_istore_n (Dat dd_Y_closed 32 rfl) rfl rfl ?_
      refine R_iinc (Dat dd_Y_closed 33 rfl) rfl rfl rfl ?_
      refine R_goto (Dat dd_Y_closed 34 rfl) rfl ?_
      exact T
    · replace T := T.2 c
      refine R_iconst (Dat dd_Y_closed 30 rfl) ?_
      refine R_iadd (Dat dd_Y_closed 31 rfl) ?_
      refine R_istore_n (Dat dd_Y_closed 32 rfl) rfl rfl ?_
      refine R_iinc (Dat dd_Y_closed 33 rfl) rfl rfl rfl ?_
      refine R_goto (Dat dd_Y_closed 34 rfl) rfl ?_
      exact T
  · replace T := T.2 c
    refine R_iload_n (Dat dd_Y_closed 35 rfl) rfl ?_
    refine R_aload_n (Dat dd_Y_closed 36 rfl) rfl rfl ?_
    refine R_geti (Dat dd_Y_closed 37 rfl) rfl rfl (tok S.t400) ?_
    refine R_iload_n (Dat dd_Y_closed 38 rfl) rfl ?_
    refine R_isub (Dat dd_Y_closed 39 rfl) ?_
    refine R_imul (Dat dd_Y_closed 40 rfl) ?_
    refine R_iload_n (Dat dd_Y_closed 41 rfl) rfl ?_
    refine R_iadd (Dat dd_Y_closed 42 rfl) ?_
    refine R_istore_n (Dat dd_Y_closed 43 rfl) rfl rfl ?_
    refine R_iinc (Dat dd_Y_closed 44 rfl) rfl rfl rfl ?_
    refine R_goto (Dat dd_Y_closed 45 rfl) rfl ?_
    exact T
def dl_Y_doing : List (Nat × Instr × Nat) := [(0, .aload_n 0, 1), (1, .iconst 0, 1), (2, .putfield 83, 3), (5, .iload_n 1, 1), (6, .invokestatic 101, 3), (9, .ifCond .ne 5, 3), (12, .iconst (-1), 1), (13, .ireturn, 1), (14, .iload_n 2, 1), (15, .invokestatic 105, 3), (18, .ifCond .ne 6, 3), (21, .bipush (-2), 2), (23, .ireturn, 1), (24, .aload_n 0, 1), (25, .iload_n 1, 1), (26, .iload_n 2, 1), (27, .iload_n 3, 1), (28, .iload 4, 2), (30, .invokevirtual 108, 3), (33, .istore 5, 2), (35, .iload 5, 2), (37, .ifCond .eq 10, 3), (40, .aload_n 0, 1), (41, .iload 5, 2), (43, .invokevirtual 112, 3), (46, .ireturn, 1), (47, .bipush 60, 2), (49, .iload_n 1, 1), (50, .imul, 1), (51, .iload_n 3, 1), (52, .iadd, 1), (53, .istore 6, 2), (55, .aload_n 0, 1), (56, .iload 6, 2), (58, .iload 4, 2), (60, .invokevirtual 202, 3), (63, .ifCond .ne 6, 3), (66, .bipush (-2), 2), (68, .ireturn, 1), (69, .aload_n 0, 1), (70, .getfield 92, 3), (73, .ifCond .eq 10, 3), (76, .aload_n 0, 1), (77, .getfield 161, 3), (80, .ifCond .ne 6, 3), (83, .bipush (-3), 2), (85, .ireturn, 1), (86, .aload_n 0, 1), (87, .iconst 0, 1), (88, .putfield 187, 3), (91, .aload_n 0, 1), (92, .aload_n 0, 1), (93, .getfield 122, 3), (96, .invokevirtual 154, 3), (99, .iconst 0, 1), (100, .istore 7, 2), (102, .iload 7, 2), (104, .iload 4, 2), (106, .if_icmp .ge 27, 3), (109, .aload_n 0, 1), (110, .aload_n 0, 1), (111, .getfield 173, 3), (114, .aload_n 0, 1), (115, .getfield 16, 3), (118, .iload 6, 2), (120, .iload 7, 2), (122, .iadd, 1), (123, .iaload, 1), (124, .invokevirtual 194, 3), (127, .iinc 7 1, 3), (130, .goto (-28), 3), (133, .aload_n 0, 1), (134, .aload_n 0, 1), (135, .invokevirtual 198, 3), (138, .putfield 122, 3), (141, .aload_n 0, 1), (142, .dup, 1), (143, .getfield 125, 3), (146, .iload 4, 2), (148, .iadd, 1), (149, .putfield 125, 3), (152, .aload_n 0, 1), (153, .getfield 187, 3), (156, .ireturn, 1)]
theorem dd_Y_doing : Dall 162 dl_Y_doing = true := by decide +kernel
theorem t_Y_doing {h : Hp} {P : Value → Hp → Prop} {p0 p1 p2 p3 : Int} (S : YS h) (T : R 128 0 [.int (I p0)] [] (setI h 400 0 0) (fun v h2 => R 162 9 [.ref 400, .int (I p0), .int (I p1), .int (I p2), .int (I p3), .retAddr 0, .retAddr 0, .retAddr 0] (v :: []) h2 P)) : R 162 0 [.ref 400, .int (I p0), .int (I p1), .int (I p2), .int (I p3), .retAddr 0, .retAddr 0, .retAddr 0] [] h P := by
  refine R_aload_n (Dat dd_Y_doing 0 rfl) rfl rfl ?_
  refine R_iconst (Dat dd_Y_doing 1 rfl) ?_
  refine R_puti (Dat dd_Y_doing 2 rfl) rfl rfl rfl (tok S.t400) rfl (v := 0) rfl ?_
  refine R_iload_n (Dat dd_Y_doing 3 rfl) rfl ?_
  exact R_call0 (Dat dd_Y_doing 4 rfl) rfl rfl rfl rfl rfl rfl T
theorem t_Y_doing_9 {h : Hp} {P : Value → Hp → Prop} {a1 a2 a3 a4 s0 : Int} {a5 a6 a7 : Value} (S : YS h) (T : (rng s0) ∧ ((s0 = 0 → P (.int (I (-1))) h) ∧ (¬ s0 = 0 → R 130 0 [.int (I a2)] [] h (fun v h2 => R 162 18 [.ref 400, .int (I a1), .int (I a2), .int (I a3), .int (I a4), a5, a6, a7] (v :: []) h2 P)))) : R 162 9 [.ref 400, .int (I a1), .int (I a2), .int (I a3), .int (I a4), a5, a6, a7] [.int (I s0)] h P := by
  obtain ⟨g1, T⟩ := T
  refine R_if_ne (Dat dd_Y_doing 5 rfl) rfl g1  (fun c => ?_) (fun c => ?_)
  · replace T := T.1 c
    refine R_iconst (Dat dd_Y_doing 6 rfl) ?_
    exact R_ireturn (Dat dd_Y_doing 7 rfl) rfl T
  · replace T := T.2 c
    refine R_iload_n (Dat dd_Y_doing 8 rfl) rfl ?_
    exact R_call0 (Dat dd_Y_doing 9 rfl) rfl rfl rfl rfl rfl rfl T
theorem t_Y_doing_18 {h : Hp} {P : Value → Hp → Prop} {a1 a2 a3 a4 s0 : Int} {a5 a6 a7 : Value} (S : YS h) (T : (rng s0) ∧ ((s0 = 0 → P (.int (I (-2))) h) ∧ (¬ s0 = 0 → R 131 0 [.ref 400, .int (I a1), .int (I a2), .int (I a3), .int (I a4)] [] h (fun v h2 => R 162 33 [.ref 400, .int (I a1), .int (I a2), .int (I a3), .int (I a4), a5, a6, a7] (v :: []) h2 P)))) : R 162 18 [.ref 400, .int (I a1), .int (I a2), .int (I a3), .int (I a4), a5, a6, a7] [.int (I s0)] h P := by
  obtain ⟨g1, T⟩ := T
  refine R_if_ne (Dat dd_Y_doing 10 rfl) rfl g1  (fun c => ?_) (fun c => ?_)
  · replace T := T.1 c
    refine R_bipush (Dat dd_Y_doing 11 rfl) (a := (-2)) rfl ?_
    exact R_ireturn (Dat dd_Y_doing 12 rfl) rfl T
  · replace T := T.2 c
    refine R_aload_n (Dat dd_Y_doing 13 rfl) rfl rfl ?_
    refine R_iload_n (Dat dd_Y_doing 14 rfl) rfl ?_
    refine R_iload_n (Dat dd_Y_doing 15 rfl) rfl ?_
    refine R_iload_n (Dat dd_Y_doing 16 rfl) rfl ?_
    refine R_iload (Dat dd_Y_doing 17 rfl) rfl ?_
    exact R_call1 (Dat dd_Y_doing 18 rfl) rfl S.t400 rfl rfl rfl rfl rfl T
theorem t_Y_doing_33 {h : Hp} {P : Value → Hp → Prop} {a1 a3 a4 s0 : Int} {a2 a5 a6 a7 : Value} (S : YS h) (T : (rng s0) ∧ ((s0 = 0 → R 163 0 [.ref 400, .int (I ((60 * a1) + a3)), .int (I a4), .retAddr 0] [] h (fun v h2 => R 162 63 [.ref 400, .int (I a1), a2, .int (I a3), .int (I a4), .int (I s0), .int (I ((60 * a1) + a3)), a7] (v :: []) h2 P)) ∧ (¬ s0 = 0 → R 132 0 [.ref 400, .int (I s0)] [] h (fun v h2 => R 162 46 [.ref 400, .int (I a1), a2, .int (I a3), .int (I a4), .int (I s0), a6, a7] (v :: []) h2 P)))) : R 162 33 [.ref 400, .int (I a1), a2, .int (I a3), .int (I a4), a5, a6, a7] [.int (I s0)] h P := by
  refine R_istore (Dat dd_Y_doing 19 rfl) rfl rfl ?_
  refine R_iload (Dat dd_Y_doing 20 rfl) rfl ?_
  obtain ⟨g1, T⟩ := T
  refine R_if_eq (Dat dd_Y_doing 21 rfl) rfl g1  (fun c => ?_) (fun c => ?_)
  · replace T := T.1 c
    refine R_bipush (Dat dd_Y_doing 26 rfl) (a := 60) rfl ?_
    refine R_iload_n (Dat dd_Y_doing 27 rfl) rfl ?_
    refine R_imul (Dat dd_Y_doing 28 rfl) ?_
    refine R_iload_n (Dat dd_Y_doing 29 rfl) rfl ?_
    refine R_iadd (Dat dd_Y_doing 30 rfl) ?_
    refine R_istore (Dat dd_Y_doing 31 rfl) rfl rfl ?_
    refine R_aload_n (Dat dd_Y_doing 32 rfl) rfl rfl ?_
    refine R_iload (Dat dd_Y_doing 33 rfl) rfl ?_
    refine R_iload (Dat dd_Y_doing 34 rfl) rfl ?_
    exact R_call1 (Dat dd_Y_doing 35 rfl) rfl S.t400 rfl rfl rfl rfl rfl T
  · replace T := T.2 c
    refine R_aload_n (Dat dd_Y_doing 22 rfl) rfl rfl ?_
    refine R_iload (Dat dd_Y_doing 23 rfl) rfl ?_
    exact R_call1 (Dat dd_Y_doing 24 rfl) rfl S.t400 rfl rfl rfl rfl rfl T
theorem t_Y_doing_63 {h : Hp} {P : Value → Hp → Prop} {a4 a6 s0 : Int} {a1 a2 a3 a5 a7 : Value} (S : YS h) (T : (rng s0) ∧ ((s0 = 0 → P (.int (I (-2))) h) ∧ (¬ s0 = 0 → (rng (iv h 400 5)) ∧ (((iv h 400 5) = 0 → P (.int (I (-3))) h) ∧ (¬ (iv h 400 5) = 0 → (rng (iv h 400 18)) ∧ (((iv h 400 18) = 0 → P (.int (I (-3))) h) ∧ (¬ (iv h 400 18) = 0 → R 141 0 [.ref 400, .int (I (iv (setI h 400 26 0) 400 7)), .retAddr 0, .retAddr 0, .retAddr 0, .retAddr 0, .retAddr 0, .retAddr 0] [] (setI h 400 26 0) (fun _ h2 => R 162 99 [.ref 400, a1, a2, a3, .int (I a4), a5, .int (I a6), a7] [] h2 P)))))))) : R 162 63 [.ref 400, a1, a2, a3, .int (I a4), a5, .int (I a6), a7] [.int (I s0)] h P := by
  obtain ⟨g1, T⟩ := T
  refine R_if_ne (Dat dd_Y_doing 36 rfl) rfl g1  (fun c => ?_) (fun c => ?_)
  · replace T := T.1 c
    refine R_bipush (Dat dd_Y_doing 37 rfl) (a := (-2)) rfl ?_
    exact R_ireturn (Dat dd_Y_doing 38 rfl) rfl T
  · replace T := T.2 c
    refine R_aload_n (Dat dd_Y_doing 39 rfl) rfl rfl ?_
    refine R_geti (Dat dd_Y_doing 40 rfl) rfl rfl (tok S.t400) ?_
    obtain ⟨g2, T⟩ := T
    refine R_if_eq (Dat dd_Y_doing 41 rfl) rfl g2  (fun c => ?_) (fun c => ?_)
    · replace T := T.1 c
      refine R_bipush (Dat dd_Y_doing 45 rfl) (a := (-3)) rfl ?_
      exact R_ireturn (Dat dd_Y_doing 46 rfl) rfl T
    · replace T := T.2 c
      refine R_aload_n (Dat dd_Y_doing 42 rfl) rfl rfl ?_
      refine R_geti (Dat dd_Y_doing 43 rfl) rfl rfl (tok S.t400) ?_
      obtain ⟨g3, T⟩ := T
      refine R_if_ne (Dat dd_Y_doing 44 rfl) rfl g3  (fun c => ?_) (fun c => ?_)
      · replace T := T.1 c
        refine R_bipush (Dat dd_Y_doing 45 rfl) (a := (-3)) rfl ?_
        exact R_ireturn (Dat dd_Y_doing 46 rfl) rfl T
      · replace T := T.2 c
        refine R_aload_n (Dat dd_Y_doing 47 rfl) rfl rfl ?_
        refine R_iconst (Dat dd_Y_doing 48 rfl) ?_
        refine R_puti (Dat dd_Y_doing 49 rfl) rfl rfl rfl (tok S.t400) rfl (v := 0) rfl ?_
        refine R_aload_n (Dat dd_Y_doing 50 rfl) rfl rfl ?_
        refine R_aload_n (Dat dd_Y_doing 51 rfl) rfl rfl ?_
        refine R_geti (Dat dd_Y_doing 52 rfl) rfl rfl (tok S.t400) ?_
        exact R_call1 (Dat dd_Y_doing 53 rfl) rfl S.t400 rfl rfl rfl rfl rfl T
theorem t_Y_doing_46 {h : Hp} {P : Value → Hp → Prop} {s0 : Int} {a0 a1 a2 a3 a4 a5 a6 a7 : Value} (S : YS h) (T : P (.int (I s0)) h) : R 162 46 [a0, a1, a2, a3, a4, a5, a6, a7] [.int (I s0)] h P := by
  exact R_ireturn (Dat dd_Y_doing 25 rfl) rfl T
theorem t_Y_doing_99 {h : Hp} {P : Value → Hp → Prop} {a4 a6 : Int} {a1 a2 a3 a5 a7 : Value} (S : YS h) (T : R 162 102 [.ref 400, a1, a2, a3, .int (I a4), a5, .int (I a6), .int (I 0)] [] h P) : R 162 99 [.ref 400, a1, a2, a3, .int (I a4), a5, .int (I a6), a7] [] h P := by
  refine R_iconst (Dat dd_Y_doing 54 rfl) ?_
  refine R_istore (Dat dd_Y_doing 55 rfl) rfl rfl ?_
  exact T
theorem t_Y_doing_102 {h : Hp} {P : Value → Hp → Prop} {a4 a6 a7 : Int} {a1 a2 a3 a5 : Value} (S : YS h) (T : (rng a7) ∧ (rng a4) ∧ ((a7 < a4 → (0 ≤ (a6 + a7)) ∧ ((a6 + a7) < 240) ∧ R 159 0 [.ref 400, .int (I (iv h 400 19)), .int (I (iv h 405 (a6 + a7))), .retAddr 0, .retAddr 0] [] h (fun _ h2 => R 162 127 [.ref 400, a1, a2, a3, .int (I a4), a5, .int (I a6), .int (I a7)] [] h2 P)) ∧ (¬ a7 < a4 → R 161 0 [.ref 400, .retAddr 0, .retAddr 0, .retAddr 0, .retAddr 0] [] h (fun v h2 => R 162 138 [.ref 400, a1, a2, a3, .int (I a4), a5, .int (I a6), .int (I a7)] (v :: [.ref 400]) h2 P)))) : R 162 102 [.ref 400, a1, a2, a3, .int (I a4), a5, .int (I a6), .int (I a7)] [] h P := by
  refine R_iload (Dat dd_Y_doing 56 rfl) rfl ?_
  refine R_iload (Dat dd_Y_doing 57 rfl) rfl ?_
  obtain ⟨g1, T⟩ := T
  obtain ⟨g2, T⟩ := T
  refine R_ic_ge (Dat dd_Y_doing 58 rfl) rfl g1 g2 (fun c => ?_) (fun c => ?_)
  · replace T := T.1 c
    refine R_aload_n (Dat dd_Y_doing 59 rfl) rfl rfl ?_
    refine R_aload_n (Dat dd_Y_doing 60 rfl) rfl rfl ?_
    refine R_geti (Dat dd_Y_doing 61 rfl) rfl rfl (tok S.t400) ?_
    refine R_aload_n (Dat dd_Y_doing 62 rfl) rfl rfl ?_
    refine R_getr (Dat dd_Y_doing 63 rfl) rfl rfl (tok S.t400) S.f400_4 (q := 405) rfl (tnz S.t405) ?_
    refine R_iload (Dat dd_Y_doing 64 rfl) rfl ?_
    refine R_iload (Dat dd_Y_doing 65 rfl) rfl ?_
    refine R_iadd (Dat dd_Y_doing 66 rfl) ?_
    obtain ⟨g3, T⟩ := T
    obtain ⟨g4, T⟩ := T
    refine R_iaload (Dat dd_Y_doing 67 rfl) (Or.inl S.t405) (lnle (show ln h 405 = 240 from S.l405) (by decide)) g3 (lnlt (show ln h 405 = 240 from S.l405) g4) ?_
    exact R_call1 (Dat dd_Y_doing 68 rfl) rfl S.t400 rfl rfl rfl rfl rfl T
  · replace T := T.2 c
    refine R_aload_n (Dat dd_Y_doing 71 rfl) rfl rfl ?_
    refine R_aload_n (Dat dd_Y_doing 72 rfl) rfl rfl ?_
    exact R_call1 (Dat dd_Y_doing 73 rfl) rfl S.t400 rfl rfl rfl rfl rfl T
theorem t_Y_doing_127 {h : Hp} {P : Value → Hp → Prop} {a4 a6 a7 : Int} {a1 a2 a3 a5 : Value} (S : YS h) (T : R 162 102 [.ref 400, a1, a2, a3, .int (I a4), a5, .int (I a6), .int (I (a7 + 1))] [] h P) : R 162 127 [.ref 400, a1, a2, a3, .int (I a4), a5, .int (I a6), .int (I a7)] [] h P := by
  refine R_iinc (Dat dd_Y_doing 69 rfl) rfl rfl rfl ?_
  refine R_goto (Dat dd_Y_doing 70 rfl) rfl ?_
  exact T
theorem t_Y_doing_138 {h : Hp} {P : Value → Hp → Prop} {a4 s0 : Int} {a1 a2 a3 a5 a6 a7 : Value} (S : YS h) (T : P (.int (I (iv (setI (setI h 400 7 (wr s0)) 400 8 (wr ((iv (setI h 400 7 (wr s0)) 400 8) + a4))) 400 26))) (setI (setI h 400 7 (wr s0)) 400 8 (wr ((iv (setI h 400 7 (wr s0)) 400 8) + a4)))) : R 162 138 [.ref 400, a1, a2, a3, .int (I a4), a5, a6, a7] [.int (I s0), .ref 400] h P := by
  refine R_puti (Dat dd_Y_doing 74 rfl) rfl rfl rfl (tok S.t400) rfl (v := wr s0) rfl ?_
  refine R_aload_n (Dat dd_Y_doing 75 rfl) rfl rfl ?_
  refine R_dup (Dat dd_Y_doing 76 rfl) rfl ?_
  refine R_geti (Dat dd_Y_doing 77 rfl) rfl rfl (tok S.t400) ?_
  refine R_iload (Dat dd_Y_doing 78 rfl) rfl ?_
  refine R_iadd (Dat dd_Y_doing 79 rfl) ?_
  refine R_puti (Dat dd_Y_doing 80 rfl) rfl rfl rfl (tok S.t400) rfl (v := wr ((iv (setI h 400 7 (wr s0)) 400 8) + a4)) rfl ?_
  refine R_aload_n (Dat dd_Y_doing 81 rfl) rfl rfl ?_
  refine R_geti (Dat dd_Y_doing 82 rfl) rfl rfl (tok S.t400) ?_
  exact R_ireturn (Dat dd_Y_doing 83 rfl) rfl T
def dl_Y_areHard : List (Nat × Instr × Nat) := [(0, .iconst 0, 1), (1, .istore_n 3, 1), (2, .iload_n 3, 1), (3, .iload_n 2, 1), (4, .if_icmp .ge 25, 3), (7, .aload_n 0, 1), (8, .getfield 16, 3), (11, .iload_n 1, 1), (12, .iload_n 3, 1), (13, .iadd, 1), (14, .iaload, 1), (15, .invokestatic 180, 3), (18, .ifCond .ne 5, 3), (21, .iconst 0, 1), (22, .ireturn, 1), (23, .iinc 3 1, 3), (26, .goto (-24), 3), (29, .iconst 1, 1), (30, .ireturn, 1)]
theorem dd_Y_areHard : Dall 163 dl_Y_areHard = true := by decide +kernel
theorem t_Y_areHard {h : Hp} {P : Value → Hp → Prop} {p0 p1 : Int} (S : YS h) (T : R 163 2 [.ref 400, .int (I p0), .int (I p1), .int (I 0)] [] h P) : R 163 0 [.ref 400, .int (I p0), .int (I p1), .retAddr 0] [] h P := by
  refine R_iconst (Dat dd_Y_areHard 0 rfl) ?_
  refine R_istore_n (Dat dd_Y_areHard 1 rfl) rfl rfl ?_
  exact T
theorem t_Y_areHard_2 {h : Hp} {P : Value → Hp → Prop} {a1 a2 a3 : Int} (S : YS h) (T : (rng a3) ∧ (rng a2) ∧ ((a3 < a2 → (0 ≤ (a1 + a3)) ∧ ((a1 + a3) < 240) ∧ R 155 0 [.int (I (iv h 405 (a1 + a3)))] [] h (fun v h2 => R 163 18 [.ref 400, .int (I a1), .int (I a2), .int (I a3)] (v :: []) h2 P)) ∧ (¬ a3 < a2 → P (.int (I 1)) h))) : R 163 2 [.ref 400, .int (I a1), .int (I a2), .int (I a3)] [] h P := by
  refine R_iload_n (Dat dd_Y_areHard 2 rfl) rfl ?_
  refine R_iload_n (Dat dd_Y_areHard 3 rfl) rfl ?_
  obtain ⟨g1, T⟩ := T
  obtain ⟨g2, T⟩ := T
  refine R_ic_ge (Dat dd_Y_areHard 4 rfl) rfl g1 g2 (fun c => ?_) (fun c => ?_)
  · replace T := T.1 c
    refine R_aload_n (Dat dd_Y_areHard 5 rfl) rfl rfl ?_
    refine R_getr (Dat dd_Y_areHard 6 rfl) rfl rfl (tok S.t400) S.f400_4 (q := 405) rfl (tnz S.t405) ?_
    refine R_iload_n (Dat dd_Y_areHard 7 rfl) rfl ?_
    refine R_iload_n (Dat dd_Y_areHard 8 rfl) rfl ?_
    refine R_iadd (Dat dd_Y_areHard 9 rfl) ?_
    obtain ⟨g3, T⟩ := T
    obtain ⟨g4, T⟩ := T
    refine R_iaload (Dat dd_Y_areHard 10 rfl) (Or.inl S.t405) (lnle (show ln h 405 = 240 from S.l405) (by decide)) g3 (lnlt (show ln h 405 = 240 from S.l405) g4) ?_
    exact R_call0 (Dat dd_Y_areHard 11 rfl) rfl rfl rfl rfl rfl rfl T
  · replace T := T.2 c
    refine R_iconst (Dat dd_Y_areHard 17 rfl) ?_
    exact R_ireturn (Dat dd_Y_areHard 18 rfl) rfl T
theorem t_Y_areHard_18 {h : Hp} {P : Value → Hp → Prop} {a1 a2 a3 s0 : Int} (S : YS h) (T : (rng s0) ∧ ((s0 = 0 → P (.int (I 0)) h) ∧ (¬ s0 = 0 → R 163 2 [.ref 400, .int (I a1), .int (I a2), .int (I (a3 + 1))] [] h P))) : R 163 18 [.ref 400, .int (I a1), .int (I a2), .int (I a3)] [.int (I s0)] h P := by
  obtain ⟨g1, T⟩ := T
  refine R_if_ne (Dat dd_Y_areHard 12 rfl) rfl g1  (fun c => ?_) (fun c => ?_)
  · replace T := T.1 c
    refine R_iconst (Dat dd_Y_areHard 13 rfl) ?_
    exact R_ireturn (Dat dd_Y_areHard 14 rfl) rfl T
  · replace T := T.2 c
    refine R_iinc (Dat dd_Y_areHard 15 rfl) rfl rfl rfl ?_
    refine R_goto (Dat dd_Y_areHard 16 rfl) rfl ?_
    exact T
def dl_Y_turn : List (Nat × Instr × Nat) := [(0, .aload_n 0, 1), (1, .getfield 92, 3), (4, .ifCond .ne 6, 3), (7, .bipush (-3), 2), (9, .ireturn, 1), (10, .aload_n 0, 1), (11, .aload_n 0, 1), (12, .aload_n 0, 1), (13, .getfield 122, 3), (16, .invokevirtual 205, 3), (19, .putfield 122, 3), (22, .aload_n 0, 1), (23, .getfield 122, 3), (26, .ireturn, 1)]
theorem dd_Y_turn : Dall 164 dl_Y_turn = true := by decide +kernel
theorem t_Y_turn {h : Hp} {P : Value → Hp → Prop}  (S : YS h) (T : (rng (iv h 400 5)) ∧ (((iv h 400 5) = 0 → P (.int (I (-3))) h) ∧ (¬ (iv h 400 5) = 0 → R 165 0 [.ref 400, .int (I (iv h 400 7)), .retAddr 0, .retAddr 0] [] h (fun v h2 => R 164 19 [.ref 400] (v :: [.ref 400]) h2 P)))) : R 164 0 [.ref 400] [] h P := by
  refine R_aload_n (Dat dd_Y_turn 0 rfl) rfl rfl ?_
  refine R_geti (Dat dd_Y_turn 1 rfl) rfl rfl (tok S.t400) ?_
  obtain ⟨g1, T⟩ := T
  refine R_if_ne (Dat dd_Y_turn 2 rfl) rfl g1  (fun c => ?_) (fun c => ?_)
  · replace T := T.1 c
    refine R_bipush (Dat dd_Y_turn 3 rfl) (a := (-3)) rfl ?_
    exact R_ireturn (Dat dd_Y_turn 4 rfl) rfl T
  · replace T := T.2 c
    refine R_aload_n (Dat dd_Y_turn 5 rfl) rfl rfl ?_
    refine R_aload_n (Dat dd_Y_turn 6 rfl) rfl rfl ?_
    refine R_aload_n (Dat dd_Y_turn 7 rfl) rfl rfl ?_
    refine R_geti (Dat dd_Y_turn 8 rfl) rfl rfl (tok S.t400) ?_
    exact R_call1 (Dat dd_Y_turn 9 rfl) rfl S.t400 rfl rfl rfl rfl rfl T
theorem t_Y_turn_19 {h : Hp} {P : Value → Hp → Prop} {s0 : Int} (S : YS h) (T : P (.int (I (iv (setI h 400 7 (wr s0)) 400 7))) (setI h 400 7 (wr s0))) : R 164 19 [.ref 400] [.int (I s0), .ref 400] h P := by
  refine R_puti (Dat dd_Y_turn 10 rfl) rfl rfl rfl (tok S.t400) rfl (v := wr s0) rfl ?_
  refine R_aload_n (Dat dd_Y_turn 11 rfl) rfl rfl ?_
  refine R_geti (Dat dd_Y_turn 12 rfl) rfl rfl (tok S.t400) ?_
  exact R_ireturn (Dat dd_Y_turn 13 rfl) rfl T
def dl_Y_turned : List (Nat × Instr × Nat) := [(0, .aload_n 0, 1), (1, .iload_n 1, 1), (2, .invokevirtual 154, 3), (5, .iconst 0, 1), (6, .istore_n 2, 1), (7, .iload_n 2, 1), (8, .aload_n 0, 1), (9, .getfield 92, 3), (12, .iconst 2, 1), (13, .idiv, 1), (14, .if_icmp .ge 49, 3), (17, .aload_n 0, 1), (18, .getfield 37, 3), (21, .iload_n 2, 1), (22, .iaload, 1), (23, .istore_n 3, 1), (24, .aload_n 0, 1), (25, .getfield 37, 3), (28, .iload_n 2, 1), (29, .aload_n 0, 1), (30, .getfield 37, 3), (33, .aload_n 0, 1), (34, .getfield 92, 3), (37, .iconst 1, 1), (38, .isub, 1), (39, .iload_n 2, 1), (40, .isub, 1), (41, .iaload, 1), (42, .iastore, 1), (43, .aload_n 0, 1), (44, .getfield 37, 3), (47, .aload_n 0, 1), (48, .getfield 92, 3), (51, .iconst 1, 1), (52, .isub, 1), (53, .iload_n 2, 1), (54, .isub, 1), (55, .iload_n 3, 1), (56, .iastore, 1), (57, .iinc 2 1, 3), (60, .goto (-53), 3), (63, .aload_n 0, 1), (64, .invokevirtual 198, 3), (67, .ireturn, 1)]
theorem dd_Y_turned : Dall 165 dl_Y_turned = true := by decide +kernel
theorem t_Y_turned {h : Hp} {P : Value → Hp → Prop} {p0 : Int} (S : YS h) (T : R 141 0 [.ref 400, .int (I p0), .retAddr 0, .retAddr 0, .retAddr 0, .retAddr 0, .retAddr 0, .retAddr 0] [] h (fun _ h2 => R 165 5 [.ref 400, .int (I p0), .retAddr 0, .retAddr 0] [] h2 P)) : R 165 0 [.ref 400, .int (I p0), .retAddr 0, .retAddr 0] [] h P := by
  refine R_aload_n (Dat dd_Y_turned 0 rfl) rfl rfl ?_
  refine R_iload_n (Dat dd_Y_turned 1 rfl) rfl ?_
  exact R_call1 (Dat dd_Y_turned 2 rfl) rfl S.t400 rfl rfl rfl rfl rfl T
theorem t_Y_turned_5 {h : Hp} {P : Value → Hp → Prop} {a1 a2 a3 : Value} (S : YS h) (T : R 165 7 [.ref 400, a1, .int (I 0), a3] [] h P) : R 165 5 [.ref 400, a1, a2, a3] [] h P := by
  refine R_iconst (Dat dd_Y_turned 3 rfl) ?_
  refine R_istore_n (Dat dd_Y_turned 4 rfl) rfl rfl ?_
  exact T
theorem t_Y_turned_7 {h : Hp} {P : Value → Hp → Prop} {a2 : Int} {a1 a3 : Value} (S : YS h) (T : (0 ≤ (iv h 400 5) ∧ (iv h 400 5) < 2147483648) ∧ (rng a2) ∧ (rng ((iv h 400 5) / 2)) ∧ ((a2 < ((iv h 400 5) / 2) → (0 ≤ a2) ∧ (a2 < 7) ∧ (0 ≤ (((iv h 400 5) - 1) - a2)) ∧ ((((iv h 400 5) - 1) - a2) < 7) ∧ (0 ≤ a2) ∧ (a2 < 7) ∧ (0 ≤ (((iv (setI h 418 a2 (wr (iv h 418 (((iv h 400 5) - 1) - a2)))) 400 5) - 1) - a2)) ∧ ((((iv (setI h 418 a2 (wr (iv h 418 (((iv h 400 5) - 1) - a2)))) 400 5) - 1) - a2) < 7) ∧ R 165 7 [.ref 400, a1, .int (I (a2 + 1)), .int (I (iv h 418 a2))] [] (setI (setI h 418 a2 (wr (iv h 418 (((iv h 400 5) - 1) - a2)))) 418 (((iv (setI h 418 a2 (wr (iv h 418 (((iv h 400 5) - 1) - a2)))) 400 5) - 1) - a2) (wr (iv h 418 a2))) P) ∧ (¬ a2 < ((iv h 400 5) / 2) → R 161 0 [.ref 400, .retAddr 0, .retAddr 0, .retAddr 0, .retAddr 0] [] h (fun v h2 => R 165 67 [.ref 400, a1, .int (I a2), a3] (v :: []) h2 P)))) : R 165 7 [.ref 400, a1, .int (I a2), a3] [] h P := by
  refine R_iload_n (Dat dd_Y_turned 5 rfl) rfl ?_
  refine R_aload_n (Dat dd_Y_turned 6 rfl) rfl rfl ?_
  refine R_geti (Dat dd_Y_turned 7 rfl) rfl rfl (tok S.t400) ?_
  refine R_iconst (Dat dd_Y_turned 8 rfl) ?_
  obtain ⟨g1, T⟩ := T
  refine R_idiv (Dat dd_Y_turned 9 rfl) g1 (by decide) ?_
  obtain ⟨g2, T⟩ := T
  obtain ⟨g3, T⟩ := T
  refine R_ic_ge (Dat dd_Y_turned 10 rfl) rfl g2 g3 (fun c => ?_) (fun c => ?_)
  · replace T := T.1 c
    refine R_aload_n (Dat dd_Y_turned 11 rfl) rfl rfl ?_
    refine R_getr (Dat dd_Y_turned 12 rfl) rfl rfl (tok S.t400) S.f400_17 (q := 418) rfl (tnz S.t418) ?_
    refine R_iload_n (Dat dd_Y_turned 13 rfl) rfl ?_
    obtain ⟨g4, T⟩ := T
    obtain ⟨g5, T⟩ := T
    refine R_iaload (Dat dd_Y_turned 14 rfl) (Or.inl S.t418) (lnle (show ln h 418 = 7 from S.l418) (by decide)) g4 (lnlt (show ln h 418 = 7 from S.l418) g5) ?_
    refine R_istore_n (Dat dd_Y_turned 15 rfl) rfl rfl ?_
    refine R_aload_n (Dat dd_Y_turned 16 rfl) rfl rfl ?_
    refine R_getr (Dat dd_Y_turned 17 rfl) rfl rfl (tok S.t400) S.f400_17 (q := 418) rfl (tnz S.t418) ?_
    refine R_iload_n (Dat dd_Y_turned 18 rfl) rfl ?_
    refine R_aload_n (Dat dd_Y_turned 19 rfl) rfl rfl ?_
    refine R_getr (Dat dd_Y_turned 20 rfl) rfl rfl (tok S.t400) S.f400_17 (q := 418) rfl (tnz S.t418) ?_
    refine R_aload_n (Dat dd_Y_turned 21 rfl) rfl rfl ?_
    refine R_geti (Dat dd_Y_turned 22 rfl) rfl rfl (tok S.t400) ?_
    refine R_iconst (Dat dd_Y_turned 23 rfl) ?_
    refine R_isub (Dat dd_Y_turned 24 rfl) ?_
    refine R_iload_n (Dat dd_Y_turned 25 rfl) rfl ?_
    refine R_isub (Dat dd_Y_turned 26 rfl) ?_
    obtain ⟨g6, T⟩ := T
    obtain ⟨g7, T⟩ := T
    refine R_iaload (Dat dd_Y_turned 27 rfl) (Or.inl S.t418) (lnle (show ln h 418 = 7 from S.l418) (by decide)) g6 (lnlt (show ln h 418 = 7 from S.l418) g7) ?_
    obtain ⟨g8, T⟩ := T
    obtain ⟨g9, T⟩ := T
    refine R_iastore (Dat dd_Y_turned 28 rfl) S.t418 (lnle (show ln h 418 = 7 from S.l418) (by decide)) g8 (lnlt (show ln h 418 = 7 from S.l418) g9) (v := wr (iv h 418 (((iv h 400 5) - 1) - a2))) rfl ?_
    refine R_aload_n (Dat dd_Y_turned 29 rfl) rfl rfl ?_
    refine R_getr (Dat dd_Y_turned 30 rfl) rfl rfl (tok S.t400) S.f400_17 (q := 418) rfl (tnz S.t418) ?_
    refine R_aload_n (Dat dd_Y_turned 31 rfl) rfl rfl ?_
    refine R_geti (Dat dd_Y_turned 32 rfl) rfl rfl (tok S.t400) ?_
    refine R_iconst (Dat dd_Y_turned 33 rfl) ?_
    refine R_isub (Dat dd_Y_turned 34 rfl) ?_
    refine R_iload_n (Dat dd_Y_turned 35 rfl) rfl ?_
    refine R_isub (Dat dd_Y_turned 36 rfl) ?_
    refine R_iload_n (Dat dd_Y_turned 37 rfl) rfl ?_
    obtain ⟨g10, T⟩ := T
    obtain ⟨g11, T⟩ := T
    refine R_iastore (Dat dd_Y_turned 38 rfl) S.t418 (lnle (show ln (setI h 418 a2 (wr (iv h 418 (((iv h 400 5) - 1) - a2)))) 418 = 7 from S.l418) (by decide)) g10 (lnlt (show ln (setI h 418 a2 (wr (iv h 418 (((iv h 400 5) - 1) - a2)))) 418 = 7 from S.l418) g11) (v := wr (iv h 418 a2)) rfl ?_
    refine R_iinc (Dat dd_Y_turned 39 rfl) rfl rfl rfl ?_
    refine R_goto (Dat dd_Y_turned 40 rfl) rfl ?_
    exact T
  · replace T := T.2 c
    refine R_aload_n (Dat dd_Y_turned 41 rfl) rfl rfl ?_
    exact R_call1 (Dat dd_Y_turned 42 rfl) rfl S.t400 rfl rfl rfl rfl rfl T
theorem t_Y_turned_67 {h : Hp} {P : Value → Hp → Prop} {s0 : Int} {a0 a1 a2 a3 : Value} (S : YS h) (T : P (.int (I s0)) h) : R 165 67 [a0, a1, a2, a3] [.int (I s0)] h P := by
  exact R_ireturn (Dat dd_Y_turned 43 rfl) rfl T
def dl_Y_spoon : List (Nat × Instr × Nat) := [(0, .aload_n 0, 1), (1, .getfield 92, 3), (4, .ifCond .ne 6, 3), (7, .bipush (-3), 2), (9, .ireturn, 1), (10, .aload_n 0, 1), (11, .aload_n 0, 1), (12, .aload_n 0, 1), (13, .getfield 122, 3), (16, .invokevirtual 208, 3), (19, .putfield 122, 3), (22, .aload_n 0, 1), (23, .getfield 37, 3), (26, .aload_n 0, 1), (27, .getfield 92, 3), (30, .iconst 1, 1), (31, .isub, 1), (32, .iaload, 1), (33, .ireturn, 1)]
theorem dd_Y_spoon : Dall 166 dl_Y_spoon = true := by decide +kernel
theorem t_Y_spoon {h : Hp} {P : Value → Hp → Prop}  (S : YS h) (T : (rng (iv h 400 5)) ∧ (((iv h 400 5) = 0 → P (.int (I (-3))) h) ∧ (¬ (iv h 400 5) = 0 → R 167 0 [.ref 400, .int (I (iv h 400 7)), .retAddr 0, .retAddr 0] [] h (fun v h2 => R 166 19 [.ref 400] (v :: [.ref 400]) h2 P)))) : R 166 0 [.ref 400] [] h P := by
  refine R_aload_n (Dat dd_Y_spoon 0 rfl) rfl rfl ?_
  refine R_geti (Dat dd_Y_spoon 1 rfl) rfl rfl (tok S.t400) ?_
  obtain ⟨g1, T⟩ := T
  refine R_if_ne (Dat dd_Y_spoon 2 rfl) rfl g1  (fun c => ?_) (fun c => ?_)
  · replace T := T.1 c
    refine R_bipush (Dat dd_Y_spoon 3 rfl) (a := (-3)) rfl ?_
    exact R_ireturn (Dat dd_Y_spoon 4 rfl) rfl T
  · replace T := T.2 c
    refine R_aload_n (Dat dd_Y_spoon 5 rfl) rfl rfl ?_
    refine R_aload_n (Dat dd_Y_spoon 6 rfl) rfl rfl ?_
    refine R_aload_n (Dat dd_Y_spoon 7 rfl) rfl rfl ?_
    refine R_geti (Dat dd_Y_spoon 8 rfl) rfl rfl (tok S.t400) ?_
    exact R_call1 (Dat dd_Y_spoon 9 rfl) rfl S.t400 rfl rfl rfl rfl rfl T
theorem t_Y_spoon_19 {h : Hp} {P : Value → Hp → Prop} {s0 : Int} (S : YS h) (T : (0 ≤ ((iv (setI h 400 7 (wr s0)) 400 5) - 1)) ∧ (((iv (setI h 400 7 (wr s0)) 400 5) - 1) < 7) ∧ P (.int (I (iv (setI h 400 7 (wr s0)) 418 ((iv (setI h 400 7 (wr s0)) 400 5) - 1)))) (setI h 400 7 (wr s0))) : R 166 19 [.ref 400] [.int (I s0), .ref 400] h P := by
  refine R_puti (Dat dd_Y_spoon 10 rfl) rfl rfl rfl (tok S.t400) rfl (v := wr s0) rfl ?_
  refine R_aload_n (Dat dd_Y_spoon 11 rfl) rfl rfl ?_
  refine R_getr (Dat dd_Y_spoon 12 rfl) rfl rfl (tok S.t400) S.f400_17 (q := 418) rfl (tnz S.t418) ?_
  refine R_aload_n (Dat dd_Y_spoon 13 rfl) rfl rfl ?_
  refine R_geti (Dat dd_Y_spoon 14 rfl) rfl rfl (tok S.t400) ?_
  refine R_iconst (Dat dd_Y_spoon 15 rfl) ?_
  refine R_isub (Dat dd_Y_spoon 16 rfl) ?_
  obtain ⟨g1, T⟩ := T
  obtain ⟨g2, T⟩ := T
  refine R_iaload (Dat dd_Y_spoon 17 rfl) (Or.inl S.t418) (lnle (show ln (setI h 400 7 (wr s0)) 418 = 7 from S.l418) (by decide)) g1 (lnlt (show ln (setI h 400 7 (wr s0)) 418 = 7 from S.l418) g2) ?_
  exact R_ireturn (Dat dd_Y_spoon 18 rfl) rfl T
def dl_Y_spooned : List (Nat × Instr × Nat) := [(0, .aload_n 0, 1), (1, .iload_n 1, 1), (2, .invokevirtual 154, 3), (5, .aload_n 0, 1), (6, .getfield 37, 3), (9, .iconst 0, 1), (10, .iaload, 1), (11, .istore_n 2, 1), (12, .iconst 1, 1), (13, .istore_n 3, 1), (14, .iload_n 3, 1), (15, .aload_n 0, 1), (16, .getfield 92, 3), (19, .if_icmp .ge 23, 3), (22, .aload_n 0, 1), (23, .getfield 37, 3), (26, .iload_n 3, 1), (27, .iconst 1, 1), (28, .isub, 1), (29, .aload_n 0, 1), (30, .getfield 37, 3), (33, .iload_n 3, 1), (34, .iaload, 1), (35, .iastore, 1), (36, .iinc 3 1, 3), (39, .goto (-25), 3), (42, .aload_n 0, 1), (43, .getfield 37, 3), (46, .aload_n 0, 1), (47, .getfield 92, 3), (50, .iconst 1, 1), (51, .isub, 1), (52, .iload_n 2, 1), (53, .iastore, 1), (54, .aload_n 0, 1), (55, .invokevirtual 198, 3), (58, .ireturn, 1)]
theorem dd_Y_spooned : Dall 167 dl_Y_spooned = true := by decide +kernel
theorem t_Y_spooned {h : Hp} {P : Value → Hp → Prop} {p0 : Int} (S : YS h) (T : R 141 0 [.ref 400, .int (I p0), .retAddr 0, .retAddr 0, .retAddr 0, .retAddr 0, .retAddr 0, .retAddr 0] [] h (fun _ h2 => R 167 5 [.ref 400, .int (I p0), .retAddr 0, .retAddr 0] [] h2 P)) : R 167 0 [.ref 400, .int (I p0), .retAddr 0, .retAddr 0] [] h P := by
  refine R_aload_n (Dat dd_Y_spooned 0 rfl) rfl rfl ?_
  refine R_iload_n (Dat dd_Y_spooned 1 rfl) rfl ?_
  exact R_call1 (Dat dd_Y_spooned 2 rfl) rfl S.t400 rfl rfl rfl rfl rfl T
theorem t_Y_spooned_5 {h : Hp} {P : Value → Hp → Prop} {a1 a2 a3 : Value} (S : YS h) (T : R 167 14 [.ref 400, a1, .int (I (iv h 418 0)), .int (I 1)] [] h P) : R 167 5 [.ref 400, a1, a2, a3] [] h P := by
  refine R_aload_n (Dat dd_Y_spooned 3 rfl) rfl rfl ?_
  refine R_getr (Dat dd_Y_spooned 4 rfl) rfl rfl (tok S.t400) S.f400_17 (q := 418) rfl (tnz S.t418) ?_
  refine R_iconst (Dat dd_Y_spooned 5 rfl) ?_
  refine R_iaload (Dat dd_Y_spooned 6 rfl) (Or.inl S.t418) (lnle (show ln h 418 = 7 from S.l418) (by decide)) (by decide) (lnlt (show ln h 418 = 7 from S.l418) (by decide)) ?_
  refine R_istore_n (Dat dd_Y_spooned 7 rfl) rfl rfl ?_
  refine R_iconst (Dat dd_Y_spooned 8 rfl) ?_
  refine R_istore_n (Dat dd_Y_spooned 9 rfl) rfl rfl ?_
  exact T
theorem t_Y_spooned_14 {h : Hp} {P : Value → Hp → Prop} {a2 a3 : Int} {a1 : Value} (S : YS h) (T : (rng a3) ∧ (rng (iv h 400 5)) ∧ ((a3 < (iv h 400 5) → (0 ≤ a3) ∧ (a3 < 7) ∧ (0 ≤ (a3 - 1)) ∧ ((a3 - 1) < 7) ∧ R 167 14 [.ref 400, a1, .int (I a2), .int (I (a3 + 1))] [] (setI h 418 (a3 - 1) (wr (iv h 418 a3))) P) ∧ (¬ a3 < (iv h 400 5) → (0 ≤ ((iv h 400 5) - 1)) ∧ (((iv h 400 5) - 1) < 7) ∧ R 161 0 [.ref 400, .retAddr 0, .retAddr 0, .retAddr 0, .retAddr 0] [] (setI h 418 ((iv h 400 5) - 1) (wr a2)) (fun v h2 => R 167 58 [.ref 400, a1, .int (I a2), .int (I a3)] (v :: []) h2 P)))) : R 167 14 [.ref 400, a1, .int (I a2), .int (I a3)] [] h P := by
  refine R_iload_n (Dat dd_Y_spooned 10 rfl) rfl ?_
  refine R_aload_n (Dat dd_Y_spooned 11 rfl) rfl rfl ?_
  refine R_geti (Dat dd_Y_spooned 12 rfl) rfl rfl (tok S.t400) ?_
  obtain ⟨g1, T⟩ := T
  obtain ⟨g2, T⟩ := T
  refine R_ic_ge (Dat dd_Y_spooned 13 rfl) rfl g1 g2 (fun c => ?_) (fun c => ?_)
  · replace T := T.1 c
    refine R_aload_n (Dat dd_Y_spooned 14 rfl) rfl rfl ?_
    refine R_getr (Dat dd_Y_spooned 15 rfl) rfl rfl (tok S.t400) S.f400_17 (q := 418) rfl (tnz S.t418) ?_
    refine R_iload_n (Dat dd_Y_spooned 16 rfl) rfl ?_
    refine R_iconst (Dat dd_Y_spooned 17 rfl) ?_
    refine R_isub (Dat dd_Y_spooned 18 rfl) ?_
    refine R_aload_n (Dat dd_Y_spooned 19 rfl) rfl rfl ?_
    refine R_getr (Dat dd_Y_spooned 20 rfl) rfl rfl (tok S.t400) S.f400_17 (q := 418) rfl (tnz S.t418) ?_
    refine R_iload_n (Dat dd_Y_spooned 21 rfl) rfl ?_
    obtain ⟨g3, T⟩ := T
    obtain ⟨g4, T⟩ := T
    refine R_iaload (Dat dd_Y_spooned 22 rfl) (Or.inl S.t418) (lnle (show ln h 418 = 7 from S.l418) (by decide)) g3 (lnlt (show ln h 418 = 7 from S.l418) g4) ?_
    obtain ⟨g5, T⟩ := T
    obtain ⟨g6, T⟩ := T
    refine R_iastore (Dat dd_Y_spooned 23 rfl) S.t418 (lnle (show ln h 418 = 7 from S.l418) (by decide)) g5 (lnlt (show ln h 418 = 7 from S.l418) g6) (v := wr (iv h 418 a3)) rfl ?_
    refine R_iinc (Dat dd_Y_spooned 24 rfl) rfl rfl rfl ?_
    refine R_goto (Dat dd_Y_spooned 25 rfl) rfl ?_
    exact T
  · replace T := T.2 c
    refine R_aload_n (Dat dd_Y_spooned 26 rfl) rfl rfl ?_
    refine R_getr (Dat dd_Y_spooned 27 rfl) rfl rfl (tok S.t400) S.f400_17 (q := 418) rfl (tnz S.t418) ?_
    refine R_aload_n (Dat dd_Y_spooned 28 rfl) rfl rfl ?_
    refine R_geti (Dat dd_Y_spooned 29 rfl) rfl rfl (tok S.t400) ?_
    refine R_iconst (Dat dd_Y_spooned 30 rfl) ?_
    refine R_isub (Dat dd_Y_spooned 31 rfl) ?_
    refine R_iload_n (Dat dd_Y_spooned 32 rfl) rfl ?_
    obtain ⟨g7, T⟩ := T
    obtain ⟨g8, T⟩ := T
    refine R_iastore (Dat dd_Y_spooned 33 rfl) S.t418 (lnle (show ln h 418 = 7 from S.l418) (by decide)) g7 (lnlt (show ln h 418 = 7 from S.l418) g8) (v := wr a2) rfl ?_
    refine R_aload_n (Dat dd_Y_spooned 34 rfl) rfl rfl ?_
    exact R_call1 (Dat dd_Y_spooned 35 rfl) rfl S.t400 rfl rfl rfl rfl rfl T
theorem t_Y_spooned_58 {h : Hp} {P : Value → Hp → Prop} {s0 : Int} {a0 a1 a2 a3 : Value} (S : YS h) (T : P (.int (I s0)) h) : R 167 58 [a0, a1, a2, a3] [.int (I s0)] h P := by
  exact R_ireturn (Dat dd_Y_spooned 36 rfl) rfl T
def dl_Y_next : List (Nat × Instr × Nat) := [(0, .aload_n 0, 1), (1, .iload_n 1, 1), (2, .invokevirtual 158, 3), (5, .ifCond .ne 5, 3), (8, .iconst (-1), 1), (9, .ireturn, 1), (10, .iload_n 2, 1), (11, .invokestatic 180, 3), (14, .ifCond .ne 6, 3), (17, .bipush (-2), 2), (19, .ireturn, 1), (20, .aload_n 0, 1), (21, .getfield 161, 3), (24, .ifCond .ne 8, 3), (27, .bipush (-3), 2), (29, .goto 13, 3), (32, .aload_n 0, 1), (33, .aload_n 0, 1), (34, .getfield 173, 3), (37, .iload_n 1, 1), (38, .iload_n 2, 1), (39, .invokevirtual 211, 3), (42, .ireturn, 1)]
theorem dd_Y_next : Dall 168 dl_Y_next = true := by decide +kernel
theorem t_Y_next {h : Hp} {P : Value → Hp → Prop} {p0 p1 : Int} (S : YS h) (T : R 146 0 [.ref 400, .int (I p0)] [] h (fun v h2 => R 168 5 [.ref 400, .int (I p0), .int (I p1)] (v :: []) h2 P)) : R 168 0 [.ref 400, .int (I p0), .int (I p1)] [] h P := by
  refine R_aload_n (Dat dd_Y_next 0 rfl) rfl rfl ?_
  refine R_iload_n (Dat dd_Y_next 1 rfl) rfl ?_
  exact R_call1 (Dat dd_Y_next 2 rfl) rfl S.t400 rfl rfl rfl rfl rfl T
theorem t_Y_next_5 {h : Hp} {P : Value → Hp → Prop} {a1 a2 s0 : Int} (S : YS h) (T : (rng s0) ∧ ((s0 = 0 → P (.int (I (-1))) h) ∧ (¬ s0 = 0 → R 155 0 [.int (I a2)] [] h (fun v h2 => R 168 14 [.ref 400, .int (I a1), .int (I a2)] (v :: []) h2 P)))) : R 168 5 [.ref 400, .int (I a1), .int (I a2)] [.int (I s0)] h P := by
  obtain ⟨g1, T⟩ := T
  refine R_if_ne (Dat dd_Y_next 3 rfl) rfl g1  (fun c => ?_) (fun c => ?_)
  · replace T := T.1 c
    refine R_iconst (Dat dd_Y_next 4 rfl) ?_
    exact R_ireturn (Dat dd_Y_next 5 rfl) rfl T
  · replace T := T.2 c
    refine R_iload_n (Dat dd_Y_next 6 rfl) rfl ?_
    exact R_call0 (Dat dd_Y_next 7 rfl) rfl rfl rfl rfl rfl rfl T
theorem t_Y_next_14 {h : Hp} {P : Value → Hp → Prop} {a1 a2 s0 : Int} (S : YS h) (T : (rng s0) ∧ ((s0 = 0 → P (.int (I (-2))) h) ∧ (¬ s0 = 0 → (rng (iv h 400 18)) ∧ (((iv h 400 18) = 0 → P (.int (I (-3))) h) ∧ (¬ (iv h 400 18) = 0 → R 169 0 [.ref 400, .int (I (iv h 400 19)), .int (I a1), .int (I a2)] [] h (fun v h2 => R 168 42 [.ref 400, .int (I a1), .int (I a2)] (v :: []) h2 P)))))) : R 168 14 [.ref 400, .int (I a1), .int (I a2)] [.int (I s0)] h P := by
  obtain ⟨g1, T⟩ := T
  refine R_if_ne (Dat dd_Y_next 8 rfl) rfl g1  (fun c => ?_) (fun c => ?_)
  · replace T := T.1 c
    refine R_bipush (Dat dd_Y_next 9 rfl) (a := (-2)) rfl ?_
    exact R_ireturn (Dat dd_Y_next 10 rfl) rfl T
  · replace T := T.2 c
    refine R_aload_n (Dat dd_Y_next 11 rfl) rfl rfl ?_
    refine R_geti (Dat dd_Y_next 12 rfl) rfl rfl (tok S.t400) ?_
    obtain ⟨g2, T⟩ := T
    refine R_if_ne (Dat dd_Y_next 13 rfl) rfl g2  (fun c => ?_) (fun c => ?_)
    · replace T := T.1 c
      refine R_bipush (Dat dd_Y_next 14 rfl) (a := (-3)) rfl ?_
      refine R_goto (Dat dd_Y_next 15 rfl) rfl ?_
      exact R_ireturn (Dat dd_Y_next 22 rfl) rfl T
    · replace T := T.2 c
      refine R_aload_n (Dat dd_Y_next 16 rfl) rfl rfl ?_
      refine R_aload_n (Dat dd_Y_next 17 rfl) rfl rfl ?_
      refine R_geti (Dat dd_Y_next 18 rfl) rfl rfl (tok S.t400) ?_
      refine R_iload_n (Dat dd_Y_next 19 rfl) rfl ?_
      refine R_iload_n (Dat dd_Y_next 20 rfl) rfl ?_
      exact R_call1 (Dat dd_Y_next 21 rfl) rfl S.t400 rfl rfl rfl rfl rfl T
theorem t_Y_next_42 {h : Hp} {P : Value → Hp → Prop} {s0 : Int} {a0 a1 a2 : Value} (S : YS h) (T : P (.int (I s0)) h) : R 168 42 [a0, a1, a2] [.int (I s0)] h P := by
  exact R_ireturn (Dat dd_Y_next 22 rfl) rfl T
def dl_Y_nextOf : List (Nat × Instr × Nat) := [(0, .aload_n 0, 1), (1, .iload_n 2, 1), (2, .invokevirtual 154, 3), (5, .aload_n 0, 1), (6, .iload_n 1, 1), (7, .iload_n 3, 1), (8, .invokevirtual 194, 3), (11, .aload_n 0, 1), (12, .invokevirtual 198, 3), (15, .ireturn, 1)]
theorem dd_Y_nextOf : Dall 169 dl_Y_nextOf = true := by decide +kernel
theorem t_Y_nextOf {h : Hp} {P : Value → Hp → Prop} {p0 p1 p2 : Int} (S : YS h) (T : R 141 0 [.ref 400, .int (I p1), .retAddr 0, .retAddr 0, .retAddr 0, .retAddr 0, .retAddr 0, .retAddr 0] [] h (fun _ h2 => R 169 5 [.ref 400, .int (I p0), .int (I p1), .int (I p2)] [] h2 P)) : R 169 0 [.ref 400, .int (I p0), .int (I p1), .int (I p2)] [] h P := by
  refine R_aload_n (Dat dd_Y_nextOf 0 rfl) rfl rfl ?_
  refine R_iload_n (Dat dd_Y_nextOf 1 rfl) rfl ?_
  exact R_call1 (Dat dd_Y_nextOf 2 rfl) rfl S.t400 rfl rfl rfl rfl rfl T
theorem t_Y_nextOf_5 {h : Hp} {P : Value → Hp → Prop} {a1 a3 : Int} {a2 : Value} (S : YS h) (T : R 159 0 [.ref 400, .int (I a1), .int (I a3), .retAddr 0, .retAddr 0] [] h (fun _ h2 => R 169 11 [.ref 400, .int (I a1), a2, .int (I a3)] [] h2 P)) : R 169 5 [.ref 400, .int (I a1), a2, .int (I a3)] [] h P := by
  refine R_aload_n (Dat dd_Y_nextOf 3 rfl) rfl rfl ?_
  refine R_iload_n (Dat dd_Y_nextOf 4 rfl) rfl ?_
  refine R_iload_n (Dat dd_Y_nextOf 5 rfl) rfl ?_
  exact R_call1 (Dat dd_Y_nextOf 6 rfl) rfl S.t400 rfl rfl rfl rfl rfl T
theorem t_Y_nextOf_11 {h : Hp} {P : Value → Hp → Prop} {a1 a2 a3 : Value} (S : YS h) (T : R 161 0 [.ref 400, .retAddr 0, .retAddr 0, .retAddr 0, .retAddr 0] [] h (fun v h2 => R 169 15 [.ref 400, a1, a2, a3] (v :: []) h2 P)) : R 169 11 [.ref 400, a1, a2, a3] [] h P := by
  refine R_aload_n (Dat dd_Y_nextOf 7 rfl) rfl rfl ?_
  exact R_call1 (Dat dd_Y_nextOf 8 rfl) rfl S.t400 rfl rfl rfl rfl rfl T
theorem t_Y_nextOf_15 {h : Hp} {P : Value → Hp → Prop} {s0 : Int} {a0 a1 a2 a3 : Value} (S : YS h) (T : P (.int (I s0)) h) : R 169 15 [a0, a1, a2, a3] [.int (I s0)] h P := by
  exact R_ireturn (Dat dd_Y_nextOf 9 rfl) rfl T
def dl_Y_still : List (Nat × Instr × Nat) := [(0, .aload_n 0, 1), (1, .iload_n 1, 1), (2, .invokevirtual 158, 3), (5, .ifCond .ne 5, 3), (8, .iconst (-1), 1), (9, .ireturn, 1), (10, .iload_n 2, 1), (11, .invokestatic 180, 3), (14, .ifCond .eq 12, 3), (17, .iload_n 3, 1), (18, .iconst 0, 1), (19, .iconst 1, 1), (20, .invokestatic 88, 3), (23, .ifCond .ne 6, 3), (26, .bipush (-2), 2), (28, .ireturn, 1), (29, .aload_n 0, 1), (30, .getfield 161, 3), (33, .ifCond .ne 6, 3), (36, .bipush (-3), 2), (38, .ireturn, 1), (39, .aload_n 0, 1), (40, .invokevirtual 215, 3), (43, .iload_n 1, 1), (44, .istore 4, 2), (46, .iconst 0, 1), (47, .istore 5, 2), (49, .aload_n 0, 1), (50, .getfield 59, 3), (53, .iload 4, 2), (55, .iaload, 1), (56, .bipush (-9), 2), (58, .if_icmp .ne 31, 3), (61, .aload_n 0, 1), (62, .getfield 59, 3), (65, .iload 4, 2), (67, .iload 5, 2), (69, .iastore, 1), (70, .iinc 5 1, 3), (73, .aload_n 0, 1), (74, .aload_n 0, 1), (75, .getfield 173, 3), (78, .iload 4, 2), (80, .iload_n 2, 1), (81, .invokevirtual 211, 3), (84, .istore 4, 2), (86, .goto (-37), 3), (89, .iload_n 3, 1), (90, .ifCond .ne 13, 3), (93, .aload_n 0, 1), (94, .getfield 59, 3), (97, .iload 4, 2), (99, .iaload, 1), (100, .goto 13, 3), (103, .iload 5, 2), (105, .aload_n 0, 1), (106, .getfield 59, 3), (109, .iload 4, 2), (111, .iaload, 1), (112, .isub, 1), (113, .ireturn, 1)]
theorem dd_Y_still : Dall 170 dl_Y_still = true := by decide +kernel
theorem t_Y_still {h : Hp} {P : Value → Hp → Prop} {p0 p1 p2 : Int} (S : YS h) (T : R 146 0 [.ref 400, .int (I p0)] [] h (fun v h2 => R 170 5 [.ref 400, .int (I p0), .int (I p1), .int (I p2), .retAddr 0, .retAddr 0] (v :: []) h2 P)) : R 170 0 [.ref 400, .int (I p0), .int (I p1), .int (I p2), .retAddr 0, .retAddr 0] [] h P := by
  refine R_aload_n (Dat dd_Y_still 0 rfl) rfl rfl ?_
  refine R_iload_n (Dat dd_Y_still 1 rfl) rfl ?_
  exact R_call1 (Dat dd_Y_still 2 rfl) rfl S.t400 rfl rfl rfl rfl rfl T
theorem t_Y_still_5 {h : Hp} {P : Value → Hp → Prop} {a1 a2 a3 s0 : Int} {a4 a5 : Value} (S : YS h) (T : (rng s0) ∧ ((s0 = 0 → P (.int (I (-1))) h) ∧ (¬ s0 = 0 → R 155 0 [.int (I a2)] [] h (fun v h2 => R 170 14 [.ref 400, .int (I a1), .int (I a2), .int (I a3), a4, a5] (v :: []) h2 P)))) : R 170 5 [.ref 400, .int (I a1), .int (I a2), .int (I a3), a4, a5] [.int (I s0)] h P := by
  obtain ⟨g1, T⟩ := T
  refine R_if_ne (Dat dd_Y_still 3 rfl) rfl g1  (fun c => ?_) (fun c => ?_)
  · replace T := T.1 c
    refine R_iconst (Dat dd_Y_still 4 rfl) ?_
    exact R_ireturn (Dat dd_Y_still 5 rfl) rfl T
  · replace T := T.2 c
    refine R_iload_n (Dat dd_Y_still 6 rfl) rfl ?_
    exact R_call0 (Dat dd_Y_still 7 rfl) rfl rfl rfl rfl rfl rfl T
theorem t_Y_still_14 {h : Hp} {P : Value → Hp → Prop} {a1 a2 a3 s0 : Int} {a4 a5 : Value} (S : YS h) (T : (rng s0) ∧ ((s0 = 0 → P (.int (I (-2))) h) ∧ (¬ s0 = 0 → R 129 0 [.int (I a3), .int (I 0), .int (I 1)] [] h (fun v h2 => R 170 23 [.ref 400, .int (I a1), .int (I a2), .int (I a3), a4, a5] (v :: []) h2 P)))) : R 170 14 [.ref 400, .int (I a1), .int (I a2), .int (I a3), a4, a5] [.int (I s0)] h P := by
  obtain ⟨g1, T⟩ := T
  refine R_if_eq (Dat dd_Y_still 8 rfl) rfl g1  (fun c => ?_) (fun c => ?_)
  · replace T := T.1 c
    refine R_bipush (Dat dd_Y_still 14 rfl) (a := (-2)) rfl ?_
    exact R_ireturn (Dat dd_Y_still 15 rfl) rfl T
  · replace T := T.2 c
    refine R_iload_n (Dat dd_Y_still 9 rfl) rfl ?_
    refine R_iconst (Dat dd_Y_still 10 rfl) ?_
    refine R_iconst (Dat dd_Y_still 11 rfl) ?_
    exact R_call0 (Dat dd_Y_still 12 rfl) rfl rfl rfl rfl rfl rfl T
theorem t_Y_still_23 {h : Hp} {P : Value → Hp → Prop} {a1 a2 a3 s0 : Int} {a4 a5 : Value} (S : YS h) (T : (rng s0) ∧ ((s0 = 0 → P (.int (I (-2))) h) ∧ (¬ s0 = 0 → (rng (iv h 400 18)) ∧ (((iv h 400 18) = 0 → P (.int (I (-3))) h) ∧ (¬ (iv h 400 18) = 0 → R 171 0 [.ref 400, .retAddr 0] [] h (fun _ h2 => R 170 43 [.ref 400, .int (I a1), .int (I a2), .int (I a3), a4, a5] [] h2 P)))))) : R 170 23 [.ref 400, .int (I a1), .int (I a2), .int (I a3), a4, a5] [.int (I s0)] h P := by
  obtain ⟨g1, T⟩ := T
  refine R_if_ne (Dat dd_Y_still 13 rfl) rfl g1  (fun c => ?_) (fun c => ?_)
  · replace T := T.1 c
    refine R_bipush (Dat dd_Y_still 14 rfl) (a := (-2)) rfl ?_
    exact R_ireturn (Dat dd_Y_still 15 rfl) rfl T
  · replace T := T.2 c
    refine R_aload_n (Dat dd_Y_still 16 rfl) rfl rfl ?_
    refine R_geti (Dat dd_Y_still 17 rfl) rfl rfl (tok S.t400) ?_
    obtain ⟨g2, T⟩ := T
    refine R_if_ne (Dat dd_Y_still 18 rfl) rfl g2  (fun c => ?_) (fun c => ?_)
    · replace T := T.1 c
      refine R_bipush (Dat dd_Y_still 19 rfl) (a := (-3)) rfl ?_
      exact R_ireturn (Dat dd_Y_still 20 rfl) rfl T
    · replace T := T.2 c
      refine R_aload_n (Dat dd_Y_still 21 rfl) rfl rfl ?_
      exact R_call1 (Dat dd_Y_still 22 rfl) rfl S.t400 rfl rfl rfl rfl rfl T
theorem t_Y_still_43 {h : Hp} {P : Value → Hp → Prop} {a1 a2 a3 : Int} {a4 a5 : Value} (S : YS h) (T : R 170 49 [.ref 400, .int (I a1), .int (I a2), .int (I a3), .int (I a1), .int (I 0)] [] h P) : R 170 43 [.ref 400, .int (I a1), .int (I a2), .int (I a3), a4, a5] [] h P := by
  refine R_iload_n (Dat dd_Y_still 23 rfl) rfl ?_
  refine R_istore (Dat dd_Y_still 24 rfl) rfl rfl ?_
  refine R_iconst (Dat dd_Y_still 25 rfl) ?_
  refine R_istore (Dat dd_Y_still 26 rfl) rfl rfl ?_
  exact T
theorem t_Y_still_49 {h : Hp} {P : Value → Hp → Prop} {a2 a3 a4 a5 : Int} {a1 : Value} (S : YS h) (T : (0 ≤ a4) ∧ (a4 < 5040) ∧ (rng (iv h 428 a4)) ∧ (((iv h 428 a4) = (-9) → (0 ≤ a4) ∧ (a4 < 5040) ∧ R 169 0 [.ref 400, .int (I (iv (setI h 428 a4 (wr a5)) 400 19)), .int (I a4), .int (I a2)] [] (setI h 428 a4 (wr a5)) (fun v h2 => R 170 84 [.ref 400, a1, .int (I a2), .int (I a3), .int (I a4), .int (I (a5 + 1))] (v :: []) h2 P)) ∧ (¬ (iv h 428 a4) = (-9) → (rng a3) ∧ ((a3 = 0 → (0 ≤ a4) ∧ (a4 < 5040) ∧ P (.int (I (iv h 428 a4))) h) ∧ (¬ a3 = 0 → (0 ≤ a4) ∧ (a4 < 5040) ∧ P (.int (I (a5 - (iv h 428 a4)))) h))))) : R 170 49 [.ref 400, a1, .int (I a2), .int (I a3), .int (I a4), .int (I a5)] [] h P := by
  refine R_aload_n (Dat dd_Y_still 27 rfl) rfl rfl ?_
  refine R_getr (Dat dd_Y_still 28 rfl) rfl rfl (tok S.t400) S.f400_27 (q := 428) rfl (tnz S.t428) ?_
  refine R_iload (Dat dd_Y_still 29 rfl) rfl ?_
  obtain ⟨g1, T⟩ := T
  obtain ⟨g2, T⟩ := T
  refine R_iaload (Dat dd_Y_still 30 rfl) (Or.inl S.t428) (lnle (show ln h 428 = 5040 from S.l428) (by decide)) g1 (lnlt (show ln h 428 = 5040 from S.l428) g2) ?_
  refine R_bipush (Dat dd_Y_still 31 rfl) (a := (-9)) rfl ?_
  obtain ⟨g3, T⟩ := T
  refine R_ic_ne (Dat dd_Y_still 32 rfl) rfl g3 (by decide) (fun c => ?_) (fun c => ?_)
  · replace T := T.1 c
    refine R_aload_n (Dat dd_Y_still 33 rfl) rfl rfl ?_
    refine R_getr (Dat dd_Y_still 34 rfl) rfl rfl (tok S.t400) S.f400_27 (q := 428) rfl (tnz S.t428) ?_
    refine R_iload (Dat dd_Y_still 35 rfl) rfl ?_
    refine R_iload (Dat dd_Y_still 36 rfl) rfl ?_
    obtain ⟨g4, T⟩ := T
    obtain ⟨g5, T⟩ := T
    refine R_iastore (Dat dd_Y_still 37 rfl) S.t428 (lnle (show ln h 428 = 5040 from S.l428) (by decide)) g4 (lnlt (show ln h 428 = 5040 from S.l428) g5) (v := wr a5) rfl ?_
    refine R_iinc (Dat dd_Y_still 38 rfl) rfl rfl rfl ?_
    refine R_aload_n (Dat dd_Y_still 39 rfl) rfl rfl ?_
    refine R_aload_n (Dat dd_Y_still 40 rfl) rfl rfl ?_
    refine R_geti (Dat dd_Y_still 41 rfl) rfl rfl (tok S.t400) ?_
    refine R_iload (Dat dd_Y_still 42 rfl) rfl ?_
    refine R_iload_n (Dat dd_Y_still 43 rfl) rfl ?_
    exact R_call1 (Dat dd_Y_still 44 rfl) rfl S.t400 rfl rfl rfl rfl rfl T
  · replace T := T.2 c
    refine R_iload_n (Dat dd_Y_still 47 rfl) rfl ?_
    obtain ⟨g6, T⟩ := T
    refine R_if_ne (Dat dd_Y_still 48 rfl) rfl g6  (fun c => ?_) (fun c => ?_)
    · replace T := T.1 c
      refine R_aload_n (Dat dd_Y_still 49 rfl) rfl rfl ?_
      refine R_getr (Dat dd_Y_still 50 rfl) rfl rfl (tok S.t400) S.f400_27 (q := 428) rfl (tnz S.t428) ?_
      refine R_iload (Dat dd_Y_still 51 rfl) rfl ?_
      obtain ⟨g7, T⟩ := T
      obtain ⟨g8, T⟩ := T
      refine R_iaload (Dat dd_Y_still 52 rfl) (Or.inl S.t428) (lnle (show ln h 428 = 5040 from S.l428) (by decide)) g7 (lnlt (show ln h 428 = 5040 from S.l428) g8) ?_
      refine R_goto (Dat dd_Y_still 53 rfl) rfl ?_
      exact R_ireturn (Dat dd_Y_still 60 rfl) rfl T
    · replace T := T.2 c
      refine R_iload (Dat dd_Y_still 54 rfl) rfl ?_
      refine R_aload_n (Dat dd_Y_still 55 rfl) rfl rfl ?_
      refine R_getr (Dat dd_Y_still 56 rfl) rfl rfl (tok S.t400) S.f400_27 (q := 428) rfl (tnz S.t428) ?_
      refine R_iload (Dat dd_Y_still 57 rfl) rfl ?_
      obtain ⟨g9, T⟩ := T
      obtain ⟨g10, T⟩ := T
      refine R_iaload (Dat dd_Y_still 58 rfl) (Or.inl S.t428) (lnle (show ln h 428 = 5040 from S.l428) (by decide)) g9 (lnlt (show ln h 428 = 5040 from S.l428) g10) ?_
      refine R_isub (Dat dd_Y_still 59 rfl) ?_
      exact R_ireturn (Dat dd_Y_still 60 rfl) rfl T
theorem t_Y_still_84 {h : Hp} {P : Value → Hp → Prop} {a2 a3 a5 s0 : Int} {a1 a4 : Value} (S : YS h) (T : R 170 49 [.ref 400, a1, .int (I a2), .int (I a3), .int (I s0), .int (I a5)] [] h P) : R 170 84 [.ref 400, a1, .int (I a2), .int (I a3), a4, .int (I a5)] [.int (I s0)] h P := by
  refine R_istore (Dat dd_Y_still 45 rfl) rfl rfl ?_
  refine R_goto (Dat dd_Y_still 46 rfl) rfl ?_
  exact T
def dl_Y_clearMet : List (Nat × Instr × Nat) := [(0, .iconst 0, 1), (1, .istore_n 1, 1), (2, .iload_n 1, 1), (3, .aload_n 0, 1), (4, .getfield 95, 3), (7, .if_icmp .ge 17, 3), (10, .aload_n 0, 1), (11, .getfield 59, 3), (14, .iload_n 1, 1), (15, .bipush (-9), 2), (17, .iastore, 1), (18, .iinc 1 1, 3), (21, .goto (-19), 3), (24, .return_, 1)]
theorem dd_Y_clearMet : Dall 171 dl_Y_clearMet = true := by decide +kernel
theorem t_Y_clearMet {h : Hp} {P : Value → Hp → Prop}  (S : YS h) (T : R 171 2 [.ref 400, .int (I 0)] [] h P) : R 171 0 [.ref 400, .retAddr 0] [] h P := by
  refine R_iconst (Dat dd_Y_clearMet 0 rfl) ?_
  refine R_istore_n (Dat dd_Y_clearMet 1 rfl) rfl rfl ?_
  exact T
theorem t_Y_clearMet_2 {h : Hp} {P : Value → Hp → Prop} {a1 : Int} (S : YS h) (T : (rng a1) ∧ (rng (iv h 400 6)) ∧ ((a1 < (iv h 400 6) → (0 ≤ a1) ∧ (a1 < 5040) ∧ R 171 2 [.ref 400, .int (I (a1 + 1))] [] (setI h 428 a1 (-9)) P) ∧ (¬ a1 < (iv h 400 6) → P .null h))) : R 171 2 [.ref 400, .int (I a1)] [] h P := by
  refine R_iload_n (Dat dd_Y_clearMet 2 rfl) rfl ?_
  refine R_aload_n (Dat dd_Y_clearMet 3 rfl) rfl rfl ?_
  refine R_geti (Dat dd_Y_clearMet 4 rfl) rfl rfl (tok S.t400) ?_
  obtain ⟨g1, T⟩ := T
  obtain ⟨g2, T⟩ := T
  refine R_ic_ge (Dat dd_Y_clearMet 5 rfl) rfl g1 g2 (fun c => ?_) (fun c => ?_)
  · replace T := T.1 c
    refine R_aload_n (Dat dd_Y_clearMet 6 rfl) rfl rfl ?_
    refine R_getr (Dat dd_Y_clearMet 7 rfl) rfl rfl (tok S.t400) S.f400_27 (q := 428) rfl (tnz S.t428) ?_
    refine R_iload_n (Dat dd_Y_clearMet 8 rfl) rfl ?_
    refine R_bipush (Dat dd_Y_clearMet 9 rfl) (a := (-9)) rfl ?_
    obtain ⟨g3, T⟩ := T
    obtain ⟨g4, T⟩ := T
    refine R_iastore (Dat dd_Y_clearMet 10 rfl) S.t428 (lnle (show ln h 428 = 5040 from S.l428) (by decide)) g3 (lnlt (show ln h 428 = 5040 from S.l428) g4) (v := (-9)) rfl ?_
    refine R_iinc (Dat dd_Y_clearMet 11 rfl) rfl rfl rfl ?_
    refine R_goto (Dat dd_Y_clearMet 12 rfl) rfl ?_
    exact T
  · replace T := T.2 c
    exact R_return (Dat dd_Y_clearMet 13 rfl) rfl T
def dl_Y_soon : List (Nat × Instr × Nat) := [(0, .aload_n 0, 1), (1, .iload_n 1, 1), (2, .iload_n 2, 1), (3, .iload_n 3, 1), (4, .invokevirtual 221, 3), (7, .istore 4, 2), (9, .iload 4, 2), (11, .ifCond .eq 8, 3), (14, .iload 4, 2), (16, .goto 10, 3), (19, .aload_n 0, 1), (20, .iload_n 1, 1), (21, .iload_n 2, 1), (22, .iload_n 3, 1), (23, .invokevirtual 224, 3), (26, .ireturn, 1)]
theorem dd_Y_soon : Dall 172 dl_Y_soon = true := by decide +kernel
theorem t_Y_soon {h : Hp} {P : Value → Hp → Prop} {p0 p1 p2 : Int} (S : YS h) (T : R 173 0 [.ref 400, .int (I p0), .int (I p1), .int (I p2)] [] h (fun v h2 => R 172 7 [.ref 400, .int (I p0), .int (I p1), .int (I p2), .retAddr 0] (v :: []) h2 P)) : R 172 0 [.ref 400, .int (I p0), .int (I p1), .int (I p2), .retAddr 0] [] h P := by
  refine R_aload_n (Dat dd_Y_soon 0 rfl) rfl rfl ?_
  refine R_iload_n (Dat dd_Y_soon 1 rfl) rfl ?_
  refine R_iload_n (Dat dd_Y_soon 2 rfl) rfl ?_
  refine R_iload_n (Dat dd_Y_soon 3 rfl) rfl ?_
  exact R_call1 (Dat dd_Y_soon 4 rfl) rfl S.t400 rfl rfl rfl rfl rfl T
theorem t_Y_soon_7 {h : Hp} {P : Value → Hp → Prop} {a1 a2 a3 s0 : Int} {a4 : Value} (S : YS h) (T : (rng s0) ∧ ((s0 = 0 → R 174 0 [.ref 400, .int (I a1), .int (I a2), .int (I a3), .retAddr 0, .retAddr 0] [] h (fun v h2 => R 172 26 [.ref 400, .int (I a1), .int (I a2), .int (I a3), .int (I s0)] (v :: []) h2 P)) ∧ (¬ s0 = 0 → P (.int (I s0)) h))) : R 172 7 [.ref 400, .int (I a1), .int (I a2), .int (I a3), a4] [.int (I s0)] h P := by
  refine R_istore (Dat dd_Y_soon 5 rfl) rfl rfl ?_
  refine R_iload (Dat dd_Y_soon 6 rfl) rfl ?_
  obtain ⟨g1, T⟩ := T
  refine R_if_eq (Dat dd_Y_soon 7 rfl) rfl g1  (fun c => ?_) (fun c => ?_)
  · replace T := T.1 c
    refine R_aload_n (Dat dd_Y_soon 10 rfl) rfl rfl ?_
    refine R_iload_n (Dat dd_Y_soon 11 rfl) rfl ?_
    refine R_iload_n (Dat dd_Y_soon 12 rfl) rfl ?_
    refine R_iload_n (Dat dd_Y_soon 13 rfl) rfl ?_
    exact R_call1 (Dat dd_Y_soon 14 rfl) rfl S.t400 rfl rfl rfl rfl rfl T
  · replace T := T.2 c
    refine R_iload (Dat dd_Y_soon 8 rfl) rfl ?_
    refine R_goto (Dat dd_Y_soon 9 rfl) rfl ?_
    exact R_ireturn (Dat dd_Y_soon 15 rfl) rfl T
theorem t_Y_soon_26 {h : Hp} {P : Value → Hp → Prop} {s0 : Int} {a0 a1 a2 a3 a4 : Value} (S : YS h) (T : P (.int (I s0)) h) : R 172 26 [a0, a1, a2, a3, a4] [.int (I s0)] h P := by
  exact R_ireturn (Dat dd_Y_soon 15 rfl) rfl T
def dl_Y_whySoon : List (Nat × Instr × Nat) := [(0, .aload_n 0, 1), (1, .iload_n 1, 1), (2, .invokevirtual 142, 3), (5, .ifCond .eq 11, 3), (8, .aload_n 0, 1), (9, .iload_n 2, 1), (10, .invokevirtual 158, 3), (13, .ifCond .ne 5, 3), (16, .iconst (-1), 1), (17, .ireturn, 1), (18, .iload_n 3, 1), (19, .invokestatic 180, 3), (22, .ifCond .ne 6, 3), (25, .bipush (-2), 2), (27, .ireturn, 1), (28, .aload_n 0, 1), (29, .getfield 161, 3), (32, .ifCond .ne 8, 3), (35, .bipush (-3), 2), (37, .goto 4, 3), (40, .iconst 0, 1), (41, .ireturn, 1)]
theorem dd_Y_whySoon : Dall 173 dl_Y_whySoon = true := by decide +kernel
theorem t_Y_whySoon {h : Hp} {P : Value → Hp → Prop} {p0 p1 p2 : Int} (S : YS h) (T : R 137 0 [.ref 400, .int (I p0)] [] h (fun v h2 => R 173 5 [.ref 400, .int (I p0), .int (I p1), .int (I p2)] (v :: []) h2 P)) : R 173 0 [.ref 400, .int (I p0), .int (I p1), .int (I p2)] [] h P := by
  refine R_aload_n (Dat dd_Y_whySoon 0 rfl) rfl rfl ?_
  refine R_iload_n (Dat dd_Y_whySoon 1 rfl) rfl ?_
  exact R_call1 (Dat dd_Y_whySoon 2 rfl) rfl S.t400 rfl rfl rfl rfl rfl T
theorem t_Y_whySoon_5 {h : Hp} {P : Value → Hp → Prop} {a2 a3 s0 : Int} {a1 : Value} (S : YS h) (T : (rng s0) ∧ ((s0 = 0 → P (.int (I (-1))) h) ∧ (¬ s0 = 0 → R 146 0 [.ref 400, .int (I a2)] [] h (fun v h2 => R 173 13 [.ref 400, a1, .int (I a2), .int (I a3)] (v :: []) h2 P)))) : R 173 5 [.ref 400, a1, .int (I a2), .int (I a3)] [.int (I s0)] h P := by
  obtain ⟨g1, T⟩ := T
  refine R_if_eq (Dat dd_Y_whySoon 3 rfl) rfl g1  (fun c => ?_) (fun c => ?_)
  · replace T := T.1 c
    refine R_iconst (Dat dd_Y_whySoon 8 rfl) ?_
    exact R_ireturn (Dat dd_Y_whySoon 9 rfl) rfl T
  · replace T := T.2 c
    refine R_aload_n (Dat dd_Y_whySoon 4 rfl) rfl rfl ?_
    refine R_iload_n (Dat dd_Y_whySoon 5 rfl) rfl ?_
    exact R_call1 (Dat dd_Y_whySoon 6 rfl) rfl S.t400 rfl rfl rfl rfl rfl T
theorem t_Y_whySoon_13 {h : Hp} {P : Value → Hp → Prop} {a3 s0 : Int} {a1 a2 : Value} (S : YS h) (T : (rng s0) ∧ ((s0 = 0 → P (.int (I (-1))) h) ∧ (¬ s0 = 0 → R 155 0 [.int (I a3)] [] h (fun v h2 => R 173 22 [.ref 400, a1, a2, .int (I a3)] (v :: []) h2 P)))) : R 173 13 [.ref 400, a1, a2, .int (I a3)] [.int (I s0)] h P := by
  obtain ⟨g1, T⟩ := T
  refine R_if_ne (Dat dd_Y_whySoon 7 rfl) rfl g1  (fun c => ?_) (fun c => ?_)
  · replace T := T.1 c
    refine R_iconst (Dat dd_Y_whySoon 8 rfl) ?_
    exact R_ireturn (Dat dd_Y_whySoon 9 rfl) rfl T
  · replace T := T.2 c
    refine R_iload_n (Dat dd_Y_whySoon 10 rfl) rfl ?_
    exact R_call0 (Dat dd_Y_whySoon 11 rfl) rfl rfl rfl rfl rfl rfl T
theorem t_Y_whySoon_22 {h : Hp} {P : Value → Hp → Prop} {s0 : Int} {a1 a2 a3 : Value} (S : YS h) (T : (rng s0) ∧ ((s0 = 0 → P (.int (I (-2))) h) ∧ (¬ s0 = 0 → (rng (iv h 400 18)) ∧ (((iv h 400 18) = 0 → P (.int (I (-3))) h) ∧ (¬ (iv h 400 18) = 0 → P (.int (I 0)) h))))) : R 173 22 [.ref 400, a1, a2, a3] [.int (I s0)] h P := by
  obtain ⟨g1, T⟩ := T
  refine R_if_ne (Dat dd_Y_whySoon 12 rfl) rfl g1  (fun c => ?_) (fun c => ?_)
  · replace T := T.1 c
    refine R_bipush (Dat dd_Y_whySoon 13 rfl) (a := (-2)) rfl ?_
    exact R_ireturn (Dat dd_Y_whySoon 14 rfl) rfl T
  · replace T := T.2 c
    refine R_aload_n (Dat dd_Y_whySoon 15 rfl) rfl rfl ?_
    refine R_geti (Dat dd_Y_whySoon 16 rfl) rfl rfl (tok S.t400) ?_
    obtain ⟨g2, T⟩ := T
    refine R_if_ne (Dat dd_Y_whySoon 17 rfl) rfl g2  (fun c => ?_) (fun c => ?_)
    · replace T := T.1 c
      refine R_bipush (Dat dd_Y_whySoon 18 rfl) (a := (-3)) rfl ?_
      refine R_goto (Dat dd_Y_whySoon 19 rfl) rfl ?_
      exact R_ireturn (Dat dd_Y_whySoon 21 rfl) rfl T
    · replace T := T.2 c
      refine R_iconst (Dat dd_Y_whySoon 20 rfl) ?_
      exact R_ireturn (Dat dd_Y_whySoon 21 rfl) rfl T
def dl_Y_soonOf : List (Nat × Instr × Nat) := [(0, .aload_n 0, 1), (1, .invokevirtual 215, 3), (4, .iload_n 2, 1), (5, .istore 4, 2), (7, .iconst 0, 1), (8, .istore 5, 2), (10, .aload_n 0, 1), (11, .getfield 59, 3), (14, .iload 4, 2), (16, .iaload, 1), (17, .bipush (-9), 2), (19, .if_icmp .ne 44, 3), (22, .aload_n 0, 1), (23, .iload_n 1, 1), (24, .iload 4, 2), (26, .invokevirtual 218, 3), (29, .ifCond .eq 6, 3), (32, .iload 5, 2), (34, .ireturn, 1), (35, .aload_n 0, 1), (36, .getfield 59, 3), (39, .iload 4, 2), (41, .iload 5, 2), (43, .iastore, 1), (44, .iinc 5 1, 3), (47, .aload_n 0, 1), (48, .aload_n 0, 1), (49, .getfield 173, 3), (52, .iload 4, 2), (54, .iload_n 3, 1), (55, .invokevirtual 211, 3), (58, .istore 4, 2), (60, .goto (-50), 3), (63, .bipush (-9), 2), (65, .ireturn, 1)]
theorem dd_Y_soonOf : Dall 174 dl_Y_soonOf = true := by decide +kernel
theorem t_Y_soonOf {h : Hp} {P : Value → Hp → Prop} {p0 p1 p2 : Int} (S : YS h) (T : R 171 0 [.ref 400, .retAddr 0] [] h (fun _ h2 => R 174 4 [.ref 400, .int (I p0), .int (I p1), .int (I p2), .retAddr 0, .retAddr 0] [] h2 P)) : R 174 0 [.ref 400, .int (I p0), .int (I p1), .int (I p2), .retAddr 0, .retAddr 0] [] h P := by
  refine R_aload_n (Dat dd_Y_soonOf 0 rfl) rfl rfl ?_
  exact R_call1 (Dat dd_Y_soonOf 1 rfl) rfl S.t400 rfl rfl rfl rfl rfl T
theorem t_Y_soonOf_4 {h : Hp} {P : Value → Hp → Prop} {a1 a2 a3 : Int} {a4 a5 : Value} (S : YS h) (T : R 174 10 [.ref 400, .int (I a1), .int (I a2), .int (I a3), .int (I a2), .int (I 0)] [] h P) : R 174 4 [.ref 400, .int (I a1), .int (I a2), .int (I a3), a4, a5] [] h P := by
  refine R_iload_n (Dat dd_Y_soonOf 2 rfl) rfl ?_
  refine R_istore (Dat dd_Y_soonOf 3 rfl) rfl rfl ?_
  refine R_iconst (Dat dd_Y_soonOf 4 rfl) ?_
  refine R_istore (Dat dd_Y_soonOf 5 rfl) rfl rfl ?_
  exact T
theorem t_Y_soonOf_10 {h : Hp} {P : Value → Hp → Prop} {a1 a3 a4 a5 : Int} {a2 : Value} (S : YS h) (T : (0 ≤ a4) ∧ (a4 < 5040) ∧ (rng (iv h 428 a4)) ∧ (((iv h 428 a4) = (-9) → R 175 0 [.ref 400, .int (I a1), .int (I a4)] [] h (fun v h2 => R 174 29 [.ref 400, .int (I a1), a2, .int (I a3), .int (I a4), .int (I a5)] (v :: []) h2 P)) ∧ (¬ (iv h 428 a4) = (-9) → P (.int (I (-9))) h))) : R 174 10 [.ref 400, .int (I a1), a2, .int (I a3), .int (I a4), .int (I a5)] [] h P := by
  refine R_aload_n (Dat dd_Y_soonOf 6 rfl) rfl rfl ?_
  refine R_getr (Dat dd_Y_soonOf 7 rfl) rfl rfl (tok S.t400) S.f400_27 (q := 428) rfl (tnz S.t428) ?_
  refine R_iload (Dat dd_Y_soonOf 8 rfl) rfl ?_
  obtain ⟨g1, T⟩ := T
  obtain ⟨g2, T⟩ := T
  refine R_iaload (Dat dd_Y_soonOf 9 rfl) (Or.inl S.t428) (lnle (show ln h 428 = 5040 from S.l428) (by decide)) g1 (lnlt (show ln h 428 = 5040 from S.l428) g2) ?_
  refine R_bipush (Dat dd_Y_soonOf 10 rfl) (a := (-9)) rfl ?_
  obtain ⟨g3, T⟩ := T
  refine R_ic_ne (Dat dd_Y_soonOf 11 rfl) rfl g3 (by decide) (fun c => ?_) (fun c => ?_)
  · replace T := T.1 c
    refine R_aload_n (Dat dd_Y_soonOf 12 rfl) rfl rfl ?_
    refine R_iload_n (Dat dd_Y_soonOf 13 rfl) rfl ?_
    refine R_iload (Dat dd_Y_soonOf 14 rfl) rfl ?_
    exact R_call1 (Dat dd_Y_soonOf 15 rfl) rfl S.t400 rfl rfl rfl rfl rfl T
  · replace T := T.2 c
    refine R_bipush (Dat dd_Y_soonOf 33 rfl) (a := (-9)) rfl ?_
    exact R_ireturn (Dat dd_Y_soonOf 34 rfl) rfl T
theorem t_Y_soonOf_29 {h : Hp} {P : Value → Hp → Prop} {a1 a3 a4 a5 s0 : Int} {a2 : Value} (S : YS h) (T : (rng s0) ∧ ((s0 = 0 → (0 ≤ a4) ∧ (a4 < 5040) ∧ R 169 0 [.ref 400, .int (I (iv (setI h 428 a4 (wr a5)) 400 19)), .int (I a4), .int (I a3)] [] (setI h 428 a4 (wr a5)) (fun v h2 => R 174 58 [.ref 400, .int (I a1), a2, .int (I a3), .int (I a4), .int (I (a5 + 1))] (v :: []) h2 P)) ∧ (¬ s0 = 0 → P (.int (I a5)) h))) : R 174 29 [.ref 400, .int (I a1), a2, .int (I a3), .int (I a4), .int (I a5)] [.int (I s0)] h P := by
  obtain ⟨g1, T⟩ := T
  refine R_if_eq (Dat dd_Y_soonOf 16 rfl) rfl g1  (fun c => ?_) (fun c => ?_)
  · replace T := T.1 c
    refine R_aload_n (Dat dd_Y_soonOf 19 rfl) rfl rfl ?_
    refine R_getr (Dat dd_Y_soonOf 20 rfl) rfl rfl (tok S.t400) S.f400_27 (q := 428) rfl (tnz S.t428) ?_
    refine R_iload (Dat dd_Y_soonOf 21 rfl) rfl ?_
    refine R_iload (Dat dd_Y_soonOf 22 rfl) rfl ?_
    obtain ⟨g2, T⟩ := T
    obtain ⟨g3, T⟩ := T
    refine R_iastore (Dat dd_Y_soonOf 23 rfl) S.t428 (lnle (show ln h 428 = 5040 from S.l428) (by decide)) g2 (lnlt (show ln h 428 = 5040 from S.l428) g3) (v := wr a5) rfl ?_
    refine R_iinc (Dat dd_Y_soonOf 24 rfl) rfl rfl rfl ?_
    refine R_aload_n (Dat dd_Y_soonOf 25 rfl) rfl rfl ?_
    refine R_aload_n (Dat dd_Y_soonOf 26 rfl) rfl rfl ?_
    refine R_geti (Dat dd_Y_soonOf 27 rfl) rfl rfl (tok S.t400) ?_
    refine R_iload (Dat dd_Y_soonOf 28 rfl) rfl ?_
    refine R_iload_n (Dat dd_Y_soonOf 29 rfl) rfl ?_
    exact R_call1 (Dat dd_Y_soonOf 30 rfl) rfl S.t400 rfl rfl rfl rfl rfl T
  · replace T := T.2 c
    refine R_iload (Dat dd_Y_soonOf 17 rfl) rfl ?_
    exact R_ireturn (Dat dd_Y_soonOf 18 rfl) rfl T
theorem t_Y_soonOf_58 {h : Hp} {P : Value → Hp → Prop} {a1 a3 a5 s0 : Int} {a2 a4 : Value} (S : YS h) (T : R 174 10 [.ref 400, .int (I a1), a2, .int (I a3), .int (I s0), .int (I a5)] [] h P) : R 174 58 [.ref 400, .int (I a1), a2, .int (I a3), a4, .int (I a5)] [.int (I s0)] h P := by
  refine R_istore (Dat dd_Y_soonOf 31 rfl) rfl rfl ?_
  refine R_goto (Dat dd_Y_soonOf 32 rfl) rfl ?_
  exact T
def dl_Y_isOnTop : List (Nat × Instr × Nat) := [(0, .aload_n 0, 1), (1, .iload_n 2, 1), (2, .invokevirtual 154, 3), (5, .aload_n 0, 1), (6, .getfield 37, 3), (9, .aload_n 0, 1), (10, .getfield 92, 3), (13, .iconst 1, 1), (14, .isub, 1), (15, .iaload, 1), (16, .iload_n 1, 1), (17, .if_icmp .ne 7, 3), (20, .iconst 1, 1), (21, .goto 4, 3), (24, .iconst 0, 1), (25, .ireturn, 1)]
theorem dd_Y_isOnTop : Dall 175 dl_Y_isOnTop = true := by decide +kernel
theorem t_Y_isOnTop {h : Hp} {P : Value → Hp → Prop} {p0 p1 : Int} (S : YS h) (T : R 141 0 [.ref 400, .int (I p1), .retAddr 0, .retAddr 0, .retAddr 0, .retAddr 0, .retAddr 0, .retAddr 0] [] h (fun _ h2 => R 175 5 [.ref 400, .int (I p0), .int (I p1)] [] h2 P)) : R 175 0 [.ref 400, .int (I p0), .int (I p1)] [] h P := by
  refine R_aload_n (Dat dd_Y_isOnTop 0 rfl) rfl rfl ?_
  refine R_iload_n (Dat dd_Y_isOnTop 1 rfl) rfl ?_
  exact R_call1 (Dat dd_Y_isOnTop 2 rfl) rfl S.t400 rfl rfl rfl rfl rfl T
theorem t_Y_isOnTop_5 {h : Hp} {P : Value → Hp → Prop} {a1 : Int} {a2 : Value} (S : YS h) (T : (0 ≤ ((iv h 400 5) - 1)) ∧ (((iv h 400 5) - 1) < 7) ∧ (rng (iv h 418 ((iv h 400 5) - 1))) ∧ (rng a1) ∧ (((iv h 418 ((iv h 400 5) - 1)) = a1 → P (.int (I 1)) h) ∧ (¬ (iv h 418 ((iv h 400 5) - 1)) = a1 → P (.int (I 0)) h))) : R 175 5 [.ref 400, .int (I a1), a2] [] h P := by
  refine R_aload_n (Dat dd_Y_isOnTop 3 rfl) rfl rfl ?_
  refine R_getr (Dat dd_Y_isOnTop 4 rfl) rfl rfl (tok S.t400) S.f400_17 (q := 418) rfl (tnz S.t418) ?_
  refine R_aload_n (Dat dd_Y_isOnTop 5 rfl) rfl rfl ?_
  refine R_geti (Dat dd_Y_isOnTop 6 rfl) rfl rfl (tok S.t400) ?_
  refine R_iconst (Dat dd_Y_isOnTop 7 rfl) ?_
  refine R_isub (Dat dd_Y_isOnTop 8 rfl) ?_
  obtain ⟨g1, T⟩ := T
  obtain ⟨g2, T⟩ := T
  refine R_iaload (Dat dd_Y_isOnTop 9 rfl) (Or.inl S.t418) (lnle (show ln h 418 = 7 from S.l418) (by decide)) g1 (lnlt (show ln h 418 = 7 from S.l418) g2) ?_
  refine R_iload_n (Dat dd_Y_isOnTop 10 rfl) rfl ?_
  obtain ⟨g3, T⟩ := T
  obtain ⟨g4, T⟩ := T
  refine R_ic_ne (Dat dd_Y_isOnTop 11 rfl) rfl g3 g4 (fun c => ?_) (fun c => ?_)
  · replace T := T.1 c
    refine R_iconst (Dat dd_Y_isOnTop 12 rfl) ?_
    refine R_goto (Dat dd_Y_isOnTop 13 rfl) rfl ?_
    exact R_ireturn (Dat dd_Y_isOnTop 15 rfl) rfl T
  · replace T := T.2 c
    refine R_iconst (Dat dd_Y_isOnTop 14 rfl) ?_
    exact R_ireturn (Dat dd_Y_isOnTop 15 rfl) rfl T
def dl_Y_boss : List (Nat × Instr × Nat) := [(0, .aload_n 0, 1), (1, .iload_n 1, 1), (2, .iload_n 2, 1), (3, .iload_n 3, 1), (4, .invokevirtual 221, 3), (7, .istore 4, 2), (9, .iload 4, 2), (11, .ifCond .eq 6, 3), (14, .iload 4, 2), (16, .ireturn, 1), (17, .aload_n 0, 1), (18, .iload_n 1, 1), (19, .iload_n 2, 1), (20, .iload_n 3, 1), (21, .invokevirtual 224, 3), (24, .istore 5, 2), (26, .iload 5, 2), (28, .bipush (-9), 2), (30, .if_icmp .ne 9, 3), (33, .sipush 9999, 3), (36, .goto 5, 3), (39, .iload 5, 2), (41, .istore 5, 2), (43, .bipush (-9), 2), (45, .istore 6, 2), (47, .iconst 0, 1), (48, .istore 7, 2), (50, .iconst 0, 1), (51, .istore 8, 2), (53, .iload 8, 2), (55, .aload_n 0, 1), (56, .getfield 40, 3), (59, .aload_n 0, 1), (60, .getfield 173, 3), (63, .iaload, 1), (64, .if_icmp .ge 84, 3), (67, .aload_n 0, 1), (68, .iload 8, 2), (70, .putfield 52, 3), (73, .aload_n 0, 1), (74, .iload_n 1, 1), (75, .iload_n 2, 1), (76, .iload_n 3, 1), (77, .invokevirtual 224, 3), (80, .istore 9, 2), (82, .aload_n 0, 1), (83, .bipush (-9), 2), (85, .putfield 52, 3), (88, .iload 9, 2), (90, .bipush (-9), 2), (92, .if_icmp .ne 9, 3), (95, .sipush 9999, 3), (98, .goto 5, 3), (101, .iload 9, 2), (103, .istore 9, 2), (105, .iload 9, 2), (107, .iload 5, 2), (109, .if_icmp .le 11, 3), (112, .iload 9, 2), (114, .iload 5, 2), (116, .isub, 1), (117, .goto 8, 3), (120, .iload 5, 2), (122, .iload 9, 2), (124, .isub, 1), (125, .istore 10, 2), (127, .iload 10, 2), (129, .iload 7, 2), (131, .if_icmp .le 11, 3), (134, .iload 10, 2), (136, .istore 7, 2), (138, .iload 8, 2), (140, .istore 6, 2), (142, .iinc 8 1, 3), (145, .goto (-92), 3), (148, .iload 6, 2), (150, .ireturn, 1)]
theorem dd_Y_boss : Dall 176 dl_Y_boss = true := by decide +kernel
theorem t_Y_boss {h : Hp} {P : Value → Hp → Prop} {p0 p1 p2 : Int} (S : YS h) (T : R 173 0 [.ref 400, .int (I p0), .int (I p1), .int (I p2)] [] h (fun v h2 => R 176 7 [.ref 400, .int (I p0), .int (I p1), .int (I p2), .retAddr 0, .retAddr 0, .retAddr 0, .retAddr 0, .retAddr 0, .retAddr 0, .retAddr 0] (v :: []) h2 P)) : R 176 0 [.ref 400, .int (I p0), .int (I p1), .int (I p2), .retAddr 0, .retAddr 0, .retAddr 0, .retAddr 0, .retAddr 0, .retAddr 0, .retAddr 0] [] h P := by
  refine R_aload_n (Dat dd_Y_boss 0 rfl) rfl rfl ?_
  refine R_iload_n (Dat dd_Y_boss 1 rfl) rfl ?_
  refine R_iload_n (Dat dd_Y_boss 2 rfl) rfl ?_
  refine R_iload_n (Dat dd_Y_boss 3 rfl) rfl ?_
  exact R_call1 (Dat dd_Y_boss 4 rfl) rfl S.t400 rfl rfl rfl rfl rfl T
theorem t_Y_boss_7 {h : Hp} {P : Value → Hp → Prop} {a1 a2 a3 s0 : Int} {a4 a5 a6 a7 a8 a9 a10 : Value} (S : YS h) (T : (rng s0) ∧ ((s0 = 0 → R 174 0 [.ref 400, .int (I a1), .int (I a2), .int (I a3), .retAddr 0, .retAddr 0] [] h (fun v h2 => R 176 24 [.ref 400, .int (I a1), .int (I a2), .int (I a3), .int (I s0), a5, a6, a7, a8, a9, a10] (v :: []) h2 P)) ∧ (¬ s0 = 0 → P (.int (I s0)) h))) : R 176 7 [.ref 400, .int (I a1), .int (I a2), .int (I a3), a4, a5, a6, a7, a8, a9, a10] [.int (I s0)] h P := by
  refine R_istore (Dat dd_Y_boss 5 rfl) rfl rfl ?_
  refine R_iload (Dat dd_Y_boss 6 rfl) rfl ?_
  obtain ⟨g1, T⟩ := T
  refine R_if_eq (Dat dd_Y_boss 7 rfl) rfl g1  (fun c => ?_) (fun c => ?_)
  · replace T := T.1 c
    refine R_aload_n (Dat dd_Y_boss 10 rfl) rfl rfl ?_
    refine R_iload_n (Dat dd_Y_boss 11 rfl) rfl ?_
    refine R_iload_n (Dat dd_Y_boss 12 rfl) rfl ?_
    refine R_iload_n (Dat dd_Y_boss 13 rfl) rfl ?_
    exact R_call1 (Dat dd_Y_boss 14 rfl) rfl S.t400 rfl rfl rfl rfl rfl T
  · replace T := T.2 c
    refine R_iload (Dat dd_Y_boss 8 rfl) rfl ?_
    exact R_ireturn (Dat dd_Y_boss 9 rfl) rfl T
theorem t_Y_boss_24 {h : Hp} {P : Value → Hp → Prop} {a1 a2 a3 s0 : Int} {a4 a5 a6 a7 a8 a9 a10 : Value} (S : YS h) (T : (rng s0) ∧ ((s0 = (-9) → R 176 53 [.ref 400, .int (I a1), .int (I a2), .int (I a3), a4, .int (I 9999), .int (I (-9)), .int (I 0), .int (I 0), a9, a10] [] h P) ∧ (¬ s0 = (-9) → R 176 53 [.ref 400, .int (I a1), .int (I a2), .int (I a3), a4, .int (I s0), .int (I (-9)), .int (I 0), .int (I 0), a9, a10] [] h P))) : R 176 24 [.ref 400, .int (I a1), .int (I a2), .int (I a3), a4, a5, a6, a7, a8, a9, a10] [.int (I s0)] h P := by
  refine R_istore (Dat dd_Y_boss 15 rfl) rfl rfl ?_
  refine R_iload (Dat dd_Y_boss 16 rfl) rfl ?_
  refine R_bipush (Dat dd_Y_boss 17 rfl) (a := (-9)) rfl ?_
  obtain ⟨g1, T⟩ := T
  refine R_ic_ne (Dat dd_Y_boss 18 rfl) rfl g1 (by decide) (fun c => ?_) (fun c => ?_)
  · replace T := T.1 c
    refine R_sipush (Dat dd_Y_boss 19 rfl) (a := 9999) rfl ?_
    refine R_goto (Dat dd_Y_boss 20 rfl) rfl ?_
    refine R_istore (Dat dd_Y_boss 22 rfl) rfl rfl ?_
    refine R_bipush (Dat dd_Y_boss 23 rfl) (a := (-9)) rfl ?_
    refine R_istore (Dat dd_Y_boss 24 rfl) rfl rfl ?_
    refine R_iconst (Dat dd_Y_boss 25 rfl) ?_
    refine R_istore (Dat dd_Y_boss 26 rfl) rfl rfl ?_
    refine R_iconst (Dat dd_Y_boss 27 rfl) ?_
    refine R_istore (Dat dd_Y_boss 28 rfl) rfl rfl ?_
    exact T
  · replace T := T.2 c
    refine R_iload (Dat dd_Y_boss 21 rfl) rfl ?_
    refine R_istore (Dat dd_Y_boss 22 rfl) rfl rfl ?_
    refine R_bipush (Dat dd_Y_boss 23 rfl) (a := (-9)) rfl ?_
    refine R_istore (Dat dd_Y_boss 24 rfl) rfl rfl ?_
    refine R_iconst (Dat dd_Y_boss 25 rfl) ?_
    refine R_istore (Dat dd_Y_boss 26 rfl) rfl rfl ?_
    refine R_iconst (Dat dd_Y_boss 27 rfl) ?_
    refine R_istore (Dat dd_Y_boss 28 rfl) rfl rfl ?_
    exact T
theorem t_Y_boss_53 {h : Hp} {P : Value → Hp → Prop} {a1 a2 a3 a5 a6 a7 a8 : Int} {a4 a9 a10 : Value} (S : YS h) (T : (0 ≤ (iv h 400 19)) ∧ ((iv h 400 19) < 4) ∧ (rng a8) ∧ (rng (iv h 421 (iv h 400 19))) ∧ ((a8 < (iv h 421 (iv h 400 19)) → R 174 0 [.ref 400, .int (I a1), .int (I a2), .int (I a3), .retAddr 0, .retAddr 0] [] (setI h 400 24 (wr a8)) (fun v h2 => R 176 80 [.ref 400, .int (I a1), .int (I a2), .int (I a3), a4, .int (I a5), .int (I a6), .int (I a7), .int (I a8), a9, a10] (v :: []) h2 P)) ∧ (¬ a8 < (iv h 421 (iv h 400 19)) → P (.int (I a6)) h))) : R 176 53 [.ref 400, .int (I a1), .int (I a2), .int (I a3), a4, .int (I a5), .int (I a6), .int (I a7), .int (I a8), a9, a10] [] h P := by
  refine R_iload (Dat dd_Y_boss 29 rfl) rfl ?_
  refine R_aload_n (Dat dd_Y_boss 30 rfl) rfl rfl ?_
  refine R_getr (Dat dd_Y_boss 31 rfl) rfl rfl (tok S.t400) S.f400_20 (q := 421) rfl (tnz S.t421) ?_
  refine R_aload_n (Dat dd_Y_boss 32 rfl) rfl rfl ?_
  refine R_geti (Dat dd_Y_boss 33 rfl) rfl rfl (tok S.t400) ?_
  obtain ⟨g1, T⟩ := T
  obtain ⟨g2, T⟩ := T
  refine R_iaload (Dat dd_Y_boss 34 rfl) (Or.inl S.t421) (lnle (show ln h 421 = 4 from S.l421) (by decide)) g1 (lnlt (show ln h 421 = 4 from S.l421) g2) ?_
  obtain ⟨g3, T⟩ := T
  obtain ⟨g4, T⟩ := T
  refine R_ic_ge (Dat dd_Y_boss 35 rfl) rfl g3 g4 (fun c => ?_) (fun c => ?_)
  · replace T := T.1 c
    refine R_aload_n (Dat dd_Y_boss 36 rfl) rfl rfl ?_
    refine R_iload (Dat dd_Y_boss 37 rfl) rfl ?_
    refine R_puti (Dat dd_Y_boss 38 rfl) rfl rfl rfl (tok S.t400) rfl (v := wr a8) rfl ?_
    refine R_aload_n (Dat dd_Y_boss 39 rfl) rfl rfl ?_
    refine R_iload_n (Dat dd_Y_boss 40 rfl) rfl ?_
    refine R_iload_n (Dat dd_Y_boss 41 rfl) rfl ?_
    refine R_iload_n (Dat dd_Y_boss 42 rfl) rfl ?_
    exact R_call1 (Dat dd_Y_boss 43 rfl) rfl S.t400 rfl rfl rfl rfl rfl T
  · replace T := T.2 c
    refine R_iload (Dat dd_Y_boss 75 rfl) rfl ?_
    exact R_ireturn (Dat dd_Y_boss 76 rfl) rfl T
theorem t_Y_boss_80 {h : Hp} {P : Value → Hp → Prop} {a1 a2 a3 a5 a6 a7 a8 s0 : Int} {a4 a9 a10 : Value} (S : YS h) (T : (rng s0) ∧ ((s0 = (-9) → (rng a5) ∧ ((a5 < 9999 → (rng (9999 - a5)) ∧ (rng a7) ∧ ((a7 < (9999 - a5) → R 176 53 [.ref 400, .int (I a1), .int (I a2), .int (I a3), a4, .int (I a5), .int (I a8), .int (I (9999 - a5)), .int (I (a8 + 1)), .int (I 9999), .int (I (9999 - a5))] [] (setI h 400 24 (-9)) P) ∧ (¬ a7 < (9999 - a5) → R 176 53 [.ref 400, .int (I a1), .int (I a2), .int (I a3), a4, .int (I a5), .int (I a6), .int (I a7), .int (I (a8 + 1)), .int (I 9999), .int (I (9999 - a5))] [] (setI h 400 24 (-9)) P))) ∧ (¬ a5 < 9999 → (rng (a5 - 9999)) ∧ (rng a7) ∧ ((a7 < (a5 - 9999) → R 176 53 [.ref 400, .int (I a1), .int (I a2), .int (I a3), a4, .int (I a5), .int (I a8), .int (I (a5 - 9999)), .int (I (a8 + 1)), .int (I 9999), .int (I (a5 - 9999))] [] (setI h 400 24 (-9)) P) ∧ (¬ a7 < (a5 - 9999) → R 176 53 [.ref 400, .int (I a1), .int (I a2), .int (I a3), a4, .int (I a5), .int (I a6), .int (I a7), .int (I (a8 + 1)), .int (I 9999), .int (I (a5 - 9999))] [] (setI h 400 24 (-9)) P))))) ∧ (¬ s0 = (-9) → (rng s0) ∧ (rng a5) ∧ ((a5 < s0 → (rng (s0 - a5)) ∧ (rng a7) ∧ ((a7 < (s0 - a5) → R 176 53 [.ref 400, .int (I a1), .int (I a2), .int (I a3), a4, .int (I a5), .int (I a8), .int (I (s0 - a5)), .int (I (a8 + 1)), .int (I s0), .int (I (s0 - a5))] [] (setI h 400 24 (-9)) P) ∧ (¬ a7 < (s0 - a5) → R 176 53 [.ref 400, .int (I a1), .int (I a2), .int (I a3), a4, .int (I a5), .int (I a6), .int (I a7), .int (I (a8 + 1)), .int (I s0), .int (I (s0 - a5))] [] (setI h 400 24 (-9)) P))) ∧ (¬ a5 < s0 → (rng (a5 - s0)) ∧ (rng a7) ∧ ((a7 < (a5 - s0) → R 176 53 [.ref 400, .int (I a1), .int (I a2), .int (I a3), a4, .int (I a5), .int (I a8), .int (I (a5 - s0)), .int (I (a8 + 1)), .int (I s0), .int (I (a5 - s0))] [] (setI h 400 24 (-9)) P) ∧ (¬ a7 < (a5 - s0) → R 176 53 [.ref 400, .int (I a1), .int (I a2), .int (I a3), a4, .int (I a5), .int (I a6), .int (I a7), .int (I (a8 + 1)), .int (I s0), .int (I (a5 - s0))] [] (setI h 400 24 (-9)) P))))))) : R 176 80 [.ref 400, .int (I a1), .int (I a2), .int (I a3), a4, .int (I a5), .int (I a6), .int (I a7), .int (I a8), a9, a10] [.int (I s0)] h P := by
  refine R_istore (Dat dd_Y_boss 44 rfl) rfl rfl ?_
  refine R_aload_n (Dat dd_Y_boss 45 rfl) rfl rfl ?_
  refine R_bipush (Dat dd_Y_boss 46 rfl) (a := (-9)) rfl ?_
  refine R_puti (Dat dd_Y_boss 47 rfl) rfl rfl rfl (tok S.t400) rfl (v := (-9)) rfl ?_
  refine R_iload (Dat dd_Y_boss 48 rfl) rfl ?_
  refine R_bipush (Dat dd_Y_boss 49 rfl) (a := (-9)) rfl ?_
  obtain ⟨g1, T⟩ := T
  refine R_ic_ne (Dat dd_Y_boss 50 rfl) rfl g1 (by decide) (fun c => ?_) (fun c => ?_)
  · replace T := T.1 c
    refine R_sipush (Dat dd_Y_boss 51 rfl) (a := 9999) rfl ?_
    refine R_goto (Dat dd_Y_boss 52 rfl) rfl ?_
    refine R_istore (Dat dd_Y_boss 54 rfl) rfl rfl ?_
    refine R_iload (Dat dd_Y_boss 55 rfl) rfl ?_
    refine R_iload (Dat dd_Y_boss 56 rfl) rfl ?_
    obtain ⟨g2, T⟩ := T
    refine R_ic_le (Dat dd_Y_boss 57 rfl) rfl (by decide) g2 (fun c => ?_) (fun c => ?_)
    · replace T := T.1 c
      refine R_iload (Dat dd_Y_boss 58 rfl) rfl ?_
      refine R_iload (Dat dd_Y_boss 59 rfl) rfl ?_
      refine R_isub (Dat dd_Y_boss 60 rfl) ?_
      refine R_goto (Dat dd_Y_boss 61 rfl) rfl ?_
      refine R_istore (Dat dd_Y_boss 65 rfl) rfl rfl ?_
      refine R_iload (Dat dd_Y_boss 66 rfl) rfl ?_
      refine R_iload (Dat dd_Y_boss 67 rfl) rfl ?_
      obtain ⟨g3, T⟩ := T
      obtain ⟨g4, T⟩ := T
      refine R_ic_le (Dat dd_Y_boss 68 rfl) rfl g3 g4 (fun c => ?_) (fun c => ?_)
      · replace T := T.1 c
        refine R_iload (Dat dd_Y_boss 69 rfl) rfl ?_
        refine R_istore (Dat dd_Y_boss 70 rfl) rfl rfl ?_
        refine R_iload (Dat dd_Y_boss 71 rfl) rfl ?_
        refine R_istore (Dat dd_Y_boss 72 rfl) rfl rfl ?_
        refine R_iinc (Dat dd_Y_boss 73 rfl) rfl rfl rfl ?_
        refine R_goto (Dat dd_Y_boss 74 rfl) rfl ?_
        exact T
      · replace T := T.2 c
        refine R_iinc (Dat dd_Y_boss 73 rfl) rfl rfl rfl ?_
        refine R_goto (Dat dd_Y_boss 74 rfl) rfl ?_
        exact T
    · replace T := T.2 c
      refine R_iload (Dat dd_Y_boss 62 rfl) rfl ?_
      refine R_iload (Dat dd_Y_boss 63 rfl) rfl ?_
      refine R_isub (Dat dd_Y_boss 64 rfl) ?_
      refine R_istore (Dat dd_Y_boss 65 rfl) rfl rfl ?_
      refine R_iload (Dat dd_Y_boss 66 rfl) rfl ?_
      refine R_iload (Dat dd_Y_boss 67 rfl) rfl ?_
      obtain ⟨g5, T⟩ := T
      obtain ⟨g6, T⟩ := T
      refine R_ic_le (Dat dd_Y_boss 68 rfl) rfl g5 g6 (fun c => ?_) (fun c => ?_)
      · replace T := T.1 c
        refine R_iload (Dat dd_Y_boss 69 rfl) rfl ?_
        refine R_istore (Dat dd_Y_boss 70 rfl) rfl rfl ?_
        refine R_iload (Dat dd_Y_boss 71 rfl) rfl ?_
        refine R_istore (Dat dd_Y_boss 72 rfl) rfl rfl ?_
        refine R_iinc (Dat dd_Y_boss 73 rfl) rfl rfl rfl ?_
        refine R_goto (Dat dd_Y_boss 74 rfl) rfl ?_
        exact T
      · replace T := T.2 c
        refine R_iinc (Dat dd_Y_boss 73 rfl) rfl rfl rfl ?_
        refine R_goto (Dat dd_Y_boss 74 rfl) rfl ?_
        exact T
  · replace T := T.2 c
    refine R_iload (Dat dd_Y_boss 53 rfl) rfl ?_
    refine R_istore (Dat dd_Y_boss 54 rfl) rfl rfl ?_
    refine R_iload (Dat dd_Y_boss 55 rfl) rfl ?_
    refine R_iload (Dat dd_Y_boss 56 rfl) rfl ?_
    obtain ⟨g7, T⟩ := T
    obtain ⟨g8, T⟩ := T
    refine R_ic_le (Dat dd_Y_boss 57 rfl) rfl g7 g8 (fun c => ?_) (fun c => ?_)
    · replace T := T.1 c
      refine R_iload (Dat dd_Y_boss 58 rfl) rfl ?_
      refine R_iload (Dat dd_Y_boss 59 rfl) rfl ?_
      refine R_isub (Dat dd_Y_boss 60 rfl) ?_
      refine R_goto (Dat dd_Y_boss 61 rfl) rfl ?_
      refine R_istore (Dat dd_Y_boss 65 rfl) rfl rfl ?_
      refine R_iload (Dat dd_Y_boss 66 rfl) rfl ?_
      refine R_iload (Dat dd_Y_boss 67 rfl) rfl ?_
      obtain ⟨g9, T⟩ := T
      obtain ⟨g10, T⟩ := T
      refine R_ic_le (Dat dd_Y_boss 68 rfl) rfl g9 g10 (fun c => ?_) (fun c => ?_)
      · replace T := T.1 c
        refine R_iload (Dat dd_Y_boss 69 rfl) rfl ?_
        refine R_istore (Dat dd_Y_boss 70 rfl) rfl rfl ?_
        refine R_iload (Dat dd_Y_boss 71 rfl) rfl ?_
        refine R_istore (Dat dd_Y_boss 72 rfl) rfl rfl ?_
        refine R_iinc (Dat dd_Y_boss 73 rfl) rfl rfl rfl ?_
        refine R_goto (Dat dd_Y_boss 74 rfl) rfl ?_
        exact T
      · replace T := T.2 c
        refine R_iinc (Dat dd_Y_boss 73 rfl) rfl rfl rfl ?_
        refine R_goto (Dat dd_Y_boss 74 rfl) rfl ?_
        exact T
    · replace T := T.2 c
      refine R_iload (Dat dd_Y_boss 62 rfl) rfl ?_
      refine R_iload (Dat dd_Y_boss 63 rfl) rfl ?_
      refine R_isub (Dat dd_Y_boss 64 rfl) ?_
      refine R_istore (Dat dd_Y_boss 65 rfl) rfl rfl ?_
      refine R_iload (Dat dd_Y_boss 66 rfl) rfl ?_
      refine R_iload (Dat dd_Y_boss 67 rfl) rfl ?_
      obtain ⟨g11, T⟩ := T
      obtain ⟨g12, T⟩ := T
      refine R_ic_le (Dat dd_Y_boss 68 rfl) rfl g11 g12 (fun c => ?_) (fun c => ?_)
      · replace T := T.1 c
        refine R_iload (Dat dd_Y_boss 69 rfl) rfl ?_
        refine R_istore (Dat dd_Y_boss 70 rfl) rfl rfl ?_
        refine R_iload (Dat dd_Y_boss 71 rfl) rfl ?_
        refine R_istore (Dat dd_Y_boss 72 rfl) rfl rfl ?_
        refine R_iinc (Dat dd_Y_boss 73 rfl) rfl rfl rfl ?_
        refine R_goto (Dat dd_Y_boss 74 rfl) rfl ?_
        exact T
      · replace T := T.2 c
        refine R_iinc (Dat dd_Y_boss 73 rfl) rfl rfl rfl ?_
        refine R_goto (Dat dd_Y_boss 74 rfl) rfl ?_
        exact T
def dl_Y_mix : List (Nat × Instr × Nat) := [(0, .aload_n 0, 1), (1, .iload_n 1, 1), (2, .invokevirtual 158, 3), (5, .ifCond .ne 5, 3), (8, .iconst (-1), 1), (9, .ireturn, 1), (10, .iload_n 2, 1), (11, .iconst 0, 1), (12, .iconst 1, 1), (13, .invokestatic 88, 3), (16, .ifCond .eq 12, 3), (19, .aload_n 0, 1), (20, .iload_n 1, 1), (21, .iload_n 2, 1), (22, .invokevirtual 227, 3), (25, .goto 5, 3), (28, .bipush (-2), 2), (30, .ireturn, 1)]
theorem dd_Y_mix : Dall 177 dl_Y_mix = true := by decide +kernel
theorem t_Y_mix {h : Hp} {P : Value → Hp → Prop} {p0 p1 : Int} (S : YS h) (T : R 146 0 [.ref 400, .int (I p0)] [] h (fun v h2 => R 177 5 [.ref 400, .int (I p0), .int (I p1)] (v :: []) h2 P)) : R 177 0 [.ref 400, .int (I p0), .int (I p1)] [] h P := by
  refine R_aload_n (Dat dd_Y_mix 0 rfl) rfl rfl ?_
  refine R_iload_n (Dat dd_Y_mix 1 rfl) rfl ?_
  exact R_call1 (Dat dd_Y_mix 2 rfl) rfl S.t400 rfl rfl rfl rfl rfl T
theorem t_Y_mix_5 {h : Hp} {P : Value → Hp → Prop} {a1 a2 s0 : Int} (S : YS h) (T : (rng s0) ∧ ((s0 = 0 → P (.int (I (-1))) h) ∧ (¬ s0 = 0 → R 129 0 [.int (I a2), .int (I 0), .int (I 1)] [] h (fun v h2 => R 177 16 [.ref 400, .int (I a1), .int (I a2)] (v :: []) h2 P)))) : R 177 5 [.ref 400, .int (I a1), .int (I a2)] [.int (I s0)] h P := by
  obtain ⟨g1, T⟩ := T
  refine R_if_ne (Dat dd_Y_mix 3 rfl) rfl g1  (fun c => ?_) (fun c => ?_)
  · replace T := T.1 c
    refine R_iconst (Dat dd_Y_mix 4 rfl) ?_
    exact R_ireturn (Dat dd_Y_mix 5 rfl) rfl T
  · replace T := T.2 c
    refine R_iload_n (Dat dd_Y_mix 6 rfl) rfl ?_
    refine R_iconst (Dat dd_Y_mix 7 rfl) ?_
    refine R_iconst (Dat dd_Y_mix 8 rfl) ?_
    exact R_call0 (Dat dd_Y_mix 9 rfl) rfl rfl rfl rfl rfl rfl T
theorem t_Y_mix_16 {h : Hp} {P : Value → Hp → Prop} {a1 a2 s0 : Int} (S : YS h) (T : (rng s0) ∧ ((s0 = 0 → P (.int (I (-2))) h) ∧ (¬ s0 = 0 → R 178 0 [.ref 400, .int (I a1), .int (I a2), .retAddr 0, .retAddr 0, .retAddr 0, .retAddr 0] [] h (fun v h2 => R 177 25 [.ref 400, .int (I a1), .int (I a2)] (v :: []) h2 P)))) : R 177 16 [.ref 400, .int (I a1), .int (I a2)] [.int (I s0)] h P := by
  obtain ⟨g1, T⟩ := T
  refine R_if_eq (Dat dd_Y_mix 10 rfl) rfl g1  (fun c => ?_) (fun c => ?_)
  · replace T := T.1 c
    refine R_bipush (Dat dd_Y_mix 16 rfl) (a := (-2)) rfl ?_
    exact R_ireturn (Dat dd_Y_mix 17 rfl) rfl T
  · replace T := T.2 c
    refine R_aload_n (Dat dd_Y_mix 11 rfl) rfl rfl ?_
    refine R_iload_n (Dat dd_Y_mix 12 rfl) rfl ?_
    refine R_iload_n (Dat dd_Y_mix 13 rfl) rfl ?_
    exact R_call1 (Dat dd_Y_mix 14 rfl) rfl S.t400 rfl rfl rfl rfl rfl T
theorem t_Y_mix_25 {h : Hp} {P : Value → Hp → Prop} {s0 : Int} {a0 a1 a2 : Value} (S : YS h) (T : P (.int (I s0)) h) : R 177 25 [a0, a1, a2] [.int (I s0)] h P := by
  refine R_goto (Dat dd_Y_mix 15 rfl) rfl ?_
  exact R_ireturn (Dat dd_Y_mix 17 rfl) rfl T
def dl_Y_valueOf : List (Nat × Instr × Nat) := [(0, .aload_n 0, 1), (1, .iload_n 1, 1), (2, .invokevirtual 154, 3), (5, .iconst 0, 1), (6, .istore_n 3, 1), (7, .iconst 0, 1), (8, .istore 4, 2), (10, .iload 4, 2), (12, .aload_n 0, 1), (13, .getfield 92, 3), (16, .if_icmp .ge 103, 3), (19, .iload 4, 2), (21, .iconst 1, 1), (22, .iadd, 1), (23, .istore 5, 2), (25, .iload 5, 2), (27, .aload_n 0, 1), (28, .getfield 92, 3), (31, .if_icmp .ge 82, 3), (34, .aload_n 0, 1), (35, .getfield 19, 3), (38, .aload_n 0, 1), (39, .getfield 37, 3), (42, .iload 5, 2), (44, .iaload, 1), (45, .iaload, 1), (46, .aload_n 0, 1), (47, .getfield 19, 3), (50, .aload_n 0, 1), (51, .getfield 37, 3), (54, .iload 4, 2), (56, .iaload, 1), (57, .iaload, 1), (58, .isub, 1), (59, .istore 6, 2), (61, .iload_n 2, 1), (62, .iconst 1, 1), (63, .if_icmp .ne 19, 3), (66, .iload_n 3, 1), (67, .iload 6, 2), (69, .ifCond .le 7, 3), (72, .iconst 1, 1), (73, .goto 4, 3), (76, .iconst 0, 1), (77, .iadd, 1), (78, .istore_n 3, 1), (79, .goto 28, 3), (82, .iload 5, 2), (84, .iload 4, 2), (86, .iconst 1, 1), (87, .iadd, 1), (88, .if_icmp .ne 19, 3), (91, .iload_n 3, 1), (92, .iload 6, 2), (94, .ifCond .ge 9, 3), (97, .iload 6, 2), (99, .ineg, 1), (100, .goto 5, 3), (103, .iload 6, 2), (105, .iadd, 1), (106, .istore_n 3, 1), (107, .iinc 5 1, 3), (110, .goto (-85), 3), (113, .iinc 4 1, 3), (116, .goto (-106), 3), (119, .iload_n 3, 1), (120, .ireturn, 1)]
theorem dd_Y_valueOf : Dall 178 dl_Y_valueOf = true := by decide +kernel
theorem t_Y_valueOf {h : Hp} {P : Value → Hp → Prop} {p0 p1 : Int} (S : YS h) (T : R 141 0 [.ref 400, .int (I p0), .retAddr 0, .retAddr 0, .retAddr 0, .retAddr 0, .retAddr 0, .retAddr 0] [] h (fun _ h2 => R 178 5 [.ref 400, .int (I p0), .int (I p1), .retAddr 0, .retAddr 0, .retAddr 0, .retAddr 0] [] h2 P)) : R 178 0 [.ref 400, .int (I p0), .int (I p1), .retAddr 0, .retAddr 0, .retAddr 0, .retAddr 0] [] h P := by
  refine R_aload_n (Dat dd_Y_valueOf 0 rfl) rfl rfl ?_
  refine R_iload_n (Dat dd_Y_valueOf 1 rfl) rfl ?_
  exact R_call1 (Dat dd_Y_valueOf 2 rfl) rfl S.t400 rfl rfl rfl rfl rfl T
theorem t_Y_valueOf_5 {h : Hp} {P : Value → Hp → Prop} {a2 : Int} {a1 a3 a4 a5 a6 : Value} (S : YS h) (T : R 178 10 [.ref 400, a1, .int (I a2), .int (I 0), .int (I 0), a5, a6] [] h P) : R 178 5 [.ref 400, a1, .int (I a2), a3, a4, a5, a6] [] h P := by
  refine R_iconst (Dat dd_Y_valueOf 3 rfl) ?_
  refine R_istore_n (Dat dd_Y_valueOf 4 rfl) rfl rfl ?_
  refine R_iconst (Dat dd_Y_valueOf 5 rfl) ?_
  refine R_istore (Dat dd_Y_valueOf 6 rfl) rfl rfl ?_
  exact T
theorem t_Y_valueOf_10 {h : Hp} {P : Value → Hp → Prop} {a2 a3 a4 : Int} {a1 a5 a6 : Value} (S : YS h) (T : (rng a4) ∧ (rng (iv h 400 5)) ∧ ((a4 < (iv h 400 5) → R 178 25 [.ref 400, a1, .int (I a2), .int (I a3), .int (I a4), .int (I (a4 + 1)), a6] [] h P) ∧ (¬ a4 < (iv h 400 5) → P (.int (I a3)) h))) : R 178 10 [.ref 400, a1, .int (I a2), .int (I a3), .int (I a4), a5, a6] [] h P := by
  refine R_iload (Dat dd_Y_valueOf 7 rfl) rfl ?_
  refine R_aload_n (Dat dd_Y_valueOf 8 rfl) rfl rfl ?_
  refine R_geti (Dat dd_Y_valueOf 9 rfl) rfl rfl (tok S.t400) ?_
  obtain ⟨g1, T⟩ := T
  obtain ⟨g2, T⟩ := T
  refine R_ic_ge (Dat dd_Y_valueOf 10 rfl) rfl g1 g2 (fun c => ?_) (fun c => ?_)
  · replace T := T.1 c
    refine R_iload (Dat dd_Y_valueOf 11 rfl) rfl ?_
    refine R_iconst (Dat dd_Y_valueOf 12 rfl) ?_
    refine R_iadd (Dat dd_Y_valueOf 13 rfl) ?_
    refine R_istore (Dat dd_Y_valueOf 14 rfl) rfl rfl ?_
    exact T
  · replace T := T.2 c
    refine R_iload_n (Dat dd_Y_valueOf 65 rfl) rfl ?_
    exact R_ireturn (Dat dd_Y_valueOf 66 rfl) rfl T
theorem t_Y_valueOf_25 {h : Hp} {P : Value → Hp → Prop} {a2 a3 a4 a5 : Int} {a1 a6 : Value} (S : YS h) (T : (rng a5) ∧ (rng (iv h 400 5)) ∧ ((a5 < (iv h 400 5) → (0 ≤ a5) ∧ (a5 < 7) ∧ (0 ≤ (iv h 418 a5)) ∧ ((iv h 418 a5) < 7) ∧ (0 ≤ a4) ∧ (a4 < 7) ∧ (0 ≤ (iv h 418 a4)) ∧ ((iv h 418 a4) < 7) ∧ (rng a2) ∧ ((a2 = 1 → (rng ((iv h 410 (iv h 418 a5)) - (iv h 410 (iv h 418 a4)))) ∧ (((0 : Int) < ((iv h 410 (iv h 418 a5)) - (iv h 410 (iv h 418 a4))) → R 178 25 [.ref 400, a1, .int (I a2), .int (I (a3 + 1)), .int (I a4), .int (I (a5 + 1)), .int (I ((iv h 410 (iv h 418 a5)) - (iv h 410 (iv h 418 a4))))] [] h P) ∧ (¬ (0 : Int) < ((iv h 410 (iv h 418 a5)) - (iv h 410 (iv h 418 a4))) → R 178 25 [.ref 400, a1, .int (I a2), .int (I (a3 + 0)), .int (I a4), .int (I (a5 + 1)), .int (I ((iv h 410 (iv h 418 a5)) - (iv h 410 (iv h 418 a4))))] [] h P))) ∧ (¬ a2 = 1 → (rng a5) ∧ (rng (a4 + 1)) ∧ ((a5 = (a4 + 1) → (rng ((iv h 410 (iv h 418 a5)) - (iv h 410 (iv h 418 a4)))) ∧ ((((iv h 410 (iv h 418 a5)) - (iv h 410 (iv h 418 a4))) < 0 → R 178 25 [.ref 400, a1, .int (I a2), .int (I (a3 + (-((iv h 410 (iv h 418 a5)) - (iv h 410 (iv h 418 a4)))))), .int (I a4), .int (I (a5 + 1)), .int (I ((iv h 410 (iv h 418 a5)) - (iv h 410 (iv h 418 a4))))] [] h P) ∧ (¬ ((iv h 410 (iv h 418 a5)) - (iv h 410 (iv h 418 a4))) < 0 → R 178 25 [.ref 400, a1, .int (I a2), .int (I (a3 + ((iv h 410 (iv h 418 a5)) - (iv h 410 (iv h 418 a4))))), .int (I a4), .int (I (a5 + 1)), .int (I ((iv h 410 (iv h 418 a5)) - (iv h 410 (iv h 418 a4))))] [] h P))) ∧ (¬ a5 = (a4 + 1) → R 178 25 [.ref 400, a1, .int (I a2), .int (I a3), .int (I a4), .int (I (a5 + 1)), .int (I ((iv h 410 (iv h 418 a5)) - (iv h 410 (iv h 418 a4))))] [] h P))))) ∧ (¬ a5 < (iv h 400 5) → R 178 10 [.ref 400, a1, .int (I a2), .int (I a3), .int (I (a4 + 1)), .int (I a5), a6] [] h P))) : R 178 25 [.ref 400, a1, .int (I a2), .int (I a3), .int (I a4), .int (I a5), a6] [] h P := by
  refine R_iload (Dat dd_Y_valueOf 15 rfl) rfl ?_
  refine R_aload_n (Dat dd_Y_valueOf 16 rfl) rfl rfl ?_
  refine R_geti (Dat dd_Y_valueOf 17 rfl) rfl rfl (tok S.t400) ?_
  obtain ⟨g1, T⟩ := T
  obtain ⟨g2, T⟩ := T
  refine R_ic_ge (Dat dd_Y_valueOf 18 rfl) rfl g1 g2 (fun c => ?_) (fun c => ?_)
  · replace T := T.1 c
    refine R_aload_n (Dat dd_Y_valueOf 19 rfl) rfl rfl ?_
    refine R_getr (Dat dd_Y_valueOf 20 rfl) rfl rfl (tok S.t400) S.f400_9 (q := 410) rfl (tnz S.t410) ?_
    refine R_aload_n (Dat dd_Y_valueOf 21 rfl) rfl rfl ?_
    refine R_getr (Dat dd_Y_valueOf 22 rfl) rfl rfl (tok S.t400) S.f400_17 (q := 418) rfl (tnz S.t418) ?_
    refine R_iload (Dat dd_Y_valueOf 23 rfl) rfl ?_
    obtain ⟨g3, T⟩ := T
    obtain ⟨g4, T⟩ := T
    refine R_iaload (Dat dd_Y_valueOf 24 rfl) (Or.inl S.t418) (lnle (show ln h 418 = 7 from S.l418) (by decide)) g3 (lnlt (show ln h 418 = 7 from S.l418) g4) ?_
    obtain ⟨g5, T⟩ := T
    obtain ⟨g6, T⟩ := T
    refine R_iaload (Dat dd_Y_valueOf 25 rfl) (Or.inl S.t410) (lnle (show ln h 410 = 7 from S.l410) (by decide)) g5 (lnlt (show ln h 410 = 7 from S.l410) g6) ?_
    refine R_aload_n (Dat dd_Y_valueOf 26 rfl) rfl rfl ?_
    refine R_getr (Dat dd_Y_valueOf 27 rfl) rfl rfl (tok S.t400) S.f400_9 (q := 410) rfl (tnz S.t410) ?_
    refine R_aload_n (Dat dd_Y_valueOf 28 rfl) rfl rfl ?_
    refine R_getr (Dat dd_Y_valueOf 29 rfl) rfl rfl (tok S.t400) S.f400_17 (q := 418) rfl (tnz S.t418) ?_
    refine R_iload (Dat dd_Y_valueOf 30 rfl) rfl ?_
    obtain ⟨g7, T⟩ := T
    obtain ⟨g8, T⟩ := T
    refine R_iaload (Dat dd_Y_valueOf 31 rfl) (Or.inl S.t418) (lnle (show ln h 418 = 7 from S.l418) (by decide)) g7 (lnlt (show ln h 418 = 7 from S.l418) g8) ?_
    obtain ⟨g9, T⟩ := T
    obtain ⟨g10, T⟩ := T
    refine R_iaload (Dat dd_Y_valueOf 32 rfl) (Or.inl S.t410) (lnle (show ln h 410 = 7 from S.l410) (by decide)) g9 (lnlt (show ln h 410 = 7 from S.l410) g10) ?_
    refine R_isub (Dat dd_Y_valueOf 33 rfl) ?_
    refine R_istore (Dat dd_Y_valueOf 34 rfl) rfl rfl ?_
    refine R_iload_n (Dat dd_Y_valueOf 35 rfl) rfl ?_
    refine R_iconst (Dat dd_Y_valueOf 36 rfl) ?_
    obtain ⟨g11, T⟩ := T
    refine R_ic_ne (Dat dd_Y_valueOf 37 rfl) rfl g11 (by decide) (fun c => ?_) (fun c => ?_)
    · replace T := T.1 c
      refine R_iload_n (Dat dd_Y_valueOf 38 rfl) rfl ?_
      refine R_iload (Dat dd_Y_valueOf 39 rfl) rfl ?_
      obtain ⟨g12, T⟩ := T
      refine R_if_le (Dat dd_Y_valueOf 40 rfl) rfl g12  (fun c => ?_) (fun c => ?_)
      · replace T := T.1 c
        refine R_iconst (Dat dd_Y_valueOf 41 rfl) ?_
        refine R_goto (Dat dd_Y_valueOf 42 rfl) rfl ?_
        refine R_iadd (Dat dd_Y_valueOf 44 rfl) ?_
        refine R_istore_n (Dat dd_Y_valueOf 45 rfl) rfl rfl ?_
        refine R_goto (Dat dd_Y_valueOf 46 rfl) rfl ?_
        refine R_iinc (Dat dd_Y_valueOf 61 rfl) rfl rfl rfl ?_
        refine R_goto (Dat dd_Y_valueOf 62 rfl) rfl ?_
        exact T
      · replace T := T.2 c
        refine R_iconst (Dat dd_Y_valueOf 43 rfl) ?_
        refine R_iadd (Dat dd_Y_valueOf 44 rfl) ?_
        refine R_istore_n (Dat dd_Y_valueOf 45 rfl) rfl rfl ?_
        refine R_goto (Dat dd_Y_valueOf 46 rfl) rfl ?_
        refine R_iinc (Dat dd_Y_valueOf 61 rfl) rfl rfl rfl ?_
        refine R_goto (Dat dd_Y_valueOf 62 rfl) rfl ?_
        exact T
    · replace T := T.2 c
      refine R_iload (Dat dd_Y_valueOf 47 rfl) rfl ?_
      refine R_iload (Dat dd_Y_valueOf 48 rfl) rfl ?_
      refine R_iconst (Dat dd_Y_valueOf 49 rfl) ?_
      refine R_iadd (Dat dd_Y_valueOf 50 rfl) ?_
      obtain ⟨g13, T⟩ := T
      obtain ⟨g14, T⟩ := T
      refine R_ic_ne (Dat dd_Y_valueOf 51 rfl) rfl g13 g14 (fun c => ?_) (fun c => ?_)
      · replace T := T.1 c
        refine R_iload_n (Dat dd_Y_valueOf 52 rfl) rfl ?_
        refine R_iload (Dat dd_Y_valueOf 53 rfl) rfl ?_
        obtain ⟨g15, T⟩ := T
        refine R_if_ge (Dat dd_Y_valueOf 54 rfl) rfl g15  (fun c => ?_) (fun c => ?_)
        · replace T := T.1 c
          refine R_iload (Dat dd_Y_valueOf 55 rfl) rfl ?_
          refine R_ineg (Dat dd_Y_valueOf 56 rfl) ?_
          refine R_goto (Dat dd_Y_valueOf 57 rfl) rfl ?_
          refine R_iadd (Dat dd_Y_valueOf 59 rfl) ?_
          refine R_istore_n (Dat dd_Y_valueOf 60 rfl) rfl rfl ?_
          refine R_iinc (Dat dd_Y_valueOf 61 rfl) rfl rfl rfl ?_
          refine R_goto (Dat dd_Y_valueOf 62 rfl) rfl ?_
          exact T
        · replace T := T.2 c
          refine R_iload (Dat dd_Y_valueOf 58 rfl) rfl ?_
          refine R_iadd (Dat dd_Y_valueOf 59 rfl) ?_
          refine R_istore_n (Dat dd_Y_valueOf 60 rfl) rfl rfl ?_
          refine R_iinc (Dat dd_Y_valueOf 61 rfl) rfl rfl rfl ?_
          refine R_goto (Dat dd_Y_valueOf 62 rfl) rfl ?_
          exact T
      · replace T := T.2 c
        refine R_iinc (Dat dd_Y_valueOf 61 rfl) rfl rfl rfl ?_
        refine R_goto (Dat dd_Y_valueOf 62 rfl) rfl ?_
        exact T
  · replace T := T.2 c
    refine R_iinc (Dat dd_Y_valueOf 63 rfl) rfl rfl rfl ?_
    refine R_goto (Dat dd_Y_valueOf 64 rfl) rfl ?_
    exact T
def dl_Y_plan : List (Nat × Instr × Nat) := [(0, .iload_n 1, 1), (1, .iconst 0, 1), (2, .iconst 1, 1), (3, .invokestatic 88, 3), (6, .ifCond .eq 13, 3), (9, .iload_n 2, 1), (10, .iconst 0, 1), (11, .bipush 9, 2), (13, .invokestatic 88, 3), (16, .ifCond .ne 6, 3), (19, .bipush (-2), 2), (21, .ireturn, 1), (22, .iload_n 3, 1), (23, .bipush (-2), 2), (25, .bipush 8, 2), (27, .invokestatic 88, 3), (30, .ifCond .ne 5, 3), (33, .iconst (-1), 1), (34, .ireturn, 1), (35, .aload_n 0, 1), (36, .getfield 92, 3), (39, .ifCond .eq 10, 3), (42, .aload_n 0, 1), (43, .getfield 161, 3), (46, .ifCond .ne 6, 3), (49, .bipush (-3), 2), (51, .ireturn, 1), (52, .aload_n 0, 1), (53, .aload_n 0, 1), (54, .getfield 122, 3), (57, .iload_n 2, 1), (58, .iconst 3, 1), (59, .invokevirtual 236, 3), (62, .aload_n 0, 1), (63, .getfield 62, 3), (66, .iconst 0, 1), (67, .iaload, 1), (68, .istore 4, 2), (70, .aload_n 0, 1), (71, .iload 4, 2), (73, .iload_n 1, 1), (74, .invokevirtual 227, 3), (77, .istore 5, 2), (79, .iconst 1, 1), (80, .istore 6, 2), (82, .iload 6, 2), (84, .aload_n 0, 1), (85, .getfield 230, 3), (88, .if_icmp .ge 43, 3), (91, .aload_n 0, 1), (92, .aload_n 0, 1), (93, .getfield 62, 3), (96, .iload 6, 2), (98, .iaload, 1), (99, .iload_n 1, 1), (100, .invokevirtual 227, 3), (103, .istore 7, 2), (105, .iload 7, 2), (107, .iload 5, 2), (109, .if_icmp .le 16, 3), (112, .iload 7, 2), (114, .istore 5, 2), (116, .aload_n 0, 1), (117, .getfield 62, 3), (120, .iload 6, 2), (122, .iaload, 1), (123, .istore 4, 2), (125, .iinc 6 1, 3), (128, .goto (-46), 3), (131, .iload_n 3, 1), (132, .ifCond .ge 21, 3), (135, .iload_n 3, 1), (136, .iconst (-1), 1), (137, .if_icmp .ne 8, 3), (140, .iload 5, 2), (142, .goto 10, 3), (145, .aload_n 0, 1), (146, .getfield 59, 3), (149, .iload 4, 2), (151, .iaload, 1), (152, .ireturn, 1), (153, .iload_n 3, 1), (154, .aload_n 0, 1), (155, .getfield 59, 3), (158, .iload 4, 2), (160, .iaload, 1), (161, .if_icmp .ge 13, 3), (164, .aload_n 0, 1), (165, .iload 4, 2), (167, .iload_n 3, 1), (168, .invokevirtual 239, 3), (171, .goto 5, 3), (174, .bipush (-9), 2), (176, .ireturn, 1)]
theorem dd_Y_plan : Dall 179 dl_Y_plan = true := by decide +kernel
theorem t_Y_plan {h : Hp} {P : Value → Hp → Prop} {p0 p1 p2 : Int} (S : YS h) (T : R 129 0 [.int (I p0), .int (I 0), .int (I 1)] [] h (fun v h2 => R 179 6 [.ref 400, .int (I p0), .int (I p1), .int (I p2), .retAddr 0, .retAddr 0, .retAddr 0, .retAddr 0] (v :: []) h2 P)) : R 179 0 [.ref 400, .int (I p0), .int (I p1), .int (I p2), .retAddr 0, .retAddr 0, .retAddr 0, .retAddr 0] [] h P := by
  refine R_iload_n (Dat dd_Y_plan 0 rfl) rfl ?_
  refine R_iconst (Dat dd_Y_plan 1 rfl) ?_
  refine R_iconst (Dat dd_Y_plan 2 rfl) ?_
  exact R_call0 (Dat dd_Y_plan 3 rfl) rfl rfl rfl rfl rfl rfl T
theorem t_Y_plan_6 {h : Hp} {P : Value → Hp → Prop} {a1 a2 a3 s0 : Int} {a4 a5 a6 a7 : Value} (S : YS h) (T : (rng s0) ∧ ((s0 = 0 → P (.int (I (-2))) h) ∧ (¬ s0 = 0 → R 129 0 [.int (I a2), .int (I 0), .int (I 9)] [] h (fun v h2 => R 179 16 [.ref 400, .int (I a1), .int (I a2), .int (I a3), a4, a5, a6, a7] (v :: []) h2 P)))) : R 179 6 [.ref 400, .int (I a1), .int (I a2), .int (I a3), a4, a5, a6, a7] [.int (I s0)] h P := by
  obtain ⟨g1, T⟩ := T
  refine R_if_eq (Dat dd_Y_plan 4 rfl) rfl g1  (fun c => ?_) (fun c => ?_)
  · replace T := T.1 c
    refine R_bipush (Dat dd_Y_plan 10 rfl) (a := (-2)) rfl ?_
    exact R_ireturn (Dat dd_Y_plan 11 rfl) rfl T
  · replace T := T.2 c
    refine R_iload_n (Dat dd_Y_plan 5 rfl) rfl ?_
    refine R_iconst (Dat dd_Y_plan 6 rfl) ?_
    refine R_bipush (Dat dd_Y_plan 7 rfl) (a := 9) rfl ?_
    exact R_call0 (Dat dd_Y_plan 8 rfl) rfl rfl rfl rfl rfl rfl T
theorem t_Y_plan_16 {h : Hp} {P : Value → Hp → Prop} {a1 a2 a3 s0 : Int} {a4 a5 a6 a7 : Value} (S : YS h) (T : (rng s0) ∧ ((s0 = 0 → P (.int (I (-2))) h) ∧ (¬ s0 = 0 → R 129 0 [.int (I a3), .int (I (-2)), .int (I 8)] [] h (fun v h2 => R 179 30 [.ref 400, .int (I a1), .int (I a2), .int (I a3), a4, a5, a6, a7] (v :: []) h2 P)))) : R 179 16 [.ref 400, .int (I a1), .int (I a2), .int (I a3), a4, a5, a6, a7] [.int (I s0)] h P := by
  obtain ⟨g1, T⟩ := T
  refine R_if_ne (Dat dd_Y_plan 9 rfl) rfl g1  (fun c => ?_) (fun c => ?_)
  · replace T := T.1 c
    refine R_bipush (Dat dd_Y_plan 10 rfl) (a := (-2)) rfl ?_
    exact R_ireturn (Dat dd_Y_plan 11 rfl) rfl T
  · replace T := T.2 c
    refine R_iload_n (Dat dd_Y_plan 12 rfl) rfl ?_
    refine R_bipush (Dat dd_Y_plan 13 rfl) (a := (-2)) rfl ?_
    refine R_bipush (Dat dd_Y_plan 14 rfl) (a := 8) rfl ?_
    exact R_call0 (Dat dd_Y_plan 15 rfl) rfl rfl rfl rfl rfl rfl T
theorem t_Y_plan_30 {h : Hp} {P : Value → Hp → Prop} {a1 a2 a3 s0 : Int} {a4 a5 a6 a7 : Value} (S : YS h) (T : (rng s0) ∧ ((s0 = 0 → P (.int (I (-1))) h) ∧ (¬ s0 = 0 → (rng (iv h 400 5)) ∧ (((iv h 400 5) = 0 → P (.int (I (-3))) h) ∧ (¬ (iv h 400 5) = 0 → (rng (iv h 400 18)) ∧ (((iv h 400 18) = 0 → P (.int (I (-3))) h) ∧ (¬ (iv h 400 18) = 0 → R 180 0 [.ref 400, .int (I (iv h 400 7)), .int (I a2), .int (I 3), .retAddr 0, .retAddr 0, .retAddr 0] [] h (fun _ h2 => R 179 62 [.ref 400, .int (I a1), .int (I a2), .int (I a3), a4, a5, a6, a7] [] h2 P)))))))) : R 179 30 [.ref 400, .int (I a1), .int (I a2), .int (I a3), a4, a5, a6, a7] [.int (I s0)] h P := by
  obtain ⟨g1, T⟩ := T
  refine R_if_ne (Dat dd_Y_plan 16 rfl) rfl g1  (fun c => ?_) (fun c => ?_)
  · replace T := T.1 c
    refine R_iconst (Dat dd_Y_plan 17 rfl) ?_
    exact R_ireturn (Dat dd_Y_plan 18 rfl) rfl T
  · replace T := T.2 c
    refine R_aload_n (Dat dd_Y_plan 19 rfl) rfl rfl ?_
    refine R_geti (Dat dd_Y_plan 20 rfl) rfl rfl (tok S.t400) ?_
    obtain ⟨g2, T⟩ := T
    refine R_if_eq (Dat dd_Y_plan 21 rfl) rfl g2  (fun c => ?_) (fun c => ?_)
    · replace T := T.1 c
      refine R_bipush (Dat dd_Y_plan 25 rfl) (a := (-3)) rfl ?_
      exact R_ireturn (Dat dd_Y_plan 26 rfl) rfl T
    · replace T := T.2 c
      refine R_aload_n (Dat dd_Y_plan 22 rfl) rfl rfl ?_
      refine R_geti (Dat dd_Y_plan 23 rfl) rfl rfl (tok S.t400) ?_
      obtain ⟨g3, T⟩ := T
      refine R_if_ne (Dat dd_Y_plan 24 rfl) rfl g3  (fun c => ?_) (fun c => ?_)
      · replace T := T.1 c
        refine R_bipush (Dat dd_Y_plan 25 rfl) (a := (-3)) rfl ?_
        exact R_ireturn (Dat dd_Y_plan 26 rfl) rfl T
      · replace T := T.2 c
        refine R_aload_n (Dat dd_Y_plan 27 rfl) rfl rfl ?_
        refine R_aload_n (Dat dd_Y_plan 28 rfl) rfl rfl ?_
        refine R_geti (Dat dd_Y_plan 29 rfl) rfl rfl (tok S.t400) ?_
        refine R_iload_n (Dat dd_Y_plan 30 rfl) rfl ?_
        refine R_iconst (Dat dd_Y_plan 31 rfl) ?_
        exact R_call1 (Dat dd_Y_plan 32 rfl) rfl S.t400 rfl rfl rfl rfl rfl T
theorem t_Y_plan_62 {h : Hp} {P : Value → Hp → Prop} {a1 a3 : Int} {a2 a4 a5 a6 a7 : Value} (S : YS h) (T : R 178 0 [.ref 400, .int (I (iv h 429 0)), .int (I a1), .retAddr 0, .retAddr 0, .retAddr 0, .retAddr 0] [] h (fun v h2 => R 179 77 [.ref 400, .int (I a1), a2, .int (I a3), .int (I (iv h 429 0)), a5, a6, a7] (v :: []) h2 P)) : R 179 62 [.ref 400, .int (I a1), a2, .int (I a3), a4, a5, a6, a7] [] h P := by
  refine R_aload_n (Dat dd_Y_plan 33 rfl) rfl rfl ?_
  refine R_getr (Dat dd_Y_plan 34 rfl) rfl rfl (tok S.t400) S.f400_28 (q := 429) rfl (tnz S.t429) ?_
  refine R_iconst (Dat dd_Y_plan 35 rfl) ?_
  refine R_iaload (Dat dd_Y_plan 36 rfl) (Or.inl S.t429) (lnle (show ln h 429 = 5040 from S.l429) (by decide)) (by decide) (lnlt (show ln h 429 = 5040 from S.l429) (by decide)) ?_
  refine R_istore (Dat dd_Y_plan 37 rfl) rfl rfl ?_
  refine R_aload_n (Dat dd_Y_plan 38 rfl) rfl rfl ?_
  refine R_iload (Dat dd_Y_plan 39 rfl) rfl ?_
  refine R_iload_n (Dat dd_Y_plan 40 rfl) rfl ?_
  exact R_call1 (Dat dd_Y_plan 41 rfl) rfl S.t400 rfl rfl rfl rfl rfl T
theorem t_Y_plan_77 {h : Hp} {P : Value → Hp → Prop} {a1 a3 a4 s0 : Int} {a2 a5 a6 a7 : Value} (S : YS h) (T : R 179 82 [.ref 400, .int (I a1), a2, .int (I a3), .int (I a4), .int (I s0), .int (I 1), a7] [] h P) : R 179 77 [.ref 400, .int (I a1), a2, .int (I a3), .int (I a4), a5, a6, a7] [.int (I s0)] h P := by
  refine R_istore (Dat dd_Y_plan 42 rfl) rfl rfl ?_
  refine R_iconst (Dat dd_Y_plan 43 rfl) ?_
  refine R_istore (Dat dd_Y_plan 44 rfl) rfl rfl ?_
  exact T
theorem t_Y_plan_82 {h : Hp} {P : Value → Hp → Prop} {a1 a3 a4 a5 a6 : Int} {a2 a7 : Value} (S : YS h) (T : (rng a6) ∧ (rng (iv h 400 31)) ∧ ((a6 < (iv h 400 31) → (0 ≤ a6) ∧ (a6 < 5040) ∧ R 178 0 [.ref 400, .int (I (iv h 429 a6)), .int (I a1), .retAddr 0, .retAddr 0, .retAddr 0, .retAddr 0] [] h (fun v h2 => R 179 103 [.ref 400, .int (I a1), a2, .int (I a3), .int (I a4), .int (I a5), .int (I a6), a7] (v :: []) h2 P)) ∧ (¬ a6 < (iv h 400 31) → (rng a3) ∧ ((a3 < 0 → (rng a3) ∧ ((a3 = (-1) → P (.int (I a5)) h) ∧ (¬ a3 = (-1) → (0 ≤ a4) ∧ (a4 < 5040) ∧ P (.int (I (iv h 428 a4))) h))) ∧ (¬ a3 < 0 → (0 ≤ a4) ∧ (a4 < 5040) ∧ (rng a3) ∧ (rng (iv h 428 a4)) ∧ ((a3 < (iv h 428 a4) → R 182 0 [.ref 400, .int (I a4), .int (I a3), .retAddr 0] [] h (fun v h2 => R 179 171 [.ref 400, .int (I a1), a2, .int (I a3), .int (I a4), .int (I a5), .int (I a6), a7] (v :: []) h2 P)) ∧ (¬ a3 < (iv h 428 a4) → P (.int (I (-9))) h))))))) : R 179 82 [.ref 400, .int (I a1), a2, .int (I a3), .int (I a4), .int (I a5), .int (I a6), a7] [] h P := by
  refine R_iload (Dat dd_Y_plan 45 rfl) rfl ?_
  refine R_aload_n (Dat dd_Y_plan 46 rfl) rfl rfl ?_
  refine R_geti (Dat dd_Y_plan 47 rfl) rfl rfl (tok S.t400) ?_
  obtain ⟨g1, T⟩ := T
  obtain ⟨g2, T⟩ := T
  refine R_ic_ge (Dat dd_Y_plan 48 rfl) rfl g1 g2 (fun c => ?_) (fun c => ?_)
  · replace T := T.1 c
    refine R_aload_n (Dat dd_Y_plan 49 rfl) rfl rfl ?_
    refine R_aload_n (Dat dd_Y_plan 50 rfl) rfl rfl ?_
    refine R_getr (Dat dd_Y_plan 51 rfl) rfl rfl (tok S.t400) S.f400_28 (q := 429) rfl (tnz S.t429) ?_
    refine R_iload (Dat dd_Y_plan 52 rfl) rfl ?_
    obtain ⟨g3, T⟩ := T
    obtain ⟨g4, T⟩ := T
    refine R_iaload (Dat dd_Y_plan 53 rfl) (Or.inl S.t429) (lnle (show ln h 429 = 5040 from S.l429) (by decide)) g3 (lnlt (show ln h 429 = 5040 from S.l429) g4) ?_
    refine R_iload_n (Dat dd_Y_plan 54 rfl) rfl ?_
    exact R_call1 (Dat dd_Y_plan 55 rfl) rfl S.t400 rfl rfl rfl rfl rfl T
  · replace T := T.2 c
    refine R_iload_n (Dat dd_Y_plan 69 rfl) rfl ?_
    obtain ⟨g5, T⟩ := T
    refine R_if_ge (Dat dd_Y_plan 70 rfl) rfl g5  (fun c => ?_) (fun c => ?_)
    · replace T := T.1 c
      refine R_iload_n (Dat dd_Y_plan 71 rfl) rfl ?_
      refine R_iconst (Dat dd_Y_plan 72 rfl) ?_
      obtain ⟨g6, T⟩ := T
      refine R_ic_ne (Dat dd_Y_plan 73 rfl) rfl g6 (by decide) (fun c => ?_) (fun c => ?_)
      · replace T := T.1 c
        refine R_iload (Dat dd_Y_plan 74 rfl) rfl ?_
        refine R_goto (Dat dd_Y_plan 75 rfl) rfl ?_
        exact R_ireturn (Dat dd_Y_plan 80 rfl) rfl T
      · replace T := T.2 c
        refine R_aload_n (Dat dd_Y_plan 76 rfl) rfl rfl ?_
        refine R_getr (Dat dd_Y_plan 77 rfl) rfl rfl (tok S.t400) S.f400_27 (q := 428) rfl (tnz S.t428) ?_
        refine R_iload (Dat dd_Y_plan 78 rfl) rfl ?_
        obtain ⟨g7, T⟩ := T
        obtain ⟨g8, T⟩ := T
        refine R_iaload (Dat dd_Y_plan 79 rfl) (Or.inl S.t428) (lnle (show ln h 428 = 5040 from S.l428) (by decide)) g7 (lnlt (show ln h 428 = 5040 from S.l428) g8) ?_
        exact R_ireturn (Dat dd_Y_plan 80 rfl) rfl T
    · replace T := T.2 c
      refine R_iload_n (Dat dd_Y_plan 81 rfl) rfl ?_
      refine R_aload_n (Dat dd_Y_plan 82 rfl) rfl rfl ?_
      refine R_getr (Dat dd_Y_plan 83 rfl) rfl rfl (tok S.t400) S.f400_27 (q := 428) rfl (tnz S.t428) ?_
      refine R_iload (Dat dd_Y_plan 84 rfl) rfl ?_
      obtain ⟨g9, T⟩ := T
      obtain ⟨g10, T⟩ := T
      refine R_iaload (Dat dd_Y_plan 85 rfl) (Or.inl S.t428) (lnle (show ln h 428 = 5040 from S.l428) (by decide)) g9 (lnlt (show ln h 428 = 5040 from S.l428) g10) ?_
      obtain ⟨g11, T⟩ := T
      obtain ⟨g12, T⟩ := T
      refine R_ic_ge (Dat dd_Y_plan 86 rfl) rfl g11 g12 (fun c => ?_) (fun c => ?_)
      · replace T := T.1 c
        refine R_aload_n (Dat dd_Y_plan 87 rfl) rfl rfl ?_
        refine R_iload (Dat dd_Y_plan 88 rfl) rfl ?_
        refine R_iload_n (Dat dd_Y_plan 89 rfl) rfl ?_
        exact R_call1 (Dat dd_Y_plan 90 rfl) rfl S.t400 rfl rfl rfl rfl rfl T
      · replace T := T.2 c
        refine R_bipush (Dat dd_Y_plan 92 rfl) (a := (-9)) rfl ?_
        exact R_ireturn (Dat dd_Y_plan 93 rfl) rfl T
theorem t_Y_plan_103 {h : Hp} {P : Value → Hp → Prop} {a1 a3 a4 a5 a6 s0 : Int} {a2 a7 : Value} (S : YS h) (T : (rng s0) ∧ (rng a5) ∧ ((a5 < s0 → (0 ≤ a6) ∧ (a6 < 5040) ∧ R 179 82 [.ref 400, .int (I a1), a2, .int (I a3), .int (I (iv h 429 a6)), .int (I s0), .int (I (a6 + 1)), .int (I s0)] [] h P) ∧ (¬ a5 < s0 → R 179 82 [.ref 400, .int (I a1), a2, .int (I a3), .int (I a4), .int (I a5), .int (I (a6 + 1)), .int (I s0)] [] h P))) : R 179 103 [.ref 400, .int (I a1), a2, .int (I a3), .int (I a4), .int (I a5), .int (I a6), a7] [.int (I s0)] h P := by
  refine R_istore (Dat dd_Y_plan 56 rfl) rfl rfl ?_
  refine R_iload (Dat dd_Y_plan 57 rfl) rfl ?_
  refine R_iload (Dat dd_Y_plan 58 rfl) rfl ?_
  obtain ⟨g1, T⟩ := T
  obtain ⟨g2, T⟩ := T
  refine R_ic_le (Dat dd_Y_plan 59 rfl) rfl g1 g2 (fun c => ?_) (fun c => ?_)
  · replace T := T.1 c
    refine R_iload (Dat dd_Y_plan 60 rfl) rfl ?_
    refine R_istore (Dat dd_Y_plan 61 rfl) rfl rfl ?_
    refine R_aload_n (Dat dd_Y_plan 62 rfl) rfl rfl ?_
    refine R_getr (Dat dd_Y_plan 63 rfl) rfl rfl (tok S.t400) S.f400_28 (q := 429) rfl (tnz S.t429) ?_
    refine R_iload (Dat dd_Y_plan 64 rfl) rfl ?_
    obtain ⟨g3, T⟩ := T
    obtain ⟨g4, T⟩ := T
    refine R_iaload (Dat dd_Y_plan 65 rfl) (Or.inl S.t429) (lnle (show ln h 429 = 5040 from S.l429) (by decide)) g3 (lnlt (show ln h 429 = 5040 from S.l429) g4) ?_
    refine R_istore (Dat dd_Y_plan 66 rfl) rfl rfl ?_
    refine R_iinc (Dat dd_Y_plan 67 rfl) rfl rfl rfl ?_
    refine R_goto (Dat dd_Y_plan 68 rfl) rfl ?_
    exact T
  · replace T := T.2 c
    refine R_iinc (Dat dd_Y_plan 67 rfl) rfl rfl rfl ?_
    refine R_goto (Dat dd_Y_plan 68 rfl) rfl ?_
    exact T
theorem t_Y_plan_171 {h : Hp} {P : Value → Hp → Prop} {s0 : Int} {a0 a1 a2 a3 a4 a5 a6 a7 : Value} (S : YS h) (T : P (.int (I s0)) h) : R 179 171 [a0, a1, a2, a3, a4, a5, a6, a7] [.int (I s0)] h P := by
  refine R_goto (Dat dd_Y_plan 91 rfl) rfl ?_
  exact R_ireturn (Dat dd_Y_plan 93 rfl) rfl T
def dl_Y_search : List (Nat × Instr × Nat) := [(0, .aload_n 0, 1), (1, .invokevirtual 215, 3), (4, .aload_n 0, 1), (5, .iconst 0, 1), (6, .putfield 230, 3), (9, .aload_n 0, 1), (10, .iload_n 1, 1), (11, .bipush (-9), 2), (13, .iconst 0, 1), (14, .invokevirtual 233, 3), (17, .iconst 0, 1), (18, .istore 4, 2), (20, .iload 4, 2), (22, .aload_n 0, 1), (23, .getfield 230, 3), (26, .if_icmp .ge 99, 3), (29, .aload_n 0, 1), (30, .getfield 59, 3), (33, .aload_n 0, 1), (34, .getfield 62, 3), (37, .iload 4, 2), (39, .iaload, 1), (40, .iaload, 1), (41, .iload_n 2, 1), (42, .if_icmp .ge 83, 3), (45, .aload_n 0, 1), (46, .getfield 62, 3), (49, .iload 4, 2), (51, .iaload, 1), (52, .istore 5, 2), (54, .iconst 1, 1), (55, .istore 6, 2), (57, .iload 6, 2), (59, .iload_n 3, 1), (60, .if_icmp .gt 59, 3), (63, .aload_n 0, 1), (64, .iload 6, 2), (66, .iconst 4, 1), (67, .if_icmp .ge 18, 3), (70, .aload_n 0, 1), (71, .aload_n 0, 1), (72, .getfield 173, 3), (75, .iload 5, 2), (77, .iload 6, 2), (79, .invokevirtual 211, 3), (82, .goto 24, 3), (85, .iload 6, 2), (87, .iconst 4, 1), (88, .if_icmp .ne 12, 3), (91, .aload_n 0, 1), (92, .iload 5, 2), (94, .invokevirtual 205, 3), (97, .goto 9, 3), (100, .aload_n 0, 1), (101, .iload 5, 2), (103, .invokevirtual 208, 3), (106, .iload 5, 2), (108, .iload 6, 2), (110, .invokevirtual 233, 3), (113, .iinc 6 1, 3), (116, .goto (-59), 3), (119, .iinc 4 1, 3), (122, .goto (-102), 3), (125, .return_, 1)]
theorem dd_Y_search : Dall 180 dl_Y_search = true := by decide +kernel
theorem t_Y_search {h : Hp} {P : Value → Hp → Prop} {p0 p1 p2 : Int} (S : YS h) (T : R 171 0 [.ref 400, .retAddr 0] [] h (fun _ h2 => R 180 4 [.ref 400, .int (I p0), .int (I p1), .int (I p2), .retAddr 0, .retAddr 0, .retAddr 0] [] h2 P)) : R 180 0 [.ref 400, .int (I p0), .int (I p1), .int (I p2), .retAddr 0, .retAddr 0, .retAddr 0] [] h P := by
  refine R_aload_n (Dat dd_Y_search 0 rfl) rfl rfl ?_
  exact R_call1 (Dat dd_Y_search 1 rfl) rfl S.t400 rfl rfl rfl rfl rfl T
theorem t_Y_search_4 {h : Hp} {P : Value → Hp → Prop} {a1 a2 a3 : Int} {a4 a5 a6 : Value} (S : YS h) (T : R 181 0 [.ref 400, .int (I a1), .int (I (-9)), .int (I 0)] [] (setI h 400 31 0) (fun _ h2 => R 180 17 [.ref 400, .int (I a1), .int (I a2), .int (I a3), a4, a5, a6] [] h2 P)) : R 180 4 [.ref 400, .int (I a1), .int (I a2), .int (I a3), a4, a5, a6] [] h P := by
  refine R_aload_n (Dat dd_Y_search 2 rfl) rfl rfl ?_
  refine R_iconst (Dat dd_Y_search 3 rfl) ?_
  refine R_puti (Dat dd_Y_search 4 rfl) rfl rfl rfl (tok S.t400) rfl (v := 0) rfl ?_
  refine R_aload_n (Dat dd_Y_search 5 rfl) rfl rfl ?_
  refine R_iload_n (Dat dd_Y_search 6 rfl) rfl ?_
  refine R_bipush (Dat dd_Y_search 7 rfl) (a := (-9)) rfl ?_
  refine R_iconst (Dat dd_Y_search 8 rfl) ?_
  exact R_call1 (Dat dd_Y_search 9 rfl) rfl S.t400 rfl rfl rfl rfl rfl T
theorem t_Y_search_17 {h : Hp} {P : Value → Hp → Prop} {a2 a3 : Int} {a1 a4 a5 a6 : Value} (S : YS h) (T : R 180 20 [.ref 400, a1, .int (I a2), .int (I a3), .int (I 0), a5, a6] [] h P) : R 180 17 [.ref 400, a1, .int (I a2), .int (I a3), a4, a5, a6] [] h P := by
  refine R_iconst (Dat dd_Y_search 10 rfl) ?_
  refine R_istore (Dat dd_Y_search 11 rfl) rfl rfl ?_
  exact T
theorem t_Y_search_20 {h : Hp} {P : Value → Hp → Prop} {a2 a3 a4 : Int} {a1 a5 a6 : Value} (S : YS h) (T : (rng a4) ∧ (rng (iv h 400 31)) ∧ ((a4 < (iv h 400 31) → (0 ≤ a4) ∧ (a4 < 5040) ∧ (0 ≤ (iv h 429 a4)) ∧ ((iv h 429 a4) < 5040) ∧ (rng (iv h 428 (iv h 429 a4))) ∧ (rng a2) ∧ (((iv h 428 (iv h 429 a4)) < a2 → (0 ≤ a4) ∧ (a4 < 5040) ∧ R 180 57 [.ref 400, a1, .int (I a2), .int (I a3), .int (I a4), .int (I (iv h 429 a4)), .int (I 1)] [] h P) ∧ (¬ (iv h 428 (iv h 429 a4)) < a2 → P .null h))) ∧ (¬ a4 < (iv h 400 31) → P .null h))) : R 180 20 [.ref 400, a1, .int (I a2), .int (I a3), .int (I a4), a5, a6] [] h P := by
  refine R_iload (Dat dd_Y_search 12 rfl) rfl ?_
  refine R_aload_n (Dat dd_Y_search 13 rfl) rfl rfl ?_
  refine R_geti (Dat dd_Y_search 14 rfl) rfl rfl (tok S.t400) ?_
  obtain ⟨g1, T⟩ := T
  obtain ⟨g2, T⟩ := T
  refine R_ic_ge (Dat dd_Y_search 15 rfl) rfl g1 g2 (fun c => ?_) (fun c => ?_)
  · replace T := T.1 c
    refine R_aload_n (Dat dd_Y_search 16 rfl) rfl rfl ?_
    refine R_getr (Dat dd_Y_search 17 rfl) rfl rfl (tok S.t400) S.f400_27 (q := 428) rfl (tnz S.t428) ?_
    refine R_aload_n (Dat dd_Y_search 18 rfl) rfl rfl ?_
    refine R_getr (Dat dd_Y_search 19 rfl) rfl rfl (tok S.t400) S.f400_28 (q := 429) rfl (tnz S.t429) ?_
    refine R_iload (Dat dd_Y_search 20 rfl) rfl ?_
    obtain ⟨g3, T⟩ := T
    obtain ⟨g4, T⟩ := T
    refine R_iaload (Dat dd_Y_search 21 rfl) (Or.inl S.t429) (lnle (show ln h 429 = 5040 from S.l429) (by decide)) g3 (lnlt (show ln h 429 = 5040 from S.l429) g4) ?_
    obtain ⟨g5, T⟩ := T
    obtain ⟨g6, T⟩ := T
    refine R_iaload (Dat dd_Y_search 22 rfl) (Or.inl S.t428) (lnle (show ln h 428 = 5040 from S.l428) (by decide)) g5 (lnlt (show ln h 428 = 5040 from S.l428) g6) ?_
    refine R_iload_n (Dat dd_Y_search 23 rfl) rfl ?_
    obtain ⟨g7, T⟩ := T
    obtain ⟨g8, T⟩ := T
    refine R_ic_ge (Dat dd_Y_search 24 rfl) rfl g7 g8 (fun c => ?_) (fun c => ?_)
    · replace T := T.1 c
      refine R_aload_n (Dat dd_Y_search 25 rfl) rfl rfl ?_
      refine R_getr (Dat dd_Y_search 26 rfl) rfl rfl (tok S.t400) S.f400_28 (q := 429) rfl (tnz S.t429) ?_
      refine R_iload (Dat dd_Y_search 27 rfl) rfl ?_
      obtain ⟨g9, T⟩ := T
      obtain ⟨g10, T⟩ := T
      refine R_iaload (Dat dd_Y_search 28 rfl) (Or.inl S.t429) (lnle (show ln h 429 = 5040 from S.l429) (by decide)) g9 (lnlt (show ln h 429 = 5040 from S.l429) g10) ?_
      refine R_istore (Dat dd_Y_search 29 rfl) rfl rfl ?_
      refine R_iconst (Dat dd_Y_search 30 rfl) ?_
      refine R_istore (Dat dd_Y_search 31 rfl) rfl rfl ?_
      exact T
    · replace T := T.2 c
      exact R_return (Dat dd_Y_search 63 rfl) rfl T
  · replace T := T.2 c
    exact R_return (Dat dd_Y_search 63 rfl) rfl T
theorem t_Y_search_57 {h : Hp} {P : Value → Hp → Prop} {a2 a3 a4 a5 a6 : Int} {a1 : Value} (S : YS h) (T : (rng a6) ∧ (rng a3) ∧ ((a3 < a6 → R 180 20 [.ref 400, a1, .int (I a2), .int (I a3), .int (I (a4 + 1)), .int (I a5), .int (I a6)] [] h P) ∧ (¬ a3 < a6 → (rng a6) ∧ ((a6 < 4 → R 169 0 [.ref 400, .int (I (iv h 400 19)), .int (I a5), .int (I a6)] [] h (fun v h2 => R 180 82 [.ref 400, a1, .int (I a2), .int (I a3), .int (I a4), .int (I a5), .int (I a6)] (v :: [.ref 400]) h2 P)) ∧ (¬ a6 < 4 → (rng a6) ∧ ((a6 = 4 → R 165 0 [.ref 400, .int (I a5), .retAddr 0, .retAddr 0] [] h (fun v h2 => R 180 97 [.ref 400, a1, .int (I a2), .int (I a3), .int (I a4), .int (I a5), .int (I a6)] (v :: [.ref 400]) h2 P)) ∧ (¬ a6 = 4 → R 167 0 [.ref 400, .int (I a5), .retAddr 0, .retAddr 0] [] h (fun v h2 => R 180 106 [.ref 400, a1, .int (I a2), .int (I a3), .int (I a4), .int (I a5), .int (I a6)] (v :: [.ref 400]) h2 P)))))))) : R 180 57 [.ref 400, a1, .int (I a2), .int (I a3), .int (I a4), .int (I a5), .int (I a6)] [] h P := by
  refine R_iload (Dat dd_Y_search 32 rfl) rfl ?_
  refine R_iload_n (Dat dd_Y_search 33 rfl) rfl ?_
  obtain ⟨g1, T⟩ := T
  obtain ⟨g2, T⟩ := T
  refine R_ic_gt (Dat dd_Y_search 34 rfl) rfl g1 g2 (fun c => ?_) (fun c => ?_)
  · replace T := T.1 c
    refine R_iinc (Dat dd_Y_search 61 rfl) rfl rfl rfl ?_
    refine R_goto (Dat dd_Y_search 62 rfl) rfl ?_
    exact T
  · replace T := T.2 c
    refine R_aload_n (Dat dd_Y_search 35 rfl) rfl rfl ?_
    refine R_iload (Dat dd_Y_search 36 rfl) rfl ?_
    refine R_iconst (Dat dd_Y_search 37 rfl) ?_
    obtain ⟨g3, T⟩ := T
    refine R_ic_ge (Dat dd_Y_search 38 rfl) rfl g3 (by decide) (fun c => ?_) (fun c => ?_)
    · replace T := T.1 c
      refine R_aload_n (Dat dd_Y_search 39 rfl) rfl rfl ?_
      refine R_aload_n (Dat dd_Y_search 40 rfl) rfl rfl ?_
      refine R_geti (Dat dd_Y_search 41 rfl) rfl rfl (tok S.t400) ?_
      refine R_iload (Dat dd_Y_search 42 rfl) rfl ?_
      refine R_iload (Dat dd_Y_search 43 rfl) rfl ?_
      exact R_call1 (Dat dd_Y_search 44 rfl) rfl S.t400 rfl rfl rfl rfl rfl T
    · replace T := T.2 c
      refine R_iload (Dat dd_Y_search 46 rfl) rfl ?_
      refine R_iconst (Dat dd_Y_search 47 rfl) ?_
      obtain ⟨g4, T⟩ := T
      refine R_ic_ne (Dat dd_Y_search 48 rfl) rfl g4 (by decide) (fun c => ?_) (fun c => ?_)
      · replace T := T.1 c
        refine R_aload_n (Dat dd_Y_search 49 rfl) rfl rfl ?_
        refine R_iload (Dat dd_Y_search 50 rfl) rfl ?_
        exact R_call1 (Dat dd_Y_search 51 rfl) rfl S.t400 rfl rfl rfl rfl rfl T
      · replace T := T.2 c
        refine R_aload_n (Dat dd_Y_search 53 rfl) rfl rfl ?_
        refine R_iload (Dat dd_Y_search 54 rfl) rfl ?_
        exact R_call1 (Dat dd_Y_search 55 rfl) rfl S.t400 rfl rfl rfl rfl rfl T
theorem t_Y_search_82 {h : Hp} {P : Value → Hp → Prop} {a2 a3 a4 a5 a6 s0 : Int} {a1 : Value} (S : YS h) (T : R 181 0 [.ref 400, .int (I s0), .int (I a5), .int (I a6)] [] h (fun _ h2 => R 180 113 [.ref 400, a1, .int (I a2), .int (I a3), .int (I a4), .int (I a5), .int (I a6)] [] h2 P)) : R 180 82 [.ref 400, a1, .int (I a2), .int (I a3), .int (I a4), .int (I a5), .int (I a6)] [.int (I s0), .ref 400] h P := by
  refine R_goto (Dat dd_Y_search 45 rfl) rfl ?_
  refine R_iload (Dat dd_Y_search 56 rfl) rfl ?_
  refine R_iload (Dat dd_Y_search 57 rfl) rfl ?_
  exact R_call1 (Dat dd_Y_search 58 rfl) rfl S.t400 rfl rfl rfl rfl rfl T
theorem t_Y_search_97 {h : Hp} {P : Value → Hp → Prop} {a2 a3 a4 a5 a6 s0 : Int} {a1 : Value} (S : YS h) (T : R 181 0 [.ref 400, .int (I s0), .int (I a5), .int (I a6)] [] h (fun _ h2 => R 180 113 [.ref 400, a1, .int (I a2), .int (I a3), .int (I a4), .int (I a5), .int (I a6)] [] h2 P)) : R 180 97 [.ref 400, a1, .int (I a2), .int (I a3), .int (I a4), .int (I a5), .int (I a6)] [.int (I s0), .ref 400] h P := by
  refine R_goto (Dat dd_Y_search 52 rfl) rfl ?_
  refine R_iload (Dat dd_Y_search 56 rfl) rfl ?_
  refine R_iload (Dat dd_Y_search 57 rfl) rfl ?_
  exact R_call1 (Dat dd_Y_search 58 rfl) rfl S.t400 rfl rfl rfl rfl rfl T
theorem t_Y_search_106 {h : Hp} {P : Value → Hp → Prop} {a2 a3 a4 a5 a6 s0 : Int} {a1 : Value} (S : YS h) (T : R 181 0 [.ref 400, .int (I s0), .int (I a5), .int (I a6)] [] h (fun _ h2 => R 180 113 [.ref 400, a1, .int (I a2), .int (I a3), .int (I a4), .int (I a5), .int (I a6)] [] h2 P)) : R 180 106 [.ref 400, a1, .int (I a2), .int (I a3), .int (I a4), .int (I a5), .int (I a6)] [.int (I s0), .ref 400] h P := by
  refine R_iload (Dat dd_Y_search 56 rfl) rfl ?_
  refine R_iload (Dat dd_Y_search 57 rfl) rfl ?_
  exact R_call1 (Dat dd_Y_search 58 rfl) rfl S.t400 rfl rfl rfl rfl rfl T
theorem t_Y_search_113 {h : Hp} {P : Value → Hp → Prop} {a2 a3 a4 a5 a6 : Int} {a1 : Value} (S : YS h) (T : R 180 57 [.ref 400, a1, .int (I a2), .int (I a3), .int (I a4), .int (I a5), .int (I (a6 + 1))] [] h P) : R 180 113 [.ref 400, a1, .int (I a2), .int (I a3), .int (I a4), .int (I a5), .int (I a6)] [] h P := by
  refine R_iinc (Dat dd_Y_search 59 rfl) rfl rfl rfl ?_
  refine R_goto (Dat dd_Y_search 60 rfl) rfl ?_
  exact T
def dl_Y_comes : List (Nat × Instr × Nat) := [(0, .aload_n 0, 1), (1, .getfield 59, 3), (4, .iload_n 1, 1), (5, .iaload, 1), (6, .bipush (-9), 2), (8, .if_icmp .eq 4, 3), (11, .return_, 1), (12, .aload_n 0, 1), (13, .getfield 59, 3), (16, .iload_n 1, 1), (17, .iload_n 2, 1), (18, .bipush (-9), 2), (20, .if_icmp .ne 7, 3), (23, .iconst 0, 1), (24, .goto 11, 3), (27, .aload_n 0, 1), (28, .getfield 59, 3), (31, .iload_n 2, 1), (32, .iaload, 1), (33, .iconst 1, 1), (34, .iadd, 1), (35, .iastore, 1), (36, .aload_n 0, 1), (37, .getfield 65, 3), (40, .iload_n 1, 1), (41, .iload_n 2, 1), (42, .iastore, 1), (43, .aload_n 0, 1), (44, .getfield 68, 3), (47, .iload_n 1, 1), (48, .iload_n 3, 1), (49, .iastore, 1), (50, .aload_n 0, 1), (51, .getfield 62, 3), (54, .aload_n 0, 1), (55, .getfield 230, 3), (58, .iload_n 1, 1), (59, .iastore, 1), (60, .aload_n 0, 1), (61, .dup, 1), (62, .getfield 230, 3), (65, .iconst 1, 1), (66, .iadd, 1), (67, .putfield 230, 3), (70, .return_, 1)]
theorem dd_Y_comes : Dall 181 dl_Y_comes = true := by decide +kernel
theorem t_Y_comes {h : Hp} {P : Value → Hp → Prop} {p0 p1 p2 : Int} (S : YS h) (T : (0 ≤ p0) ∧ (p0 < 5040) ∧ (rng (iv h 428 p0)) ∧ (((iv h 428 p0) = (-9) → (rng p1) ∧ ((p1 = (-9) → (0 ≤ p0) ∧ (p0 < 5040) ∧ (0 ≤ p0) ∧ (p0 < 5040) ∧ (0 ≤ p0) ∧ (p0 < 5040) ∧ (0 ≤ (iv (setI (setI (setI h 428 p0 0) 430 p0 (wr p1)) 431 p0 (wr p2)) 400 31)) ∧ ((iv (setI (setI (setI h 428 p0 0) 430 p0 (wr p1)) 431 p0 (wr p2)) 400 31) < 5040) ∧ P .null (setI (setI (setI (setI (setI h 428 p0 0) 430 p0 (wr p1)) 431 p0 (wr p2)) 429 (iv (setI (setI (setI h 428 p0 0) 430 p0 (wr p1)) 431 p0 (wr p2)) 400 31) (wr p0)) 400 31 (wr ((iv (setI (setI (setI (setI h 428 p0 0) 430 p0 (wr p1)) 431 p0 (wr p2)) 429 (iv (setI (setI (setI h 428 p0 0) 430 p0 (wr p1)) 431 p0 (wr p2)) 400 31) (wr p0)) 400 31) + 1)))) ∧ (¬ p1 = (-9) → (0 ≤ p1) ∧ (p1 < 5040) ∧ (0 ≤ p0) ∧ (p0 < 5040) ∧ (0 ≤ p0) ∧ (p0 < 5040) ∧ (0 ≤ p0) ∧ (p0 < 5040) ∧ (0 ≤ (iv (setI (setI (setI h 428 p0 (wr ((iv h 428 p1) + 1))) 430 p0 (wr p1)) 431 p0 (wr p2)) 400 31)) ∧ ((iv (setI (setI (setI h 428 p0 (wr ((iv h 428 p1) + 1))) 430 p0 (wr p1)) 431 p0 (wr p2)) 400 31) < 5040) ∧ P .null (setI (setI (setI (setI (setI h 428 p0 (wr ((iv h 428 p1) + 1))) 430 p0 (wr p1)) 431 p0 (wr p2)) 429 (iv (setI (setI (setI h 428 p0 (wr ((iv h 428 p1) + 1))) 430 p0 (wr p1)) 431 p0 (wr p2)) 400 31) (wr p0)) 400 31 (wr ((iv (setI (setI (setI (setI h 428 p0 (wr ((iv h 428 p1) + 1))) 430 p0 (wr p1)) 431 p0 (wr p2)) 429 (iv (setI (setI (setI h 428 p0 (wr ((iv h 428 p1) + 1))) 430 p0 (wr p1)) 431 p0 (wr p2)) 400 31) (wr p0)) 400 31) + 1)))))) ∧ (¬ (iv h 428 p0) = (-9) → P .null h))) : R 181 0 [.ref 400, .int (I p0), .int (I p1), .int (I p2)] [] h P := by
  refine R_aload_n (Dat dd_Y_comes 0 rfl) rfl rfl ?_
  refine R_getr (Dat dd_Y_comes 1 rfl) rfl rfl (tok S.t400) S.f400_27 (q := 428) rfl (tnz S.t428) ?_
  refine R_iload_n (Dat dd_Y_comes 2 rfl) rfl ?_
  obtain ⟨g1, T⟩ := T
  obtain ⟨g2, T⟩ := T
  refine R_iaload (Dat dd_Y_comes 3 rfl) (Or.inl S.t428) (lnle (show ln h 428 = 5040 from S.l428) (by decide)) g1 (lnlt (show ln h 428 = 5040 from S.l428) g2) ?_
  refine R_bipush (Dat dd_Y_comes 4 rfl) (a := (-9)) rfl ?_
  obtain ⟨g3, T⟩ := T
  refine R_ic_eq (Dat dd_Y_comes 5 rfl) rfl g3 (by decide) (fun c => ?_) (fun c => ?_)
  · replace T := T.1 c
    refine R_aload_n (Dat dd_Y_comes 7 rfl) rfl rfl ?_
    refine R_getr (Dat dd_Y_comes 8 rfl) rfl rfl (tok S.t400) S.f400_27 (q := 428) rfl (tnz S.t428) ?_
    refine R_iload_n (Dat dd_Y_comes 9 rfl) rfl ?_
    refine R_iload_n (Dat dd_Y_comes 10 rfl) rfl ?_
    refine R_bipush (Dat dd_Y_comes 11 rfl) (a := (-9)) rfl ?_
    obtain ⟨g4, T⟩ := T
    refine R_ic_ne (Dat dd_Y_comes 12 rfl) rfl g4 (by decide) (fun c => ?_) (fun c => ?_)
    · replace T := T.1 c
      refine R_iconst (Dat dd_Y_comes 13 rfl) ?_
      refine R_goto (Dat dd_Y_comes 14 rfl) rfl ?_
      obtain ⟨g5, T⟩ := T
      obtain ⟨g6, T⟩ := T
      refine R_iastore (Dat dd_Y_comes 21 rfl) S.t428 (lnle (show ln h 428 = 5040 from S.l428) (by decide)) g5 (lnlt (show ln h 428 = 5040 from S.l428) g6) (v := 0) rfl ?_
      refine R_aload_n (Dat dd_Y_comes 22 rfl) rfl rfl ?_
      refine R_getr (Dat dd_Y_comes 23 rfl) rfl rfl (tok S.t400) S.f400_29 (q := 430) rfl (tnz S.t430) ?_
      refine R_iload_n (Dat dd_Y_comes 24 rfl) rfl ?_
      refine R_iload_n (Dat dd_Y_comes 25 rfl) rfl ?_
      obtain ⟨g7, T⟩ := T
      obtain ⟨g8, T⟩ := T
      refine R_iastore (Dat dd_Y_comes 26 rfl) S.t430 (lnle (show ln (setI h 428 p0 0) 430 = 5040 from S.l430) (by decide)) g7 (lnlt (show ln (setI h 428 p0 0) 430 = 5040 from S.l430) g8) (v := wr p1) rfl ?_
      refine R_aload_n (Dat dd_Y_comes 27 rfl) rfl rfl ?_
      refine R_getr (Dat dd_Y_comes 28 rfl) rfl rfl (tok S.t400) S.f400_30 (q := 431) rfl (tnz S.t431) ?_
      refine R_iload_n (Dat dd_Y_comes 29 rfl) rfl ?_
      refine R_iload_n (Dat dd_Y_comes 30 rfl) rfl ?_
      obtain ⟨g9, T⟩ := T
      obtain ⟨g10, T⟩ := T
      refine R_iastore (Dat dd_Y_comes 31 rfl) S.t431 (lnle (show ln (setI (setI h 428 p0 0) 430 p0 (wr p1)) 431 = 5040 from S.l431) (by decide)) g9 (lnlt (show ln (setI (setI h 428 p0 0) 430 p0 (wr p1)) 431 = 5040 from S.l431) g10) (v := wr p2) rfl ?_
      refine R_aload_n (Dat dd_Y_comes 32 rfl) rfl rfl ?_
      refine R_getr (Dat dd_Y_comes 33 rfl) rfl rfl (tok S.t400) S.f400_28 (q := 429) rfl (tnz S.t429) ?_
      refine R_aload_n (Dat dd_Y_comes 34 rfl) rfl rfl ?_
      refine R_geti (Dat dd_Y_comes 35 rfl) rfl rfl (tok S.t400) ?_
      refine R_iload_n (Dat dd_Y_comes 36 rfl) rfl ?_
      obtain ⟨g11, T⟩ := T
      obtain ⟨g12, T⟩ := T
      refine R_iastore (Dat dd_Y_comes 37 rfl) S.t429 (lnle (show ln (setI (setI (setI h 428 p0 0) 430 p0 (wr p1)) 431 p0 (wr p2)) 429 = 5040 from S.l429) (by decide)) g11 (lnlt (show ln (setI (setI (setI h 428 p0 0) 430 p0 (wr p1)) 431 p0 (wr p2)) 429 = 5040 from S.l429) g12) (v := wr p0) rfl ?_
      refine R_aload_n (Dat dd_Y_comes 38 rfl) rfl rfl ?_
      refine R_dup (Dat dd_Y_comes 39 rfl) rfl ?_
      refine R_geti (Dat dd_Y_comes 40 rfl) rfl rfl (tok S.t400) ?_
      refine R_iconst (Dat dd_Y_comes 41 rfl) ?_
      refine R_iadd (Dat dd_Y_comes 42 rfl) ?_
      refine R_puti (Dat dd_Y_comes 43 rfl) rfl rfl rfl (tok S.t400) rfl (v := wr ((iv (setI (setI (setI (setI h 428 p0 0) 430 p0 (wr p1)) 431 p0 (wr p2)) 429 (iv (setI (setI (setI h 428 p0 0) 430 p0 (wr p1)) 431 p0 (wr p2)) 400 31) (wr p0)) 400 31) + 1)) rfl ?_
      exact R_return (Dat dd_Y_comes 44 rfl) rfl T
    · replace T := T.2 c
      refine R_aload_n (Dat dd_Y_comes 15 rfl) rfl rfl ?_
      refine R_getr (Dat dd_Y_comes 16 rfl) rfl rfl (tok S.t400) S.f400_27 (q := 428) rfl (tnz S.t428) ?_
      refine R_iload_n (Dat dd_Y_comes 17 rfl) rfl ?_
      obtain ⟨g13, T⟩ := T
      obtain ⟨g14, T⟩ := T
      refine R_iaload (Dat dd_Y_comes 18 rfl) (Or.inl S.t428) (lnle (show ln h 428 = 5040 from S.l428) (by decide)) g13 (lnlt (show ln h 428 = 5040 from S.l428) g14) ?_
      refine R_iconst (Dat dd_Y_comes 19 rfl) ?_
      refine R_iadd (Dat dd_Y_comes 20 rfl) ?_
      obtain ⟨g15, T⟩ := T
      obtain ⟨g16, T⟩ := T
      refine R_iastore (Dat dd_Y_comes 21 rfl) S.t428 (lnle (show ln h 428 = 5040 from S.l428) (by decide)) g15 (lnlt (show ln h 428 = 5040 from S.l428) g16) (v := wr ((iv h 428 p1) + 1)) rfl ?_
      refine R_aload_n (Dat dd_Y_comes 22 rfl) rfl rfl ?_
      refine R_getr (Dat dd_Y_comes 23 rfl) rfl rfl (tok S.t400) S.f400_29 (q := 430) rfl (tnz S.t430) ?_
      refine R_iload_n (Dat dd_Y_comes 24 rfl) rfl ?_
      refine R_iload_n (Dat dd_Y_comes 25 rfl) rfl ?_
      obtain ⟨g17, T⟩ := T
      obtain ⟨g18, T⟩ := T
      refine R_iastore (Dat dd_Y_comes 26 rfl) S.t430 (lnle (show ln (setI h 428 p0 (wr ((iv h 428 p1) + 1))) 430 = 5040 from S.l430) (by decide)) g17 (lnlt (show ln (setI h 428 p0 (wr ((iv h 428 p1) + 1))) 430 = 5040 from S.l430) g18) (v := wr p1) rfl ?_
      refine R_aload_n (Dat dd_Y_comes 27 rfl) rfl rfl ?_
      refine R_getr (Dat dd_Y_comes 28 rfl) rfl rfl (tok S.t400) S.f400_30 (q := 431) rfl (tnz S.t431) ?_
      refine R_iload_n (Dat dd_Y_comes 29 rfl) rfl ?_
      refine R_iload_n (Dat dd_Y_comes 30 rfl) rfl ?_
      obtain ⟨g19, T⟩ := T
      obtain ⟨g20, T⟩ := T
      refine R_iastore (Dat dd_Y_comes 31 rfl) S.t431 (lnle (show ln (setI (setI h 428 p0 (wr ((iv h 428 p1) + 1))) 430 p0 (wr p1)) 431 = 5040 from S.l431) (by decide)) g19 (lnlt (show ln (setI (setI h 428 p0 (wr ((iv h 428 p1) + 1))) 430 p0 (wr p1)) 431 = 5040 from S.l431) g20) (v := wr p2) rfl ?_
      refine R_aload_n (Dat dd_Y_comes 32 rfl) rfl rfl ?_
      refine R_getr (Dat dd_Y_comes 33 rfl) rfl rfl (tok S.t400) S.f400_28 (q := 429) rfl (tnz S.t429) ?_
      refine R_aload_n (Dat dd_Y_comes 34 rfl) rfl rfl ?_
      refine R_geti (Dat dd_Y_comes 35 rfl) rfl rfl (tok S.t400) ?_
      refine R_iload_n (Dat dd_Y_comes 36 rfl) rfl ?_
      obtain ⟨g21, T⟩ := T
      obtain ⟨g22, T⟩ := T
      refine R_iastore (Dat dd_Y_comes 37 rfl) S.t429 (lnle (show ln (setI (setI (setI h 428 p0 (wr ((iv h 428 p1) + 1))) 430 p0 (wr p1)) 431 p0 (wr p2)) 429 = 5040 from S.l429) (by decide)) g21 (lnlt (show ln (setI (setI (setI h 428 p0 (wr ((iv h 428 p1) + 1))) 430 p0 (wr p1)) 431 p0 (wr p2)) 429 = 5040 from S.l429) g22) (v := wr p0) rfl ?_
      refine R_aload_n (Dat dd_Y_comes 38 rfl) rfl rfl ?_
      refine R_dup (Dat dd_Y_comes 39 rfl) rfl ?_
      refine R_geti (Dat dd_Y_comes 40 rfl) rfl rfl (tok S.t400) ?_
      refine R_iconst (Dat dd_Y_comes 41 rfl) ?_
      refine R_iadd (Dat dd_Y_comes 42 rfl) ?_
      refine R_puti (Dat dd_Y_comes 43 rfl) rfl rfl rfl (tok S.t400) rfl (v := wr ((iv (setI (setI (setI (setI h 428 p0 (wr ((iv h 428 p1) + 1))) 430 p0 (wr p1)) 431 p0 (wr p2)) 429 (iv (setI (setI (setI h 428 p0 (wr ((iv h 428 p1) + 1))) 430 p0 (wr p1)) 431 p0 (wr p2)) 400 31) (wr p0)) 400 31) + 1)) rfl ?_
      exact R_return (Dat dd_Y_comes 44 rfl) rfl T
  · replace T := T.2 c
    exact R_return (Dat dd_Y_comes 6 rfl) rfl T
def dl_Y_actOf : List (Nat × Instr × Nat) := [(0, .iload_n 1, 1), (1, .istore_n 3, 1), (2, .aload_n 0, 1), (3, .getfield 59, 3), (6, .iload_n 3, 1), (7, .iaload, 1), (8, .iload_n 2, 1), (9, .iconst 1, 1), (10, .iadd, 1), (11, .if_icmp .le 13, 3), (14, .aload_n 0, 1), (15, .getfield 65, 3), (18, .iload_n 3, 1), (19, .iaload, 1), (20, .istore_n 3, 1), (21, .goto (-19), 3), (24, .aload_n 0, 1), (25, .getfield 68, 3), (28, .iload_n 3, 1), (29, .iaload, 1), (30, .ireturn, 1)]
theorem dd_Y_actOf : Dall 182 dl_Y_actOf = true := by decide +kernel
theorem t_Y_actOf {h : Hp} {P : Value → Hp → Prop} {p0 p1 : Int} (S : YS h) (T : R 182 2 [.ref 400, .int (I p0), .int (I p1), .int (I p0)] [] h P) : R 182 0 [.ref 400, .int (I p0), .int (I p1), .retAddr 0] [] h P := by
  refine R_iload_n (Dat dd_Y_actOf 0 rfl) rfl ?_
  refine R_istore_n (Dat dd_Y_actOf 1 rfl) rfl rfl ?_
  exact T
theorem t_Y_actOf_2 {h : Hp} {P : Value → Hp → Prop} {a2 a3 : Int} {a1 : Value} (S : YS h) (T : (0 ≤ a3) ∧ (a3 < 5040) ∧ (rng (iv h 428 a3)) ∧ (rng (a2 + 1)) ∧ (((a2 + 1) < (iv h 428 a3) → (0 ≤ a3) ∧ (a3 < 5040) ∧ R 182 2 [.ref 400, a1, .int (I a2), .int (I (iv h 430 a3))] [] h P) ∧ (¬ (a2 + 1) < (iv h 428 a3) → (0 ≤ a3) ∧ (a3 < 5040) ∧ P (.int (I (iv h 431 a3))) h))) : R 182 2 [.ref 400, a1, .int (I a2), .int (I a3)] [] h P := by
  refine R_aload_n (Dat dd_Y_actOf 2 rfl) rfl rfl ?_
  refine R_getr (Dat dd_Y_actOf 3 rfl) rfl rfl (tok S.t400) S.f400_27 (q := 428) rfl (tnz S.t428) ?_
  refine R_iload_n (Dat dd_Y_actOf 4 rfl) rfl ?_
  obtain ⟨g1, T⟩ := T
  obtain ⟨g2, T⟩ := T
  refine R_iaload (Dat dd_Y_actOf 5 rfl) (Or.inl S.t428) (lnle (show ln h 428 = 5040 from S.l428) (by decide)) g1 (lnlt (show ln h 428 = 5040 from S.l428) g2) ?_
  refine R_iload_n (Dat dd_Y_actOf 6 rfl) rfl ?_
  refine R_iconst (Dat dd_Y_actOf 7 rfl) ?_
  refine R_iadd (Dat dd_Y_actOf 8 rfl) ?_
  obtain ⟨g3, T⟩ := T
  obtain ⟨g4, T⟩ := T
  refine R_ic_le (Dat dd_Y_actOf 9 rfl) rfl g3 g4 (fun c => ?_) (fun c => ?_)
  · replace T := T.1 c
    refine R_aload_n (Dat dd_Y_actOf 10 rfl) rfl rfl ?_
    refine R_getr (Dat dd_Y_actOf 11 rfl) rfl rfl (tok S.t400) S.f400_29 (q := 430) rfl (tnz S.t430) ?_
    refine R_iload_n (Dat dd_Y_actOf 12 rfl) rfl ?_
    obtain ⟨g5, T⟩ := T
    obtain ⟨g6, T⟩ := T
    refine R_iaload (Dat dd_Y_actOf 13 rfl) (Or.inl S.t430) (lnle (show ln h 430 = 5040 from S.l430) (by decide)) g5 (lnlt (show ln h 430 = 5040 from S.l430) g6) ?_
    refine R_istore_n (Dat dd_Y_actOf 14 rfl) rfl rfl ?_
    refine R_goto (Dat dd_Y_actOf 15 rfl) rfl ?_
    exact T
  · replace T := T.2 c
    refine R_aload_n (Dat dd_Y_actOf 16 rfl) rfl rfl ?_
    refine R_getr (Dat dd_Y_actOf 17 rfl) rfl rfl (tok S.t400) S.f400_30 (q := 431) rfl (tnz S.t431) ?_
    refine R_iload_n (Dat dd_Y_actOf 18 rfl) rfl ?_
    obtain ⟨g7, T⟩ := T
    obtain ⟨g8, T⟩ := T
    refine R_iaload (Dat dd_Y_actOf 19 rfl) (Or.inl S.t431) (lnle (show ln h 431 = 5040 from S.l431) (by decide)) g7 (lnlt (show ln h 431 = 5040 from S.l431) g8) ?_
    exact R_ireturn (Dat dd_Y_actOf 20 rfl) rfl T
def dl_Y_way : List (Nat × Instr × Nat) := [(0, .aload_n 0, 1), (1, .iload_n 1, 1), (2, .invokevirtual 158, 3), (5, .ifCond .eq 16, 3), (8, .aload_n 0, 1), (9, .iload_n 2, 1), (10, .invokevirtual 158, 3), (13, .ifCond .eq 8, 3), (16, .iload_n 3, 1), (17, .iconst (-1), 1), (18, .if_icmp .ge 5, 3), (21, .iconst (-1), 1), (22, .ireturn, 1), (23, .aload_n 0, 1), (24, .getfield 161, 3), (27, .ifCond .ne 6, 3), (30, .bipush (-3), 2), (32, .ireturn, 1), (33, .aload_n 0, 1), (34, .iload_n 1, 1), (35, .sipush 5040, 3), (38, .iconst 5, 1), (39, .invokevirtual 236, 3), (42, .aload_n 0, 1), (43, .getfield 59, 3), (46, .iload_n 2, 1), (47, .iaload, 1), (48, .bipush (-9), 2), (50, .if_icmp .ne 6, 3), (53, .bipush (-9), 2), (55, .ireturn, 1), (56, .iload_n 3, 1), (57, .iconst (-1), 1), (58, .if_icmp .ne 12, 3), (61, .aload_n 0, 1), (62, .getfield 59, 3), (65, .iload_n 2, 1), (66, .iaload, 1), (67, .goto 24, 3), (70, .iload_n 3, 1), (71, .aload_n 0, 1), (72, .getfield 59, 3), (75, .iload_n 2, 1), (76, .iaload, 1), (77, .if_icmp .ge 12, 3), (80, .aload_n 0, 1), (81, .iload_n 2, 1), (82, .iload_n 3, 1), (83, .invokevirtual 239, 3), (86, .goto 5, 3), (89, .bipush (-9), 2), (91, .ireturn, 1)]
theorem dd_Y_way : Dall 183 dl_Y_way = true := by decide +kernel
theorem t_Y_way {h : Hp} {P : Value → Hp → Prop} {p0 p1 p2 : Int} (S : YS h) (T : R 146 0 [.ref 400, .int (I p0)] [] h (fun v h2 => R 183 5 [.ref 400, .int (I p0), .int (I p1), .int (I p2)] (v :: []) h2 P)) : R 183 0 [.ref 400, .int (I p0), .int (I p1), .int (I p2)] [] h P := by
  refine R_aload_n (Dat dd_Y_way 0 rfl) rfl rfl ?_
  refine R_iload_n (Dat dd_Y_way 1 rfl) rfl ?_
  exact R_call1 (Dat dd_Y_way 2 rfl) rfl S.t400 rfl rfl rfl rfl rfl T
theorem t_Y_way_5 {h : Hp} {P : Value → Hp → Prop} {a1 a2 a3 s0 : Int} (S : YS h) (T : (rng s0) ∧ ((s0 = 0 → P (.int (I (-1))) h) ∧ (¬ s0 = 0 → R 146 0 [.ref 400, .int (I a2)] [] h (fun v h2 => R 183 13 [.ref 400, .int (I a1), .int (I a2), .int (I a3)] (v :: []) h2 P)))) : R 183 5 [.ref 400, .int (I a1), .int (I a2), .int (I a3)] [.int (I s0)] h P := by
  obtain ⟨g1, T⟩ := T
  refine R_if_eq (Dat dd_Y_way 3 rfl) rfl g1  (fun c => ?_) (fun c => ?_)
  · replace T := T.1 c
    refine R_iconst (Dat dd_Y_way 11 rfl) ?_
    exact R_ireturn (Dat dd_Y_way 12 rfl) rfl T
  · replace T := T.2 c
    refine R_aload_n (Dat dd_Y_way 4 rfl) rfl rfl ?_
    refine R_iload_n (Dat dd_Y_way 5 rfl) rfl ?_
    exact R_call1 (Dat dd_Y_way 6 rfl) rfl S.t400 rfl rfl rfl rfl rfl T
theorem t_Y_way_13 {h : Hp} {P : Value → Hp → Prop} {a1 a2 a3 s0 : Int} (S : YS h) (T : (rng s0) ∧ ((s0 = 0 → P (.int (I (-1))) h) ∧ (¬ s0 = 0 → (rng a3) ∧ ((a3 < (-1) → P (.int (I (-1))) h) ∧ (¬ a3 < (-1) → (rng (iv h 400 18)) ∧ (((iv h 400 18) = 0 → P (.int (I (-3))) h) ∧ (¬ (iv h 400 18) = 0 → R 180 0 [.ref 400, .int (I a1), .int (I 5040), .int (I 5), .retAddr 0, .retAddr 0, .retAddr 0] [] h (fun _ h2 => R 183 42 [.ref 400, .int (I a1), .int (I a2), .int (I a3)] [] h2 P)))))))) : R 183 13 [.ref 400, .int (I a1), .int (I a2), .int (I a3)] [.int (I s0)] h P := by
  obtain ⟨g1, T⟩ := T
  refine R_if_eq (Dat dd_Y_way 7 rfl) rfl g1  (fun c => ?_) (fun c => ?_)
  · replace T := T.1 c
    refine R_iconst (Dat dd_Y_way 11 rfl) ?_
    exact R_ireturn (Dat dd_Y_way 12 rfl) rfl T
  · replace T := T.2 c
    refine R_iload_n (Dat dd_Y_way 8 rfl) rfl ?_
    refine R_iconst (Dat dd_Y_way 9 rfl) ?_
    obtain ⟨g2, T⟩ := T
    refine R_ic_ge (Dat dd_Y_way 10 rfl) rfl g2 (by decide) (fun c => ?_) (fun c => ?_)
    · replace T := T.1 c
      refine R_iconst (Dat dd_Y_way 11 rfl) ?_
      exact R_ireturn (Dat dd_Y_way 12 rfl) rfl T
    · replace T := T.2 c
      refine R_aload_n (Dat dd_Y_way 13 rfl) rfl rfl ?_
      refine R_geti (Dat dd_Y_way 14 rfl) rfl rfl (tok S.t400) ?_
      obtain ⟨g3, T⟩ := T
      refine R_if_ne (Dat dd_Y_way 15 rfl) rfl g3  (fun c => ?_) (fun c => ?_)
      · replace T := T.1 c
        refine R_bipush (Dat dd_Y_way 16 rfl) (a := (-3)) rfl ?_
        exact R_ireturn (Dat dd_Y_way 17 rfl) rfl T
      · replace T := T.2 c
        refine R_aload_n (Dat dd_Y_way 18 rfl) rfl rfl ?_
        refine R_iload_n (Dat dd_Y_way 19 rfl) rfl ?_
        refine R_sipush (Dat dd_Y_way 20 rfl) (a := 5040) rfl ?_
        refine R_iconst (Dat dd_Y_way 21 rfl) ?_
        exact R_call1 (Dat dd_Y_way 22 rfl) rfl S.t400 rfl rfl rfl rfl rfl T
theorem t_Y_way_42 {h : Hp} {P : Value → Hp → Prop} {a2 a3 : Int} {a1 : Value} (S : YS h) (T : (0 ≤ a2) ∧ (a2 < 5040) ∧ (rng (iv h 428 a2)) ∧ (((iv h 428 a2) = (-9) → P (.int (I (-9))) h) ∧ (¬ (iv h 428 a2) = (-9) → (rng a3) ∧ ((a3 = (-1) → (0 ≤ a2) ∧ (a2 < 5040) ∧ P (.int (I (iv h 428 a2))) h) ∧ (¬ a3 = (-1) → (0 ≤ a2) ∧ (a2 < 5040) ∧ (rng a3) ∧ (rng (iv h 428 a2)) ∧ ((a3 < (iv h 428 a2) → R 182 0 [.ref 400, .int (I a2), .int (I a3), .retAddr 0] [] h (fun v h2 => R 183 86 [.ref 400, a1, .int (I a2), .int (I a3)] (v :: []) h2 P)) ∧ (¬ a3 < (iv h 428 a2) → P (.int (I (-9))) h))))))) : R 183 42 [.ref 400, a1, .int (I a2), .int (I a3)] [] h P := by
  refine R_aload_n (Dat dd_Y_way 23 rfl) rfl rfl ?_
  refine R_getr (Dat dd_Y_way 24 rfl) rfl rfl (tok S.t400) S.f400_27 (q := 428) rfl (tnz S.t428) ?_
  refine R_iload_n (Dat dd_Y_way 25 rfl) rfl ?_
  obtain ⟨g1, T⟩ := T
  obtain ⟨g2, T⟩ := T
  refine R_iaload (Dat dd_Y_way 26 rfl) (Or.inl S.t428) (lnle (show ln h 428 = 5040 from S.l428) (by decide)) g1 (lnlt (show ln h 428 = 5040 from S.l428) g2) ?_
  refine R_bipush (Dat dd_Y_way 27 rfl) (a := (-9)) rfl ?_
  obtain ⟨g3, T⟩ := T
  refine R_ic_ne (Dat dd_Y_way 28 rfl) rfl g3 (by decide) (fun c => ?_) (fun c => ?_)
  · replace T := T.1 c
    refine R_bipush (Dat dd_Y_way 29 rfl) (a := (-9)) rfl ?_
    exact R_ireturn (Dat dd_Y_way 30 rfl) rfl T
  · replace T := T.2 c
    refine R_iload_n (Dat dd_Y_way 31 rfl) rfl ?_
    refine R_iconst (Dat dd_Y_way 32 rfl) ?_
    obtain ⟨g4, T⟩ := T
    refine R_ic_ne (Dat dd_Y_way 33 rfl) rfl g4 (by decide) (fun c => ?_) (fun c => ?_)
    · replace T := T.1 c
      refine R_aload_n (Dat dd_Y_way 34 rfl) rfl rfl ?_
      refine R_getr (Dat dd_Y_way 35 rfl) rfl rfl (tok S.t400) S.f400_27 (q := 428) rfl (tnz S.t428) ?_
      refine R_iload_n (Dat dd_Y_way 36 rfl) rfl ?_
      obtain ⟨g5, T⟩ := T
      obtain ⟨g6, T⟩ := T
      refine R_iaload (Dat dd_Y_way 37 rfl) (Or.inl S.t428) (lnle (show ln h 428 = 5040 from S.l428) (by decide)) g5 (lnlt (show ln h 428 = 5040 from S.l428) g6) ?_
      refine R_goto (Dat dd_Y_way 38 rfl) rfl ?_
      exact R_ireturn (Dat dd_Y_way 51 rfl) rfl T
    · replace T := T.2 c
      refine R_iload_n (Dat dd_Y_way 39 rfl) rfl ?_
      refine R_aload_n (Dat dd_Y_way 40 rfl) rfl rfl ?_
      refine R_getr (Dat dd_Y_way 41 rfl) rfl rfl (tok S.t400) S.f400_27 (q := 428) rfl (tnz S.t428) ?_
      refine R_iload_n (Dat dd_Y_way 42 rfl) rfl ?_
      obtain ⟨g7, T⟩ := T
      obtain ⟨g8, T⟩ := T
      refine R_iaload (Dat dd_Y_way 43 rfl) (Or.inl S.t428) (lnle (show ln h 428 = 5040 from S.l428) (by decide)) g7 (lnlt (show ln h 428 = 5040 from S.l428) g8) ?_
      obtain ⟨g9, T⟩ := T
      obtain ⟨g10, T⟩ := T
      refine R_ic_ge (Dat dd_Y_way 44 rfl) rfl g9 g10 (fun c => ?_) (fun c => ?_)
      · replace T := T.1 c
        refine R_aload_n (Dat dd_Y_way 45 rfl) rfl rfl ?_
        refine R_iload_n (Dat dd_Y_way 46 rfl) rfl ?_
        refine R_iload_n (Dat dd_Y_way 47 rfl) rfl ?_
        exact R_call1 (Dat dd_Y_way 48 rfl) rfl S.t400 rfl rfl rfl rfl rfl T
      · replace T := T.2 c
        refine R_bipush (Dat dd_Y_way 50 rfl) (a := (-9)) rfl ?_
        exact R_ireturn (Dat dd_Y_way 51 rfl) rfl T
theorem t_Y_way_86 {h : Hp} {P : Value → Hp → Prop} {s0 : Int} {a0 a1 a2 a3 : Value} (S : YS h) (T : P (.int (I s0)) h) : R 183 86 [a0, a1, a2, a3] [.int (I s0)] h P := by
  refine R_goto (Dat dd_Y_way 49 rfl) rfl ?_
  exact R_ireturn (Dat dd_Y_way 51 rfl) rfl T
def dl_Y_come : List (Nat × Instr × Nat) := [(0, .aload_n 0, 1), (1, .iload_n 1, 1), (2, .invokevirtual 158, 3), (5, .ifCond .ne 5, 3), (8, .iconst (-1), 1), (9, .ireturn, 1), (10, .iload_n 2, 1), (11, .iconst 0, 1), (12, .bipush 99, 2), (14, .invokestatic 88, 3), (17, .ifCond .eq 10, 3), (20, .iload_n 3, 1), (21, .invokestatic 180, 3), (24, .ifCond .ne 6, 3), (27, .bipush (-2), 2), (29, .ireturn, 1), (30, .aload_n 0, 1), (31, .getfield 161, 3), (34, .ifCond .ne 6, 3), (37, .bipush (-3), 2), (39, .ireturn, 1), (40, .aload_n 0, 1), (41, .iload_n 3, 1), (42, .iload_n 2, 1), (43, .invokevirtual 242, 3), (46, .iconst 0, 1), (47, .istore 4, 2), (49, .iconst 0, 1), (50, .istore 5, 2), (52, .iload 5, 2), (54, .aload_n 0, 1), (55, .getfield 95, 3), (58, .if_icmp .ge 30, 3), (61, .iload 4, 2), (63, .aload_n 0, 1), (64, .getfield 74, 3), (67, .iload 5, 2), (69, .iaload, 1), (70, .iload_n 1, 1), (71, .if_icmp .ne 7, 3), (74, .iconst 1, 1), (75, .goto 4, 3), (78, .iconst 0, 1), (79, .iadd, 1), (80, .istore 4, 2), (82, .iinc 5 1, 3), (85, .goto (-33), 3), (88, .iload 4, 2), (90, .ireturn, 1)]
theorem dd_Y_come : Dall 184 dl_Y_come = true := by decide +kernel
theorem t_Y_come {h : Hp} {P : Value → Hp → Prop} {p0 p1 p2 : Int} (S : YS h) (T : R 146 0 [.ref 400, .int (I p0)] [] h (fun v h2 => R 184 5 [.ref 400, .int (I p0), .int (I p1), .int (I p2), .retAddr 0, .retAddr 0] (v :: []) h2 P)) : R 184 0 [.ref 400, .int (I p0), .int (I p1), .int (I p2), .retAddr 0, .retAddr 0] [] h P := by
  refine R_aload_n (Dat dd_Y_come 0 rfl) rfl rfl ?_
  refine R_iload_n (Dat dd_Y_come 1 rfl) rfl ?_
  exact R_call1 (Dat dd_Y_come 2 rfl) rfl S.t400 rfl rfl rfl rfl rfl T
theorem t_Y_come_5 {h : Hp} {P : Value → Hp → Prop} {a1 a2 a3 s0 : Int} {a4 a5 : Value} (S : YS h) (T : (rng s0) ∧ ((s0 = 0 → P (.int (I (-1))) h) ∧ (¬ s0 = 0 → R 129 0 [.int (I a2), .int (I 0), .int (I 99)] [] h (fun v h2 => R 184 17 [.ref 400, .int (I a1), .int (I a2), .int (I a3), a4, a5] (v :: []) h2 P)))) : R 184 5 [.ref 400, .int (I a1), .int (I a2), .int (I a3), a4, a5] [.int (I s0)] h P := by
  obtain ⟨g1, T⟩ := T
  refine R_if_ne (Dat dd_Y_come 3 rfl) rfl g1  (fun c => ?_) (fun c => ?_)
  · replace T := T.1 c
    refine R_iconst (Dat dd_Y_come 4 rfl) ?_
    exact R_ireturn (Dat dd_Y_come 5 rfl) rfl T
  · replace T := T.2 c
    refine R_iload_n (Dat dd_Y_come 6 rfl) rfl ?_
    refine R_iconst (Dat dd_Y_come 7 rfl) ?_
    refine R_bipush (Dat dd_Y_come 8 rfl) (a := 99) rfl ?_
    exact R_call0 (Dat dd_Y_come 9 rfl) rfl rfl rfl rfl rfl rfl T
theorem t_Y_come_17 {h : Hp} {P : Value → Hp → Prop} {a1 a2 a3 s0 : Int} {a4 a5 : Value} (S : YS h) (T : (rng s0) ∧ ((s0 = 0 → P (.int (I (-2))) h) ∧ (¬ s0 = 0 → R 155 0 [.int (I a3)] [] h (fun v h2 => R 184 24 [.ref 400, .int (I a1), .int (I a2), .int (I a3), a4, a5] (v :: []) h2 P)))) : R 184 17 [.ref 400, .int (I a1), .int (I a2), .int (I a3), a4, a5] [.int (I s0)] h P := by
  obtain ⟨g1, T⟩ := T
  refine R_if_eq (Dat dd_Y_come 10 rfl) rfl g1  (fun c => ?_) (fun c => ?_)
  · replace T := T.1 c
    refine R_bipush (Dat dd_Y_come 14 rfl) (a := (-2)) rfl ?_
    exact R_ireturn (Dat dd_Y_come 15 rfl) rfl T
  · replace T := T.2 c
    refine R_iload_n (Dat dd_Y_come 11 rfl) rfl ?_
    exact R_call0 (Dat dd_Y_come 12 rfl) rfl rfl rfl rfl rfl rfl T
theorem t_Y_come_24 {h : Hp} {P : Value → Hp → Prop} {a1 a2 a3 s0 : Int} {a4 a5 : Value} (S : YS h) (T : (rng s0) ∧ ((s0 = 0 → P (.int (I (-2))) h) ∧ (¬ s0 = 0 → (rng (iv h 400 18)) ∧ (((iv h 400 18) = 0 → P (.int (I (-3))) h) ∧ (¬ (iv h 400 18) = 0 → R 185 0 [.ref 400, .int (I a3), .int (I a2), .retAddr 0, .retAddr 0] [] h (fun _ h2 => R 184 46 [.ref 400, .int (I a1), .int (I a2), .int (I a3), a4, a5] [] h2 P)))))) : R 184 24 [.ref 400, .int (I a1), .int (I a2), .int (I a3), a4, a5] [.int (I s0)] h P := by
  obtain ⟨g1, T⟩ := T
  refine R_if_ne (Dat dd_Y_come 13 rfl) rfl g1  (fun c => ?_) (fun c => ?_)
  · replace T := T.1 c
    refine R_bipush (Dat dd_Y_come 14 rfl) (a := (-2)) rfl ?_
    exact R_ireturn (Dat dd_Y_come 15 rfl) rfl T
  · replace T := T.2 c
    refine R_aload_n (Dat dd_Y_come 16 rfl) rfl rfl ?_
    refine R_geti (Dat dd_Y_come 17 rfl) rfl rfl (tok S.t400) ?_
    obtain ⟨g2, T⟩ := T
    refine R_if_ne (Dat dd_Y_come 18 rfl) rfl g2  (fun c => ?_) (fun c => ?_)
    · replace T := T.1 c
      refine R_bipush (Dat dd_Y_come 19 rfl) (a := (-3)) rfl ?_
      exact R_ireturn (Dat dd_Y_come 20 rfl) rfl T
    · replace T := T.2 c
      refine R_aload_n (Dat dd_Y_come 21 rfl) rfl rfl ?_
      refine R_iload_n (Dat dd_Y_come 22 rfl) rfl ?_
      refine R_iload_n (Dat dd_Y_come 23 rfl) rfl ?_
      exact R_call1 (Dat dd_Y_come 24 rfl) rfl S.t400 rfl rfl rfl rfl rfl T
theorem t_Y_come_46 {h : Hp} {P : Value → Hp → Prop} {a1 : Int} {a2 a3 a4 a5 : Value} (S : YS h) (T : R 184 52 [.ref 400, .int (I a1), a2, a3, .int (I 0), .int (I 0)] [] h P) : R 184 46 [.ref 400, .int (I a1), a2, a3, a4, a5] [] h P := by
  refine R_iconst (Dat dd_Y_come 25 rfl) ?_
  refine R_istore (Dat dd_Y_come 26 rfl) rfl rfl ?_
  refine R_iconst (Dat dd_Y_come 27 rfl) ?_
  refine R_istore (Dat dd_Y_come 28 rfl) rfl rfl ?_
  exact T
theorem t_Y_come_52 {h : Hp} {P : Value → Hp → Prop} {a1 a4 a5 : Int} {a2 a3 : Value} (S : YS h) (T : (rng a5) ∧ (rng (iv h 400 6)) ∧ ((a5 < (iv h 400 6) → (0 ≤ a5) ∧ (a5 < 5040) ∧ (rng (iv h 434 a5)) ∧ (rng a1) ∧ (((iv h 434 a5) = a1 → R 184 52 [.ref 400, .int (I a1), a2, a3, .int (I (a4 + 1)), .int (I (a5 + 1))] [] h P) ∧ (¬ (iv h 434 a5) = a1 → R 184 52 [.ref 400, .int (I a1), a2, a3, .int (I (a4 + 0)), .int (I (a5 + 1))] [] h P))) ∧ (¬ a5 < (iv h 400 6) → P (.int (I a4)) h))) : R 184 52 [.ref 400, .int (I a1), a2, a3, .int (I a4), .int (I a5)] [] h P := by
  refine R_iload (Dat dd_Y_come 29 rfl) rfl ?_
  refine R_aload_n (Dat dd_Y_come 30 rfl) rfl rfl ?_
  refine R_geti (Dat dd_Y_come 31 rfl) rfl rfl (tok S.t400) ?_
  obtain ⟨g1, T⟩ := T
  obtain ⟨g2, T⟩ := T
  refine R_ic_ge (Dat dd_Y_come 32 rfl) rfl g1 g2 (fun c => ?_) (fun c => ?_)
  · replace T := T.1 c
    refine R_iload (Dat dd_Y_come 33 rfl) rfl ?_
    refine R_aload_n (Dat dd_Y_come 34 rfl) rfl rfl ?_
    refine R_getr (Dat dd_Y_come 35 rfl) rfl rfl (tok S.t400) S.f400_33 (q := 434) rfl (tnz S.t434) ?_
    refine R_iload (Dat dd_Y_come 36 rfl) rfl ?_
    obtain ⟨g3, T⟩ := T
    obtain ⟨g4, T⟩ := T
    refine R_iaload (Dat dd_Y_come 37 rfl) (Or.inl S.t434) (lnle (show ln h 434 = 5040 from S.l434) (by decide)) g3 (lnlt (show ln h 434 = 5040 from S.l434) g4) ?_
    refine R_iload_n (Dat dd_Y_come 38 rfl) rfl ?_
    obtain ⟨g5, T⟩ := T
    obtain ⟨g6, T⟩ := T
    refine R_ic_ne (Dat dd_Y_come 39 rfl) rfl g5 g6 (fun c => ?_) (fun c => ?_)
    · replace T := T.1 c
      refine R_iconst (Dat dd_Y_come 40 rfl) ?_
      refine R_goto (Dat dd_Y_come 41 rfl) rfl ?_
      refine R_iadd (Dat dd_Y_come 43 rfl) ?_
      refine R_istore (Dat dd_Y_come 44 rfl) rfl rfl ?_
      refine R_iinc (Dat dd_Y_come 45 rfl) rfl rfl rfl ?_
      refine R_goto (Dat dd_Y_come 46 rfl) rfl ?_
      exact T
    · replace T := T.2 c
      refine R_iconst (Dat dd_Y_come 42 rfl) ?_
      refine R_iadd (Dat dd_Y_come 43 rfl) ?_
      refine R_istore (Dat dd_Y_come 44 rfl) rfl rfl ?_
      refine R_iinc (Dat dd_Y_come 45 rfl) rfl rfl rfl ?_
      refine R_goto (Dat dd_Y_come 46 rfl) rfl ?_
      exact T
  · replace T := T.2 c
    refine R_iload (Dat dd_Y_come 47 rfl) rfl ?_
    exact R_ireturn (Dat dd_Y_come 48 rfl) rfl T
def dl_Y_layGoes : List (Nat × Instr × Nat) := [(0, .iconst 0, 1), (1, .istore_n 3, 1), (2, .iload_n 3, 1), (3, .aload_n 0, 1), (4, .getfield 95, 3), (7, .if_icmp .ge 32, 3), (10, .aload_n 0, 1), (11, .getfield 71, 3), (14, .iload_n 3, 1), (15, .aload_n 0, 1), (16, .aload_n 0, 1), (17, .getfield 173, 3), (20, .iload_n 3, 1), (21, .iload_n 1, 1), (22, .invokevirtual 211, 3), (25, .iastore, 1), (26, .aload_n 0, 1), (27, .getfield 74, 3), (30, .iload_n 3, 1), (31, .iload_n 3, 1), (32, .iastore, 1), (33, .iinc 3 1, 3), (36, .goto (-34), 3), (39, .iconst 0, 1), (40, .istore_n 3, 1), (41, .iload_n 3, 1), (42, .iload_n 2, 1), (43, .if_icmp .ge 46, 3), (46, .iconst 0, 1), (47, .istore 4, 2), (49, .iload 4, 2), (51, .aload_n 0, 1), (52, .getfield 95, 3), (55, .if_icmp .ge 28, 3), (58, .aload_n 0, 1), (59, .getfield 74, 3), (62, .iload 4, 2), (64, .aload_n 0, 1), (65, .getfield 71, 3), (68, .aload_n 0, 1), (69, .getfield 74, 3), (72, .iload 4, 2), (74, .iaload, 1), (75, .iaload, 1), (76, .iastore, 1), (77, .iinc 4 1, 3), (80, .goto (-31), 3), (83, .iinc 3 1, 3), (86, .goto (-45), 3), (89, .return_, 1)]
theorem dd_Y_layGoes : Dall 185 dl_Y_layGoes = true := by decide +kernel
theorem t_Y_layGoes {h : Hp} {P : Value → Hp → Prop} {p0 p1 : Int} (S : YS h) (T : R 185 2 [.ref 400, .int (I p0), .int (I p1), .int (I 0), .retAddr 0] [] h P) : R 185 0 [.ref 400, .int (I p0), .int (I p1), .retAddr 0, .retAddr 0] [] h P := by
  refine R_iconst (Dat dd_Y_layGoes 0 rfl) ?_
  refine R_istore_n (Dat dd_Y_layGoes 1 rfl) rfl rfl ?_
  exact T
theorem t_Y_layGoes_2 {h : Hp} {P : Value → Hp → Prop} {a1 a2 a3 : Int} {a4 : Value} (S : YS h) (T : (rng a3) ∧ (rng (iv h 400 6)) ∧ ((a3 < (iv h 400 6) → R 169 0 [.ref 400, .int (I (iv h 400 19)), .int (I a3), .int (I a1)] [] h (fun v h2 => R 185 25 [.ref 400, .int (I a1), .int (I a2), .int (I a3), a4] (v :: [.int (I a3), .ref 433]) h2 P)) ∧ (¬ a3 < (iv h 400 6) → R 185 41 [.ref 400, .int (I a1), .int (I a2), .int (I 0), a4] [] h P))) : R 185 2 [.ref 400, .int (I a1), .int (I a2), .int (I a3), a4] [] h P := by
  refine R_iload_n (Dat dd_Y_layGoes 2 rfl) rfl ?_
  refine R_aload_n (Dat dd_Y_layGoes 3 rfl) rfl rfl ?_
  refine R_geti (Dat dd_Y_layGoes 4 rfl) rfl rfl (tok S.t400) ?_
  obtain ⟨g1, T⟩ := T
  obtain ⟨g2, T⟩ := T
  refine R_ic_ge (Dat dd_Y_layGoes 5 rfl) rfl g1 g2 (fun c => ?_) (fun c => ?_)
  · replace T := T.1 c
    refine R_aload_n (Dat dd_Y_layGoes 6 rfl) rfl rfl ?_
    refine R_getr (Dat dd_Y_layGoes 7 rfl) rfl rfl (tok S.t400) S.f400_32 (q := 433) rfl (tnz S.t433) ?_
    refine R_iload_n (Dat dd_Y_layGoes 8 rfl) rfl ?_
    refine R_aload_n (Dat dd_Y_layGoes 9 rfl) rfl rfl ?_
    refine R_aload_n (Dat dd_Y_layGoes 10 rfl) rfl rfl ?_
    refine R_geti (Dat dd_Y_layGoes 11 rfl) rfl rfl (tok S.t400) ?_
    refine R_iload_n (Dat dd_Y_layGoes 12 rfl) rfl ?_
    refine R_iload_n (Dat dd_Y_layGoes 13 rfl) rfl ?_
    exact R_call1 (Dat dd_Y_layGoes 14 rfl) rfl S.t400 rfl rfl rfl rfl rfl T
  · replace T := T.2 c
    refine R_iconst (Dat dd_Y_layGoes 23 rfl) ?_
    refine R_istore_n (Dat dd_Y_layGoes 24 rfl) rfl rfl ?_
    exact T
theorem t_Y_layGoes_25 {h : Hp} {P : Value → Hp → Prop} {a1 a2 a3 s0 s1 : Int} {a4 : Value} (S : YS h) (T : (0 ≤ s1) ∧ (s1 < 5040) ∧ (0 ≤ a3) ∧ (a3 < 5040) ∧ R 185 2 [.ref 400, .int (I a1), .int (I a2), .int (I (a3 + 1)), a4] [] (setI (setI h 433 s1 (wr s0)) 434 a3 (wr a3)) P) : R 185 25 [.ref 400, .int (I a1), .int (I a2), .int (I a3), a4] [.int (I s0), .int (I s1), .ref 433] h P := by
  obtain ⟨g1, T⟩ := T
  obtain ⟨g2, T⟩ := T
  refine R_iastore (Dat dd_Y_layGoes 15 rfl) S.t433 (lnle (show ln h 433 = 5040 from S.l433) (by decide)) g1 (lnlt (show ln h 433 = 5040 from S.l433) g2) (v := wr s0) rfl ?_
  refine R_aload_n (Dat dd_Y_layGoes 16 rfl) rfl rfl ?_
  refine R_getr (Dat dd_Y_layGoes 17 rfl) rfl rfl (tok S.t400) S.f400_33 (q := 434) rfl (tnz S.t434) ?_
  refine R_iload_n (Dat dd_Y_layGoes 18 rfl) rfl ?_
  refine R_iload_n (Dat dd_Y_layGoes 19 rfl) rfl ?_
  obtain ⟨g3, T⟩ := T
  obtain ⟨g4, T⟩ := T
  refine R_iastore (Dat dd_Y_layGoes 20 rfl) S.t434 (lnle (show ln (setI h 433 s1 (wr s0)) 434 = 5040 from S.l434) (by decide)) g3 (lnlt (show ln (setI h 433 s1 (wr s0)) 434 = 5040 from S.l434) g4) (v := wr a3) rfl ?_
  refine R_iinc (Dat dd_Y_layGoes 21 rfl) rfl rfl rfl ?_
  refine R_goto (Dat dd_Y_layGoes 22 rfl) rfl ?_
  exact T
theorem t_Y_layGoes_41 {h : Hp} {P : Value → Hp → Prop} {a2 a3 : Int} {a1 a4 : Value} (S : YS h) (T : (rng a3) ∧ (rng a2) ∧ ((a3 < a2 → R 185 49 [.ref 400, a1, .int (I a2), .int (I a3), .int (I 0)] [] h P) ∧ (¬ a3 < a2 → P .null h))) : R 185 41 [.ref 400, a1, .int (I a2), .int (I a3), a4] [] h P := by
  refine R_iload_n (Dat dd_Y_layGoes 25 rfl) rfl ?_
  refine R_iload_n (Dat dd_Y_layGoes 26 rfl) rfl ?_
  obtain ⟨g1, T⟩ := T
  obtain ⟨g2, T⟩ := T
  refine R_ic_ge (Dat dd_Y_layGoes 27 rfl) rfl g1 g2 (fun c => ?_) (fun c => ?_)
  · replace T := T.1 c
    refine R_iconst (Dat dd_Y_layGoes 28 rfl) ?_
    refine R_istore (Dat dd_Y_layGoes 29 rfl) rfl rfl ?_
    exact T
  · replace T := T.2 c
    exact R_return (Dat dd_Y_layGoes 49 rfl) rfl T
theorem t_Y_layGoes_49 {h : Hp} {P : Value → Hp → Prop} {a2 a3 a4 : Int} {a1 : Value} (S : YS h) (T : (rng a4) ∧ (rng (iv h 400 6)) ∧ ((a4 < (iv h 400 6) → (0 ≤ a4) ∧ (a4 < 5040) ∧ (0 ≤ (iv h 434 a4)) ∧ ((iv h 434 a4) < 5040) ∧ (0 ≤ a4) ∧ (a4 < 5040) ∧ R 185 49 [.ref 400, a1, .int (I a2), .int (I a3), .int (I (a4 + 1))] [] (setI h 434 a4 (wr (iv h 433 (iv h 434 a4)))) P) ∧ (¬ a4 < (iv h 400 6) → R 185 41 [.ref 400, a1, .int (I a2), .int (I (a3 + 1)), .int (I a4)] [] h P))) : R 185 49 [.ref 400, a1, .int (I a2), .int (I a3), .int (I a4)] [] h P := by
  refine R_iload (Dat dd_Y_layGoes 30 rfl) rfl ?_
  refine R_aload_n (Dat dd_Y_layGoes 31 rfl) rfl rfl ?_
  refine R_geti (Dat dd_Y_layGoes 32 rfl) rfl rfl (tok S.t400) ?_
  obtain ⟨g1, T⟩ := T
  obtain ⟨g2, T⟩ := T
  refine R_ic_ge (Dat dd_Y_layGoes 33 rfl) rfl g1 g2 (fun c => ?_) (fun c => ?_)
  · replace T := T.1 c
    refine R_aload_n (Dat dd_Y_layGoes 34 rfl) rfl rfl ?_
    refine R_getr (Dat dd_Y_layGoes 35 rfl) rfl rfl (tok S.t400) S.f400_33 (q := 434) rfl (tnz S.t434) ?_
    refine R_iload (Dat dd_Y_layGoes 36 rfl) rfl ?_
    refine R_aload_n (Dat dd_Y_layGoes 37 rfl) rfl rfl ?_
    refine R_getr (Dat dd_Y_layGoes 38 rfl) rfl rfl (tok S.t400) S.f400_32 (q := 433) rfl (tnz S.t433) ?_
    refine R_aload_n (Dat dd_Y_layGoes 39 rfl) rfl rfl ?_
    refine R_getr (Dat dd_Y_layGoes 40 rfl) rfl rfl (tok S.t400) S.f400_33 (q := 434) rfl (tnz S.t434) ?_
    refine R_iload (Dat dd_Y_layGoes 41 rfl) rfl ?_
    obtain ⟨g3, T⟩ := T
    obtain ⟨g4, T⟩ := T
    refine R_iaload (Dat dd_Y_layGoes 42 rfl) (Or.inl S.t434) (lnle (show ln h 434 = 5040 from S.l434) (by decide)) g3 (lnlt (show ln h 434 = 5040 from S.l434) g4) ?_
    obtain ⟨g5, T⟩ := T
    obtain ⟨g6, T⟩ := T
    refine R_iaload (Dat dd_Y_layGoes 43 rfl) (Or.inl S.t433) (lnle (show ln h 433 = 5040 from S.l433) (by decide)) g5 (lnlt (show ln h 433 = 5040 from S.l433) g6) ?_
    obtain ⟨g7, T⟩ := T
    obtain ⟨g8, T⟩ := T
    refine R_iastore (Dat dd_Y_layGoes 44 rfl) S.t434 (lnle (show ln h 434 = 5040 from S.l434) (by decide)) g7 (lnlt (show ln h 434 = 5040 from S.l434) g8) (v := wr (iv h 433 (iv h 434 a4))) rfl ?_
    refine R_iinc (Dat dd_Y_layGoes 45 rfl) rfl rfl rfl ?_
    refine R_goto (Dat dd_Y_layGoes 46 rfl) rfl ?_
    exact T
  · replace T := T.2 c
    refine R_iinc (Dat dd_Y_layGoes 47 rfl) rfl rfl rfl ?_
    refine R_goto (Dat dd_Y_layGoes 48 rfl) rfl ?_
    exact T
def dl_Y_bare : List (Nat × Instr × Nat) := [(0, .iload_n 1, 1), (1, .invokestatic 180, 3), (4, .ifCond .ne 6, 3), (7, .bipush (-2), 2), (9, .ireturn, 1), (10, .aload_n 0, 1), (11, .getfield 92, 3), (14, .ifCond .eq 10, 3), (17, .aload_n 0, 1), (18, .getfield 161, 3), (21, .ifCond .ne 6, 3), (24, .bipush (-3), 2), (26, .ireturn, 1), (27, .aload_n 0, 1), (28, .iload_n 1, 1), (29, .iconst 1, 1), (30, .invokevirtual 242, 3), (33, .aload_n 0, 1), (34, .invokevirtual 215, 3), (37, .aload_n 0, 1), (38, .getfield 95, 3), (41, .istore_n 2, 1), (42, .iconst 0, 1), (43, .istore_n 3, 1), (44, .iload_n 3, 1), (45, .aload_n 0, 1), (46, .getfield 95, 3), (49, .if_icmp .ge 45, 3), (52, .iload_n 2, 1), (53, .aload_n 0, 1), (54, .getfield 59, 3), (57, .aload_n 0, 1), (58, .getfield 74, 3), (61, .iload_n 3, 1), (62, .iaload, 1), (63, .iaload, 1), (64, .bipush (-9), 2), (66, .if_icmp .ne 7, 3), (69, .iconst 1, 1), (70, .goto 4, 3), (73, .iconst 0, 1), (74, .isub, 1), (75, .istore_n 2, 1), (76, .aload_n 0, 1), (77, .getfield 59, 3), (80, .aload_n 0, 1), (81, .getfield 74, 3), (84, .iload_n 3, 1), (85, .iaload, 1), (86, .iconst 0, 1), (87, .iastore, 1), (88, .iinc 3 1, 3), (91, .goto (-47), 3), (94, .iload_n 2, 1), (95, .ireturn, 1)]
theorem dd_Y_bare : Dall 186 dl_Y_bare = true := by decide +kernel
theorem t_Y_bare {h : Hp} {P : Value → Hp → Prop} {p0 : Int} (S : YS h) (T : R 155 0 [.int (I p0)] [] h (fun v h2 => R 186 4 [.ref 400, .int (I p0), .retAddr 0, .retAddr 0] (v :: []) h2 P)) : R 186 0 [.ref 400, .int (I p0), .retAddr 0, .retAddr 0] [] h P := by
  refine R_iload_n (Dat dd_Y_bare 0 rfl) rfl ?_
  exact R_call0 (Dat dd_Y_bare 1 rfl) rfl rfl rfl rfl rfl rfl T
theorem t_Y_bare_4 {h : Hp} {P : Value → Hp → Prop} {a1 s0 : Int} {a2 a3 : Value} (S : YS h) (T : (rng s0) ∧ ((s0 = 0 → P (.int (I (-2))) h) ∧ (¬ s0 = 0 → (rng (iv h 400 5)) ∧ (((iv h 400 5) = 0 → P (.int (I (-3))) h) ∧ (¬ (iv h 400 5) = 0 → (rng (iv h 400 18)) ∧ (((iv h 400 18) = 0 → P (.int (I (-3))) h) ∧ (¬ (iv h 400 18) = 0 → R 185 0 [.ref 400, .int (I a1), .int (I 1), .retAddr 0, .retAddr 0] [] h (fun _ h2 => R 186 33 [.ref 400, .int (I a1), a2, a3] [] h2 P)))))))) : R 186 4 [.ref 400, .int (I a1), a2, a3] [.int (I s0)] h P := by
  obtain ⟨g1, T⟩ := T
  refine R_if_ne (Dat dd_Y_bare 2 rfl) rfl g1  (fun c => ?_) (fun c => ?_)
  · replace T := T.1 c
    refine R_bipush (Dat dd_Y_bare 3 rfl) (a := (-2)) rfl ?_
    exact R_ireturn (Dat dd_Y_bare 4 rfl) rfl T
  · replace T := T.2 c
    refine R_aload_n (Dat dd_Y_bare 5 rfl) rfl rfl ?_
    refine R_geti (Dat dd_Y_bare 6 rfl) rfl rfl (tok S.t400) ?_
    obtain ⟨g2, T⟩ := T
    refine R_if_eq (Dat dd_Y_bare 7 rfl) rfl g2  (fun c => ?_) (fun c => ?_)
    · replace T := T.1 c
      refine R_bipush (Dat dd_Y_bare 11 rfl) (a := (-3)) rfl ?_
      exact R_ireturn (Dat dd_Y_bare 12 rfl) rfl T
    · replace T := T.2 c
      refine R_aload_n (Dat dd_Y_bare 8 rfl) rfl rfl ?_
      refine R_geti (Dat dd_Y_bare 9 rfl) rfl rfl (tok S.t400) ?_
      obtain ⟨g3, T⟩ := T
      refine R_if_ne (Dat dd_Y_bare 10 rfl) rfl g3  (fun c => ?_) (fun c => ?_)
      · replace T := T.1 c
        refine R_bipush (Dat dd_Y_bare 11 rfl) (a := (-3)) rfl ?_
        exact R_ireturn (Dat dd_Y_bare 12 rfl) rfl T
      · replace T := T.2 c
        refine R_aload_n (Dat dd_Y_bare 13 rfl) rfl rfl ?_
        refine R_iload_n (Dat dd_Y_bare 14 rfl) rfl ?_
        refine R_iconst (Dat dd_Y_bare 15 rfl) ?_
        exact R_call1 (Dat dd_Y_bare 16 rfl) rfl S.t400 rfl rfl rfl rfl rfl T
theorem t_Y_bare_33 {h : Hp} {P : Value → Hp → Prop} {a1 a2 a3 : Value} (S : YS h) (T : R 171 0 [.ref 400, .retAddr 0] [] h (fun _ h2 => R 186 37 [.ref 400, a1, a2, a3] [] h2 P)) : R 186 33 [.ref 400, a1, a2, a3] [] h P := by
  refine R_aload_n (Dat dd_Y_bare 17 rfl) rfl rfl ?_
  exact R_call1 (Dat dd_Y_bare 18 rfl) rfl S.t400 rfl rfl rfl rfl rfl T
theorem t_Y_bare_37 {h : Hp} {P : Value → Hp → Prop} {a1 a2 a3 : Value} (S : YS h) (T : R 186 44 [.ref 400, a1, .int (I (iv h 400 6)), .int (I 0)] [] h P) : R 186 37 [.ref 400, a1, a2, a3] [] h P := by
  refine R_aload_n (Dat dd_Y_bare 19 rfl) rfl rfl ?_
  refine R_geti (Dat dd_Y_bare 20 rfl) rfl rfl (tok S.t400) ?_
  refine R_istore_n (Dat dd_Y_bare 21 rfl) rfl rfl ?_
  refine R_iconst (Dat dd_Y_bare 22 rfl) ?_
  refine R_istore_n (Dat dd_Y_bare 23 rfl) rfl rfl ?_
  exact T
theorem t_Y_bare_44 {h : Hp} {P : Value → Hp → Prop} {a2 a3 : Int} {a1 : Value} (S : YS h) (T : (rng a3) ∧ (rng (iv h 400 6)) ∧ ((a3 < (iv h 400 6) → (0 ≤ a3) ∧ (a3 < 5040) ∧ (0 ≤ (iv h 434 a3)) ∧ ((iv h 434 a3) < 5040) ∧ (rng (iv h 428 (iv h 434 a3))) ∧ (((iv h 428 (iv h 434 a3)) = (-9) → (0 ≤ a3) ∧ (a3 < 5040) ∧ (0 ≤ (iv h 434 a3)) ∧ ((iv h 434 a3) < 5040) ∧ R 186 44 [.ref 400, a1, .int (I (a2 - 1)), .int (I (a3 + 1))] [] (setI h 428 (iv h 434 a3) 0) P) ∧ (¬ (iv h 428 (iv h 434 a3)) = (-9) → (0 ≤ a3) ∧ (a3 < 5040) ∧ (0 ≤ (iv h 434 a3)) ∧ ((iv h 434 a3) < 5040) ∧ R 186 44 [.ref 400, a1, .int (I (a2 - 0)), .int (I (a3 + 1))] [] (setI h 428 (iv h 434 a3) 0) P))) ∧ (¬ a3 < (iv h 400 6) → P (.int (I a2)) h))) : R 186 44 [.ref 400, a1, .int (I a2), .int (I a3)] [] h P := by
  refine R_iload_n (Dat dd_Y_bare 24 rfl) rfl ?_
  refine R_aload_n (Dat dd_Y_bare 25 rfl) rfl rfl ?_
  refine R_geti (Dat dd_Y_bare 26 rfl) rfl rfl (tok S.t400) ?_
  obtain ⟨g1, T⟩ := T
  obtain ⟨g2, T⟩ := T
  refine R_ic_ge (Dat dd_Y_bare 27 rfl) rfl g1 g2 (fun c => ?_) (fun c => ?_)
  · replace T := T.1 c
    refine R_iload_n (Dat dd_Y_bare 28 rfl) rfl ?_
    refine R_aload_n (Dat dd_Y_bare 29 rfl) rfl rfl ?_
    refine R_getr (Dat dd_Y_bare 30 rfl) rfl rfl (tok S.t400) S.f400_27 (q := 428) rfl (tnz S.t428) ?_
    refine R_aload_n (Dat dd_Y_bare 31 rfl) rfl rfl ?_
    refine R_getr (Dat dd_Y_bare 32 rfl) rfl rfl (tok S.t400) S.f400_33 (q := 434) rfl (tnz S.t434) ?_
    refine R_iload_n (Dat dd_Y_bare 33 rfl) rfl ?_
    obtain ⟨g3, T⟩ := T
    obtain ⟨g4, T⟩ := T
    refine R_iaload (Dat dd_Y_bare 34 rfl) (Or.inl S.t434) (lnle (show ln h 434 = 5040 from S.l434) (by decide)) g3 (lnlt (show ln h 434 = 5040 from S.l434) g4) ?_
    obtain ⟨g5, T⟩ := T
    obtain ⟨g6, T⟩ := T
    refine R_iaload (Dat dd_Y_bare 35 rfl) (Or.inl S.t428) (lnle (show ln h 428 = 5040 from S.l428) (by decide)) g5 (lnlt (show ln h 428 = 5040 from S.l428) g6) ?_
    refine R_bipush (Dat dd_Y_bare 36 rfl) (a := (-9)) rfl ?_
    obtain ⟨g7, T⟩ := T
    refine R_ic_ne (Dat dd_Y_bare 37 rfl) rfl g7 (by decide) (fun c => ?_) (fun c => ?_)
    · replace T := T.1 c
      refine R_iconst (Dat dd_Y_bare 38 rfl) ?_
      refine R_goto (Dat dd_Y_bare 39 rfl) rfl ?_
      refine R_isub (Dat dd_Y_bare 41 rfl) ?_
      refine R_istore_n (Dat dd_Y_bare 42 rfl) rfl rfl ?_
      refine R_aload_n (Dat dd_Y_bare 43 rfl) rfl rfl ?_
      refine R_getr (Dat dd_Y_bare 44 rfl) rfl rfl (tok S.t400) S.f400_27 (q := 428) rfl (tnz S.t428) ?_
      refine R_aload_n (Dat dd_Y_bare 45 rfl) rfl rfl ?_
      refine R_getr (Dat dd_Y_bare 46 rfl) rfl rfl (tok S.t400) S.f400_33 (q := 434) rfl (tnz S.t434) ?_
      refine R_iload_n (Dat dd_Y_bare 47 rfl) rfl ?_
      obtain ⟨g8, T⟩ := T
      obtain ⟨g9, T⟩ := T
      refine R_iaload (Dat dd_Y_bare 48 rfl) (Or.inl S.t434) (lnle (show ln h 434 = 5040 from S.l434) (by decide)) g8 (lnlt (show ln h 434 = 5040 from S.l434) g9) ?_
      refine R_iconst (Dat dd_Y_bare 49 rfl) ?_
      obtain ⟨g10, T⟩ := T
      obtain ⟨g11, T⟩ := T
      refine R_iastore (Dat dd_Y_bare 50 rfl) S.t428 (lnle (show ln h 428 = 5040 from S.l428) (by decide)) g10 (lnlt (show ln h 428 = 5040 from S.l428) g11) (v := 0) rfl ?_
      refine R_iinc (Dat dd_Y_bare 51 rfl) rfl rfl rfl ?_
      refine R_goto (Dat dd_Y_bare 52 rfl) rfl ?_
      exact T
    · replace T := T.2 c
      refine R_iconst (Dat dd_Y_bare 40 rfl) ?_
      refine R_isub (Dat dd_Y_bare 41 rfl) ?_
      refine R_istore_n (Dat dd_Y_bare 42 rfl) rfl rfl ?_
      refine R_aload_n (Dat dd_Y_bare 43 rfl) rfl rfl ?_
      refine R_getr (Dat dd_Y_bare 44 rfl) rfl rfl (tok S.t400) S.f400_27 (q := 428) rfl (tnz S.t428) ?_
      refine R_aload_n (Dat dd_Y_bare 45 rfl) rfl rfl ?_
      refine R_getr (Dat dd_Y_bare 46 rfl) rfl rfl (tok S.t400) S.f400_33 (q := 434) rfl (tnz S.t434) ?_
      refine R_iload_n (Dat dd_Y_bare 47 rfl) rfl ?_
      obtain ⟨g12, T⟩ := T
      obtain ⟨g13, T⟩ := T
      refine R_iaload (Dat dd_Y_bare 48 rfl) (Or.inl S.t434) (lnle (show ln h 434 = 5040 from S.l434) (by decide)) g12 (lnlt (show ln h 434 = 5040 from S.l434) g13) ?_
      refine R_iconst (Dat dd_Y_bare 49 rfl) ?_
      obtain ⟨g14, T⟩ := T
      obtain ⟨g15, T⟩ := T
      refine R_iastore (Dat dd_Y_bare 50 rfl) S.t428 (lnle (show ln h 428 = 5040 from S.l428) (by decide)) g14 (lnlt (show ln h 428 = 5040 from S.l428) g15) (v := 0) rfl ?_
      refine R_iinc (Dat dd_Y_bare 51 rfl) rfl rfl rfl ?_
      refine R_goto (Dat dd_Y_bare 52 rfl) rfl ?_
      exact T
  · replace T := T.2 c
    refine R_iload_n (Dat dd_Y_bare 53 rfl) rfl ?_
    exact R_ireturn (Dat dd_Y_bare 54 rfl) rfl T
def dl_Y_odds : List (Nat × Instr × Nat) := [(0, .aload_n 0, 1), (1, .iload_n 1, 1), (2, .invokevirtual 142, 3), (5, .ifCond .eq 37, 3), (8, .iload_n 2, 1), (9, .iconst 0, 1), (10, .bipush 99, 2), (12, .invokestatic 88, 3), (15, .ifCond .eq 27, 3), (18, .iload_n 3, 1), (19, .invokestatic 180, 3), (22, .ifCond .eq 20, 3), (25, .iload 4, 2), (27, .iconst 0, 1), (28, .iconst 1, 1), (29, .invokestatic 88, 3), (32, .ifCond .eq 10, 3), (35, .aload_n 0, 1), (36, .getfield 161, 3), (39, .ifCond .ne 7, 3), (42, .ldc2_w 86, 3), (45, .lreturn, 1), (46, .aload_n 0, 1), (47, .iload_n 3, 1), (48, .iload_n 2, 1), (49, .invokevirtual 242, 3), (52, .iconst 0, 1), (53, .istore 5, 2), (55, .iconst 0, 1), (56, .istore 6, 2), (58, .iload 6, 2), (60, .aload_n 0, 1), (61, .getfield 95, 3), (64, .if_icmp .ge 34, 3), (67, .iload 5, 2), (69, .aload_n 0, 1), (70, .iload_n 1, 1), (71, .aload_n 0, 1), (72, .getfield 74, 3), (75, .iload 6, 2), (77, .iaload, 1), (78, .invokevirtual 218, 3), (81, .ifCond .eq 7, 3), (84, .iconst 1, 1), (85, .goto 4, 3), (88, .iconst 0, 1), (89, .iadd, 1), (90, .istore 5, 2), (92, .iinc 6 1, 3), (95, .goto (-37), 3), (98, .iload 5, 2), (100, .i2l, 1), (101, .aload_n 0, 1), (102, .getfield 95, 3), (105, .i2l, 1), (106, .invokestatic 245, 3), (109, .lstore 6, 2), (111, .iload 4, 2), (113, .ifCond .ne 12, 3), (116, .iload 5, 2), (118, .i2l, 1), (119, .lload 6, 2), (121, .ldiv, 1), (122, .goto 11, 3), (125, .aload_n 0, 1), (126, .getfield 95, 3), (129, .i2l, 1), (130, .lload 6, 2), (132, .ldiv, 1), (133, .lreturn, 1)]
theorem dd_Y_odds : Dall 187 dl_Y_odds = true := by decide +kernel
theorem t_Y_odds {h : Hp} {P : Value → Hp → Prop} {p0 p1 p2 p3 : Int} (S : YS h) (T : R 137 0 [.ref 400, .int (I p0)] [] h (fun v h2 => R 187 5 [.ref 400, .int (I p0), .int (I p1), .int (I p2), .int (I p3), .retAddr 0, .retAddr 0, .retAddr 0] (v :: []) h2 P)) : R 187 0 [.ref 400, .int (I p0), .int (I p1), .int (I p2), .int (I p3), .retAddr 0, .retAddr 0, .retAddr 0] [] h P := by
  refine R_aload_n (Dat dd_Y_odds 0 rfl) rfl rfl ?_
  refine R_iload_n (Dat dd_Y_odds 1 rfl) rfl ?_
  exact R_call1 (Dat dd_Y_odds 2 rfl) rfl S.t400 rfl rfl rfl rfl rfl T
theorem t_Y_odds_5 {h : Hp} {P : Value → Hp → Prop} {a1 a2 a3 a4 s0 : Int} {a5 a6 a7 : Value} (S : YS h) (T : (rng s0) ∧ ((s0 = 0 → P (.long (J (-9223372036854775808))) h) ∧ (¬ s0 = 0 → R 129 0 [.int (I a2), .int (I 0), .int (I 99)] [] h (fun v h2 => R 187 15 [.ref 400, .int (I a1), .int (I a2), .int (I a3), .int (I a4), a5, a6, a7] (v :: []) h2 P)))) : R 187 5 [.ref 400, .int (I a1), .int (I a2), .int (I a3), .int (I a4), a5, a6, a7] [.int (I s0)] h P := by
  obtain ⟨g1, T⟩ := T
  refine R_if_eq (Dat dd_Y_odds 3 rfl) rfl g1  (fun c => ?_) (fun c => ?_)
  · replace T := T.1 c
    refine R_ldc2_w (Dat dd_Y_odds 20 rfl) (a := (-9223372036854775808)) rfl ?_
    exact R_lreturn (Dat dd_Y_odds 21 rfl) rfl T
  · replace T := T.2 c
    refine R_iload_n (Dat dd_Y_odds 4 rfl) rfl ?_
    refine R_iconst (Dat dd_Y_odds 5 rfl) ?_
    refine R_bipush (Dat dd_Y_odds 6 rfl) (a := 99) rfl ?_
    exact R_call0 (Dat dd_Y_odds 7 rfl) rfl rfl rfl rfl rfl rfl T
theorem t_Y_odds_15 {h : Hp} {P : Value → Hp → Prop} {a1 a2 a3 a4 s0 : Int} {a5 a6 a7 : Value} (S : YS h) (T : (rng s0) ∧ ((s0 = 0 → P (.long (J (-9223372036854775808))) h) ∧ (¬ s0 = 0 → R 155 0 [.int (I a3)] [] h (fun v h2 => R 187 22 [.ref 400, .int (I a1), .int (I a2), .int (I a3), .int (I a4), a5, a6, a7] (v :: []) h2 P)))) : R 187 15 [.ref 400, .int (I a1), .int (I a2), .int (I a3), .int (I a4), a5, a6, a7] [.int (I s0)] h P := by
  obtain ⟨g1, T⟩ := T
  refine R_if_eq (Dat dd_Y_odds 8 rfl) rfl g1  (fun c => ?_) (fun c => ?_)
  · replace T := T.1 c
    refine R_ldc2_w (Dat dd_Y_odds 20 rfl) (a := (-9223372036854775808)) rfl ?_
    exact R_lreturn (Dat dd_Y_odds 21 rfl) rfl T
  · replace T := T.2 c
    refine R_iload_n (Dat dd_Y_odds 9 rfl) rfl ?_
    exact R_call0 (Dat dd_Y_odds 10 rfl) rfl rfl rfl rfl rfl rfl T
theorem t_Y_odds_22 {h : Hp} {P : Value → Hp → Prop} {a1 a2 a3 a4 s0 : Int} {a5 a6 a7 : Value} (S : YS h) (T : (rng s0) ∧ ((s0 = 0 → P (.long (J (-9223372036854775808))) h) ∧ (¬ s0 = 0 → R 129 0 [.int (I a4), .int (I 0), .int (I 1)] [] h (fun v h2 => R 187 32 [.ref 400, .int (I a1), .int (I a2), .int (I a3), .int (I a4), a5, a6, a7] (v :: []) h2 P)))) : R 187 22 [.ref 400, .int (I a1), .int (I a2), .int (I a3), .int (I a4), a5, a6, a7] [.int (I s0)] h P := by
  obtain ⟨g1, T⟩ := T
  refine R_if_eq (Dat dd_Y_odds 11 rfl) rfl g1  (fun c => ?_) (fun c => ?_)
  · replace T := T.1 c
    refine R_ldc2_w (Dat dd_Y_odds 20 rfl) (a := (-9223372036854775808)) rfl ?_
    exact R_lreturn (Dat dd_Y_odds 21 rfl) rfl T
  · replace T := T.2 c
    refine R_iload (Dat dd_Y_odds 12 rfl) rfl ?_
    refine R_iconst (Dat dd_Y_odds 13 rfl) ?_
    refine R_iconst (Dat dd_Y_odds 14 rfl) ?_
    exact R_call0 (Dat dd_Y_odds 15 rfl) rfl rfl rfl rfl rfl rfl T
theorem t_Y_odds_32 {h : Hp} {P : Value → Hp → Prop} {a1 a2 a3 a4 s0 : Int} {a5 a6 a7 : Value} (S : YS h) (T : (rng s0) ∧ ((s0 = 0 → P (.long (J (-9223372036854775808))) h) ∧ (¬ s0 = 0 → (rng (iv h 400 18)) ∧ (((iv h 400 18) = 0 → P (.long (J (-9223372036854775808))) h) ∧ (¬ (iv h 400 18) = 0 → R 185 0 [.ref 400, .int (I a3), .int (I a2), .retAddr 0, .retAddr 0] [] h (fun _ h2 => R 187 52 [.ref 400, .int (I a1), .int (I a2), .int (I a3), .int (I a4), a5, a6, a7] [] h2 P)))))) : R 187 32 [.ref 400, .int (I a1), .int (I a2), .int (I a3), .int (I a4), a5, a6, a7] [.int (I s0)] h P := by
  obtain ⟨g1, T⟩ := T
  refine R_if_eq (Dat dd_Y_odds 16 rfl) rfl g1  (fun c => ?_) (fun c => ?_)
  · replace T := T.1 c
    refine R_ldc2_w (Dat dd_Y_odds 20 rfl) (a := (-9223372036854775808)) rfl ?_
    exact R_lreturn (Dat dd_Y_odds 21 rfl) rfl T
  · replace T := T.2 c
    refine R_aload_n (Dat dd_Y_odds 17 rfl) rfl rfl ?_
    refine R_geti (Dat dd_Y_odds 18 rfl) rfl rfl (tok S.t400) ?_
    obtain ⟨g2, T⟩ := T
    refine R_if_ne (Dat dd_Y_odds 19 rfl) rfl g2  (fun c => ?_) (fun c => ?_)
    · replace T := T.1 c
      refine R_ldc2_w (Dat dd_Y_odds 20 rfl) (a := (-9223372036854775808)) rfl ?_
      exact R_lreturn (Dat dd_Y_odds 21 rfl) rfl T
    · replace T := T.2 c
      refine R_aload_n (Dat dd_Y_odds 22 rfl) rfl rfl ?_
      refine R_iload_n (Dat dd_Y_odds 23 rfl) rfl ?_
      refine R_iload_n (Dat dd_Y_odds 24 rfl) rfl ?_
      exact R_call1 (Dat dd_Y_odds 25 rfl) rfl S.t400 rfl rfl rfl rfl rfl T
theorem t_Y_odds_52 {h : Hp} {P : Value → Hp → Prop} {a1 a4 : Int} {a2 a3 a5 a6 a7 : Value} (S : YS h) (T : R 187 58 [.ref 400, .int (I a1), a2, a3, .int (I a4), .int (I 0), .int (I 0), a7] [] h P) : R 187 52 [.ref 400, .int (I a1), a2, a3, .int (I a4), a5, a6, a7] [] h P := by
  refine R_iconst (Dat dd_Y_odds 26 rfl) ?_
  refine R_istore (Dat dd_Y_odds 27 rfl) rfl rfl ?_
  refine R_iconst (Dat dd_Y_odds 28 rfl) ?_
  refine R_istore (Dat dd_Y_odds 29 rfl) rfl rfl ?_
  exact T
theorem t_Y_odds_58 {h : Hp} {P : Value → Hp → Prop} {a1 a4 a5 a6 : Int} {a2 a3 a7 : Value} (S : YS h) (T : (rng a6) ∧ (rng (iv h 400 6)) ∧ ((a6 < (iv h 400 6) → (0 ≤ a6) ∧ (a6 < 5040) ∧ R 175 0 [.ref 400, .int (I a1), .int (I (iv h 434 a6))] [] h (fun v h2 => R 187 81 [.ref 400, .int (I a1), a2, a3, .int (I a4), .int (I a5), .int (I a6), a7] (v :: [.int (I a5)]) h2 P)) ∧ (¬ a6 < (iv h 400 6) → (rng a5) ∧ (rng (iv h 400 6)) ∧ R 188 0 [.long (J a5), .retAddr 0, .long (J (iv h 400 6)), .retAddr 0, .retAddr 0, .retAddr 0, .retAddr 0, .retAddr 0, .retAddr 0, .retAddr 0] [] h (fun v h2 => R 187 109 [.ref 400, .int (I a1), a2, a3, .int (I a4), .int (I a5), .int (I a6), a7] (v :: []) h2 P)))) : R 187 58 [.ref 400, .int (I a1), a2, a3, .int (I a4), .int (I a5), .int (I a6), a7] [] h P := by
  refine R_iload (Dat dd_Y_odds 30 rfl) rfl ?_
  refine R_aload_n (Dat dd_Y_odds 31 rfl) rfl rfl ?_
  refine R_geti (Dat dd_Y_odds 32 rfl) rfl rfl (tok S.t400) ?_
  obtain ⟨g1, T⟩ := T
  obtain ⟨g2, T⟩ := T
  refine R_ic_ge (Dat dd_Y_odds 33 rfl) rfl g1 g2 (fun c => ?_) (fun c => ?_)
  · replace T := T.1 c
    refine R_iload (Dat dd_Y_odds 34 rfl) rfl ?_
    refine R_aload_n (Dat dd_Y_odds 35 rfl) rfl rfl ?_
    refine R_iload_n (Dat dd_Y_odds 36 rfl) rfl ?_
    refine R_aload_n (Dat dd_Y_odds 37 rfl) rfl rfl ?_
    refine R_getr (Dat dd_Y_odds 38 rfl) rfl rfl (tok S.t400) S.f400_33 (q := 434) rfl (tnz S.t434) ?_
    refine R_iload (Dat dd_Y_odds 39 rfl) rfl ?_
    obtain ⟨g3, T⟩ := T
    obtain ⟨g4, T⟩ := T
    refine R_iaload (Dat dd_Y_odds 40 rfl) (Or.inl S.t434) (lnle (show ln h 434 = 5040 from S.l434) (by decide)) g3 (lnlt (show ln h 434 = 5040 from S.l434) g4) ?_
    exact R_call1 (Dat dd_Y_odds 41 rfl) rfl S.t400 rfl rfl rfl rfl rfl T
  · replace T := T.2 c
    refine R_iload (Dat dd_Y_odds 50 rfl) rfl ?_
    obtain ⟨g5, T⟩ := T
    refine R_i2l (Dat dd_Y_odds 51 rfl) g5 ?_
    refine R_aload_n (Dat dd_Y_odds 52 rfl) rfl rfl ?_
    refine R_geti (Dat dd_Y_odds 53 rfl) rfl rfl (tok S.t400) ?_
    obtain ⟨g6, T⟩ := T
    refine R_i2l (Dat dd_Y_odds 54 rfl) g6 ?_
    exact R_call0 (Dat dd_Y_odds 55 rfl) rfl rfl rfl rfl rfl rfl T
theorem t_Y_odds_81 {h : Hp} {P : Value → Hp → Prop} {a1 a4 a6 s0 s1 : Int} {a2 a3 a5 a7 : Value} (S : YS h) (T : (rng s0) ∧ ((s0 = 0 → R 187 58 [.ref 400, .int (I a1), a2, a3, .int (I a4), .int (I (s1 + 0)), .int (I (a6 + 1)), a7] [] h P) ∧ (¬ s0 = 0 → R 187 58 [.ref 400, .int (I a1), a2, a3, .int (I a4), .int (I (s1 + 1)), .int (I (a6 + 1)), a7] [] h P))) : R 187 81 [.ref 400, .int (I a1), a2, a3, .int (I a4), a5, .int (I a6), a7] [.int (I s0), .int (I s1)] h P := by
  obtain ⟨g1, T⟩ := T
  refine R_if_eq (Dat dd_Y_odds 42 rfl) rfl g1  (fun c => ?_) (fun c => ?_)
  · replace T := T.1 c
    refine R_iconst (Dat dd_Y_odds 45 rfl) ?_
    refine R_iadd (Dat dd_Y_odds 46 rfl) ?_
    refine R_istore (Dat dd_Y_odds 47 rfl) rfl rfl ?_
    refine R_iinc (Dat dd_Y_odds 48 rfl) rfl rfl rfl ?_
    refine R_goto (Dat dd_Y_odds 49 rfl) rfl ?_
    exact T
  · replace T := T.2 c
    refine R_iconst (Dat dd_Y_odds 43 rfl) ?_
    refine R_goto (Dat dd_Y_odds 44 rfl) rfl ?_
    refine R_iadd (Dat dd_Y_odds 46 rfl) ?_
    refine R_istore (Dat dd_Y_odds 47 rfl) rfl rfl ?_
    refine R_iinc (Dat dd_Y_odds 48 rfl) rfl rfl rfl ?_
    refine R_goto (Dat dd_Y_odds 49 rfl) rfl ?_
    exact T
theorem t_Y_odds_109 {h : Hp} {P : Value → Hp → Prop} {a4 a5 s0 : Int} {a1 a2 a3 a6 a7 : Value} (S : YS h) (T : (rng a4) ∧ ((a4 = 0 → (rng a5) ∧ (0 ≤ a5 ∧ a5 < 2147483648) ∧ (0 < s0 ∧ s0 < 2147483648) ∧ P (.long (J (a5 / s0))) h) ∧ (¬ a4 = 0 → (rng (iv h 400 6)) ∧ (0 ≤ (iv h 400 6) ∧ (iv h 400 6) < 2147483648) ∧ (0 < s0 ∧ s0 < 2147483648) ∧ P (.long (J ((iv h 400 6) / s0))) h))) : R 187 109 [.ref 400, a1, a2, a3, .int (I a4), .int (I a5), a6, a7] [.long (J s0)] h P := by
  refine R_lstore (Dat dd_Y_odds 56 rfl) rfl rfl ?_
  refine R_iload (Dat dd_Y_odds 57 rfl) rfl ?_
  obtain ⟨g1, T⟩ := T
  refine R_if_ne (Dat dd_Y_odds 58 rfl) rfl g1  (fun c => ?_) (fun c => ?_)
  · replace T := T.1 c
    refine R_iload (Dat dd_Y_odds 59 rfl) rfl ?_
    obtain ⟨g2, T⟩ := T
    refine R_i2l (Dat dd_Y_odds 60 rfl) g2 ?_
    refine R_lload (Dat dd_Y_odds 61 rfl) rfl ?_
    obtain ⟨g3, T⟩ := T
    obtain ⟨g4, T⟩ := T
    refine R_ldiv (Dat dd_Y_odds 62 rfl) g3 g4 ?_
    refine R_goto (Dat dd_Y_odds 63 rfl) rfl ?_
    exact R_lreturn (Dat dd_Y_odds 69 rfl) rfl T
  · replace T := T.2 c
    refine R_aload_n (Dat dd_Y_odds 64 rfl) rfl rfl ?_
    refine R_geti (Dat dd_Y_odds 65 rfl) rfl rfl (tok S.t400) ?_
    obtain ⟨g5, T⟩ := T
    refine R_i2l (Dat dd_Y_odds 66 rfl) g5 ?_
    refine R_lload (Dat dd_Y_odds 67 rfl) rfl ?_
    obtain ⟨g6, T⟩ := T
    obtain ⟨g7, T⟩ := T
    refine R_ldiv (Dat dd_Y_odds 68 rfl) g6 g7 ?_
    exact R_lreturn (Dat dd_Y_odds 69 rfl) rfl T
def dl_Y_common : List (Nat × Instr × Nat) := [(0, .lload_n 0, 1), (1, .lstore 4, 2), (3, .lload_n 2, 1), (4, .lstore 6, 2), (6, .lload 6, 2), (8, .lconst 0, 1), (9, .lcmp, 1), (10, .ifCond .eq 21, 3), (13, .lload 4, 2), (15, .lload 6, 2), (17, .lrem, 1), (18, .lstore 8, 2), (20, .lload 6, 2), (22, .lstore 4, 2), (24, .lload 8, 2), (26, .lstore 6, 2), (28, .goto (-22), 3), (31, .lload 4, 2), (33, .lreturn, 1)]
theorem dd_Y_common : Dall 188 dl_Y_common = true := by decide +kernel
theorem t_Y_common {h : Hp} {P : Value → Hp → Prop} {p0 p1 : Int} (T : R 188 6 [.long (J p0), .retAddr 0, .long (J p1), .retAddr 0, .long (J p0), .retAddr 0, .long (J p1), .retAddr 0, .retAddr 0, .retAddr 0] [] h P) : R 188 0 [.long (J p0), .retAddr 0, .long (J p1), .retAddr 0, .retAddr 0, .retAddr 0, .retAddr 0, .retAddr 0, .retAddr 0, .retAddr 0] [] h P := by
  refine R_lload_n (Dat dd_Y_common 0 rfl) rfl ?_
  refine R_lstore (Dat dd_Y_common 1 rfl) rfl rfl ?_
  refine R_lload_n (Dat dd_Y_common 2 rfl) rfl ?_
  refine R_lstore (Dat dd_Y_common 3 rfl) rfl rfl ?_
  exact T
theorem t_Y_common_6 {h : Hp} {P : Value → Hp → Prop} {a0 a2 a4 a6 : Int} {a8 a9 : Value} (T : (rng (lcp a6 0)) ∧ (((lcp a6 0) = 0 → P (.long (J a4)) h) ∧ (¬ (lcp a6 0) = 0 → (0 ≤ a4 ∧ a4 < 2147483648) ∧ (0 < a6 ∧ a6 < 2147483648) ∧ R 188 6 [.long (J a0), .retAddr 0, .long (J a2), .retAddr 0, .long (J a6), .retAddr 0, .long (J (a4 % a6)), .retAddr 0, .long (J (a4 % a6)), .retAddr 0] [] h P))) : R 188 6 [.long (J a0), .retAddr 0, .long (J a2), .retAddr 0, .long (J a4), .retAddr 0, .long (J a6), .retAddr 0, a8, a9] [] h P := by
  refine R_lload (Dat dd_Y_common 4 rfl) rfl ?_
  refine R_lconst (Dat dd_Y_common 5 rfl) ?_
  refine R_lcmp (Dat dd_Y_common 6 rfl) ?_
  obtain ⟨g1, T⟩ := T
  refine R_if_eq (Dat dd_Y_common 7 rfl) rfl g1  (fun c => ?_) (fun c => ?_)
  · replace T := T.1 c
    refine R_lload (Dat dd_Y_common 17 rfl) rfl ?_
    exact R_lreturn (Dat dd_Y_common 18 rfl) rfl T
  · replace T := T.2 c
    refine R_lload (Dat dd_Y_common 8 rfl) rfl ?_
    refine R_lload (Dat dd_Y_common 9 rfl) rfl ?_
    obtain ⟨g2, T⟩ := T
    obtain ⟨g3, T⟩ := T
    refine R_lrem (Dat dd_Y_common 10 rfl) g2 g3 ?_
    refine R_lstore (Dat dd_Y_common 11 rfl) rfl rfl ?_
    refine R_lload (Dat dd_Y_common 12 rfl) rfl ?_
    refine R_lstore (Dat dd_Y_common 13 rfl) rfl rfl ?_
    refine R_lload (Dat dd_Y_common 14 rfl) rfl ?_
    refine R_lstore (Dat dd_Y_common 15 rfl) rfl rfl ?_
    refine R_goto (Dat dd_Y_common 16 rfl) rfl ?_
    exact T
theorem t_Y_common_6b {h : Hp} {P : Value → Hp → Prop} {a0 a2 a4 a6 a8 : Int} (T : (rng (lcp a6 0)) ∧ (((lcp a6 0) = 0 → P (.long (J a4)) h) ∧ (¬ (lcp a6 0) = 0 → (0 ≤ a4 ∧ a4 < 2147483648) ∧ (0 < a6 ∧ a6 < 2147483648) ∧ R 188 6 [.long (J a0), .retAddr 0, .long (J a2), .retAddr 0, .long (J a6), .retAddr 0, .long (J (a4 % a6)), .retAddr 0, .long (J (a4 % a6)), .retAddr 0] [] h P))) : R 188 6 [.long (J a0), .retAddr 0, .long (J a2), .retAddr 0, .long (J a4), .retAddr 0, .long (J a6), .retAddr 0, .long (J a8), .retAddr 0] [] h P := by
  refine R_lload (Dat dd_Y_common 4 rfl) rfl ?_
  refine R_lconst (Dat dd_Y_common 5 rfl) ?_
  refine R_lcmp (Dat dd_Y_common 6 rfl) ?_
  obtain ⟨g1, T⟩ := T
  refine R_if_eq (Dat dd_Y_common 7 rfl) rfl g1  (fun c => ?_) (fun c => ?_)
  · replace T := T.1 c
    refine R_lload (Dat dd_Y_common 17 rfl) rfl ?_
    exact R_lreturn (Dat dd_Y_common 18 rfl) rfl T
  · replace T := T.2 c
    refine R_lload (Dat dd_Y_common 8 rfl) rfl ?_
    refine R_lload (Dat dd_Y_common 9 rfl) rfl ?_
    obtain ⟨g2, T⟩ := T
    obtain ⟨g3, T⟩ := T
    refine R_lrem (Dat dd_Y_common 10 rfl) g2 g3 ?_
    refine R_lstore (Dat dd_Y_common 11 rfl) rfl rfl ?_
    refine R_lload (Dat dd_Y_common 12 rfl) rfl ?_
    refine R_lstore (Dat dd_Y_common 13 rfl) rfl rfl ?_
    refine R_lload (Dat dd_Y_common 14 rfl) rfl ?_
    refine R_lstore (Dat dd_Y_common 15 rfl) rfl rfl ?_
    refine R_goto (Dat dd_Y_common 16 rfl) rfl ?_
    exact T
def dl_Y_reading : List (Nat × Instr × Nat) := [(0, .aload_n 0, 1), (1, .iload_n 1, 1), (2, .invokevirtual 142, 3), (5, .ifCond .eq 15, 3), (8, .iload_n 2, 1), (9, .ifCond .lt 11, 3), (12, .iload_n 2, 1), (13, .aload_n 0, 1), (14, .getfield 92, 3), (17, .if_icmp .lt 5, 3), (20, .iconst (-1), 1), (21, .ireturn, 1), (22, .aload_n 0, 1), (23, .getfield 128, 3), (26, .bipush 8, 2), (28, .if_icmp .ne 6, 3), (31, .bipush (-4), 2), (33, .ireturn, 1), (34, .aload_n 0, 1), (35, .getfield 77, 3), (38, .aload_n 0, 1), (39, .getfield 128, 3), (42, .iload_n 1, 1), (43, .iastore, 1), (44, .aload_n 0, 1), (45, .getfield 80, 3), (48, .aload_n 0, 1), (49, .getfield 128, 3), (52, .iload_n 2, 1), (53, .iastore, 1), (54, .aload_n 0, 1), (55, .dup, 1), (56, .getfield 128, 3), (59, .iconst 1, 1), (60, .iadd, 1), (61, .putfield 128, 3), (64, .aload_n 0, 1), (65, .getfield 128, 3), (68, .iconst 1, 1), (69, .isub, 1), (70, .ireturn, 1)]
theorem dd_Y_reading : Dall 189 dl_Y_reading = true := by decide +kernel
theorem t_Y_reading {h : Hp} {P : Value → Hp → Prop} {p0 p1 : Int} (S : YS h) (T : R 137 0 [.ref 400, .int (I p0)] [] h (fun v h2 => R 189 5 [.ref 400, .int (I p0), .int (I p1)] (v :: []) h2 P)) : R 189 0 [.ref 400, .int (I p0), .int (I p1)] [] h P := by
  refine R_aload_n (Dat dd_Y_reading 0 rfl) rfl rfl ?_
  refine R_iload_n (Dat dd_Y_reading 1 rfl) rfl ?_
  exact R_call1 (Dat dd_Y_reading 2 rfl) rfl S.t400 rfl rfl rfl rfl rfl T
theorem t_Y_reading_5 {h : Hp} {P : Value → Hp → Prop} {a1 a2 s0 : Int} (S : YS h) (T : (rng s0) ∧ ((s0 = 0 → P (.int (I (-1))) h) ∧ (¬ s0 = 0 → (rng a2) ∧ ((a2 < 0 → P (.int (I (-1))) h) ∧ (¬ a2 < 0 → (rng a2) ∧ (rng (iv h 400 5)) ∧ ((a2 < (iv h 400 5) → (rng (iv h 400 34)) ∧ (((iv h 400 34) = 8 → P (.int (I (-4))) h) ∧ (¬ (iv h 400 34) = 8 → (0 ≤ (iv h 400 34)) ∧ ((iv h 400 34) < 8) ∧ (0 ≤ (iv (setI h 436 (iv h 400 34) (wr a1)) 400 34)) ∧ ((iv (setI h 436 (iv h 400 34) (wr a1)) 400 34) < 8) ∧ P (.int (I ((iv (setI (setI (setI h 436 (iv h 400 34) (wr a1)) 437 (iv (setI h 436 (iv h 400 34) (wr a1)) 400 34) (wr a2)) 400 34 (wr ((iv (setI (setI h 436 (iv h 400 34) (wr a1)) 437 (iv (setI h 436 (iv h 400 34) (wr a1)) 400 34) (wr a2)) 400 34) + 1))) 400 34) - 1))) (setI (setI (setI h 436 (iv h 400 34) (wr a1)) 437 (iv (setI h 436 (iv h 400 34) (wr a1)) 400 34) (wr a2)) 400 34 (wr ((iv (setI (setI h 436 (iv h 400 34) (wr a1)) 437 (iv (setI h 436 (iv h 400 34) (wr a1)) 400 34) (wr a2)) 400 34) + 1)))))) ∧ (¬ a2 < (iv h 400 5) → P (.int (I (-1))) h))))))) : R 189 5 [.ref 400, .int (I a1), .int (I a2)] [.int (I s0)] h P := by
  obtain ⟨g1, T⟩ := T
  refine R_if_eq (Dat dd_Y_reading 3 rfl) rfl g1  (fun c => ?_) (fun c => ?_)
  · replace T := T.1 c
    refine R_iconst (Dat dd_Y_reading 10 rfl) ?_
    exact R_ireturn (Dat dd_Y_reading 11 rfl) rfl T
  · replace T := T.2 c
    refine R_iload_n (Dat dd_Y_reading 4 rfl) rfl ?_
    obtain ⟨g2, T⟩ := T
    refine R_if_lt (Dat dd_Y_reading 5 rfl) rfl g2  (fun c => ?_) (fun c => ?_)
    · replace T := T.1 c
      refine R_iconst (Dat dd_Y_reading 10 rfl) ?_
      exact R_ireturn (Dat dd_Y_reading 11 rfl) rfl T
    · replace T := T.2 c
      refine R_iload_n (Dat dd_Y_reading 6 rfl) rfl ?_
      refine R_aload_n (Dat dd_Y_reading 7 rfl) rfl rfl ?_
      refine R_geti (Dat dd_Y_reading 8 rfl) rfl rfl (tok S.t400) ?_
      obtain ⟨g3, T⟩ := T
      obtain ⟨g4, T⟩ := T
      refine R_ic_lt (Dat dd_Y_reading 9 rfl) rfl g3 g4 (fun c => ?_) (fun c => ?_)
      · replace T := T.1 c
        refine R_aload_n (Dat dd_Y_reading 12 rfl) rfl rfl ?_
        refine R_geti (Dat dd_Y_reading 13 rfl) rfl rfl (tok S.t400) ?_
        refine R_bipush (Dat dd_Y_reading 14 rfl) (a := 8) rfl ?_
        obtain ⟨g5, T⟩ := T
        refine R_ic_ne (Dat dd_Y_reading 15 rfl) rfl g5 (by decide) (fun c => ?_) (fun c => ?_)
        · replace T := T.1 c
          refine R_bipush (Dat dd_Y_reading 16 rfl) (a := (-4)) rfl ?_
          exact R_ireturn (Dat dd_Y_reading 17 rfl) rfl T
        · replace T := T.2 c
          refine R_aload_n (Dat dd_Y_reading 18 rfl) rfl rfl ?_
          refine R_getr (Dat dd_Y_reading 19 rfl) rfl rfl (tok S.t400) S.f400_35 (q := 436) rfl (tnz S.t436) ?_
          refine R_aload_n (Dat dd_Y_reading 20 rfl) rfl rfl ?_
          refine R_geti (Dat dd_Y_reading 21 rfl) rfl rfl (tok S.t400) ?_
          refine R_iload_n (Dat dd_Y_reading 22 rfl) rfl ?_
          obtain ⟨g6, T⟩ := T
          obtain ⟨g7, T⟩ := T
          refine R_iastore (Dat dd_Y_reading 23 rfl) S.t436 (lnle (show ln h 436 = 8 from S.l436) (by decide)) g6 (lnlt (show ln h 436 = 8 from S.l436) g7) (v := wr a1) rfl ?_
          refine R_aload_n (Dat dd_Y_reading 24 rfl) rfl rfl ?_
          refine R_getr (Dat dd_Y_reading 25 rfl) rfl rfl (tok S.t400) S.f400_36 (q := 437) rfl (tnz S.t437) ?_
          refine R_aload_n (Dat dd_Y_reading 26 rfl) rfl rfl ?_
          refine R_geti (Dat dd_Y_reading 27 rfl) rfl rfl (tok S.t400) ?_
          refine R_iload_n (Dat dd_Y_reading 28 rfl) rfl ?_
          obtain ⟨g8, T⟩ := T
          obtain ⟨g9, T⟩ := T
          refine R_iastore (Dat dd_Y_reading 29 rfl) S.t437 (lnle (show ln (setI h 436 (iv h 400 34) (wr a1)) 437 = 8 from S.l437) (by decide)) g8 (lnlt (show ln (setI h 436 (iv h 400 34) (wr a1)) 437 = 8 from S.l437) g9) (v := wr a2) rfl ?_
          refine R_aload_n (Dat dd_Y_reading 30 rfl) rfl rfl ?_
          refine R_dup (Dat dd_Y_reading 31 rfl) rfl ?_
          refine R_geti (Dat dd_Y_reading 32 rfl) rfl rfl (tok S.t400) ?_
          refine R_iconst (Dat dd_Y_reading 33 rfl) ?_
          refine R_iadd (Dat dd_Y_reading 34 rfl) ?_
          refine R_puti (Dat dd_Y_reading 35 rfl) rfl rfl rfl (tok S.t400) rfl (v := wr ((iv (setI (setI h 436 (iv h 400 34) (wr a1)) 437 (iv (setI h 436 (iv h 400 34) (wr a1)) 400 34) (wr a2)) 400 34) + 1)) rfl ?_
          refine R_aload_n (Dat dd_Y_reading 36 rfl) rfl rfl ?_
          refine R_geti (Dat dd_Y_reading 37 rfl) rfl rfl (tok S.t400) ?_
          refine R_iconst (Dat dd_Y_reading 38 rfl) ?_
          refine R_isub (Dat dd_Y_reading 39 rfl) ?_
          exact R_ireturn (Dat dd_Y_reading 40 rfl) rfl T
      · replace T := T.2 c
        refine R_iconst (Dat dd_Y_reading 10 rfl) ?_
        exact R_ireturn (Dat dd_Y_reading 11 rfl) rfl T
def dl_Y_back : List (Nat × Instr × Nat) := [(0, .iload_n 1, 1), (1, .iconst 0, 1), (2, .aload_n 0, 1), (3, .getfield 128, 3), (6, .invokestatic 88, 3), (9, .ifCond .ne 6, 3), (12, .bipush (-2), 2), (14, .ireturn, 1), (15, .aload_n 0, 1), (16, .dup, 1), (17, .getfield 128, 3), (20, .iload_n 1, 1), (21, .isub, 1), (22, .putfield 128, 3), (25, .aload_n 0, 1), (26, .getfield 128, 3), (29, .ireturn, 1)]
theorem dd_Y_back : Dall 190 dl_Y_back = true := by decide +kernel
theorem t_Y_back {h : Hp} {P : Value → Hp → Prop} {p0 : Int} (S : YS h) (T : R 129 0 [.int (I p0), .int (I 0), .int (I (iv h 400 34))] [] h (fun v h2 => R 190 9 [.ref 400, .int (I p0)] (v :: []) h2 P)) : R 190 0 [.ref 400, .int (I p0)] [] h P := by
  refine R_iload_n (Dat dd_Y_back 0 rfl) rfl ?_
  refine R_iconst (Dat dd_Y_back 1 rfl) ?_
  refine R_aload_n (Dat dd_Y_back 2 rfl) rfl rfl ?_
  refine R_geti (Dat dd_Y_back 3 rfl) rfl rfl (tok S.t400) ?_
  exact R_call0 (Dat dd_Y_back 4 rfl) rfl rfl rfl rfl rfl rfl T
theorem t_Y_back_9 {h : Hp} {P : Value → Hp → Prop} {a1 s0 : Int} (S : YS h) (T : (rng s0) ∧ ((s0 = 0 → P (.int (I (-2))) h) ∧ (¬ s0 = 0 → P (.int (I (iv (setI h 400 34 (wr ((iv h 400 34) - a1))) 400 34))) (setI h 400 34 (wr ((iv h 400 34) - a1)))))) : R 190 9 [.ref 400, .int (I a1)] [.int (I s0)] h P := by
  obtain ⟨g1, T⟩ := T
  refine R_if_ne (Dat dd_Y_back 5 rfl) rfl g1  (fun c => ?_) (fun c => ?_)
  · replace T := T.1 c
    refine R_bipush (Dat dd_Y_back 6 rfl) (a := (-2)) rfl ?_
    exact R_ireturn (Dat dd_Y_back 7 rfl) rfl T
  · replace T := T.2 c
    refine R_aload_n (Dat dd_Y_back 8 rfl) rfl rfl ?_
    refine R_dup (Dat dd_Y_back 9 rfl) rfl ?_
    refine R_geti (Dat dd_Y_back 10 rfl) rfl rfl (tok S.t400) ?_
    refine R_iload_n (Dat dd_Y_back 11 rfl) rfl ?_
    refine R_isub (Dat dd_Y_back 12 rfl) ?_
    refine R_puti (Dat dd_Y_back 13 rfl) rfl rfl rfl (tok S.t400) rfl (v := wr ((iv h 400 34) - a1)) rfl ?_
    refine R_aload_n (Dat dd_Y_back 14 rfl) rfl rfl ?_
    refine R_geti (Dat dd_Y_back 15 rfl) rfl rfl (tok S.t400) ?_
    exact R_ireturn (Dat dd_Y_back 16 rfl) rfl T
def dl_Y_fits : List (Nat × Instr × Nat) := [(0, .aload_n 0, 1), (1, .iload_n 1, 1), (2, .invokevirtual 158, 3), (5, .ifCond .ne 5, 3), (8, .iconst (-1), 1), (9, .ireturn, 1), (10, .iload_n 2, 1), (11, .invokestatic 180, 3), (14, .ifCond .ne 6, 3), (17, .bipush (-2), 2), (19, .ireturn, 1), (20, .aload_n 0, 1), (21, .getfield 161, 3), (24, .ifCond .ne 6, 3), (27, .bipush (-3), 2), (29, .ireturn, 1), (30, .iconst 0, 1), (31, .istore_n 3, 1), (32, .aload_n 0, 1), (33, .iload_n 1, 1), (34, .invokevirtual 154, 3), (37, .iconst 0, 1), (38, .istore 4, 2), (40, .iload 4, 2), (42, .bipush 31, 2), (44, .if_icmp .ge 36, 3), (47, .iload_n 3, 1), (48, .aload_n 0, 1), (49, .invokevirtual 249, 3), (52, .ifCond .eq 10, 3), (55, .iconst 1, 1), (56, .iload 4, 2), (58, .ishl, 1), (59, .goto 4, 3), (62, .iconst 0, 1), (63, .ior, 1), (64, .istore_n 3, 1), (65, .aload_n 0, 1), (66, .aload_n 0, 1), (67, .getfield 173, 3), (70, .iload_n 2, 1), (71, .invokevirtual 194, 3), (74, .iinc 4 1, 3), (77, .goto (-37), 3), (80, .iload_n 3, 1), (81, .ireturn, 1)]
theorem dd_Y_fits : Dall 191 dl_Y_fits = true := by decide +kernel
theorem t_Y_fits {h : Hp} {P : Value → Hp → Prop} {p0 p1 : Int} (S : YS h) (T : R 146 0 [.ref 400, .int (I p0)] [] h (fun v h2 => R 191 5 [.ref 400, .int (I p0), .int (I p1), .retAddr 0, .retAddr 0] (v :: []) h2 P)) : R 191 0 [.ref 400, .int (I p0), .int (I p1), .retAddr 0, .retAddr 0] [] h P := by
  refine R_aload_n (Dat dd_Y_fits 0 rfl) rfl rfl ?_
  refine R_iload_n (Dat dd_Y_fits 1 rfl) rfl ?_
  exact R_call1 (Dat dd_Y_fits 2 rfl) rfl S.t400 rfl rfl rfl rfl rfl T
theorem t_Y_fits_5 {h : Hp} {P : Value → Hp → Prop} {a1 a2 s0 : Int} {a3 a4 : Value} (S : YS h) (T : (rng s0) ∧ ((s0 = 0 → P (.int (I (-1))) h) ∧ (¬ s0 = 0 → R 155 0 [.int (I a2)] [] h (fun v h2 => R 191 14 [.ref 400, .int (I a1), .int (I a2), a3, a4] (v :: []) h2 P)))) : R 191 5 [.ref 400, .int (I a1), .int (I a2), a3, a4] [.int (I s0)] h P := by
  obtain ⟨g1, T⟩ := T
  refine R_if_ne (Dat dd_Y_fits 3 rfl) rfl g1  (fun c => ?_) (fun c => ?_)
  · replace T := T.1 c
    refine R_iconst (Dat dd_Y_fits 4 rfl) ?_
    exact R_ireturn (Dat dd_Y_fits 5 rfl) rfl T
  · replace T := T.2 c
    refine R_iload_n (Dat dd_Y_fits 6 rfl) rfl ?_
    exact R_call0 (Dat dd_Y_fits 7 rfl) rfl rfl rfl rfl rfl rfl T
theorem t_Y_fits_14 {h : Hp} {P : Value → Hp → Prop} {a1 a2 s0 : Int} {a3 a4 : Value} (S : YS h) (T : (rng s0) ∧ ((s0 = 0 → P (.int (I (-2))) h) ∧ (¬ s0 = 0 → (rng (iv h 400 18)) ∧ (((iv h 400 18) = 0 → P (.int (I (-3))) h) ∧ (¬ (iv h 400 18) = 0 → R 141 0 [.ref 400, .int (I a1), .retAddr 0, .retAddr 0, .retAddr 0, .retAddr 0, .retAddr 0, .retAddr 0] [] h (fun _ h2 => R 191 37 [.ref 400, .int (I a1), .int (I a2), .int (I 0), a4] [] h2 P)))))) : R 191 14 [.ref 400, .int (I a1), .int (I a2), a3, a4] [.int (I s0)] h P := by
  obtain ⟨g1, T⟩ := T
  refine R_if_ne (Dat dd_Y_fits 8 rfl) rfl g1  (fun c => ?_) (fun c => ?_)
  · replace T := T.1 c
    refine R_bipush (Dat dd_Y_fits 9 rfl) (a := (-2)) rfl ?_
    exact R_ireturn (Dat dd_Y_fits 10 rfl) rfl T
  · replace T := T.2 c
    refine R_aload_n (Dat dd_Y_fits 11 rfl) rfl rfl ?_
    refine R_geti (Dat dd_Y_fits 12 rfl) rfl rfl (tok S.t400) ?_
    obtain ⟨g2, T⟩ := T
    refine R_if_ne (Dat dd_Y_fits 13 rfl) rfl g2  (fun c => ?_) (fun c => ?_)
    · replace T := T.1 c
      refine R_bipush (Dat dd_Y_fits 14 rfl) (a := (-3)) rfl ?_
      exact R_ireturn (Dat dd_Y_fits 15 rfl) rfl T
    · replace T := T.2 c
      refine R_iconst (Dat dd_Y_fits 16 rfl) ?_
      refine R_istore_n (Dat dd_Y_fits 17 rfl) rfl rfl ?_
      refine R_aload_n (Dat dd_Y_fits 18 rfl) rfl rfl ?_
      refine R_iload_n (Dat dd_Y_fits 19 rfl) rfl ?_
      exact R_call1 (Dat dd_Y_fits 20 rfl) rfl S.t400 rfl rfl rfl rfl rfl T
theorem t_Y_fits_37 {h : Hp} {P : Value → Hp → Prop} {a2 a3 : Int} {a1 a4 : Value} (S : YS h) (T : R 191 40 [.ref 400, a1, .int (I a2), .int (I a3), .int (I 0)] [] h P) : R 191 37 [.ref 400, a1, .int (I a2), .int (I a3), a4] [] h P := by
  refine R_iconst (Dat dd_Y_fits 21 rfl) ?_
  refine R_istore (Dat dd_Y_fits 22 rfl) rfl rfl ?_
  exact T
theorem t_Y_fits_40 {h : Hp} {P : Value → Hp → Prop} {a2 a3 a4 : Int} {a1 : Value} (S : YS h) (T : (rng a4) ∧ ((a4 < 31 → R 192 0 [.ref 400, .retAddr 0] [] h (fun v h2 => R 191 52 [.ref 400, a1, .int (I a2), .int (I a3), .int (I a4)] (v :: [.int (I a3)]) h2 P)) ∧ (¬ a4 < 31 → P (.int (I a3)) h))) : R 191 40 [.ref 400, a1, .int (I a2), .int (I a3), .int (I a4)] [] h P := by
  refine R_iload (Dat dd_Y_fits 23 rfl) rfl ?_
  refine R_bipush (Dat dd_Y_fits 24 rfl) (a := 31) rfl ?_
  obtain ⟨g1, T⟩ := T
  refine R_ic_ge (Dat dd_Y_fits 25 rfl) rfl g1 (by decide) (fun c => ?_) (fun c => ?_)
  · replace T := T.1 c
    refine R_iload_n (Dat dd_Y_fits 26 rfl) rfl ?_
    refine R_aload_n (Dat dd_Y_fits 27 rfl) rfl rfl ?_
    exact R_call1 (Dat dd_Y_fits 28 rfl) rfl S.t400 rfl rfl rfl rfl rfl T
  · replace T := T.2 c
    refine R_iload_n (Dat dd_Y_fits 44 rfl) rfl ?_
    exact R_ireturn (Dat dd_Y_fits 45 rfl) rfl T
theorem t_Y_fits_52 {h : Hp} {P : Value → Hp → Prop} {a2 a4 s0 s1 : Int} {a1 a3 : Value} (S : YS h) (T : (rng s0) ∧ ((s0 = 0 → R 159 0 [.ref 400, .int (I (iv h 400 19)), .int (I a2), .retAddr 0, .retAddr 0] [] h (fun _ h2 => R 191 74 [.ref 400, a1, .int (I a2), .int (I (bor s1 0)), .int (I a4)] [] h2 P)) ∧ (¬ s0 = 0 → R 159 0 [.ref 400, .int (I (iv h 400 19)), .int (I a2), .retAddr 0, .retAddr 0] [] h (fun _ h2 => R 191 74 [.ref 400, a1, .int (I a2), .int (I (bor s1 (shl 1 a4))), .int (I a4)] [] h2 P)))) : R 191 52 [.ref 400, a1, .int (I a2), a3, .int (I a4)] [.int (I s0), .int (I s1)] h P := by
  obtain ⟨g1, T⟩ := T
  refine R_if_eq (Dat dd_Y_fits 29 rfl) rfl g1  (fun c => ?_) (fun c => ?_)
  · replace T := T.1 c
    refine R_iconst (Dat dd_Y_fits 34 rfl) ?_
    refine R_ior (Dat dd_Y_fits 35 rfl) ?_
    refine R_istore_n (Dat dd_Y_fits 36 rfl) rfl rfl ?_
    refine R_aload_n (Dat dd_Y_fits 37 rfl) rfl rfl ?_
    refine R_aload_n (Dat dd_Y_fits 38 rfl) rfl rfl ?_
    refine R_geti (Dat dd_Y_fits 39 rfl) rfl rfl (tok S.t400) ?_
    refine R_iload_n (Dat dd_Y_fits 40 rfl) rfl ?_
    exact R_call1 (Dat dd_Y_fits 41 rfl) rfl S.t400 rfl rfl rfl rfl rfl T
  · replace T := T.2 c
    refine R_iconst (Dat dd_Y_fits 30 rfl) ?_
    refine R_iload (Dat dd_Y_fits 31 rfl) rfl ?_
    refine R_ishl (Dat dd_Y_fits 32 rfl) ?_
    refine R_goto (Dat dd_Y_fits 33 rfl) rfl ?_
    refine R_ior (Dat dd_Y_fits 35 rfl) ?_
    refine R_istore_n (Dat dd_Y_fits 36 rfl) rfl rfl ?_
    refine R_aload_n (Dat dd_Y_fits 37 rfl) rfl rfl ?_
    refine R_aload_n (Dat dd_Y_fits 38 rfl) rfl rfl ?_
    refine R_geti (Dat dd_Y_fits 39 rfl) rfl rfl (tok S.t400) ?_
    refine R_iload_n (Dat dd_Y_fits 40 rfl) rfl ?_
    exact R_call1 (Dat dd_Y_fits 41 rfl) rfl S.t400 rfl rfl rfl rfl rfl T
theorem t_Y_fits_74 {h : Hp} {P : Value → Hp → Prop} {a2 a3 a4 : Int} {a1 : Value} (S : YS h) (T : R 191 40 [.ref 400, a1, .int (I a2), .int (I a3), .int (I (a4 + 1))] [] h P) : R 191 74 [.ref 400, a1, .int (I a2), .int (I a3), .int (I a4)] [] h P := by
  refine R_iinc (Dat dd_Y_fits 42 rfl) rfl rfl rfl ?_
  refine R_goto (Dat dd_Y_fits 43 rfl) rfl ?_
  exact T
def dl_Y_isRead : List (Nat × Instr × Nat) := [(0, .iconst 0, 1), (1, .istore_n 1, 1), (2, .iload_n 1, 1), (3, .aload_n 0, 1), (4, .getfield 128, 3), (7, .if_icmp .ge 31, 3), (10, .aload_n 0, 1), (11, .getfield 37, 3), (14, .aload_n 0, 1), (15, .getfield 80, 3), (18, .iload_n 1, 1), (19, .iaload, 1), (20, .iaload, 1), (21, .aload_n 0, 1), (22, .getfield 77, 3), (25, .iload_n 1, 1), (26, .iaload, 1), (27, .if_icmp .eq 5, 3), (30, .iconst 0, 1), (31, .ireturn, 1), (32, .iinc 1 1, 3), (35, .goto (-33), 3), (38, .iconst 1, 1), (39, .ireturn, 1)]
theorem dd_Y_isRead : Dall 192 dl_Y_isRead = true := by decide +kernel
theorem t_Y_isRead {h : Hp} {P : Value → Hp → Prop}  (S : YS h) (T : R 192 2 [.ref 400, .int (I 0)] [] h P) : R 192 0 [.ref 400, .retAddr 0] [] h P := by
  refine R_iconst (Dat dd_Y_isRead 0 rfl) ?_
  refine R_istore_n (Dat dd_Y_isRead 1 rfl) rfl rfl ?_
  exact T
theorem t_Y_isRead_2 {h : Hp} {P : Value → Hp → Prop} {a1 : Int} (S : YS h) (T : (rng a1) ∧ (rng (iv h 400 34)) ∧ ((a1 < (iv h 400 34) → (0 ≤ a1) ∧ (a1 < 8) ∧ (0 ≤ (iv h 437 a1)) ∧ ((iv h 437 a1) < 7) ∧ (0 ≤ a1) ∧ (a1 < 8) ∧ (rng (iv h 418 (iv h 437 a1))) ∧ (rng (iv h 436 a1)) ∧ (((iv h 418 (iv h 437 a1)) = (iv h 436 a1) → R 192 2 [.ref 400, .int (I (a1 + 1))] [] h P) ∧ (¬ (iv h 418 (iv h 437 a1)) = (iv h 436 a1) → P (.int (I 0)) h))) ∧ (¬ a1 < (iv h 400 34) → P (.int (I 1)) h))) : R 192 2 [.ref 400, .int (I a1)] [] h P := by
  refine R_iload_n (Dat dd_Y_isRead 2 rfl) rfl ?_
  refine R_aload_n (Dat dd_Y_isRead 3 rfl) rfl rfl ?_
  refine R_geti (Dat dd_Y_isRead 4 rfl) rfl rfl (tok S.t400) ?_
  obtain ⟨g1, T⟩ := T
  obtain ⟨g2, T⟩ := T
  refine R_ic_ge (Dat dd_Y_isRead 5 rfl) rfl g1 g2 (fun c => ?_) (fun c => ?_)
  · replace T := T.1 c
    refine R_aload_n (Dat dd_Y_isRead 6 rfl) rfl rfl ?_
    refine R_getr (Dat dd_Y_isRead 7 rfl) rfl rfl (tok S.t400) S.f400_17 (q := 418) rfl (tnz S.t418) ?_
    refine R_aload_n (Dat dd_Y_isRead 8 rfl) rfl rfl ?_
    refine R_getr (Dat dd_Y_isRead 9 rfl) rfl rfl (tok S.t400) S.f400_36 (q := 437) rfl (tnz S.t437) ?_
    refine R_iload_n (Dat dd_Y_isRead 10 rfl) rfl ?_
    obtain ⟨g3, T⟩ := T
    obtain ⟨g4, T⟩ := T
    refine R_iaload (Dat dd_Y_isRead 11 rfl) (Or.inl S.t437) (lnle (show ln h 437 = 8 from S.l437) (by decide)) g3 (lnlt (show ln h 437 = 8 from S.l437) g4) ?_
    obtain ⟨g5, T⟩ := T
    obtain ⟨g6, T⟩ := T
    refine R_iaload (Dat dd_Y_isRead 12 rfl) (Or.inl S.t418) (lnle (show ln h 418 = 7 from S.l418) (by decide)) g5 (lnlt (show ln h 418 = 7 from S.l418) g6) ?_
    refine R_aload_n (Dat dd_Y_isRead 13 rfl) rfl rfl ?_
    refine R_getr (Dat dd_Y_isRead 14 rfl) rfl rfl (tok S.t400) S.f400_35 (q := 436) rfl (tnz S.t436) ?_
    refine R_iload_n (Dat dd_Y_isRead 15 rfl) rfl ?_
    obtain ⟨g7, T⟩ := T
    obtain ⟨g8, T⟩ := T
    refine R_iaload (Dat dd_Y_isRead 16 rfl) (Or.inl S.t436) (lnle (show ln h 436 = 8 from S.l436) (by decide)) g7 (lnlt (show ln h 436 = 8 from S.l436) g8) ?_
    obtain ⟨g9, T⟩ := T
    obtain ⟨g10, T⟩ := T
    refine R_ic_eq (Dat dd_Y_isRead 17 rfl) rfl g9 g10 (fun c => ?_) (fun c => ?_)
    · replace T := T.1 c
      refine R_iinc (Dat dd_Y_isRead 20 rfl) rfl rfl rfl ?_
      refine R_goto (Dat dd_Y_isRead 21 rfl) rfl ?_
      exact T
    · replace T := T.2 c
      refine R_iconst (Dat dd_Y_isRead 18 rfl) ?_
      exact R_ireturn (Dat dd_Y_isRead 19 rfl) rfl T
  · replace T := T.2 c
    refine R_iconst (Dat dd_Y_isRead 22 rfl) ?_
    exact R_ireturn (Dat dd_Y_isRead 23 rfl) rfl T
def dl_Y_which : List (Nat × Instr × Nat) := [(0, .aload_n 0, 1), (1, .iconst 0, 1), (2, .putfield 83, 3), (5, .iload_n 3, 1), (6, .invokestatic 101, 3), (9, .ifCond .eq 19, 3), (12, .aload_n 0, 1), (13, .iload_n 1, 1), (14, .invokevirtual 158, 3), (17, .ifCond .eq 11, 3), (20, .aload_n 0, 1), (21, .iload_n 2, 1), (22, .invokevirtual 158, 3), (25, .ifCond .ne 5, 3), (28, .iconst (-1), 1), (29, .ireturn, 1), (30, .iload 4, 2), (32, .invokestatic 105, 3), (35, .ifCond .ne 6, 3), (38, .bipush (-2), 2), (40, .ireturn, 1), (41, .aload_n 0, 1), (42, .iload_n 3, 1), (43, .iload 4, 2), (45, .iload 5, 2), (47, .iload 6, 2), (49, .invokevirtual 108, 3), (52, .istore 7, 2), (54, .iload 7, 2), (56, .ifCond .eq 10, 3), (59, .aload_n 0, 1), (60, .iload 7, 2), (62, .invokevirtual 112, 3), (65, .ireturn, 1), (66, .bipush 60, 2), (68, .iload_n 3, 1), (69, .imul, 1), (70, .iload 5, 2), (72, .iadd, 1), (73, .istore 8, 2), (75, .aload_n 0, 1), (76, .iload 8, 2), (78, .iload 6, 2), (80, .invokevirtual 202, 3), (83, .ifCond .ne 6, 3), (86, .bipush (-2), 2), (88, .ireturn, 1), (89, .iconst 0, 1), (90, .istore 9, 2), (92, .iconst 0, 1), (93, .istore 10, 2), (95, .iload 10, 2), (97, .aload_n 0, 1), (98, .getfield 161, 3), (101, .if_icmp .ge 67, 3), (104, .aload_n 0, 1), (105, .iload_n 1, 1), (106, .invokevirtual 154, 3), (109, .iconst 0, 1), (110, .istore 11, 2), (112, .iload 11, 2), (114, .iload 6, 2), (116, .if_icmp .ge 25, 3), (119, .aload_n 0, 1), (120, .iload 10, 2), (122, .aload_n 0, 1), (123, .getfield 16, 3), (126, .iload 8, 2), (128, .iload 11, 2), (130, .iadd, 1), (131, .iaload, 1), (132, .invokevirtual 194, 3), (135, .iinc 11 1, 3), (138, .goto (-26), 3), (141, .iload 9, 2), (143, .aload_n 0, 1), (144, .invokevirtual 198, 3), (147, .iload_n 2, 1), (148, .if_icmp .ne 10, 3), (151, .iconst 1, 1), (152, .iload 10, 2), (154, .ishl, 1), (155, .goto 4, 3), (158, .iconst 0, 1), (159, .ior, 1), (160, .istore 9, 2), (162, .iinc 10 1, 3), (165, .goto (-70), 3), (168, .iload 9, 2), (170, .ireturn, 1)]
theorem dd_Y_which : Dall 193 dl_Y_which = true := by decide +kernel
theorem t_Y_which {h : Hp} {P : Value → Hp → Prop} {p0 p1 p2 p3 p4 p5 : Int} (S : YS h) (T : R 128 0 [.int (I p2)] [] (setI h 400 0 0) (fun v h2 => R 193 9 [.ref 400, .int (I p0), .int (I p1), .int (I p2), .int (I p3), .int (I p4), .int (I p5), .retAddr 0, .retAddr 0, .retAddr 0, .retAddr 0, .retAddr 0] (v :: []) h2 P)) : R 193 0 [.ref 400, .int (I p0), .int (I p1), .int (I p2), .int (I p3), .int (I p4), .int (I p5), .retAddr 0, .retAddr 0, .retAddr 0, .retAddr 0, .retAddr 0] [] h P := by
  refine R_aload_n (Dat dd_Y_which 0 rfl) rfl rfl ?_
  refine R_iconst (Dat dd_Y_which 1 rfl) ?_
  refine R_puti (Dat dd_Y_which 2 rfl) rfl rfl rfl (tok S.t400) rfl (v := 0) rfl ?_
  refine R_iload_n (Dat dd_Y_which 3 rfl) rfl ?_
  exact R_call0 (Dat dd_Y_which 4 rfl) rfl rfl rfl rfl rfl rfl T
theorem t_Y_which_9 {h : Hp} {P : Value → Hp → Prop} {a1 a2 a3 a4 a5 a6 s0 : Int} {a7 a8 a9 a10 a11 : Value} (S : YS h) (T : (rng s0) ∧ ((s0 = 0 → P (.int (I (-1))) h) ∧ (¬ s0 = 0 → R 146 0 [.ref 400, .int (I a1)] [] h (fun v h2 => R 193 17 [.ref 400, .int (I a1), .int (I a2), .int (I a3), .int (I a4), .int (I a5), .int (I a6), a7, a8, a9, a10, a11] (v :: []) h2 P)))) : R 193 9 [.ref 400, .int (I a1), .int (I a2), .int (I a3), .int (I a4), .int (I a5), .int (I a6), a7, a8, a9, a10, a11] [.int (I s0)] h P := by
  obtain ⟨g1, T⟩ := T
  refine R_if_eq (Dat dd_Y_which 5 rfl) rfl g1  (fun c => ?_) (fun c => ?_)
  · replace T := T.1 c
    refine R_iconst (Dat dd_Y_which 14 rfl) ?_
    exact R_ireturn (Dat dd_Y_which 15 rfl) rfl T
  · replace T := T.2 c
    refine R_aload_n (Dat dd_Y_which 6 rfl) rfl rfl ?_
    refine R_iload_n (Dat dd_Y_which 7 rfl) rfl ?_
    exact R_call1 (Dat dd_Y_which 8 rfl) rfl S.t400 rfl rfl rfl rfl rfl T
theorem t_Y_which_17 {h : Hp} {P : Value → Hp → Prop} {a1 a2 a3 a4 a5 a6 s0 : Int} {a7 a8 a9 a10 a11 : Value} (S : YS h) (T : (rng s0) ∧ ((s0 = 0 → P (.int (I (-1))) h) ∧ (¬ s0 = 0 → R 146 0 [.ref 400, .int (I a2)] [] h (fun v h2 => R 193 25 [.ref 400, .int (I a1), .int (I a2), .int (I a3), .int (I a4), .int (I a5), .int (I a6), a7, a8, a9, a10, a11] (v :: []) h2 P)))) : R 193 17 [.ref 400, .int (I a1), .int (I a2), .int (I a3), .int (I a4), .int (I a5), .int (I a6), a7, a8, a9, a10, a11] [.int (I s0)] h P := by
  obtain ⟨g1, T⟩ := T
  refine R_if_eq (Dat dd_Y_which 9 rfl) rfl g1  (fun c => ?_) (fun c => ?_)
  · replace T := T.1 c
    refine R_iconst (Dat dd_Y_which 14 rfl) ?_
    exact R_ireturn (Dat dd_Y_which 15 rfl) rfl T
  · replace T := T.2 c
    refine R_aload_n (Dat dd_Y_which 10 rfl) rfl rfl ?_
    refine R_iload_n (Dat dd_Y_which 11 rfl) rfl ?_
    exact R_call1 (Dat dd_Y_which 12 rfl) rfl S.t400 rfl rfl rfl rfl rfl T
theorem t_Y_which_25 {h : Hp} {P : Value → Hp → Prop} {a1 a2 a3 a4 a5 a6 s0 : Int} {a7 a8 a9 a10 a11 : Value} (S : YS h) (T : (rng s0) ∧ ((s0 = 0 → P (.int (I (-1))) h) ∧ (¬ s0 = 0 → R 130 0 [.int (I a4)] [] h (fun v h2 => R 193 35 [.ref 400, .int (I a1), .int (I a2), .int (I a3), .int (I a4), .int (I a5), .int (I a6), a7, a8, a9, a10, a11] (v :: []) h2 P)))) : R 193 25 [.ref 400, .int (I a1), .int (I a2), .int (I a3), .int (I a4), .int (I a5), .int (I a6), a7, a8, a9, a10, a11] [.int (I s0)] h P := by
  obtain ⟨g1, T⟩ := T
  refine R_if_ne (Dat dd_Y_which 13 rfl) rfl g1  (fun c => ?_) (fun c => ?_)
  · replace T := T.1 c
    refine R_iconst (Dat dd_Y_which 14 rfl) ?_
    exact R_ireturn (Dat dd_Y_which 15 rfl) rfl T
  · replace T := T.2 c
    refine R_iload (Dat dd_Y_which 16 rfl) rfl ?_
    exact R_call0 (Dat dd_Y_which 17 rfl) rfl rfl rfl rfl rfl rfl T
theorem t_Y_which_35 {h : Hp} {P : Value → Hp → Prop} {a1 a2 a3 a4 a5 a6 s0 : Int} {a7 a8 a9 a10 a11 : Value} (S : YS h) (T : (rng s0) ∧ ((s0 = 0 → P (.int (I (-2))) h) ∧ (¬ s0 = 0 → R 131 0 [.ref 400, .int (I a3), .int (I a4), .int (I a5), .int (I a6)] [] h (fun v h2 => R 193 52 [.ref 400, .int (I a1), .int (I a2), .int (I a3), .int (I a4), .int (I a5), .int (I a6), a7, a8, a9, a10, a11] (v :: []) h2 P)))) : R 193 35 [.ref 400, .int (I a1), .int (I a2), .int (I a3), .int (I a4), .int (I a5), .int (I a6), a7, a8, a9, a10, a11] [.int (I s0)] h P := by
  obtain ⟨g1, T⟩ := T
  refine R_if_ne (Dat dd_Y_which 18 rfl) rfl g1  (fun c => ?_) (fun c => ?_)
  · replace T := T.1 c
    refine R_bipush (Dat dd_Y_which 19 rfl) (a := (-2)) rfl ?_
    exact R_ireturn (Dat dd_Y_which 20 rfl) rfl T
  · replace T := T.2 c
    refine R_aload_n (Dat dd_Y_which 21 rfl) rfl rfl ?_
    refine R_iload_n (Dat dd_Y_which 22 rfl) rfl ?_
    refine R_iload (Dat dd_Y_which 23 rfl) rfl ?_
    refine R_iload (Dat dd_Y_which 24 rfl) rfl ?_
    refine R_iload (Dat dd_Y_which 25 rfl) rfl ?_
    exact R_call1 (Dat dd_Y_which 26 rfl) rfl S.t400 rfl rfl rfl rfl rfl T
theorem t_Y_which_52 {h : Hp} {P : Value → Hp → Prop} {a1 a2 a3 a5 a6 s0 : Int} {a4 a7 a8 a9 a10 a11 : Value} (S : YS h) (T : (rng s0) ∧ ((s0 = 0 → R 163 0 [.ref 400, .int (I ((60 * a3) + a5)), .int (I a6), .retAddr 0] [] h (fun v h2 => R 193 83 [.ref 400, .int (I a1), .int (I a2), .int (I a3), a4, .int (I a5), .int (I a6), .int (I s0), .int (I ((60 * a3) + a5)), a9, a10, a11] (v :: []) h2 P)) ∧ (¬ s0 = 0 → R 132 0 [.ref 400, .int (I s0)] [] h (fun v h2 => R 193 65 [.ref 400, .int (I a1), .int (I a2), .int (I a3), a4, .int (I a5), .int (I a6), .int (I s0), a8, a9, a10, a11] (v :: []) h2 P)))) : R 193 52 [.ref 400, .int (I a1), .int (I a2), .int (I a3), a4, .int (I a5), .int (I a6), a7, a8, a9, a10, a11] [.int (I s0)] h P := by
  refine R_istore (Dat dd_Y_which 27 rfl) rfl rfl ?_
  refine R_iload (Dat dd_Y_which 28 rfl) rfl ?_
  obtain ⟨g1, T⟩ := T
  refine R_if_eq (Dat dd_Y_which 29 rfl) rfl g1  (fun c => ?_) (fun c => ?_)
  · replace T := T.1 c
    refine R_bipush (Dat dd_Y_which 34 rfl) (a := 60) rfl ?_
    refine R_iload_n (Dat dd_Y_which 35 rfl) rfl ?_
    refine R_imul (Dat dd_Y_which 36 rfl) ?_
    refine R_iload (Dat dd_Y_which 37 rfl) rfl ?_
    refine R_iadd (Dat dd_Y_which 38 rfl) ?_
    refine R_istore (Dat dd_Y_which 39 rfl) rfl rfl ?_
    refine R_aload_n (Dat dd_Y_which 40 rfl) rfl rfl ?_
    refine R_iload (Dat dd_Y_which 41 rfl) rfl ?_
    refine R_iload (Dat dd_Y_which 42 rfl) rfl ?_
    exact R_call1 (Dat dd_Y_which 43 rfl) rfl S.t400 rfl rfl rfl rfl rfl T
  · replace T := T.2 c
    refine R_aload_n (Dat dd_Y_which 30 rfl) rfl rfl ?_
    refine R_iload (Dat dd_Y_which 31 rfl) rfl ?_
    exact R_call1 (Dat dd_Y_which 32 rfl) rfl S.t400 rfl rfl rfl rfl rfl T
theorem t_Y_which_83 {h : Hp} {P : Value → Hp → Prop} {a1 a2 a6 a8 s0 : Int} {a3 a4 a5 a7 a9 a10 a11 : Value} (S : YS h) (T : (rng s0) ∧ ((s0 = 0 → P (.int (I (-2))) h) ∧ (¬ s0 = 0 → R 193 95 [.ref 400, .int (I a1), .int (I a2), a3, a4, a5, .int (I a6), a7, .int (I a8), .int (I 0), .int (I 0), a11] [] h P))) : R 193 83 [.ref 400, .int (I a1), .int (I a2), a3, a4, a5, .int (I a6), a7, .int (I a8), a9, a10, a11] [.int (I s0)] h P := by
  obtain ⟨g1, T⟩ := T
  refine R_if_ne (Dat dd_Y_which 44 rfl) rfl g1  (fun c => ?_) (fun c => ?_)
  · replace T := T.1 c
    refine R_bipush (Dat dd_Y_which 45 rfl) (a := (-2)) rfl ?_
    exact R_ireturn (Dat dd_Y_which 46 rfl) rfl T
  · replace T := T.2 c
    refine R_iconst (Dat dd_Y_which 47 rfl) ?_
    refine R_istore (Dat dd_Y_which 48 rfl) rfl rfl ?_
    refine R_iconst (Dat dd_Y_which 49 rfl) ?_
    refine R_istore (Dat dd_Y_which 50 rfl) rfl rfl ?_
    exact T
theorem t_Y_which_65 {h : Hp} {P : Value → Hp → Prop} {s0 : Int} {a0 a1 a2 a3 a4 a5 a6 a7 a8 a9 a10 a11 : Value} (S : YS h) (T : P (.int (I s0)) h) : R 193 65 [a0, a1, a2, a3, a4, a5, a6, a7, a8, a9, a10, a11] [.int (I s0)] h P := by
  exact R_ireturn (Dat dd_Y_which 33 rfl) rfl T
theorem t_Y_which_95 {h : Hp} {P : Value → Hp → Prop} {a1 a2 a6 a8 a9 a10 : Int} {a3 a4 a5 a7 a11 : Value} (S : YS h) (T : (rng a10) ∧ (rng (iv h 400 18)) ∧ ((a10 < (iv h 400 18) → R 141 0 [.ref 400, .int (I a1), .retAddr 0, .retAddr 0, .retAddr 0, .retAddr 0, .retAddr 0, .retAddr 0] [] h (fun _ h2 => R 193 109 [.ref 400, .int (I a1), .int (I a2), a3, a4, a5, .int (I a6), a7, .int (I a8), .int (I a9), .int (I a10), a11] [] h2 P)) ∧ (¬ a10 < (iv h 400 18) → P (.int (I a9)) h))) : R 193 95 [.ref 400, .int (I a1), .int (I a2), a3, a4, a5, .int (I a6), a7, .int (I a8), .int (I a9), .int (I a10), a11] [] h P := by
  refine R_iload (Dat dd_Y_which 51 rfl) rfl ?_
  refine R_aload_n (Dat dd_Y_which 52 rfl) rfl rfl ?_
  refine R_geti (Dat dd_Y_which 53 rfl) rfl rfl (tok S.t400) ?_
  obtain ⟨g1, T⟩ := T
  obtain ⟨g2, T⟩ := T
  refine R_ic_ge (Dat dd_Y_which 54 rfl) rfl g1 g2 (fun c => ?_) (fun c => ?_)
  · replace T := T.1 c
    refine R_aload_n (Dat dd_Y_which 55 rfl) rfl rfl ?_
    refine R_iload_n (Dat dd_Y_which 56 rfl) rfl ?_
    exact R_call1 (Dat dd_Y_which 57 rfl) rfl S.t400 rfl rfl rfl rfl rfl T
  · replace T := T.2 c
    refine R_iload (Dat dd_Y_which 88 rfl) rfl ?_
    exact R_ireturn (Dat dd_Y_which 89 rfl) rfl T
theorem t_Y_which_109 {h : Hp} {P : Value → Hp → Prop} {a1 a2 a6 a8 a9 a10 : Int} {a3 a4 a5 a7 a11 : Value} (S : YS h) (T : R 193 112 [.ref 400, .int (I a1), .int (I a2), a3, a4, a5, .int (I a6), a7, .int (I a8), .int (I a9), .int (I a10), .int (I 0)] [] h P) : R 193 109 [.ref 400, .int (I a1), .int (I a2), a3, a4, a5, .int (I a6), a7, .int (I a8), .int (I a9), .int (I a10), a11] [] h P := by
  refine R_iconst (Dat dd_Y_which 58 rfl) ?_
  refine R_istore (Dat dd_Y_which 59 rfl) rfl rfl ?_
  exact T
theorem t_Y_which_112 {h : Hp} {P : Value → Hp → Prop} {a1 a2 a6 a8 a9 a10 a11 : Int} {a3 a4 a5 a7 : Value} (S : YS h) (T : (rng a11) ∧ (rng a6) ∧ ((a11 < a6 → (0 ≤ (a8 + a11)) ∧ ((a8 + a11) < 240) ∧ R 159 0 [.ref 400, .int (I a10), .int (I (iv h 405 (a8 + a11))), .retAddr 0, .retAddr 0] [] h (fun _ h2 => R 193 135 [.ref 400, .int (I a1), .int (I a2), a3, a4, a5, .int (I a6), a7, .int (I a8), .int (I a9), .int (I a10), .int (I a11)] [] h2 P)) ∧ (¬ a11 < a6 → R 161 0 [.ref 400, .retAddr 0, .retAddr 0, .retAddr 0, .retAddr 0] [] h (fun v h2 => R 193 147 [.ref 400, .int (I a1), .int (I a2), a3, a4, a5, .int (I a6), a7, .int (I a8), .int (I a9), .int (I a10), .int (I a11)] (v :: [.int (I a9)]) h2 P)))) : R 193 112 [.ref 400, .int (I a1), .int (I a2), a3, a4, a5, .int (I a6), a7, .int (I a8), .int (I a9), .int (I a10), .int (I a11)] [] h P := by
  refine R_iload (Dat dd_Y_which 60 rfl) rfl ?_
  refine R_iload (Dat dd_Y_which 61 rfl) rfl ?_
  obtain ⟨g1, T⟩ := T
  obtain ⟨g2, T⟩ := T
  refine R_ic_ge (Dat dd_Y_which 62 rfl) rfl g1 g2 (fun c => ?_) (fun c => ?_)
  · replace T := T.1 c
    refine R_aload_n (Dat dd_Y_which 63 rfl) rfl rfl ?_
    refine R_iload (Dat dd_Y_which 64 rfl) rfl ?_
    refine R_aload_n (Dat dd_Y_which 65 rfl) rfl rfl ?_
    refine R_getr (Dat dd_Y_which 66 rfl) rfl rfl (tok S.t400) S.f400_4 (q := 405) rfl (tnz S.t405) ?_
    refine R_iload (Dat dd_Y_which 67 rfl) rfl ?_
    refine R_iload (Dat dd_Y_which 68 rfl) rfl ?_
    refine R_iadd (Dat dd_Y_which 69 rfl) ?_
    obtain ⟨g3, T⟩ := T
    obtain ⟨g4, T⟩ := T
    refine R_iaload (Dat dd_Y_which 70 rfl) (Or.inl S.t405) (lnle (show ln h 405 = 240 from S.l405) (by decide)) g3 (lnlt (show ln h 405 = 240 from S.l405) g4) ?_
    exact R_call1 (Dat dd_Y_which 71 rfl) rfl S.t400 rfl rfl rfl rfl rfl T
  · replace T := T.2 c
    refine R_iload (Dat dd_Y_which 74 rfl) rfl ?_
    refine R_aload_n (Dat dd_Y_which 75 rfl) rfl rfl ?_
    exact R_call1 (Dat dd_Y_which 76 rfl) rfl S.t400 rfl rfl rfl rfl rfl T
theorem t_Y_which_135 {h : Hp} {P : Value → Hp → Prop} {a1 a2 a6 a8 a9 a10 a11 : Int} {a3 a4 a5 a7 : Value} (S : YS h) (T : R 193 112 [.ref 400, .int (I a1), .int (I a2), a3, a4, a5, .int (I a6), a7, .int (I a8), .int (I a9), .int (I a10), .int (I (a11 + 1))] [] h P) : R 193 135 [.ref 400, .int (I a1), .int (I a2), a3, a4, a5, .int (I a6), a7, .int (I a8), .int (I a9), .int (I a10), .int (I a11)] [] h P := by
  refine R_iinc (Dat dd_Y_which 72 rfl) rfl rfl rfl ?_
  refine R_goto (Dat dd_Y_which 73 rfl) rfl ?_
  exact T
theorem t_Y_which_147 {h : Hp} {P : Value → Hp → Prop} {a1 a2 a6 a8 a10 s0 s1 : Int} {a3 a4 a5 a7 a9 a11 : Value} (S : YS h) (T : (rng s0) ∧ (rng a2) ∧ ((s0 = a2 → R 193 95 [.ref 400, .int (I a1), .int (I a2), a3, a4, a5, .int (I a6), a7, .int (I a8), .int (I (bor s1 (shl 1 a10))), .int (I (a10 + 1)), a11] [] h P) ∧ (¬ s0 = a2 → R 193 95 [.ref 400, .int (I a1), .int (I a2), a3, a4, a5, .int (I a6), a7, .int (I a8), .int (I (bor s1 0)), .int (I (a10 + 1)), a11] [] h P))) : R 193 147 [.ref 400, .int (I a1), .int (I a2), a3, a4, a5, .int (I a6), a7, .int (I a8), a9, .int (I a10), a11] [.int (I s0), .int (I s1)] h P := by
  refine R_iload_n (Dat dd_Y_which 77 rfl) rfl ?_
  obtain ⟨g1, T⟩ := T
  obtain ⟨g2, T⟩ := T
  refine R_ic_ne (Dat dd_Y_which 78 rfl) rfl g1 g2 (fun c => ?_) (fun c => ?_)
  · replace T := T.1 c
    refine R_iconst (Dat dd_Y_which 79 rfl) ?_
    refine R_iload (Dat dd_Y_which 80 rfl) rfl ?_
    refine R_ishl (Dat dd_Y_which 81 rfl) ?_
    refine R_goto (Dat dd_Y_which 82 rfl) rfl ?_
    refine R_ior (Dat dd_Y_which 84 rfl) ?_
    refine R_istore (Dat dd_Y_which 85 rfl) rfl rfl ?_
    refine R_iinc (Dat dd_Y_which 86 rfl) rfl rfl rfl ?_
    refine R_goto (Dat dd_Y_which 87 rfl) rfl ?_
    exact T
  · replace T := T.2 c
    refine R_iconst (Dat dd_Y_which 83 rfl) ?_
    refine R_ior (Dat dd_Y_which 84 rfl) ?_
    refine R_istore (Dat dd_Y_which 85 rfl) rfl rfl ?_
    refine R_iinc (Dat dd_Y_which 86 rfl) rfl rfl rfl ?_
    refine R_goto (Dat dd_Y_which 87 rfl) rfl ?_
    exact T
def dl_Y_bears : List (Nat × Instr × Nat) := [(0, .iload_n 1, 1), (1, .invokestatic 180, 3), (4, .ifCond .eq 13, 3), (7, .iload_n 2, 1), (8, .iconst 0, 1), (9, .bipush 99, 2), (11, .invokestatic 88, 3), (14, .ifCond .ne 6, 3), (17, .bipush (-2), 2), (19, .ireturn, 1), (20, .aload_n 0, 1), (21, .getfield 92, 3), (24, .ifCond .eq 10, 3), (27, .aload_n 0, 1), (28, .getfield 161, 3), (31, .ifCond .ne 6, 3), (34, .bipush (-3), 2), (36, .ireturn, 1), (37, .aload_n 0, 1), (38, .invokevirtual 215, 3), (41, .aload_n 0, 1), (42, .getfield 122, 3), (45, .istore_n 3, 1), (46, .iconst 0, 1), (47, .istore 4, 2), (49, .aload_n 0, 1), (50, .getfield 59, 3), (53, .iload_n 3, 1), (54, .iaload, 1), (55, .bipush (-9), 2), (57, .if_icmp .ne 43, 3), (60, .aload_n 0, 1), (61, .iload_n 3, 1), (62, .iconst 0, 1), (63, .invokevirtual 227, 3), (66, .iload_n 2, 1), (67, .if_icmp .ge 8, 3), (70, .iload 4, 2), (72, .iconst 1, 1), (73, .isub, 1), (74, .ireturn, 1), (75, .aload_n 0, 1), (76, .getfield 59, 3), (79, .iload_n 3, 1), (80, .iload 4, 2), (82, .iastore, 1), (83, .iinc 4 1, 3), (86, .aload_n 0, 1), (87, .aload_n 0, 1), (88, .getfield 173, 3), (91, .iload_n 3, 1), (92, .iload_n 1, 1), (93, .invokevirtual 211, 3), (96, .istore_n 3, 1), (97, .goto (-48), 3), (100, .bipush (-9), 2), (102, .ireturn, 1)]
theorem dd_Y_bears : Dall 194 dl_Y_bears = true := by decide +kernel
theorem t_Y_bears {h : Hp} {P : Value → Hp → Prop} {p0 p1 : Int} (S : YS h) (T : R 155 0 [.int (I p0)] [] h (fun v h2 => R 194 4 [.ref 400, .int (I p0), .int (I p1), .retAddr 0, .retAddr 0] (v :: []) h2 P)) : R 194 0 [.ref 400, .int (I p0), .int (I p1), .retAddr 0, .retAddr 0] [] h P := by
  refine R_iload_n (Dat dd_Y_bears 0 rfl) rfl ?_
  exact R_call0 (Dat dd_Y_bears 1 rfl) rfl rfl rfl rfl rfl rfl T
theorem t_Y_bears_4 {h : Hp} {P : Value → Hp → Prop} {a1 a2 s0 : Int} {a3 a4 : Value} (S : YS h) (T : (rng s0) ∧ ((s0 = 0 → P (.int (I (-2))) h) ∧ (¬ s0 = 0 → R 129 0 [.int (I a2), .int (I 0), .int (I 99)] [] h (fun v h2 => R 194 14 [.ref 400, .int (I a1), .int (I a2), a3, a4] (v :: []) h2 P)))) : R 194 4 [.ref 400, .int (I a1), .int (I a2), a3, a4] [.int (I s0)] h P := by
  obtain ⟨g1, T⟩ := T
  refine R_if_eq (Dat dd_Y_bears 2 rfl) rfl g1  (fun c => ?_) (fun c => ?_)
  · replace T := T.1 c
    refine R_bipush (Dat dd_Y_bears 8 rfl) (a := (-2)) rfl ?_
    exact R_ireturn (Dat dd_Y_bears 9 rfl) rfl T
  · replace T := T.2 c
    refine R_iload_n (Dat dd_Y_bears 3 rfl) rfl ?_
    refine R_iconst (Dat dd_Y_bears 4 rfl) ?_
    refine R_bipush (Dat dd_Y_bears 5 rfl) (a := 99) rfl ?_
    exact R_call0 (Dat dd_Y_bears 6 rfl) rfl rfl rfl rfl rfl rfl T
theorem t_Y_bears_14 {h : Hp} {P : Value → Hp → Prop} {a1 a2 s0 : Int} {a3 a4 : Value} (S : YS h) (T : (rng s0) ∧ ((s0 = 0 → P (.int (I (-2))) h) ∧ (¬ s0 = 0 → (rng (iv h 400 5)) ∧ (((iv h 400 5) = 0 → P (.int (I (-3))) h) ∧ (¬ (iv h 400 5) = 0 → (rng (iv h 400 18)) ∧ (((iv h 400 18) = 0 → P (.int (I (-3))) h) ∧ (¬ (iv h 400 18) = 0 → R 171 0 [.ref 400, .retAddr 0] [] h (fun _ h2 => R 194 41 [.ref 400, .int (I a1), .int (I a2), a3, a4] [] h2 P)))))))) : R 194 14 [.ref 400, .int (I a1), .int (I a2), a3, a4] [.int (I s0)] h P := by
  obtain ⟨g1, T⟩ := T
  refine R_if_ne (Dat dd_Y_bears 7 rfl) rfl g1  (fun c => ?_) (fun c => ?_)
  · replace T := T.1 c
    refine R_bipush (Dat dd_Y_bears 8 rfl) (a := (-2)) rfl ?_
    exact R_ireturn (Dat dd_Y_bears 9 rfl) rfl T
  · replace T := T.2 c
    refine R_aload_n (Dat dd_Y_bears 10 rfl) rfl rfl ?_
    refine R_geti (Dat dd_Y_bears 11 rfl) rfl rfl (tok S.t400) ?_
    obtain ⟨g2, T⟩ := T
    refine R_if_eq (Dat dd_Y_bears 12 rfl) rfl g2  (fun c => ?_) (fun c => ?_)
    · replace T := T.1 c
      refine R_bipush (Dat dd_Y_bears 16 rfl) (a := (-3)) rfl ?_
      exact R_ireturn (Dat dd_Y_bears 17 rfl) rfl T
    · replace T := T.2 c
      refine R_aload_n (Dat dd_Y_bears 13 rfl) rfl rfl ?_
      refine R_geti (Dat dd_Y_bears 14 rfl) rfl rfl (tok S.t400) ?_
      obtain ⟨g3, T⟩ := T
      refine R_if_ne (Dat dd_Y_bears 15 rfl) rfl g3  (fun c => ?_) (fun c => ?_)
      · replace T := T.1 c
        refine R_bipush (Dat dd_Y_bears 16 rfl) (a := (-3)) rfl ?_
        exact R_ireturn (Dat dd_Y_bears 17 rfl) rfl T
      · replace T := T.2 c
        refine R_aload_n (Dat dd_Y_bears 18 rfl) rfl rfl ?_
        exact R_call1 (Dat dd_Y_bears 19 rfl) rfl S.t400 rfl rfl rfl rfl rfl T
theorem t_Y_bears_41 {h : Hp} {P : Value → Hp → Prop} {a1 a2 : Int} {a3 a4 : Value} (S : YS h) (T : R 194 49 [.ref 400, .int (I a1), .int (I a2), .int (I (iv h 400 7)), .int (I 0)] [] h P) : R 194 41 [.ref 400, .int (I a1), .int (I a2), a3, a4] [] h P := by
  refine R_aload_n (Dat dd_Y_bears 20 rfl) rfl rfl ?_
  refine R_geti (Dat dd_Y_bears 21 rfl) rfl rfl (tok S.t400) ?_
  refine R_istore_n (Dat dd_Y_bears 22 rfl) rfl rfl ?_
  refine R_iconst (Dat dd_Y_bears 23 rfl) ?_
  refine R_istore (Dat dd_Y_bears 24 rfl) rfl rfl ?_
  exact T
theorem t_Y_bears_49 {h : Hp} {P : Value → Hp → Prop} {a1 a2 a3 a4 : Int} (S : YS h) (T : (0 ≤ a3) ∧ (a3 < 5040) ∧ (rng (iv h 428 a3)) ∧ (((iv h 428 a3) = (-9) → R 178 0 [.ref 400, .int (I a3), .int (I 0), .retAddr 0, .retAddr 0, .retAddr 0, .retAddr 0] [] h (fun v h2 => R 194 66 [.ref 400, .int (I a1), .int (I a2), .int (I a3), .int (I a4)] (v :: []) h2 P)) ∧ (¬ (iv h 428 a3) = (-9) → P (.int (I (-9))) h))) : R 194 49 [.ref 400, .int (I a1), .int (I a2), .int (I a3), .int (I a4)] [] h P := by
  refine R_aload_n (Dat dd_Y_bears 25 rfl) rfl rfl ?_
  refine R_getr (Dat dd_Y_bears 26 rfl) rfl rfl (tok S.t400) S.f400_27 (q := 428) rfl (tnz S.t428) ?_
  refine R_iload_n (Dat dd_Y_bears 27 rfl) rfl ?_
  obtain ⟨g1, T⟩ := T
  obtain ⟨g2, T⟩ := T
  refine R_iaload (Dat dd_Y_bears 28 rfl) (Or.inl S.t428) (lnle (show ln h 428 = 5040 from S.l428) (by decide)) g1 (lnlt (show ln h 428 = 5040 from S.l428) g2) ?_
  refine R_bipush (Dat dd_Y_bears 29 rfl) (a := (-9)) rfl ?_
  obtain ⟨g3, T⟩ := T
  refine R_ic_ne (Dat dd_Y_bears 30 rfl) rfl g3 (by decide) (fun c => ?_) (fun c => ?_)
  · replace T := T.1 c
    refine R_aload_n (Dat dd_Y_bears 31 rfl) rfl rfl ?_
    refine R_iload_n (Dat dd_Y_bears 32 rfl) rfl ?_
    refine R_iconst (Dat dd_Y_bears 33 rfl) ?_
    exact R_call1 (Dat dd_Y_bears 34 rfl) rfl S.t400 rfl rfl rfl rfl rfl T
  · replace T := T.2 c
    refine R_bipush (Dat dd_Y_bears 55 rfl) (a := (-9)) rfl ?_
    exact R_ireturn (Dat dd_Y_bears 56 rfl) rfl T
theorem t_Y_bears_66 {h : Hp} {P : Value → Hp → Prop} {a1 a2 a3 a4 s0 : Int} (S : YS h) (T : (rng s0) ∧ (rng a2) ∧ ((s0 < a2 → P (.int (I (a4 - 1))) h) ∧ (¬ s0 < a2 → (0 ≤ a3) ∧ (a3 < 5040) ∧ R 169 0 [.ref 400, .int (I (iv (setI h 428 a3 (wr a4)) 400 19)), .int (I a3), .int (I a1)] [] (setI h 428 a3 (wr a4)) (fun v h2 => R 194 96 [.ref 400, .int (I a1), .int (I a2), .int (I a3), .int (I (a4 + 1))] (v :: []) h2 P)))) : R 194 66 [.ref 400, .int (I a1), .int (I a2), .int (I a3), .int (I a4)] [.int (I s0)] h P := by
  refine R_iload_n (Dat dd_Y_bears 35 rfl) rfl ?_
  obtain ⟨g1, T⟩ := T
  obtain ⟨g2, T⟩ := T
  refine R_ic_ge (Dat dd_Y_bears 36 rfl) rfl g1 g2 (fun c => ?_) (fun c => ?_)
  · replace T := T.1 c
    refine R_iload (Dat dd_Y_bears 37 rfl) rfl ?_
    refine R_iconst (Dat dd_Y_bears 38 rfl) ?_
    refine R_isub (Dat dd_Y_bears 39 rfl) ?_
    exact R_ireturn (Dat dd_Y_bears 40 rfl) rfl T
  · replace T := T.2 c
    refine R_aload_n (Dat dd_Y_bears 41 rfl) rfl rfl ?_
    refine R_getr (Dat dd_Y_bears 42 rfl) rfl rfl (tok S.t400) S.f400_27 (q := 428) rfl (tnz S.t428) ?_
    refine R_iload_n (Dat dd_Y_bears 43 rfl) rfl ?_
    refine R_iload (Dat dd_Y_bears 44 rfl) rfl ?_
    obtain ⟨g3, T⟩ := T
    obtain ⟨g4, T⟩ := T
    refine R_iastore (Dat dd_Y_bears 45 rfl) S.t428 (lnle (show ln h 428 = 5040 from S.l428) (by decide)) g3 (lnlt (show ln h 428 = 5040 from S.l428) g4) (v := wr a4) rfl ?_
    refine R_iinc (Dat dd_Y_bears 46 rfl) rfl rfl rfl ?_
    refine R_aload_n (Dat dd_Y_bears 47 rfl) rfl rfl ?_
    refine R_aload_n (Dat dd_Y_bears 48 rfl) rfl rfl ?_
    refine R_geti (Dat dd_Y_bears 49 rfl) rfl rfl (tok S.t400) ?_
    refine R_iload_n (Dat dd_Y_bears 50 rfl) rfl ?_
    refine R_iload_n (Dat dd_Y_bears 51 rfl) rfl ?_
    exact R_call1 (Dat dd_Y_bears 52 rfl) rfl S.t400 rfl rfl rfl rfl rfl T
theorem t_Y_bears_96 {h : Hp} {P : Value → Hp → Prop} {a1 a2 a4 s0 : Int} {a3 : Value} (S : YS h) (T : R 194 49 [.ref 400, .int (I a1), .int (I a2), .int (I s0), .int (I a4)] [] h P) : R 194 96 [.ref 400, .int (I a1), .int (I a2), a3, .int (I a4)] [.int (I s0)] h P := by
  refine R_istore_n (Dat dd_Y_bears 53 rfl) rfl rfl ?_
  refine R_goto (Dat dd_Y_bears 54 rfl) rfl ?_
  exact T
def dl_Y_sheet : List (Nat × Instr × Nat) := [(0, .aload_n 0, 1), (1, .iconst 0, 1), (2, .putfield 83, 3), (5, .iload_n 1, 1), (6, .invokestatic 101, 3), (9, .ifCond .ne 5, 3), (12, .iconst (-1), 1), (13, .ireturn, 1), (14, .iload_n 2, 1), (15, .invokestatic 105, 3), (18, .ifCond .eq 9, 3), (21, .iload_n 3, 1), (22, .bipush 60, 2), (24, .if_icmp .le 6, 3), (27, .bipush (-2), 2), (29, .ireturn, 1), (30, .iload_n 3, 1), (31, .ifCond .ge 9, 3), (34, .aload_n 0, 1), (35, .iconst 4, 1), (36, .invokevirtual 112, 3), (39, .ireturn, 1), (40, .aload_n 0, 1), (41, .getfield 9, 3), (44, .iload_n 1, 1), (45, .iload_n 2, 1), (46, .iastore, 1), (47, .aload_n 0, 1), (48, .getfield 13, 3), (51, .iload_n 1, 1), (52, .iload_n 3, 1), (53, .iastore, 1), (54, .iconst 0, 1), (55, .istore 4, 2), (57, .iload 4, 2), (59, .bipush 60, 2), (61, .if_icmp .ge 22, 3), (64, .aload_n 0, 1), (65, .getfield 16, 3), (68, .bipush 60, 2), (70, .iload_n 1, 1), (71, .imul, 1), (72, .iload 4, 2), (74, .iadd, 1), (75, .iconst 0, 1), (76, .iastore, 1), (77, .iinc 4 1, 3), (80, .goto (-23), 3), (83, .iconst 1, 1), (84, .ireturn, 1)]
theorem dd_Y_sheet : Dall 195 dl_Y_sheet = true := by decide +kernel
theorem t_Y_sheet {h : Hp} {P : Value → Hp → Prop} {p0 p1 p2 : Int} (S : YS h) (T : R 128 0 [.int (I p0)] [] (setI h 400 0 0) (fun v h2 => R 195 9 [.ref 400, .int (I p0), .int (I p1), .int (I p2), .retAddr 0] (v :: []) h2 P)) : R 195 0 [.ref 400, .int (I p0), .int (I p1), .int (I p2), .retAddr 0] [] h P := by
  refine R_aload_n (Dat dd_Y_sheet 0 rfl) rfl rfl ?_
  refine R_iconst (Dat dd_Y_sheet 1 rfl) ?_
  refine R_puti (Dat dd_Y_sheet 2 rfl) rfl rfl rfl (tok S.t400) rfl (v := 0) rfl ?_
  refine R_iload_n (Dat dd_Y_sheet 3 rfl) rfl ?_
  exact R_call0 (Dat dd_Y_sheet 4 rfl) rfl rfl rfl rfl rfl rfl T
theorem t_Y_sheet_9 {h : Hp} {P : Value → Hp → Prop} {a1 a2 a3 s0 : Int} {a4 : Value} (S : YS h) (T : (rng s0) ∧ ((s0 = 0 → P (.int (I (-1))) h) ∧ (¬ s0 = 0 → R 130 0 [.int (I a2)] [] h (fun v h2 => R 195 18 [.ref 400, .int (I a1), .int (I a2), .int (I a3), a4] (v :: []) h2 P)))) : R 195 9 [.ref 400, .int (I a1), .int (I a2), .int (I a3), a4] [.int (I s0)] h P := by
  obtain ⟨g1, T⟩ := T
  refine R_if_ne (Dat dd_Y_sheet 5 rfl) rfl g1  (fun c => ?_) (fun c => ?_)
  · replace T := T.1 c
    refine R_iconst (Dat dd_Y_sheet 6 rfl) ?_
    exact R_ireturn (Dat dd_Y_sheet 7 rfl) rfl T
  · replace T := T.2 c
    refine R_iload_n (Dat dd_Y_sheet 8 rfl) rfl ?_
    exact R_call0 (Dat dd_Y_sheet 9 rfl) rfl rfl rfl rfl rfl rfl T
theorem t_Y_sheet_18 {h : Hp} {P : Value → Hp → Prop} {a1 a2 a3 s0 : Int} {a4 : Value} (S : YS h) (T : (rng s0) ∧ ((s0 = 0 → P (.int (I (-2))) h) ∧ (¬ s0 = 0 → (rng a3) ∧ (((60 : Int) < a3 → P (.int (I (-2))) h) ∧ (¬ (60 : Int) < a3 → (rng a3) ∧ ((a3 < 0 → R 132 0 [.ref 400, .int (I 4)] [] h (fun v h2 => R 195 39 [.ref 400, .int (I a1), .int (I a2), .int (I a3), a4] (v :: []) h2 P)) ∧ (¬ a3 < 0 → (0 ≤ a1) ∧ (a1 < 4) ∧ (0 ≤ a1) ∧ (a1 < 4) ∧ R 195 57 [.ref 400, .int (I a1), .int (I a2), .int (I a3), .int (I 0)] [] (setI (setI h 403 a1 (wr a2)) 404 a1 (wr a3)) P))))))) : R 195 18 [.ref 400, .int (I a1), .int (I a2), .int (I a3), a4] [.int (I s0)] h P := by
  obtain ⟨g1, T⟩ := T
  refine R_if_eq (Dat dd_Y_sheet 10 rfl) rfl g1  (fun c => ?_) (fun c => ?_)
  · replace T := T.1 c
    refine R_bipush (Dat dd_Y_sheet 14 rfl) (a := (-2)) rfl ?_
    exact R_ireturn (Dat dd_Y_sheet 15 rfl) rfl T
  · replace T := T.2 c
    refine R_iload_n (Dat dd_Y_sheet 11 rfl) rfl ?_
    refine R_bipush (Dat dd_Y_sheet 12 rfl) (a := 60) rfl ?_
    obtain ⟨g2, T⟩ := T
    refine R_ic_le (Dat dd_Y_sheet 13 rfl) rfl g2 (by decide) (fun c => ?_) (fun c => ?_)
    · replace T := T.1 c
      refine R_bipush (Dat dd_Y_sheet 14 rfl) (a := (-2)) rfl ?_
      exact R_ireturn (Dat dd_Y_sheet 15 rfl) rfl T
    · replace T := T.2 c
      refine R_iload_n (Dat dd_Y_sheet 16 rfl) rfl ?_
      obtain ⟨g3, T⟩ := T
      refine R_if_ge (Dat dd_Y_sheet 17 rfl) rfl g3  (fun c => ?_) (fun c => ?_)
      · replace T := T.1 c
        refine R_aload_n (Dat dd_Y_sheet 18 rfl) rfl rfl ?_
        refine R_iconst (Dat dd_Y_sheet 19 rfl) ?_
        exact R_call1 (Dat dd_Y_sheet 20 rfl) rfl S.t400 rfl rfl rfl rfl rfl T
      · replace T := T.2 c
        refine R_aload_n (Dat dd_Y_sheet 22 rfl) rfl rfl ?_
        refine R_getr (Dat dd_Y_sheet 23 rfl) rfl rfl (tok S.t400) S.f400_2 (q := 403) rfl (tnz S.t403) ?_
        refine R_iload_n (Dat dd_Y_sheet 24 rfl) rfl ?_
        refine R_iload_n (Dat dd_Y_sheet 25 rfl) rfl ?_
        obtain ⟨g4, T⟩ := T
        obtain ⟨g5, T⟩ := T
        refine R_iastore (Dat dd_Y_sheet 26 rfl) S.t403 (lnle (show ln h 403 = 4 from S.l403) (by decide)) g4 (lnlt (show ln h 403 = 4 from S.l403) g5) (v := wr a2) rfl ?_
        refine R_aload_n (Dat dd_Y_sheet 27 rfl) rfl rfl ?_
        refine R_getr (Dat dd_Y_sheet 28 rfl) rfl rfl (tok S.t400) S.f400_3 (q := 404) rfl (tnz S.t404) ?_
        refine R_iload_n (Dat dd_Y_sheet 29 rfl) rfl ?_
        refine R_iload_n (Dat dd_Y_sheet 30 rfl) rfl ?_
        obtain ⟨g6, T⟩ := T
        obtain ⟨g7, T⟩ := T
        refine R_iastore (Dat dd_Y_sheet 31 rfl) S.t404 (lnle (show ln (setI h 403 a1 (wr a2)) 404 = 4 from S.l404) (by decide)) g6 (lnlt (show ln (setI h 403 a1 (wr a2)) 404 = 4 from S.l404) g7) (v := wr a3) rfl ?_
        refine R_iconst (Dat dd_Y_sheet 32 rfl) ?_
        refine R_istore (Dat dd_Y_sheet 33 rfl) rfl rfl ?_
        exact T
theorem t_Y_sheet_39 {h : Hp} {P : Value → Hp → Prop} {s0 : Int} {a0 a1 a2 a3 a4 : Value} (S : YS h) (T : P (.int (I s0)) h) : R 195 39 [a0, a1, a2, a3, a4] [.int (I s0)] h P := by
  exact R_ireturn (Dat dd_Y_sheet 21 rfl) rfl T
theorem t_Y_sheet_57 {h : Hp} {P : Value → Hp → Prop} {a1 a4 : Int} {a2 a3 : Value} (S : YS h) (T : (rng a4) ∧ ((a4 < 60 → (0 ≤ ((60 * a1) + a4)) ∧ (((60 * a1) + a4) < 240) ∧ R 195 57 [.ref 400, .int (I a1), a2, a3, .int (I (a4 + 1))] [] (setI h 405 ((60 * a1) + a4) 0) P) ∧ (¬ a4 < 60 → P (.int (I 1)) h))) : R 195 57 [.ref 400, .int (I a1), a2, a3, .int (I a4)] [] h P := by
  refine R_iload (Dat dd_Y_sheet 34 rfl) rfl ?_
  refine R_bipush (Dat dd_Y_sheet 35 rfl) (a := 60) rfl ?_
  obtain ⟨g1, T⟩ := T
  refine R_ic_ge (Dat dd_Y_sheet 36 rfl) rfl g1 (by decide) (fun c => ?_) (fun c => ?_)
  · replace T := T.1 c
    refine R_aload_n (Dat dd_Y_sheet 37 rfl) rfl rfl ?_
    refine R_getr (Dat dd_Y_sheet 38 rfl) rfl rfl (tok S.t400) S.f400_4 (q := 405) rfl (tnz S.t405) ?_
    refine R_bipush (Dat dd_Y_sheet 39 rfl) (a := 60) rfl ?_
    refine R_iload_n (Dat dd_Y_sheet 40 rfl) rfl ?_
    refine R_imul (Dat dd_Y_sheet 41 rfl) ?_
    refine R_iload (Dat dd_Y_sheet 42 rfl) rfl ?_
    refine R_iadd (Dat dd_Y_sheet 43 rfl) ?_
    refine R_iconst (Dat dd_Y_sheet 44 rfl) ?_
    obtain ⟨g2, T⟩ := T
    obtain ⟨g3, T⟩ := T
    refine R_iastore (Dat dd_Y_sheet 45 rfl) S.t405 (lnle (show ln h 405 = 240 from S.l405) (by decide)) g2 (lnlt (show ln h 405 = 240 from S.l405) g3) (v := 0) rfl ?_
    refine R_iinc (Dat dd_Y_sheet 46 rfl) rfl rfl rfl ?_
    refine R_goto (Dat dd_Y_sheet 47 rfl) rfl ?_
    exact T
  · replace T := T.2 c
    refine R_iconst (Dat dd_Y_sheet 48 rfl) ?_
    exact R_ireturn (Dat dd_Y_sheet 49 rfl) rfl T
def dl_Y_lose : List (Nat × Instr × Nat) := [(0, .iload_n 1, 1), (1, .invokestatic 101, 3), (4, .ifCond .ne 5, 3), (7, .iconst (-1), 1), (8, .ireturn, 1), (9, .aload_n 0, 1), (10, .getfield 9, 3), (13, .iload_n 1, 1), (14, .iaload, 1), (15, .bipush (-9), 2), (17, .if_icmp .ne 7, 3), (20, .iconst 0, 1), (21, .goto 4, 3), (24, .iconst 1, 1), (25, .istore_n 2, 1), (26, .aload_n 0, 1), (27, .getfield 9, 3), (30, .iload_n 1, 1), (31, .bipush (-9), 2), (33, .iastore, 1), (34, .iload_n 2, 1), (35, .ireturn, 1)]
theorem dd_Y_lose : Dall 196 dl_Y_lose = true := by decide +kernel
theorem t_Y_lose {h : Hp} {P : Value → Hp → Prop} {p0 : Int} (S : YS h) (T : R 128 0 [.int (I p0)] [] h (fun v h2 => R 196 4 [.ref 400, .int (I p0), .retAddr 0] (v :: []) h2 P)) : R 196 0 [.ref 400, .int (I p0), .retAddr 0] [] h P := by
  refine R_iload_n (Dat dd_Y_lose 0 rfl) rfl ?_
  exact R_call0 (Dat dd_Y_lose 1 rfl) rfl rfl rfl rfl rfl rfl T
theorem t_Y_lose_4 {h : Hp} {P : Value → Hp → Prop} {a1 s0 : Int} {a2 : Value} (S : YS h) (T : (rng s0) ∧ ((s0 = 0 → P (.int (I (-1))) h) ∧ (¬ s0 = 0 → (0 ≤ a1) ∧ (a1 < 4) ∧ (rng (iv h 403 a1)) ∧ (((iv h 403 a1) = (-9) → (0 ≤ a1) ∧ (a1 < 4) ∧ P (.int (I 0)) (setI h 403 a1 (-9))) ∧ (¬ (iv h 403 a1) = (-9) → (0 ≤ a1) ∧ (a1 < 4) ∧ P (.int (I 1)) (setI h 403 a1 (-9))))))) : R 196 4 [.ref 400, .int (I a1), a2] [.int (I s0)] h P := by
  obtain ⟨g1, T⟩ := T
  refine R_if_ne (Dat dd_Y_lose 2 rfl) rfl g1  (fun c => ?_) (fun c => ?_)
  · replace T := T.1 c
    refine R_iconst (Dat dd_Y_lose 3 rfl) ?_
    exact R_ireturn (Dat dd_Y_lose 4 rfl) rfl T
  · replace T := T.2 c
    refine R_aload_n (Dat dd_Y_lose 5 rfl) rfl rfl ?_
    refine R_getr (Dat dd_Y_lose 6 rfl) rfl rfl (tok S.t400) S.f400_2 (q := 403) rfl (tnz S.t403) ?_
    refine R_iload_n (Dat dd_Y_lose 7 rfl) rfl ?_
    obtain ⟨g2, T⟩ := T
    obtain ⟨g3, T⟩ := T
    refine R_iaload (Dat dd_Y_lose 8 rfl) (Or.inl S.t403) (lnle (show ln h 403 = 4 from S.l403) (by decide)) g2 (lnlt (show ln h 403 = 4 from S.l403) g3) ?_
    refine R_bipush (Dat dd_Y_lose 9 rfl) (a := (-9)) rfl ?_
    obtain ⟨g4, T⟩ := T
    refine R_ic_ne (Dat dd_Y_lose 10 rfl) rfl g4 (by decide) (fun c => ?_) (fun c => ?_)
    · replace T := T.1 c
      refine R_iconst (Dat dd_Y_lose 11 rfl) ?_
      refine R_goto (Dat dd_Y_lose 12 rfl) rfl ?_
      refine R_istore_n (Dat dd_Y_lose 14 rfl) rfl rfl ?_
      refine R_aload_n (Dat dd_Y_lose 15 rfl) rfl rfl ?_
      refine R_getr (Dat dd_Y_lose 16 rfl) rfl rfl (tok S.t400) S.f400_2 (q := 403) rfl (tnz S.t403) ?_
      refine R_iload_n (Dat dd_Y_lose 17 rfl) rfl ?_
      refine R_bipush (Dat dd_Y_lose 18 rfl) (a := (-9)) rfl ?_
      obtain ⟨g5, T⟩ := T
      obtain ⟨g6, T⟩ := T
      refine R_iastore (Dat dd_Y_lose 19 rfl) S.t403 (lnle (show ln h 403 = 4 from S.l403) (by decide)) g5 (lnlt (show ln h 403 = 4 from S.l403) g6) (v := (-9)) rfl ?_
      refine R_iload_n (Dat dd_Y_lose 20 rfl) rfl ?_
      exact R_ireturn (Dat dd_Y_lose 21 rfl) rfl T
    · replace T := T.2 c
      refine R_iconst (Dat dd_Y_lose 13 rfl) ?_
      refine R_istore_n (Dat dd_Y_lose 14 rfl) rfl rfl ?_
      refine R_aload_n (Dat dd_Y_lose 15 rfl) rfl rfl ?_
      refine R_getr (Dat dd_Y_lose 16 rfl) rfl rfl (tok S.t400) S.f400_2 (q := 403) rfl (tnz S.t403) ?_
      refine R_iload_n (Dat dd_Y_lose 17 rfl) rfl ?_
      refine R_bipush (Dat dd_Y_lose 18 rfl) (a := (-9)) rfl ?_
      obtain ⟨g7, T⟩ := T
      obtain ⟨g8, T⟩ := T
      refine R_iastore (Dat dd_Y_lose 19 rfl) S.t403 (lnle (show ln h 403 = 4 from S.l403) (by decide)) g7 (lnlt (show ln h 403 = 4 from S.l403) g8) (v := (-9)) rfl ?_
      refine R_iload_n (Dat dd_Y_lose 20 rfl) rfl ?_
      exact R_ireturn (Dat dd_Y_lose 21 rfl) rfl T
def dl_Y_put : List (Nat × Instr × Nat) := [(0, .aload_n 0, 1), (1, .iconst 0, 1), (2, .putfield 83, 3), (5, .iload_n 1, 1), (6, .invokestatic 101, 3), (9, .ifCond .ne 5, 3), (12, .iconst (-1), 1), (13, .ireturn, 1), (14, .aload_n 0, 1), (15, .getfield 9, 3), (18, .iload_n 1, 1), (19, .iaload, 1), (20, .bipush (-9), 2), (22, .if_icmp .ne 9, 3), (25, .aload_n 0, 1), (26, .iconst 1, 1), (27, .invokevirtual 112, 3), (30, .ireturn, 1), (31, .iload_n 2, 1), (32, .iconst 0, 1), (33, .aload_n 0, 1), (34, .getfield 13, 3), (37, .iload_n 1, 1), (38, .iaload, 1), (39, .iconst 1, 1), (40, .isub, 1), (41, .invokestatic 88, 3), (44, .ifCond .ne 9, 3), (47, .aload_n 0, 1), (48, .iconst 3, 1), (49, .invokevirtual 112, 3), (52, .ireturn, 1), (53, .aload_n 0, 1), (54, .getfield 16, 3), (57, .bipush 60, 2), (59, .iload_n 1, 1), (60, .imul, 1), (61, .iload_n 2, 1), (62, .iadd, 1), (63, .aload_n 0, 1), (64, .getfield 9, 3), (67, .iload_n 1, 1), (68, .iaload, 1), (69, .ifCond .ne 8, 3), (72, .iload_n 3, 1), (73, .i2b, 1), (74, .goto 19, 3), (77, .aload_n 0, 1), (78, .getfield 9, 3), (81, .iload_n 1, 1), (82, .iaload, 1), (83, .iconst 1, 1), (84, .if_icmp .ne 8, 3), (87, .iload_n 3, 1), (88, .i2s, 1), (89, .goto 4, 3), (92, .iload_n 3, 1), (93, .iastore, 1), (94, .iconst 1, 1), (95, .ireturn, 1)]
theorem dd_Y_put : Dall 197 dl_Y_put = true := by decide +kernel
theorem t_Y_put {h : Hp} {P : Value → Hp → Prop} {p0 p1 p2 : Int} (S : YS h) (T : R 128 0 [.int (I p0)] [] (setI h 400 0 0) (fun v h2 => R 197 9 [.ref 400, .int (I p0), .int (I p1), .int (I p2)] (v :: []) h2 P)) : R 197 0 [.ref 400, .int (I p0), .int (I p1), .int (I p2)] [] h P := by
  refine R_aload_n (Dat dd_Y_put 0 rfl) rfl rfl ?_
  refine R_iconst (Dat dd_Y_put 1 rfl) ?_
  refine R_puti (Dat dd_Y_put 2 rfl) rfl rfl rfl (tok S.t400) rfl (v := 0) rfl ?_
  refine R_iload_n (Dat dd_Y_put 3 rfl) rfl ?_
  exact R_call0 (Dat dd_Y_put 4 rfl) rfl rfl rfl rfl rfl rfl T
theorem t_Y_put_9 {h : Hp} {P : Value → Hp → Prop} {a1 a2 a3 s0 : Int} (S : YS h) (T : (rng s0) ∧ ((s0 = 0 → P (.int (I (-1))) h) ∧ (¬ s0 = 0 → (0 ≤ a1) ∧ (a1 < 4) ∧ (rng (iv h 403 a1)) ∧ (((iv h 403 a1) = (-9) → R 132 0 [.ref 400, .int (I 1)] [] h (fun v h2 => R 197 30 [.ref 400, .int (I a1), .int (I a2), .int (I a3)] (v :: []) h2 P)) ∧ (¬ (iv h 403 a1) = (-9) → (0 ≤ a1) ∧ (a1 < 4) ∧ R 129 0 [.int (I a2), .int (I 0), .int (I ((iv h 404 a1) - 1))] [] h (fun v h2 => R 197 44 [.ref 400, .int (I a1), .int (I a2), .int (I a3)] (v :: []) h2 P)))))) : R 197 9 [.ref 400, .int (I a1), .int (I a2), .int (I a3)] [.int (I s0)] h P := by
  obtain ⟨g1, T⟩ := T
  refine R_if_ne (Dat dd_Y_put 5 rfl) rfl g1  (fun c => ?_) (fun c => ?_)
  · replace T := T.1 c
    refine R_iconst (Dat dd_Y_put 6 rfl) ?_
    exact R_ireturn (Dat dd_Y_put 7 rfl) rfl T
  · replace T := T.2 c
    refine R_aload_n (Dat dd_Y_put 8 rfl) rfl rfl ?_
    refine R_getr (Dat dd_Y_put 9 rfl) rfl rfl (tok S.t400) S.f400_2 (q := 403) rfl (tnz S.t403) ?_
    refine R_iload_n (Dat dd_Y_put 10 rfl) rfl ?_
    obtain ⟨g2, T⟩ := T
    obtain ⟨g3, T⟩ := T
    refine R_iaload (Dat dd_Y_put 11 rfl) (Or.inl S.t403) (lnle (show ln h 403 = 4 from S.l403) (by decide)) g2 (lnlt (show ln h 403 = 4 from S.l403) g3) ?_
    refine R_bipush (Dat dd_Y_put 12 rfl) (a := (-9)) rfl ?_
    obtain ⟨g4, T⟩ := T
    refine R_ic_ne (Dat dd_Y_put 13 rfl) rfl g4 (by decide) (fun c => ?_) (fun c => ?_)
    · replace T := T.1 c
      refine R_aload_n (Dat dd_Y_put 14 rfl) rfl rfl ?_
      refine R_iconst (Dat dd_Y_put 15 rfl) ?_
      exact R_call1 (Dat dd_Y_put 16 rfl) rfl S.t400 rfl rfl rfl rfl rfl T
    · replace T := T.2 c
      refine R_iload_n (Dat dd_Y_put 18 rfl) rfl ?_
      refine R_iconst (Dat dd_Y_put 19 rfl) ?_
      refine R_aload_n (Dat dd_Y_put 20 rfl) rfl rfl ?_
      refine R_getr (Dat dd_Y_put 21 rfl) rfl rfl (tok S.t400) S.f400_3 (q := 404) rfl (tnz S.t404) ?_
      refine R_iload_n (Dat dd_Y_put 22 rfl) rfl ?_
      obtain ⟨g5, T⟩ := T
      obtain ⟨g6, T⟩ := T
      refine R_iaload (Dat dd_Y_put 23 rfl) (Or.inl S.t404) (lnle (show ln h 404 = 4 from S.l404) (by decide)) g5 (lnlt (show ln h 404 = 4 from S.l404) g6) ?_
      refine R_iconst (Dat dd_Y_put 24 rfl) ?_
      refine R_isub (Dat dd_Y_put 25 rfl) ?_
      exact R_call0 (Dat dd_Y_put 26 rfl) rfl rfl rfl rfl rfl rfl T
theorem t_Y_put_30 {h : Hp} {P : Value → Hp → Prop} {s0 : Int} {a0 a1 a2 a3 : Value} (S : YS h) (T : P (.int (I s0)) h) : R 197 30 [a0, a1, a2, a3] [.int (I s0)] h P := by
  exact R_ireturn (Dat dd_Y_put 17 rfl) rfl T
theorem t_Y_put_44 {h : Hp} {P : Value → Hp → Prop} {a1 a2 a3 s0 : Int} (S : YS h) (T : (rng s0) ∧ ((s0 = 0 → R 132 0 [.ref 400, .int (I 3)] [] h (fun v h2 => R 197 52 [.ref 400, .int (I a1), .int (I a2), .int (I a3)] (v :: []) h2 P)) ∧ (¬ s0 = 0 → (0 ≤ a1) ∧ (a1 < 4) ∧ (rng (iv h 403 a1)) ∧ (((iv h 403 a1) = 0 → (0 ≤ ((60 * a1) + a2)) ∧ (((60 * a1) + a2) < 240) ∧ P (.int (I 1)) (setI h 405 ((60 * a1) + a2) (wr (b8 a3)))) ∧ (¬ (iv h 403 a1) = 0 → (0 ≤ a1) ∧ (a1 < 4) ∧ (rng (iv h 403 a1)) ∧ (((iv h 403 a1) = 1 → (0 ≤ ((60 * a1) + a2)) ∧ (((60 * a1) + a2) < 240) ∧ P (.int (I 1)) (setI h 405 ((60 * a1) + a2) (wr (b16 a3)))) ∧ (¬ (iv h 403 a1) = 1 → (0 ≤ ((60 * a1) + a2)) ∧ (((60 * a1) + a2) < 240) ∧ P (.int (I 1)) (setI h 405 ((60 * a1) + a2) (wr a3))))))))) : R 197 44 [.ref 400, .int (I a1), .int (I a2), .int (I a3)] [.int (I s0)] h P := by
  obtain ⟨g1, T⟩ := T
  refine R_if_ne (Dat dd_Y_put 27 rfl) rfl g1  (fun c => ?_) (fun c => ?_)
  · replace T := T.1 c
    refine R_aload_n (Dat dd_Y_put 28 rfl) rfl rfl ?_
    refine R_iconst (Dat dd_Y_put 29 rfl) ?_
    exact R_call1 (Dat dd_Y_put 30 rfl) rfl S.t400 rfl rfl rfl rfl rfl T
  · replace T := T.2 c
    refine R_aload_n (Dat dd_Y_put 32 rfl) rfl rfl ?_
    refine R_getr (Dat dd_Y_put 33 rfl) rfl rfl (tok S.t400) S.f400_4 (q := 405) rfl (tnz S.t405) ?_
    refine R_bipush (Dat dd_Y_put 34 rfl) (a := 60) rfl ?_
    refine R_iload_n (Dat dd_Y_put 35 rfl) rfl ?_
    refine R_imul (Dat dd_Y_put 36 rfl) ?_
    refine R_iload_n (Dat dd_Y_put 37 rfl) rfl ?_
    refine R_iadd (Dat dd_Y_put 38 rfl) ?_
    refine R_aload_n (Dat dd_Y_put 39 rfl) rfl rfl ?_
    refine R_getr (Dat dd_Y_put 40 rfl) rfl rfl (tok S.t400) S.f400_2 (q := 403) rfl (tnz S.t403) ?_
    refine R_iload_n (Dat dd_Y_put 41 rfl) rfl ?_
    obtain ⟨g2, T⟩ := T
    obtain ⟨g3, T⟩ := T
    refine R_iaload (Dat dd_Y_put 42 rfl) (Or.inl S.t403) (lnle (show ln h 403 = 4 from S.l403) (by decide)) g2 (lnlt (show ln h 403 = 4 from S.l403) g3) ?_
    obtain ⟨g4, T⟩ := T
    refine R_if_ne (Dat dd_Y_put 43 rfl) rfl g4  (fun c => ?_) (fun c => ?_)
    · replace T := T.1 c
      refine R_iload_n (Dat dd_Y_put 44 rfl) rfl ?_
      refine R_i2b (Dat dd_Y_put 45 rfl) ?_
      refine R_goto (Dat dd_Y_put 46 rfl) rfl ?_
      obtain ⟨g5, T⟩ := T
      obtain ⟨g6, T⟩ := T
      refine R_iastore (Dat dd_Y_put 57 rfl) S.t405 (lnle (show ln h 405 = 240 from S.l405) (by decide)) g5 (lnlt (show ln h 405 = 240 from S.l405) g6) (v := wr (b8 a3)) rfl ?_
      refine R_iconst (Dat dd_Y_put 58 rfl) ?_
      exact R_ireturn (Dat dd_Y_put 59 rfl) rfl T
    · replace T := T.2 c
      refine R_aload_n (Dat dd_Y_put 47 rfl) rfl rfl ?_
      refine R_getr (Dat dd_Y_put 48 rfl) rfl rfl (tok S.t400) S.f400_2 (q := 403) rfl (tnz S.t403) ?_
      refine R_iload_n (Dat dd_Y_put 49 rfl) rfl ?_
      obtain ⟨g7, T⟩ := T
      obtain ⟨g8, T⟩ := T
      refine R_iaload (Dat dd_Y_put 50 rfl) (Or.inl S.t403) (lnle (show ln h 403 = 4 from S.l403) (by decide)) g7 (lnlt (show ln h 403 = 4 from S.l403) g8) ?_
      refine R_iconst (Dat dd_Y_put 51 rfl) ?_
      obtain ⟨g9, T⟩ := T
      refine R_ic_ne (Dat dd_Y_put 52 rfl) rfl g9 (by decide) (fun c => ?_) (fun c => ?_)
      · replace T := T.1 c
        refine R_iload_n (Dat dd_Y_put 53 rfl) rfl ?_
        refine R_i2s (Dat dd_Y_put 54 rfl) ?_
        refine R_goto (Dat dd_Y_put 55 rfl) rfl ?_
        obtain ⟨g10, T⟩ := T
        obtain ⟨g11, T⟩ := T
        refine R_iastore (Dat dd_Y_put 57 rfl) S.t405 (lnle (show ln h 405 = 240 from S.l405) (by decide)) g10 (lnlt (show ln h 405 = 240 from S.l405) g11) (v := wr (b16 a3)) rfl ?_
        refine R_iconst (Dat dd_Y_put 58 rfl) ?_
        exact R_ireturn (Dat dd_Y_put 59 rfl) rfl T
      · replace T := T.2 c
        refine R_iload_n (Dat dd_Y_put 56 rfl) rfl ?_
        obtain ⟨g12, T⟩ := T
        obtain ⟨g13, T⟩ := T
        refine R_iastore (Dat dd_Y_put 57 rfl) S.t405 (lnle (show ln h 405 = 240 from S.l405) (by decide)) g12 (lnlt (show ln h 405 = 240 from S.l405) g13) (v := wr a3) rfl ?_
        refine R_iconst (Dat dd_Y_put 58 rfl) ?_
        exact R_ireturn (Dat dd_Y_put 59 rfl) rfl T
theorem t_Y_put_52 {h : Hp} {P : Value → Hp → Prop} {s0 : Int} {a0 a1 a2 a3 : Value} (S : YS h) (T : P (.int (I s0)) h) : R 197 52 [a0, a1, a2, a3] [.int (I s0)] h P := by
  exact R_ireturn (Dat dd_Y_put 31 rfl) rfl T
def dl_Y_cell : List (Nat × Instr × Nat) := [(0, .aload_n 0, 1), (1, .iconst 0, 1), (2, .putfield 83, 3), (5, .iload_n 1, 1), (6, .invokestatic 101, 3), (9, .ifCond .eq 10, 3), (12, .iload_n 3, 1), (13, .invokestatic 105, 3), (16, .ifCond .ne 7, 3), (19, .ldc2_w 86, 3), (22, .lreturn, 1), (23, .aload_n 0, 1), (24, .getfield 9, 3), (27, .iload_n 1, 1), (28, .iaload, 1), (29, .bipush (-9), 2), (31, .if_icmp .eq 19, 3), (34, .aload_n 0, 1), (35, .getfield 9, 3), (38, .iload_n 1, 1), (39, .iaload, 1), (40, .iload_n 3, 1), (41, .if_icmp .eq 9, 3), (44, .aload_n 0, 1), (45, .iconst 2, 1), (46, .invokevirtual 253, 3), (49, .lreturn, 1), (50, .aload_n 0, 1), (51, .getfield 9, 3), (54, .iload_n 1, 1), (55, .iaload, 1), (56, .bipush (-9), 2), (58, .if_icmp .ne 9, 3), (61, .aload_n 0, 1), (62, .iconst 1, 1), (63, .invokevirtual 253, 3), (66, .lreturn, 1), (67, .iload_n 2, 1), (68, .iconst 0, 1), (69, .aload_n 0, 1), (70, .getfield 13, 3), (73, .iload_n 1, 1), (74, .iaload, 1), (75, .iconst 1, 1), (76, .isub, 1), (77, .invokestatic 88, 3), (80, .ifCond .ne 9, 3), (83, .aload_n 0, 1), (84, .iconst 3, 1), (85, .invokevirtual 253, 3), (88, .lreturn, 1), (89, .aload_n 0, 1), (90, .getfield 16, 3), (93, .bipush 60, 2), (95, .iload_n 1, 1), (96, .imul, 1), (97, .iload_n 2, 1), (98, .iadd, 1), (99, .iaload, 1), (100, .i2l, 1), (101, .lreturn, 1)]
theorem dd_Y_cell : Dall 198 dl_Y_cell = true := by decide +kernel
theorem t_Y_cell {h : Hp} {P : Value → Hp → Prop} {p0 p1 p2 : Int} (S : YS h) (T : R 128 0 [.int (I p0)] [] (setI h 400 0 0) (fun v h2 => R 198 9 [.ref 400, .int (I p0), .int (I p1), .int (I p2)] (v :: []) h2 P)) : R 198 0 [.ref 400, .int (I p0), .int (I p1), .int (I p2)] [] h P := by
  refine R_aload_n (Dat dd_Y_cell 0 rfl) rfl rfl ?_
  refine R_iconst (Dat dd_Y_cell 1 rfl) ?_
  refine R_puti (Dat dd_Y_cell 2 rfl) rfl rfl rfl (tok S.t400) rfl (v := 0) rfl ?_
  refine R_iload_n (Dat dd_Y_cell 3 rfl) rfl ?_
  exact R_call0 (Dat dd_Y_cell 4 rfl) rfl rfl rfl rfl rfl rfl T
theorem t_Y_cell_9 {h : Hp} {P : Value → Hp → Prop} {a1 a2 a3 s0 : Int} (S : YS h) (T : (rng s0) ∧ ((s0 = 0 → P (.long (J (-9223372036854775808))) h) ∧ (¬ s0 = 0 → R 130 0 [.int (I a3)] [] h (fun v h2 => R 198 16 [.ref 400, .int (I a1), .int (I a2), .int (I a3)] (v :: []) h2 P)))) : R 198 9 [.ref 400, .int (I a1), .int (I a2), .int (I a3)] [.int (I s0)] h P := by
  obtain ⟨g1, T⟩ := T
  refine R_if_eq (Dat dd_Y_cell 5 rfl) rfl g1  (fun c => ?_) (fun c => ?_)
  · replace T := T.1 c
    refine R_ldc2_w (Dat dd_Y_cell 9 rfl) (a := (-9223372036854775808)) rfl ?_
    exact R_lreturn (Dat dd_Y_cell 10 rfl) rfl T
  · replace T := T.2 c
    refine R_iload_n (Dat dd_Y_cell 6 rfl) rfl ?_
    exact R_call0 (Dat dd_Y_cell 7 rfl) rfl rfl rfl rfl rfl rfl T
theorem t_Y_cell_16 {h : Hp} {P : Value → Hp → Prop} {a1 a2 a3 s0 : Int} (S : YS h) (T : (rng s0) ∧ ((s0 = 0 → P (.long (J (-9223372036854775808))) h) ∧ (¬ s0 = 0 → (0 ≤ a1) ∧ (a1 < 4) ∧ (rng (iv h 403 a1)) ∧ (((iv h 403 a1) = (-9) → (0 ≤ a1) ∧ (a1 < 4) ∧ (rng (iv h 403 a1)) ∧ (((iv h 403 a1) = (-9) → R 199 0 [.ref 400, .int (I 1)] [] h (fun v h2 => R 198 66 [.ref 400, .int (I a1), .int (I a2), .int (I a3)] (v :: []) h2 P)) ∧ (¬ (iv h 403 a1) = (-9) → (0 ≤ a1) ∧ (a1 < 4) ∧ R 129 0 [.int (I a2), .int (I 0), .int (I ((iv h 404 a1) - 1))] [] h (fun v h2 => R 198 80 [.ref 400, .int (I a1), .int (I a2), .int (I a3)] (v :: []) h2 P)))) ∧ (¬ (iv h 403 a1) = (-9) → (0 ≤ a1) ∧ (a1 < 4) ∧ (rng (iv h 403 a1)) ∧ (rng a3) ∧ (((iv h 403 a1) = a3 → (0 ≤ a1) ∧ (a1 < 4) ∧ (rng (iv h 403 a1)) ∧ (((iv h 403 a1) = (-9) → R 199 0 [.ref 400, .int (I 1)] [] h (fun v h2 => R 198 66 [.ref 400, .int (I a1), .int (I a2), .int (I a3)] (v :: []) h2 P)) ∧ (¬ (iv h 403 a1) = (-9) → (0 ≤ a1) ∧ (a1 < 4) ∧ R 129 0 [.int (I a2), .int (I 0), .int (I ((iv h 404 a1) - 1))] [] h (fun v h2 => R 198 80 [.ref 400, .int (I a1), .int (I a2), .int (I a3)] (v :: []) h2 P)))) ∧ (¬ (iv h 403 a1) = a3 → R 199 0 [.ref 400, .int (I 2)] [] h (fun v h2 => R 198 49 [.ref 400, .int (I a1), .int (I a2), .int (I a3)] (v :: []) h2 P)))))))) : R 198 16 [.ref 400, .int (I a1), .int (I a2), .int (I a3)] [.int (I s0)] h P := by
  obtain ⟨g1, T⟩ := T
  refine R_if_ne (Dat dd_Y_cell 8 rfl) rfl g1  (fun c => ?_) (fun c => ?_)
  · replace T := T.1 c
    refine R_ldc2_w (Dat dd_Y_cell 9 rfl) (a := (-9223372036854775808)) rfl ?_
    exact R_lreturn (Dat dd_Y_cell 10 rfl) rfl T
  · replace T := T.2 c
    refine R_aload_n (Dat dd_Y_cell 11 rfl) rfl rfl ?_
    refine R_getr (Dat dd_Y_cell 12 rfl) rfl rfl (tok S.t400) S.f400_2 (q := 403) rfl (tnz S.t403) ?_
    refine R_iload_n (Dat dd_Y_cell 13 rfl) rfl ?_
    obtain ⟨g2, T⟩ := T
    obtain ⟨g3, T⟩ := T
    refine R_iaload (Dat dd_Y_cell 14 rfl) (Or.inl S.t403) (lnle (show ln h 403 = 4 from S.l403) (by decide)) g2 (lnlt (show ln h 403 = 4 from S.l403) g3) ?_
    refine R_bipush (Dat dd_Y_cell 15 rfl) (a := (-9)) rfl ?_
    obtain ⟨g4, T⟩ := T
    refine R_ic_eq (Dat dd_Y_cell 16 rfl) rfl g4 (by decide) (fun c => ?_) (fun c => ?_)
    · replace T := T.1 c
      refine R_aload_n (Dat dd_Y_cell 27 rfl) rfl rfl ?_
      refine R_getr (Dat dd_Y_cell 28 rfl) rfl rfl (tok S.t400) S.f400_2 (q := 403) rfl (tnz S.t403) ?_
      refine R_iload_n (Dat dd_Y_cell 29 rfl) rfl ?_
      obtain ⟨g5, T⟩ := T
      obtain ⟨g6, T⟩ := T
      refine R_iaload (Dat dd_Y_cell 30 rfl) (Or.inl S.t403) (lnle (show ln h 403 = 4 from S.l403) (by decide)) g5 (lnlt (show ln h 403 = 4 from S.l403) g6) ?_
      refine R_bipush (Dat dd_Y_cell 31 rfl) (a := (-9)) rfl ?_
      obtain ⟨g7, T⟩ := T
      refine R_ic_ne (Dat dd_Y_cell 32 rfl) rfl g7 (by decide) (fun c => ?_) (fun c => ?_)
      · replace T := T.1 c
        refine R_aload_n (Dat dd_Y_cell 33 rfl) rfl rfl ?_
        refine R_iconst (Dat dd_Y_cell 34 rfl) ?_
        exact R_call1 (Dat dd_Y_cell 35 rfl) rfl S.t400 rfl rfl rfl rfl rfl T
      · replace T := T.2 c
        refine R_iload_n (Dat dd_Y_cell 37 rfl) rfl ?_
        refine R_iconst (Dat dd_Y_cell 38 rfl) ?_
        refine R_aload_n (Dat dd_Y_cell 39 rfl) rfl rfl ?_
        refine R_getr (Dat dd_Y_cell 40 rfl) rfl rfl (tok S.t400) S.f400_3 (q := 404) rfl (tnz S.t404) ?_
        refine R_iload_n (Dat dd_Y_cell 41 rfl) rfl ?_
        obtain ⟨g8, T⟩ := T
        obtain ⟨g9, T⟩ := T
        refine R_iaload (Dat dd_Y_cell 42 rfl) (Or.inl S.t404) (lnle (show ln h 404 = 4 from S.l404) (by decide)) g8 (lnlt (show ln h 404 = 4 from S.l404) g9) ?_
        refine R_iconst (Dat dd_Y_cell 43 rfl) ?_
        refine R_isub (Dat dd_Y_cell 44 rfl) ?_
        exact R_call0 (Dat dd_Y_cell 45 rfl) rfl rfl rfl rfl rfl rfl T
    · replace T := T.2 c
      refine R_aload_n (Dat dd_Y_cell 17 rfl) rfl rfl ?_
      refine R_getr (Dat dd_Y_cell 18 rfl) rfl rfl (tok S.t400) S.f400_2 (q := 403) rfl (tnz S.t403) ?_
      refine R_iload_n (Dat dd_Y_cell 19 rfl) rfl ?_
      obtain ⟨g10, T⟩ := T
      obtain ⟨g11, T⟩ := T
      refine R_iaload (Dat dd_Y_cell 20 rfl) (Or.inl S.t403) (lnle (show ln h 403 = 4 from S.l403) (by decide)) g10 (lnlt (show ln h 403 = 4 from S.l403) g11) ?_
      refine R_iload_n (Dat dd_Y_cell 21 rfl) rfl ?_
      obtain ⟨g12, T⟩ := T
      obtain ⟨g13, T⟩ := T
      refine R_ic_eq (Dat dd_Y_cell 22 rfl) rfl g12 g13 (fun c => ?_) (fun c => ?_)
      · replace T := T.1 c
        refine R_aload_n (Dat dd_Y_cell 27 rfl) rfl rfl ?_
        refine R_getr (Dat dd_Y_cell 28 rfl) rfl rfl (tok S.t400) S.f400_2 (q := 403) rfl (tnz S.t403) ?_
        refine R_iload_n (Dat dd_Y_cell 29 rfl) rfl ?_
        obtain ⟨g14, T⟩ := T
        obtain ⟨g15, T⟩ := T
        refine R_iaload (Dat dd_Y_cell 30 rfl) (Or.inl S.t403) (lnle (show ln h 403 = 4 from S.l403) (by decide)) g14 (lnlt (show ln h 403 = 4 from S.l403) g15) ?_
        refine R_bipush (Dat dd_Y_cell 31 rfl) (a := (-9)) rfl ?_
        obtain ⟨g16, T⟩ := T
        refine R_ic_ne (Dat dd_Y_cell 32 rfl) rfl g16 (by decide) (fun c => ?_) (fun c => ?_)
        · replace T := T.1 c
          refine R_aload_n (Dat dd_Y_cell 33 rfl) rfl rfl ?_
          refine R_iconst (Dat dd_Y_cell 34 rfl) ?_
          exact R_call1 (Dat dd_Y_cell 35 rfl) rfl S.t400 rfl rfl rfl rfl rfl T
        · replace T := T.2 c
          refine R_iload_n (Dat dd_Y_cell 37 rfl) rfl ?_
          refine R_iconst (Dat dd_Y_cell 38 rfl) ?_
          refine R_aload_n (Dat dd_Y_cell 39 rfl) rfl rfl ?_
          refine R_getr (Dat dd_Y_cell 40 rfl) rfl rfl (tok S.t400) S.f400_3 (q := 404) rfl (tnz S.t404) ?_
          refine R_iload_n (Dat dd_Y_cell 41 rfl) rfl ?_
          obtain ⟨g17, T⟩ := T
          obtain ⟨g18, T⟩ := T
          refine R_iaload (Dat dd_Y_cell 42 rfl) (Or.inl S.t404) (lnle (show ln h 404 = 4 from S.l404) (by decide)) g17 (lnlt (show ln h 404 = 4 from S.l404) g18) ?_
          refine R_iconst (Dat dd_Y_cell 43 rfl) ?_
          refine R_isub (Dat dd_Y_cell 44 rfl) ?_
          exact R_call0 (Dat dd_Y_cell 45 rfl) rfl rfl rfl rfl rfl rfl T
      · replace T := T.2 c
        refine R_aload_n (Dat dd_Y_cell 23 rfl) rfl rfl ?_
        refine R_iconst (Dat dd_Y_cell 24 rfl) ?_
        exact R_call1 (Dat dd_Y_cell 25 rfl) rfl S.t400 rfl rfl rfl rfl rfl T
theorem t_Y_cell_66 {h : Hp} {P : Value → Hp → Prop} {s0 : Int} {a0 a1 a2 a3 : Value} (S : YS h) (T : P (.long (J s0)) h) : R 198 66 [a0, a1, a2, a3] [.long (J s0)] h P := by
  exact R_lreturn (Dat dd_Y_cell 36 rfl) rfl T
theorem t_Y_cell_80 {h : Hp} {P : Value → Hp → Prop} {a1 a2 s0 : Int} {a3 : Value} (S : YS h) (T : (rng s0) ∧ ((s0 = 0 → R 199 0 [.ref 400, .int (I 3)] [] h (fun v h2 => R 198 88 [.ref 400, .int (I a1), .int (I a2), a3] (v :: []) h2 P)) ∧ (¬ s0 = 0 → (0 ≤ ((60 * a1) + a2)) ∧ (((60 * a1) + a2) < 240) ∧ (rng (iv h 405 ((60 * a1) + a2))) ∧ P (.long (J (iv h 405 ((60 * a1) + a2)))) h))) : R 198 80 [.ref 400, .int (I a1), .int (I a2), a3] [.int (I s0)] h P := by
  obtain ⟨g1, T⟩ := T
  refine R_if_ne (Dat dd_Y_cell 46 rfl) rfl g1  (fun c => ?_) (fun c => ?_)
  · replace T := T.1 c
    refine R_aload_n (Dat dd_Y_cell 47 rfl) rfl rfl ?_
    refine R_iconst (Dat dd_Y_cell 48 rfl) ?_
    exact R_call1 (Dat dd_Y_cell 49 rfl) rfl S.t400 rfl rfl rfl rfl rfl T
  · replace T := T.2 c
    refine R_aload_n (Dat dd_Y_cell 51 rfl) rfl rfl ?_
    refine R_getr (Dat dd_Y_cell 52 rfl) rfl rfl (tok S.t400) S.f400_4 (q := 405) rfl (tnz S.t405) ?_
    refine R_bipush (Dat dd_Y_cell 53 rfl) (a := 60) rfl ?_
    refine R_iload_n (Dat dd_Y_cell 54 rfl) rfl ?_
    refine R_imul (Dat dd_Y_cell 55 rfl) ?_
    refine R_iload_n (Dat dd_Y_cell 56 rfl) rfl ?_
    refine R_iadd (Dat dd_Y_cell 57 rfl) ?_
    obtain ⟨g2, T⟩ := T
    obtain ⟨g3, T⟩ := T
    refine R_iaload (Dat dd_Y_cell 58 rfl) (Or.inl S.t405) (lnle (show ln h 405 = 240 from S.l405) (by decide)) g2 (lnlt (show ln h 405 = 240 from S.l405) g3) ?_
    obtain ⟨g4, T⟩ := T
    refine R_i2l (Dat dd_Y_cell 59 rfl) g4 ?_
    exact R_lreturn (Dat dd_Y_cell 60 rfl) rfl T
theorem t_Y_cell_49 {h : Hp} {P : Value → Hp → Prop} {s0 : Int} {a0 a1 a2 a3 : Value} (S : YS h) (T : P (.long (J s0)) h) : R 198 49 [a0, a1, a2, a3] [.long (J s0)] h P := by
  exact R_lreturn (Dat dd_Y_cell 26 rfl) rfl T
theorem t_Y_cell_88 {h : Hp} {P : Value → Hp → Prop} {s0 : Int} {a0 a1 a2 a3 : Value} (S : YS h) (T : P (.long (J s0)) h) : R 198 88 [a0, a1, a2, a3] [.long (J s0)] h P := by
  exact R_lreturn (Dat dd_Y_cell 50 rfl) rfl T
def dl_Y_lost : List (Nat × Instr × Nat) := [(0, .aload_n 0, 1), (1, .iload_n 1, 1), (2, .putfield 83, 3), (5, .ldc2_w 86, 3), (8, .lreturn, 1)]
theorem dd_Y_lost : Dall 199 dl_Y_lost = true := by decide +kernel
theorem t_Y_lost {h : Hp} {P : Value → Hp → Prop} {p0 : Int} (S : YS h) (T : P (.long (J (-9223372036854775808))) (setI h 400 0 (wr p0))) : R 199 0 [.ref 400, .int (I p0)] [] h P := by
  refine R_aload_n (Dat dd_Y_lost 0 rfl) rfl rfl ?_
  refine R_iload_n (Dat dd_Y_lost 1 rfl) rfl ?_
  refine R_puti (Dat dd_Y_lost 2 rfl) rfl rfl rfl (tok S.t400) rfl (v := wr p0) rfl ?_
  refine R_ldc2_w (Dat dd_Y_lost 3 rfl) (a := (-9223372036854775808)) rfl ?_
  exact R_lreturn (Dat dd_Y_lost 4 rfl) rfl T
def dl_Y_copy : List (Nat × Instr × Nat) := [(0, .aload_n 0, 1), (1, .iconst 0, 1), (2, .putfield 83, 3), (5, .iload_n 1, 1), (6, .invokestatic 101, 3), (9, .ifCond .eq 10, 3), (12, .iload_n 3, 1), (13, .invokestatic 101, 3), (16, .ifCond .ne 5, 3), (19, .iconst (-1), 1), (20, .ireturn, 1), (21, .aload_n 0, 1), (22, .getfield 9, 3), (25, .iload_n 1, 1), (26, .iaload, 1), (27, .bipush (-9), 2), (29, .if_icmp .eq 14, 3), (32, .aload_n 0, 1), (33, .getfield 9, 3), (36, .iload_n 3, 1), (37, .iaload, 1), (38, .bipush (-9), 2), (40, .if_icmp .ne 9, 3), (43, .aload_n 0, 1), (44, .iconst 1, 1), (45, .invokevirtual 112, 3), (48, .ireturn, 1), (49, .aload_n 0, 1), (50, .getfield 9, 3), (53, .iload_n 1, 1), (54, .iaload, 1), (55, .aload_n 0, 1), (56, .getfield 9, 3), (59, .iload_n 3, 1), (60, .iaload, 1), (61, .if_icmp .eq 9, 3), (64, .aload_n 0, 1), (65, .iconst 2, 1), (66, .invokevirtual 112, 3), (69, .ireturn, 1), (70, .iload_n 2, 1), (71, .ifCond .lt 38, 3), (74, .iload 4, 2), (76, .ifCond .lt 33, 3), (79, .iload 5, 2), (81, .ifCond .lt 28, 3), (84, .iload_n 2, 1), (85, .aload_n 0, 1), (86, .getfield 13, 3), (89, .iload_n 1, 1), (90, .iaload, 1), (91, .if_icmp .gt 18, 3), (94, .iload 4, 2), (96, .aload_n 0, 1), (97, .getfield 13, 3), (100, .iload_n 3, 1), (101, .iaload, 1), (102, .if_icmp .gt 7, 3), (105, .iconst 1, 1), (106, .goto 4, 3), (109, .iconst 0, 1), (110, .istore 6, 2), (112, .iload 6, 2), (114, .ifCond .eq 30, 3), (117, .iload 5, 2), (119, .aload_n 0, 1), (120, .getfield 13, 3), (123, .iload_n 1, 1), (124, .iaload, 1), (125, .iload_n 2, 1), (126, .isub, 1), (127, .if_icmp .gt 17, 3), (130, .iload 5, 2), (132, .aload_n 0, 1), (133, .getfield 13, 3), (136, .iload_n 3, 1), (137, .iaload, 1), (138, .iload 4, 2), (140, .isub, 1), (141, .if_icmp .le 9, 3), (144, .aload_n 0, 1), (145, .iconst 3, 1), (146, .invokevirtual 112, 3), (149, .ireturn, 1), (150, .iload_n 2, 1), (151, .iload 4, 2), (153, .if_icmp .ge 7, 3), (156, .iconst 1, 1), (157, .goto 4, 3), (160, .iconst 0, 1), (161, .istore 7, 2), (163, .iconst 0, 1), (164, .istore 8, 2), (166, .iload 8, 2), (168, .iload 5, 2), (170, .if_icmp .ge 57, 3), (173, .iload 7, 2), (175, .ifCond .eq 13, 3), (178, .iload 5, 2), (180, .iconst 1, 1), (181, .isub, 1), (182, .iload 8, 2), (184, .isub, 1), (185, .goto 5, 3), (188, .iload 8, 2), (190, .istore 9, 2), (192, .aload_n 0, 1), (193, .getfield 16, 3), (196, .bipush 60, 2), (198, .iload_n 3, 1), (199, .imul, 1), (200, .iload 4, 2), (202, .iadd, 1), (203, .iload 9, 2), (205, .iadd, 1), (206, .aload_n 0, 1), (207, .getfield 16, 3), (210, .bipush 60, 2), (212, .iload_n 1, 1), (213, .imul, 1), (214, .iload_n 2, 1), (215, .iadd, 1), (216, .iload 9, 2), (218, .iadd, 1), (219, .iaload, 1), (220, .iastore, 1), (221, .iinc 8 1, 3), (224, .goto (-58), 3), (227, .iload 5, 2), (229, .ireturn, 1)]
theorem dd_Y_copy : Dall 200 dl_Y_copy = true := by decide +kernel
theorem t_Y_copy {h : Hp} {P : Value → Hp → Prop} {p0 p1 p2 p3 p4 : Int} (S : YS h) (T : R 128 0 [.int (I p0)] [] (setI h 400 0 0) (fun v h2 => R 200 9 [.ref 400, .int (I p0), .int (I p1), .int (I p2), .int (I p3), .int (I p4), .retAddr 0, .retAddr 0, .retAddr 0, .retAddr 0] (v :: []) h2 P)) : R 200 0 [.ref 400, .int (I p0), .int (I p1), .int (I p2), .int (I p3), .int (I p4), .retAddr 0, .retAddr 0, .retAddr 0, .retAddr 0] [] h P := by
  refine R_aload_n (Dat dd_Y_copy 0 rfl) rfl rfl ?_
  refine R_iconst (Dat dd_Y_copy 1 rfl) ?_
  refine R_puti (Dat dd_Y_copy 2 rfl) rfl rfl rfl (tok S.t400) rfl (v := 0) rfl ?_
  refine R_iload_n (Dat dd_Y_copy 3 rfl) rfl ?_
  exact R_call0 (Dat dd_Y_copy 4 rfl) rfl rfl rfl rfl rfl rfl T
theorem t_Y_copy_9 {h : Hp} {P : Value → Hp → Prop} {a1 a2 a3 a4 a5 s0 : Int} {a6 a7 a8 a9 : Value} (S : YS h) (T : (rng s0) ∧ ((s0 = 0 → P (.int (I (-1))) h) ∧ (¬ s0 = 0 → R 128 0 [.int (I a3)] [] h (fun v h2 => R 200 16 [.ref 400, .int (I a1), .int (I a2), .int (I a3), .int (I a4), .int (I a5), a6, a7, a8, a9] (v :: []) h2 P)))) : R 200 9 [.ref 400, .int (I a1), .int (I a2), .int (I a3), .int (I a4), .int (I a5), a6, a7, a8, a9] [.int (I s0)] h P := by
  obtain ⟨g1, T⟩ := T
  refine R_if_eq (Dat dd_Y_copy 5 rfl) rfl g1  (fun c => ?_) (fun c => ?_)
  · replace T := T.1 c
    refine R_iconst (Dat dd_Y_copy 9 rfl) ?_
    exact R_ireturn (Dat dd_Y_copy 10 rfl) rfl T
  · replace T := T.2 c
    refine R_iload_n (Dat dd_Y_copy 6 rfl) rfl ?_
    exact R_call0 (Dat dd_Y_copy 7 rfl) rfl rfl rfl rfl rfl rfl T
theorem t_Y_copy_16 {h : Hp} {P : Value → Hp → Prop} {a1 a2 a3 a4 a5 s0 : Int} {a6 a7 a8 a9 : Value} (S : YS h) (T : (rng s0) ∧ ((s0 = 0 → P (.int (I (-1))) h) ∧ (¬ s0 = 0 → (0 ≤ a1) ∧ (a1 < 4) ∧ (rng (iv h 403 a1)) ∧ (((iv h 403 a1) = (-9) → R 132 0 [.ref 400, .int (I 1)] [] h (fun v h2 => R 200 48 [.ref 400, .int (I a1), .int (I a2), .int (I a3), .int (I a4), .int (I a5), a6, a7, a8, a9] (v :: []) h2 P)) ∧ (¬ (iv h 403 a1) = (-9) → (0 ≤ a3) ∧ (a3 < 4) ∧ (rng (iv h 403 a3)) ∧ (((iv h 403 a3) = (-9) → R 132 0 [.ref 400, .int (I 1)] [] h (fun v h2 => R 200 48 [.ref 400, .int (I a1), .int (I a2), .int (I a3), .int (I a4), .int (I a5), a6, a7, a8, a9] (v :: []) h2 P)) ∧ (¬ (iv h 403 a3) = (-9) → (0 ≤ a1) ∧ (a1 < 4) ∧ (0 ≤ a3) ∧ (a3 < 4) ∧ (rng (iv h 403 a1)) ∧ (rng (iv h 403 a3)) ∧ (((iv h 403 a1) = (iv h 403 a3) → (rng a2) ∧ ((a2 < 0 → (((0 : Int) = 0 → R 132 0 [.ref 400, .int (I 3)] [] h (fun v h2 => R 200 149 [.ref 400, .int (I a1), .int (I a2), .int (I a3), .int (I a4), .int (I a5), .int (I 0), a7, a8, a9] (v :: []) h2 P)) ∧ (¬ (0 : Int) = 0 → (0 ≤ a1) ∧ (a1 < 4) ∧ (rng a5) ∧ (rng ((iv h 404 a1) - a2)) ∧ ((((iv h 404 a1) - a2) < a5 → R 132 0 [.ref 400, .int (I 3)] [] h (fun v h2 => R 200 149 [.ref 400, .int (I a1), .int (I a2), .int (I a3), .int (I a4), .int (I a5), .int (I 0), a7, a8, a9] (v :: []) h2 P)) ∧ (¬ ((iv h 404 a1) - a2) < a5 → (0 ≤ a3) ∧ (a3 < 4) ∧ (rng a5) ∧ (rng ((iv h 404 a3) - a4)) ∧ ((((iv h 404 a3) - a4) < a5 → R 132 0 [.ref 400, .int (I 3)] [] h (fun v h2 => R 200 149 [.ref 400, .int (I a1), .int (I a2), .int (I a3), .int (I a4), .int (I a5), .int (I 0), a7, a8, a9] (v :: []) h2 P)) ∧ (¬ ((iv h 404 a3) - a4) < a5 → (rng a2) ∧ (rng a4) ∧ ((a2 < a4 → R 200 166 [.ref 400, .int (I a1), .int (I a2), .int (I a3), .int (I a4), .int (I a5), .int (I 0), .int (I 1), .int (I 0), a9] [] h P) ∧ (¬ a2 < a4 → R 200 166 [.ref 400, .int (I a1), .int (I a2), .int (I a3), .int (I a4), .int (I a5), .int (I 0), .int (I 0), .int (I 0), a9] [] h P))))))))) ∧ (¬ a2 < 0 → (rng a4) ∧ ((a4 < 0 → (((0 : Int) = 0 → R 132 0 [.ref 400, .int (I 3)] [] h (fun v h2 => R 200 149 [.ref 400, .int (I a1), .int (I a2), .int (I a3), .int (I a4), .int (I a5), .int (I 0), a7, a8, a9] (v :: []) h2 P)) ∧ (¬ (0 : Int) = 0 → (0 ≤ a1) ∧ (a1 < 4) ∧ (rng a5) ∧ (rng ((iv h 404 a1) - a2)) ∧ ((((iv h 404 a1) - a2) < a5 → R 132 0 [.ref 400, .int (I 3)] [] h (fun v h2 => R 200 149 [.ref 400, .int (I a1), .int (I a2), .int (I a3), .int (I a4), .int (I a5), .int (I 0), a7, a8, a9] (v :: []) h2 P)) ∧ (¬ ((iv h 404 a1) - a2) < a5 → (0 ≤ a3) ∧ (a3 < 4) ∧ (rng a5) ∧ (rng ((iv h 404 a3) - a4)) ∧ ((((iv h 404 a3) - a4) < a5 → R 132 0 [.ref 400, .int (I 3)] [] h (fun v h2 => R 200 149 [.ref 400, .int (I a1), .int (I a2), .int (I a3), .int (I a4), .int (I a5), .int (I 0), a7, a8, a9] (v :: []) h2 P)) ∧ (¬ ((iv h 404 a3) - a4) < a5 → (rng a2) ∧ (rng a4) ∧ ((a2 < a4 → R 200 166 [.ref 400, .int (I a1), .int (I a2), .int (I a3), .int (I a4), .int (I a5), .int (I 0), .int (I 1), .int (I 0), a9] [] h P) ∧ (¬ a2 < a4 → R 200 166 [.ref 400, .int (I a1), .int (I a2), .int (I a3), .int (I a4), .int (I a5), .int (I 0), .int (I 0), .int (I 0), a9] [] h P))))))))) ∧ (¬ a4 < 0 → (rng a5) ∧ ((a5 < 0 → (((0 : Int) = 0 → R 132 0 [.ref 400, .int (I 3)] [] h (fun v h2 => R 200 149 [.ref 400, .int (I a1), .int (I a2), .int (I a3), .int (I a4), .int (I a5), .int (I 0), a7, a8, a9] (v :: []) h2 P)) ∧ (¬ (0 : Int) = 0 → (0 ≤ a1) ∧ (a1 < 4) ∧ (rng a5) ∧ (rng ((iv h 404 a1) - a2)) ∧ ((((iv h 404 a1) - a2) < a5 → R 132 0 [.ref 400, .int (I 3)] [] h (fun v h2 => R 200 149 [.ref 400, .int (I a1), .int (I a2), .int (I a3), .int (I a4), .int (I a5), .int (I 0), a7, a8, a9] (v :: []) h2 P)) ∧ (¬ ((iv h 404 a1) - a2) < a5 → (0 ≤ a3) ∧ (a3 < 4) ∧ (rng a5) ∧ (rng ((iv h 404 a3) - a4)) ∧ ((((iv h 404 a3) - a4) < a5 → R 132 0 [.ref 400, .int (I 3)] [] h (fun v h2 => R 200 149 [.ref 400, .int (I a1), .int (I a2), .int (I a3), .int (I a4), .int (I a5), .int (I 0), a7, a8, a9] (v :: []) h2 P)) ∧ (¬ ((iv h 404 a3) - a4) < a5 → (rng a2) ∧ (rng a4) ∧ ((a2 < a4 → R 200 166 [.ref 400, .int (I a1), .int (I a2), .int (I a3), .int (I a4), .int (I a5), .int (I 0), .int (I 1), .int (I 0), a9] [] h P) ∧ (¬ a2 < a4 → R 200 166 [.ref 400, .int (I a1), .int (I a2), .int (I a3), .int (I a4), .int (I a5), .int (I 0), .int (I 0), .int (I 0), a9] [] h P))))))))) ∧ (¬ a5 < 0 → (0 ≤ a1) ∧ (a1 < 4) ∧ (rng a2) ∧ (rng (iv h 404 a1)) ∧ (((iv h 404 a1) < a2 → (((0 : Int) = 0 → R 132 0 [.ref 400, .int (I 3)] [] h (fun v h2 => R 200 149 [.ref 400, .int (I a1), .int (I a2), .int (I a3), .int (I a4), .int (I a5), .int (I 0), a7, a8, a9] (v :: []) h2 P)) ∧ (¬ (0 : Int) = 0 → (0 ≤ a1) ∧ (a1 < 4) ∧ (rng a5) ∧ (rng ((iv h 404 a1) - a2)) ∧ ((((iv h 404 a1) - a2) < a5 → R 132 0 [.ref 400, .int (I 3)] [] h (fun v h2 => R 200 149 [.ref 400, .int (I a1), .int (I a2), .int (I a3), .int (I a4), .int (I a5), .int (I 0), a7, a8, a9] (v :: []) h2 P)) ∧ (¬ ((iv h 404 a1) - a2) < a5 → (0 ≤ a3) ∧ (a3 < 4) ∧ (rng a5) ∧ (rng ((iv h 404 a3) - a4)) ∧ ((((iv h 404 a3) - a4) < a5 → R 132 0 [.ref 400, .int (I 3)] [] h (fun v h2 => R 200 149 [.ref 400, .int (I a1), .int (I a2), .int (I a3), .int (I a4), .int (I a5), .int (I 0), a7, a8, a9] (v :: []) h2 P)) ∧ (¬ ((iv h 404 a3) - a4) < a5 → (rng a2) ∧ (rng a4) ∧ ((a2 < a4 → R 200 166 [.ref 400, .int (I a1), .int (I a2), .int (I a3), .int (I a4), .int (I a5), .int (I 0), .int (I 1), .int (I 0), a9] [] h P) ∧ (¬ a2 < a4 → R 200 166 [.ref 400, .int (I a1), .int (I a2), .int (I a3), .int (I a4), .int (I a5), .int (I 0), .int (I 0), .int (I 0), a9] [] h P))))))))) ∧ (¬ (iv h 404 a1) < a2 → (0 ≤ a3) ∧ (a3 < 4) ∧ (rng a4) ∧ (rng (iv h 404 a3)) ∧ (((iv h 404 a3) < a4 → (((0 : Int) = 0 → R 132 0 [.ref 400, .int (I 3)] [] h (fun v h2 => R 200 149 [.ref 400, .int (I a1), .int (I a2), .int (I a3), .int (I a4), .int (I a5), .int (I 0), a7, a8, a9] (v :: []) h2 P)) ∧ (¬ (0 : Int) = 0 → (0 ≤ a1) ∧ (a1 < 4) ∧ (rng a5) ∧ (rng ((iv h 404 a1) - a2)) ∧ ((((iv h 404 a1) - a2) < a5 → R 132 0 [.ref 400, .int (I 3)] [] h (fun v h2 => R 200 149 [.ref 400, .int (I a1), .int (I a2), .int (I a3), .int (I a4), .int (I a5), .int (I 0), a7, a8, a9] (v :: []) h2 P)) ∧ (¬ ((iv h 404 a1) - a2) < a5 → (0 ≤ a3) ∧ (a3 < 4) ∧ (rng a5) ∧ (rng ((iv h 404 a3) - a4)) ∧ ((((iv h 404 a3) - a4) < a5 → R 132 0 [.ref 400, .int (I 3)] [] h (fun v h2 => R 200 149 [.ref 400, .int (I a1), .int (I a2), .int (I a3), .int (I a4), .int (I a5), .int (I 0), a7, a8, a9] (v :: []) h2 P)) ∧ (¬ ((iv h 404 a3) - a4) < a5 → (rng a2) ∧ (rng a4) ∧ ((a2 < a4 → R 200 166 [.ref 400, .int (I a1), .int (I a2), .int (I a3), .int (I a4), .int (I a5), .int (I 0), .int (I 1), .int (I 0), a9] [] h P) ∧ (¬ a2 < a4 → R 200 166 [.ref 400, .int (I a1), .int (I a2), .int (I a3), .int (I a4), .int (I a5), .int (I 0), .int (I 0), .int (I 0), a9] [] h P))))))))) ∧ (¬ (iv h 404 a3) < a4 → (((1 : Int) = 0 → R 132 0 [.ref 400, .int (I 3)] [] h (fun v h2 => R 200 149 [.ref 400, .int (I a1), .int (I a2), .int (I a3), .int (I a4), .int (I a5), .int (I 1), a7, a8, a9] (v :: []) h2 P)) ∧ (¬ (1 : Int) = 0 → (0 ≤ a1) ∧ (a1 < 4) ∧ (rng a5) ∧ (rng ((iv h 404 a1) - a2)) ∧ ((((iv h 404 a1) - a2) < a5 → R 132 0 [.ref 400, .int (I 3)] [] h (fun v h2 => R 200 149 [.ref 400, .int (I a1), .int (I a2), .int (I a3), .int (I a4), .int (I a5), .int (I 1), a7, a8, a9] (v :: []) h2 P)) ∧ (¬ ((iv h 404 a1) - a2) < a5 → (0 ≤ a3) ∧ (a3 < 4) ∧ (rng a5) ∧ (rng ((iv h 404 a3) - a4)) ∧ ((((iv h 404 a3) - a4) < a5 → R 132 0 [.ref 400, .int (I 3)] [] h (fun v h2 => R 200 149 [.ref 400, .int (I a1), .int (I a2), .int (I a3), .int (I a4), .int (I a5), .int (I 1), a7, a8, a9] (v :: []) h2 P)) ∧ (¬ ((iv h 404 a3) - a4) < a5 → (rng a2) ∧ (rng a4) ∧ ((a2 < a4 → R 200 166 [.ref 400, .int (I a1), .int (I a2), .int (I a3), .int (I a4), .int (I a5), .int (I 1), .int (I 1), .int (I 0), a9] [] h P) ∧ (¬ a2 < a4 → R 200 166 [.ref 400, .int (I a1), .int (I a2), .int (I a3), .int (I a4), .int (I a5), .int (I 1), .int (I 0), .int (I 0), a9] [] h P))))))))))))))))))) ∧ (¬ (iv h 403 a1) = (iv h 403 a3) → R 132 0 [.ref 400, .int (I 2)] [] h (fun v h2 => R 200 69 [.ref 400, .int (I a1), .int (I a2), .int (I a3), .int (I a4), .int (I a5), a6, a7, a8, a9] (v :: []) h2 P)))))))))) : R 200 16 [.ref 400, .int (I a1), .int (I a2), .int (I a3), .int (I a4), .int (I a5), a6, a7, a8, a9] [.int (I s0)] h P := by
  obtain ⟨g1, T⟩ := T
  refine R_if_ne (Dat dd_Y_copy 8 rfl) rfl g1  (fun c => ?_) (fun c => ?_)
  · replace T := T.1 c
    refine R_iconst (Dat dd_Y_copy 9 rfl) ?_
    exact R_ireturn (Dat dd_Y_copy 10 rfl) rfl T
  · replace T := T.2 c
    refine R_aload_n (Dat dd_Y_copy 11 rfl) rfl rfl ?_
    refine R_getr (Dat dd_Y_copy 12 rfl) rfl rfl (tok S.t400) S.f400_2 (q := 403) rfl (tnz S.t403) ?_
    refine R_iload_n (Dat dd_Y_copy 13 rfl) rfl ?_
    obtain ⟨g2, T⟩ := T
    obtain ⟨g3, T⟩ := T
    refine R_iaload (Dat dd_Y_copy 14 rfl) (Or.inl S.t403) (lnle (show ln h 403 = 4 from S.l403) (by decide)) g2 (lnlt (show ln h 403 = 4 from S.l403) g3) ?_
    refine R_bipush (Dat dd_Y_copy 15 rfl) (a := (-9)) rfl ?_
    obtain ⟨g4, T⟩ := T
    refine R_ic_eq (Dat dd_Y_copy 16 rfl) rfl g4 (by decide) (fun c => ?_) (fun c => ?_)
    · replace T := T.1 c
      refine R_aload_n (Dat dd_Y_copy 23 rfl) rfl rfl ?_
      refine R_iconst (Dat dd_Y_copy 24 rfl) ?_
      exact R_call1 (Dat dd_Y_copy 25 rfl) rfl S.t400 rfl rfl rfl rfl rfl T
    · replace T := T.2 c
      refine R_aload_n (Dat dd_Y_copy 17 rfl) rfl rfl ?_
      refine R_getr (Dat dd_Y_copy 18 rfl) rfl rfl (tok S.t400) S.f400_2 (q := 403) rfl (tnz S.t403) ?_
      refine R_iload_n (Dat dd_Y_copy 19 rfl) rfl ?_
      obtain ⟨g5, T⟩ := T
      obtain ⟨g6, T⟩ := T
      refine R_iaload (Dat dd_Y_copy 20 rfl) (Or.inl S.t403) (lnle (show ln h 403 = 4 from S.l403) (by decide)) g5 (lnlt (show ln h 403 = 4 from S.l403) g6) ?_
      refine R_bipush (Dat dd_Y_copy 21 rfl) (a := (-9)) rfl ?_
      obtain ⟨g7, T⟩ := T
      refine R_ic_ne (Dat dd_Y_copy 22 rfl) rfl g7 (by decide) (fun c => ?_) (fun c => ?_)
      · replace T := T.1 c
        refine R_aload_n (Dat dd_Y_copy 23 rfl) rfl rfl ?_
        refine R_iconst (Dat dd_Y_copy 24 rfl) ?_
        exact R_call1 (Dat dd_Y_copy 25 rfl) rfl S.t400 rfl rfl rfl rfl rfl T
      · replace T := T.2 c
        refine R_aload_n (Dat dd_Y_copy 27 rfl) rfl rfl ?_
        refine R_getr (Dat dd_Y_copy 28 rfl) rfl rfl (tok S.t400) S.f400_2 (q := 403) rfl (tnz S.t403) ?_
        refine R_iload_n (Dat dd_Y_copy 29 rfl) rfl ?_
        obtain ⟨g8, T⟩ := T
        obtain ⟨g9, T⟩ := T
        refine R_iaload (Dat dd_Y_copy 30 rfl) (Or.inl S.t403) (lnle (show ln h 403 = 4 from S.l403) (by decide)) g8 (lnlt (show ln h 403 = 4 from S.l403) g9) ?_
        refine R_aload_n (Dat dd_Y_copy 31 rfl) rfl rfl ?_
        refine R_getr (Dat dd_Y_copy 32 rfl) rfl rfl (tok S.t400) S.f400_2 (q := 403) rfl (tnz S.t403) ?_
        refine R_iload_n (Dat dd_Y_copy 33 rfl) rfl ?_
        obtain ⟨g10, T⟩ := T
        obtain ⟨g11, T⟩ := T
        refine R_iaload (Dat dd_Y_copy 34 rfl) (Or.inl S.t403) (lnle (show ln h 403 = 4 from S.l403) (by decide)) g10 (lnlt (show ln h 403 = 4 from S.l403) g11) ?_
        obtain ⟨g12, T⟩ := T
        obtain ⟨g13, T⟩ := T
        refine R_ic_eq (Dat dd_Y_copy 35 rfl) rfl g12 g13 (fun c => ?_) (fun c => ?_)
        · replace T := T.1 c
          refine R_iload_n (Dat dd_Y_copy 40 rfl) rfl ?_
          obtain ⟨g14, T⟩ := T
          refine R_if_lt (Dat dd_Y_copy 41 rfl) rfl g14  (fun c => ?_) (fun c => ?_)
          · replace T := T.1 c
            refine R_iconst (Dat dd_Y_copy 60 rfl) ?_
            refine R_istore (Dat dd_Y_copy 61 rfl) rfl rfl ?_
            refine R_iload (Dat dd_Y_copy 62 rfl) rfl ?_
            refine R_if_eq (Dat dd_Y_copy 63 rfl) rfl (by decide)  (fun c => ?_) (fun c => ?_)
            · replace T := T.1 c
              refine R_aload_n (Dat dd_Y_copy 80 rfl) rfl rfl ?_
              refine R_iconst (Dat dd_Y_copy 81 rfl) ?_
              exact R_call1 (Dat dd_Y_copy 82 rfl) rfl S.t400 rfl rfl rfl rfl rfl T
            · replace T := T.2 c
              refine R_iload (Dat dd_Y_copy 64 rfl) rfl ?_
              refine R_aload_n (Dat dd_Y_copy 65 rfl) rfl rfl ?_
              refine R_getr (Dat dd_Y_copy 66 rfl) rfl rfl (tok S.t400) S.f400_3 (q := 404) rfl (tnz S.t404) ?_
              refine R_iload_n (Dat dd_Y_copy 67 rfl) rfl ?_
              obtain ⟨g15, T⟩ := T
              obtain ⟨g16, T⟩ := T
              refine R_iaload (Dat dd_Y_copy 68 rfl) (Or.inl S.t404) (lnle (show ln h 404 = 4 from S.l404) (by decide)) g15 (lnlt (show ln h 404 = 4 from S.l404) g16) ?_
              refine R_iload_n (Dat dd_Y_copy 69 rfl) rfl ?_
              refine R_isub (Dat dd_Y_copy 70 rfl) ?_
              obtain ⟨g17, T⟩ := T
              obtain ⟨g18, T⟩ := T
              refine R_ic_gt (Dat dd_Y_copy 71 rfl) rfl g17 g18 (fun c => ?_) (fun c => ?_)
              · replace T := T.1 c
                refine R_aload_n (Dat dd_Y_copy 80 rfl) rfl rfl ?_
                refine R_iconst (Dat dd_Y_copy 81 rfl) ?_
                exact R_call1 (Dat dd_Y_copy 82 rfl) rfl S.t400 rfl rfl rfl rfl rfl T
              · replace T := T.2 c
                refine R_iload (Dat dd_Y_copy 72 rfl) rfl ?_
                refine R_aload_n (Dat dd_Y_copy 73 rfl) rfl rfl ?_
                refine R_getr (Dat dd_Y_copy 74 rfl) rfl rfl (tok S.t400) S.f400_3 (q := 404) rfl (tnz S.t404) ?_
                refine R_iload_n (Dat dd_Y_copy 75 rfl) rfl ?_
                obtain ⟨g19, T⟩ := T
                obtain ⟨g20, T⟩ := T
                refine R_iaload (Dat dd_Y_copy 76 rfl) (Or.inl S.t404) (lnle (show ln h 404 = 4 from S.l404) (by decide)) g19 (lnlt (show ln h 404 = 4 from S.l404) g20) ?_
                refine R_iload (Dat dd_Y_copy 77 rfl) rfl ?_
                refine R_isub (Dat dd_Y_copy 78 rfl) ?_
                obtain ⟨g21, T⟩ := T
                obtain ⟨g22, T⟩ := T
                refine R_ic_le (Dat dd_Y_copy 79 rfl) rfl g21 g22 (fun c => ?_) (fun c => ?_)
                · replace T := T.1 c
                  refine R_aload_n (Dat dd_Y_copy 80 rfl) rfl rfl ?_
                  refine R_iconst (Dat dd_Y_copy 81 rfl) ?_
                  exact R_call1 (Dat dd_Y_copy 82 rfl) rfl S.t400 rfl rfl rfl rfl rfl T
                · replace T := T.2 c
                  refine R_iload_n (Dat dd_Y_copy 84 rfl) rfl ?_
                  refine R_iload (Dat dd_Y_copy 85 rfl) rfl ?_
                  obtain ⟨g23, T⟩ := T
                  obtain ⟨g24, T⟩ := T
                  refine R_ic_ge (Dat dd_Y_copy 86 rfl) rfl g23 g24 (fun c => ?_) (fun c => ?_)
                  · replace T := T.1 c
                    refine R_iconst (Dat dd_Y_copy 87 rfl) ?_
                    refine R_goto (Dat dd_Y_copy 88 rfl) rfl ?_
                    refine R_istore (Dat dd_Y_copy 90 rfl) rfl rfl ?_
                    refine R_iconst (Dat dd_Y_copy 91 rfl) ?_
                    refine R_istore (Dat dd_Y_copy 92 rfl) rfl rfl ?_
                    exact T
                  · replace T := T.2 c
                    refine R_iconst (Dat dd_Y_copy 89 rfl) ?_
                    refine R_istore (Dat dd_Y_copy 90 rfl) rfl rfl ?_
                    refine R_iconst (Dat dd_Y_copy 91 rfl) ?_
                    refine R_istore (Dat dd_Y_copy 92 rfl) rfl rfl ?_
                    exact T
          · replace T := T.2 c
            refine R_iload (Dat dd_Y_copy 42 rfl) rfl ?_
            obtain ⟨g25, T⟩ := T
            refine R_if_lt (Dat dd_Y_copy 43 rfl) rfl g25  (fun c => ?_) (fun c => ?_)
            · replace T := T.1 c
              refine R_iconst (Dat dd_Y_copy 60 rfl) ?_
              refine R_istore (Dat dd_Y_copy 61 rfl) rfl rfl ?_
              refine R_iload (Dat dd_Y_copy 62 rfl) rfl ?_
              refine R_if_eq (Dat dd_Y_copy 63 rfl) rfl (by decide)  (fun c => ?_) (fun c => ?_)
              · replace T := T.1 c
                refine R_aload_n (Dat dd_Y_copy 80 rfl) rfl rfl ?_
                refine R_iconst (Dat dd_Y_copy 81 rfl) ?_
                exact R_call1 (Dat dd_Y_copy 82 rfl) rfl S.t400 rfl rfl rfl rfl rfl T
              · replace T := T.2 c
                refine R_iload (Dat dd_Y_copy 64 rfl) rfl ?_
                refine R_aload_n (Dat dd_Y_copy 65 rfl) rfl rfl ?_
                refine R_getr (Dat dd_Y_copy 66 rfl) rfl rfl (tok S.t400) S.f400_3 (q := 404) rfl (tnz S.t404) ?_
                refine R_iload_n (Dat dd_Y_copy 67 rfl) rfl ?_
                obtain ⟨g26, T⟩ := T
                obtain ⟨g27, T⟩ := T
                refine R_iaload (Dat dd_Y_copy 68 rfl) (Or.inl S.t404) (lnle (show ln h 404 = 4 from S.l404) (by decide)) g26 (lnlt (show ln h 404 = 4 from S.l404) g27) ?_
                refine R_iload_n (Dat dd_Y_copy 69 rfl) rfl ?_
                refine R_isub (Dat dd_Y_copy 70 rfl) ?_
                obtain ⟨g28, T⟩ := T
                obtain ⟨g29, T⟩ := T
                refine R_ic_gt (Dat dd_Y_copy 71 rfl) rfl g28 g29 (fun c => ?_) (fun c => ?_)
                · replace T := T.1 c
                  refine R_aload_n (Dat dd_Y_copy 80 rfl) rfl rfl ?_
                  refine R_iconst (Dat dd_Y_copy 81 rfl) ?_
                  exact R_call1 (Dat dd_Y_copy 82 rfl) rfl S.t400 rfl rfl rfl rfl rfl T
                · replace T := T.2 c
                  refine R_iload (Dat dd_Y_copy 72 rfl) rfl ?_
                  refine R_aload_n (Dat dd_Y_copy 73 rfl) rfl rfl ?_
                  refine R_getr (Dat dd_Y_copy 74 rfl) rfl rfl (tok S.t400) S.f400_3 (q := 404) rfl (tnz S.t404) ?_
                  refine R_iload_n (Dat dd_Y_copy 75 rfl) rfl ?_
                  obtain ⟨g30, T⟩ := T
                  obtain ⟨g31, T⟩ := T
                  refine R_iaload (Dat dd_Y_copy 76 rfl) (Or.inl S.t404) (lnle (show ln h 404 = 4 from S.l404) (by decide)) g30 (lnlt (show ln h 404 = 4 from S.l404) g31) ?_
                  refine R_iload (Dat dd_Y_copy 77 rfl) rfl ?_
                  refine R_isub (Dat dd_Y_copy 78 rfl) ?_
                  obtain ⟨g32, T⟩ := T
                  obtain ⟨g33, T⟩ := T
                  refine R_ic_le (Dat dd_Y_copy 79 rfl) rfl g32 g33 (fun c => ?_) (fun c => ?_)
                  · replace T := T.1 c
                    refine R_aload_n (Dat dd_Y_copy 80 rfl) rfl rfl ?_
                    refine R_iconst (Dat dd_Y_copy 81 rfl) ?_
                    exact R_call1 (Dat dd_Y_copy 82 rfl) rfl S.t400 rfl rfl rfl rfl rfl T
                  · replace T := T.2 c
                    refine R_iload_n (Dat dd_Y_copy 84 rfl) rfl ?_
                    refine R_iload (Dat dd_Y_copy 85 rfl) rfl ?_
                    obtain ⟨g34, T⟩ := T
                    obtain ⟨g35, T⟩ := T
                    refine R_ic_ge (Dat dd_Y_copy 86 rfl) rfl g34 g35 (fun c => ?_) (fun c => ?_)
                    · replace T := T.1 c
                      refine R_iconst (Dat dd_Y_copy 87 rfl) ?_
                      refine R_goto (Dat dd_Y_copy 88 rfl) rfl ?_
                      refine R_istore (Dat dd_Y_copy 90 rfl) rfl rfl ?_
                      refine R_iconst (Dat dd_Y_copy 91 rfl) ?_
                      refine R_istore (Dat dd_Y_copy 92 rfl) rfl rfl ?_
                      exact T
                    · replace T := T.2 c
                      refine R_iconst (Dat dd_Y_copy 89 rfl) ?_
                      refine R_istore (Dat dd_Y_copy 90 rfl) rfl rfl ?_
                      refine R_iconst (Dat dd_Y_copy 91 rfl) ?_
                      refine R_istore (Dat dd_Y_copy 92 rfl) rfl rfl ?_
                      exact T
            · replace T := T.2 c
              refine R_iload (Dat dd_Y_copy 44 rfl) rfl ?_
              obtain ⟨g36, T⟩ := T
              refine R_if_lt (Dat dd_Y_copy 45 rfl) rfl g36  (fun c => ?_) (fun c => ?_)
              · replace T := T.1 c
                refine R_iconst (Dat dd_Y_copy 60 rfl) ?_
                refine R_istore (Dat dd_Y_copy 61 rfl) rfl rfl ?_
                refine R_iload (Dat dd_Y_copy 62 rfl) rfl ?_
                refine R_if_eq (Dat dd_Y_copy 63 rfl) rfl (by decide)  (fun c => ?_) (fun c => ?_)
                · replace T := T.1 c
                  refine R_aload_n (Dat dd_Y_copy 80 rfl) rfl rfl ?_
                  refine R_iconst (Dat dd_Y_copy 81 rfl) ?_
                  exact R_call1 (Dat dd_Y_copy 82 rfl) rfl S.t400 rfl rfl rfl rfl rfl T
                · replace T := T.2 c
                  refine R_iload (Dat dd_Y_copy 64 rfl) rfl ?_
                  refine R_aload_n (Dat dd_Y_copy 65 rfl) rfl rfl ?_
                  refine R_getr (Dat dd_Y_copy 66 rfl) rfl rfl (tok S.t400) S.f400_3 (q := 404) rfl (tnz S.t404) ?_
                  refine R_iload_n (Dat dd_Y_copy 67 rfl) rfl ?_
                  obtain ⟨g37, T⟩ := T
                  obtain ⟨g38, T⟩ := T
                  refine R_iaload (Dat dd_Y_copy 68 rfl) (Or.inl S.t404) (lnle (show ln h 404 = 4 from S.l404) (by decide)) g37 (lnlt (show ln h 404 = 4 from S.l404) g38) ?_
                  refine R_iload_n (Dat dd_Y_copy 69 rfl) rfl ?_
                  refine R_isub (Dat dd_Y_copy 70 rfl) ?_
                  obtain ⟨g39, T⟩ := T
                  obtain ⟨g40, T⟩ := T
                  refine R_ic_gt (Dat dd_Y_copy 71 rfl) rfl g39 g40 (fun c => ?_) (fun c => ?_)
                  · replace T := T.1 c
                    refine R_aload_n (Dat dd_Y_copy 80 rfl) rfl rfl ?_
                    refine R_iconst (Dat dd_Y_copy 81 rfl) ?_
                    exact R_call1 (Dat dd_Y_copy 82 rfl) rfl S.t400 rfl rfl rfl rfl rfl T
                  · replace T := T.2 c
                    refine R_iload (Dat dd_Y_copy 72 rfl) rfl ?_
                    refine R_aload_n (Dat dd_Y_copy 73 rfl) rfl rfl ?_
                    refine R_getr (Dat dd_Y_copy 74 rfl) rfl rfl (tok S.t400) S.f400_3 (q := 404) rfl (tnz S.t404) ?_
                    refine R_iload_n (Dat dd_Y_copy 75 rfl) rfl ?_
                    obtain ⟨g41, T⟩ := T
                    obtain ⟨g42, T⟩ := T
                    refine R_iaload (Dat dd_Y_copy 76 rfl) (Or.inl S.t404) (lnle (show ln h 404 = 4 from S.l404) (by decide)) g41 (lnlt (show ln h 404 = 4 from S.l404) g42) ?_
                    refine R_iload (Dat dd_Y_copy 77 rfl) rfl ?_
                    refine R_isub (Dat dd_Y_copy 78 rfl) ?_
                    obtain ⟨g43, T⟩ := T
                    obtain ⟨g44, T⟩ := T
                    refine R_ic_le (Dat dd_Y_copy 79 rfl) rfl g43 g44 (fun c => ?_) (fun c => ?_)
                    · replace T := T.1 c
                      refine R_aload_n (Dat dd_Y_copy 80 rfl) rfl rfl ?_
                      refine R_iconst (Dat dd_Y_copy 81 rfl) ?_
                      exact R_call1 (Dat dd_Y_copy 82 rfl) rfl S.t400 rfl rfl rfl rfl rfl T
                    · replace T := T.2 c
                      refine R_iload_n (Dat dd_Y_copy 84 rfl) rfl ?_
                      refine R_iload (Dat dd_Y_copy 85 rfl) rfl ?_
                      obtain ⟨g45, T⟩ := T
                      obtain ⟨g46, T⟩ := T
                      refine R_ic_ge (Dat dd_Y_copy 86 rfl) rfl g45 g46 (fun c => ?_) (fun c => ?_)
                      · replace T := T.1 c
                        refine R_iconst (Dat dd_Y_copy 87 rfl) ?_
                        refine R_goto (Dat dd_Y_copy 88 rfl) rfl ?_
                        refine R_istore (Dat dd_Y_copy 90 rfl) rfl rfl ?_
                        refine R_iconst (Dat dd_Y_copy 91 rfl) ?_
                        refine R_istore (Dat dd_Y_copy 92 rfl) rfl rfl ?_
                        exact T
                      · replace T := T.2 c
                        refine R_iconst (Dat dd_Y_copy 89 rfl) ?_
                        refine R_istore (Dat dd_Y_copy 90 rfl) rfl rfl ?_
                        refine R_iconst (Dat dd_Y_copy 91 rfl) ?_
                        refine R_istore (Dat dd_Y_copy 92 rfl) rfl rfl ?_
                        exact T
              · replace T := T.2 c
                refine R_iload_n (Dat dd_Y_copy 46 rfl) rfl ?_
                refine R_aload_n (Dat dd_Y_copy 47 rfl) rfl rfl ?_
                refine R_getr (Dat dd_Y_copy 48 rfl) rfl rfl (tok S.t400) S.f400_3 (q := 404) rfl (tnz S.t404) ?_
                refine R_iload_n (Dat dd_Y_copy 49 rfl) rfl ?_
                obtain ⟨g47, T⟩ := T
                obtain ⟨g48, T⟩ := T
                refine R_iaload (Dat dd_Y_copy 50 rfl) (Or.inl S.t404) (lnle (show ln h 404 = 4 from S.l404) (by decide)) g47 (lnlt (show ln h 404 = 4 from S.l404) g48) ?_
                obtain ⟨g49, T⟩ := T
                obtain ⟨g50, T⟩ := T
                refine R_ic_gt (Dat dd_Y_copy 51 rfl) rfl g49 g50 (fun c => ?_) (fun c => ?_)
                · replace T := T.1 c
                  refine R_iconst (Dat dd_Y_copy 60 rfl) ?_
                  refine R_istore (Dat dd_Y_copy 61 rfl) rfl rfl ?_
                  refine R_iload (Dat dd_Y_copy 62 rfl) rfl ?_
                  refine R_if_eq (Dat dd_Y_copy 63 rfl) rfl (by decide)  (fun c => ?_) (fun c => ?_)
                  · replace T := T.1 c
                    refine R_aload_n (Dat dd_Y_copy 80 rfl) rfl rfl ?_
                    refine R_iconst (Dat dd_Y_copy 81 rfl) ?_
                    exact R_call1 (Dat dd_Y_copy 82 rfl) rfl S.t400 rfl rfl rfl rfl rfl T
                  · replace T := T.2 c
                    refine R_iload (Dat dd_Y_copy 64 rfl) rfl ?_
                    refine R_aload_n (Dat dd_Y_copy 65 rfl) rfl rfl ?_
                    refine R_getr (Dat dd_Y_copy 66 rfl) rfl rfl (tok S.t400) S.f400_3 (q := 404) rfl (tnz S.t404) ?_
                    refine R_iload_n (Dat dd_Y_copy 67 rfl) rfl ?_
                    obtain ⟨g51, T⟩ := T
                    obtain ⟨g52, T⟩ := T
                    refine R_iaload (Dat dd_Y_copy 68 rfl) (Or.inl S.t404) (lnle (show ln h 404 = 4 from S.l404) (by decide)) g51 (lnlt (show ln h 404 = 4 from S.l404) g52) ?_
                    refine R_iload_n (Dat dd_Y_copy 69 rfl) rfl ?_
                    refine R_isub (Dat dd_Y_copy 70 rfl) ?_
                    obtain ⟨g53, T⟩ := T
                    obtain ⟨g54, T⟩ := T
                    refine R_ic_gt (Dat dd_Y_copy 71 rfl) rfl g53 g54 (fun c => ?_) (fun c => ?_)
                    · replace T := T.1 c
                      refine R_aload_n (Dat dd_Y_copy 80 rfl) rfl rfl ?_
                      refine R_iconst (Dat dd_Y_copy 81 rfl) ?_
                      exact R_call1 (Dat dd_Y_copy 82 rfl) rfl S.t400 rfl rfl rfl rfl rfl T
                    · replace T := T.2 c
                      refine R_iload (Dat dd_Y_copy 72 rfl) rfl ?_
                      refine R_aload_n (Dat dd_Y_copy 73 rfl) rfl rfl ?_
                      refine R_getr (Dat dd_Y_copy 74 rfl) rfl rfl (tok S.t400) S.f400_3 (q := 404) rfl (tnz S.t404) ?_
                      refine R_iload_n (Dat dd_Y_copy 75 rfl) rfl ?_
                      obtain ⟨g55, T⟩ := T
                      obtain ⟨g56, T⟩ := T
                      refine R_iaload (Dat dd_Y_copy 76 rfl) (Or.inl S.t404) (lnle (show ln h 404 = 4 from S.l404) (by decide)) g55 (lnlt (show ln h 404 = 4 from S.l404) g56) ?_
                      refine R_iload (Dat dd_Y_copy 77 rfl) rfl ?_
                      refine R_isub (Dat dd_Y_copy 78 rfl) ?_
                      obtain ⟨g57, T⟩ := T
                      obtain ⟨g58, T⟩ := T
                      refine R_ic_le (Dat dd_Y_copy 79 rfl) rfl g57 g58 (fun c => ?_) (fun c => ?_)
                      · replace T := T.1 c
                        refine R_aload_n (Dat dd_Y_copy 80 rfl) rfl rfl ?_
                        refine R_iconst (Dat dd_Y_copy 81 rfl) ?_
                        exact R_call1 (Dat dd_Y_copy 82 rfl) rfl S.t400 rfl rfl rfl rfl rfl T
                      · replace T := T.2 c
                        refine R_iload_n (Dat dd_Y_copy 84 rfl) rfl ?_
                        refine R_iload (Dat dd_Y_copy 85 rfl) rfl ?_
                        obtain ⟨g59, T⟩ := T
                        obtain ⟨g60, T⟩ := T
                        refine R_ic_ge (Dat dd_Y_copy 86 rfl) rfl g59 g60 (fun c => ?_) (fun c => ?_)
                        · replace T := T.1 c
                          refine R_iconst (Dat dd_Y_copy 87 rfl) ?_
                          refine R_goto (Dat dd_Y_copy 88 rfl) rfl ?_
                          refine R_istore (Dat dd_Y_copy 90 rfl) rfl rfl ?_
                          refine R_iconst (Dat dd_Y_copy 91 rfl) ?_
                          refine R_istore (Dat dd_Y_copy 92 rfl) rfl rfl ?_
                          exact T
                        · replace T := T.2 c
                          refine R_iconst (Dat dd_Y_copy 89 rfl) ?_
                          refine R_istore (Dat dd_Y_copy 90 rfl) rfl rfl ?_
                          refine R_iconst (Dat dd_Y_copy 91 rfl) ?_
                          refine R_istore (Dat dd_Y_copy 92 rfl) rfl rfl ?_
                          exact T
                · replace T := T.2 c
                  refine R_iload (Dat dd_Y_copy 52 rfl) rfl ?_
                  refine R_aload_n (Dat dd_Y_copy 53 rfl) rfl rfl ?_
                  refine R_getr (Dat dd_Y_copy 54 rfl) rfl rfl (tok S.t400) S.f400_3 (q := 404) rfl (tnz S.t404) ?_
                  refine R_iload_n (Dat dd_Y_copy 55 rfl) rfl ?_
                  obtain ⟨g61, T⟩ := T
                  obtain ⟨g62, T⟩ := T
                  refine R_iaload (Dat dd_Y_copy 56 rfl) (Or.inl S.t404) (lnle (show ln h 404 = 4 from S.l404) (by decide)) g61 (lnlt (show ln h 404 = 4 from S.l404) g62) ?_
                  obtain ⟨g63, T⟩ := T
                  obtain ⟨g64, T⟩ := T
                  refine R_ic_gt (Dat dd_Y_copy 57 rfl) rfl g63 g64 (fun c => ?_) (fun c => ?_)
                  · replace T := T.1 c
                    refine R_iconst (Dat dd_Y_copy 60 rfl) ?_
                    refine R_istore (Dat dd_Y_copy 61 rfl) rfl rfl ?_
                    refine R_iload (Dat dd_Y_copy 62 rfl) rfl ?_
                    refine R_if_eq (Dat dd_Y_copy 63 rfl) rfl (by decide)  (fun c => ?_) (fun c => ?_)
                    · replace T := T.1 c
                      refine R_aload_n (Dat dd_Y_copy 80 rfl) rfl rfl ?_
                      refine R_iconst (Dat dd_Y_copy 81 rfl) ?_
                      exact R_call1 (Dat dd_Y_copy 82 rfl) rfl S.t400 rfl rfl rfl rfl rfl T
                    · replace T := T.2 c
                      refine R_iload (Dat dd_Y_copy 64 rfl) rfl ?_
                      refine R_aload_n (Dat dd_Y_copy 65 rfl) rfl rfl ?_
                      refine R_getr (Dat dd_Y_copy 66 rfl) rfl rfl (tok S.t400) S.f400_3 (q := 404) rfl (tnz S.t404) ?_
                      refine R_iload_n (Dat dd_Y_copy 67 rfl) rfl ?_
                      obtain ⟨g65, T⟩ := T
                      obtain ⟨g66, T⟩ := T
                      refine R_iaload (Dat dd_Y_copy 68 rfl) (Or.inl S.t404) (lnle (show ln h 404 = 4 from S.l404) (by decide)) g65 (lnlt (show ln h 404 = 4 from S.l404) g66) ?_
                      refine R_iload_n (Dat dd_Y_copy 69 rfl) rfl ?_
                      refine R_isub (Dat dd_Y_copy 70 rfl) ?_
                      obtain ⟨g67, T⟩ := T
                      obtain ⟨g68, T⟩ := T
                      refine R_ic_gt (Dat dd_Y_copy 71 rfl) rfl g67 g68 (fun c => ?_) (fun c => ?_)
                      · replace T := T.1 c
                        refine R_aload_n (Dat dd_Y_copy 80 rfl) rfl rfl ?_
                        refine R_iconst (Dat dd_Y_copy 81 rfl) ?_
                        exact R_call1 (Dat dd_Y_copy 82 rfl) rfl S.t400 rfl rfl rfl rfl rfl T
                      · replace T := T.2 c
                        refine R_iload (Dat dd_Y_copy 72 rfl) rfl ?_
                        refine R_aload_n (Dat dd_Y_copy 73 rfl) rfl rfl ?_
                        refine R_getr (Dat dd_Y_copy 74 rfl) rfl rfl (tok S.t400) S.f400_3 (q := 404) rfl (tnz S.t404) ?_
                        refine R_iload_n (Dat dd_Y_copy 75 rfl) rfl ?_
                        obtain ⟨g69, T⟩ := T
                        obtain ⟨g70, T⟩ := T
                        refine R_iaload (Dat dd_Y_copy 76 rfl) (Or.inl S.t404) (lnle (show ln h 404 = 4 from S.l404) (by decide)) g69 (lnlt (show ln h 404 = 4 from S.l404) g70) ?_
                        refine R_iload (Dat dd_Y_copy 77 rfl) rfl ?_
                        refine R_isub (Dat dd_Y_copy 78 rfl) ?_
                        obtain ⟨g71, T⟩ := T
                        obtain ⟨g72, T⟩ := T
                        refine R_ic_le (Dat dd_Y_copy 79 rfl) rfl g71 g72 (fun c => ?_) (fun c => ?_)
                        · replace T := T.1 c
                          refine R_aload_n (Dat dd_Y_copy 80 rfl) rfl rfl ?_
                          refine R_iconst (Dat dd_Y_copy 81 rfl) ?_
                          exact R_call1 (Dat dd_Y_copy 82 rfl) rfl S.t400 rfl rfl rfl rfl rfl T
                        · replace T := T.2 c
                          refine R_iload_n (Dat dd_Y_copy 84 rfl) rfl ?_
                          refine R_iload (Dat dd_Y_copy 85 rfl) rfl ?_
                          obtain ⟨g73, T⟩ := T
                          obtain ⟨g74, T⟩ := T
                          refine R_ic_ge (Dat dd_Y_copy 86 rfl) rfl g73 g74 (fun c => ?_) (fun c => ?_)
                          · replace T := T.1 c
                            refine R_iconst (Dat dd_Y_copy 87 rfl) ?_
                            refine R_goto (Dat dd_Y_copy 88 rfl) rfl ?_
                            refine R_istore (Dat dd_Y_copy 90 rfl) rfl rfl ?_
                            refine R_iconst (Dat dd_Y_copy 91 rfl) ?_
                            refine R_istore (Dat dd_Y_copy 92 rfl) rfl rfl ?_
                            exact T
                          · replace T := T.2 c
                            refine R_iconst (Dat dd_Y_copy 89 rfl) ?_
                            refine R_istore (Dat dd_Y_copy 90 rfl) rfl rfl ?_
                            refine R_iconst (Dat dd_Y_copy 91 rfl) ?_
                            refine R_istore (Dat dd_Y_copy 92 rfl) rfl rfl ?_
                            exact T
                  · replace T := T.2 c
                    refine R_iconst (Dat dd_Y_copy 58 rfl) ?_
                    refine R_goto (Dat dd_Y_copy 59 rfl) rfl ?_
                    refine R_istore (Dat dd_Y_copy 61 rfl) rfl rfl ?_
                    refine R_iload (Dat dd_Y_copy 62 rfl) rfl ?_
                    refine R_if_eq (Dat dd_Y_copy 63 rfl) rfl (by decide)  (fun c => ?_) (fun c => ?_)
                    · replace T := T.1 c
                      refine R_aload_n (Dat dd_Y_copy 80 rfl) rfl rfl ?_
                      refine R_iconst (Dat dd_Y_copy 81 rfl) ?_
                      exact R_call1 (Dat dd_Y_copy 82 rfl) rfl S.t400 rfl rfl rfl rfl rfl T
                    · replace T := T.2 c
                      refine R_iload (Dat dd_Y_copy 64 rfl) rfl ?_
                      refine R_aload_n (Dat dd_Y_copy 65 rfl) rfl rfl ?_
                      refine R_getr (Dat dd_Y_copy 66 rfl) rfl rfl (tok S.t400) S.f400_3 (q := 404) rfl (tnz S.t404) ?_
                      refine R_iload_n (Dat dd_Y_copy 67 rfl) rfl ?_
                      obtain ⟨g75, T⟩ := T
                      obtain ⟨g76, T⟩ := T
                      refine R_iaload (Dat dd_Y_copy 68 rfl) (Or.inl S.t404) (lnle (show ln h 404 = 4 from S.l404) (by decide)) g75 (lnlt (show ln h 404 = 4 from S.l404) g76) ?_
                      refine R_iload_n (Dat dd_Y_copy 69 rfl) rfl ?_
                      refine R_isub (Dat dd_Y_copy 70 rfl) ?_
                      obtain ⟨g77, T⟩ := T
                      obtain ⟨g78, T⟩ := T
                      refine R_ic_gt (Dat dd_Y_copy 71 rfl) rfl g77 g78 (fun c => ?_) (fun c => ?_)
                      · replace T := T.1 c
                        refine R_aload_n (Dat dd_Y_copy 80 rfl) rfl rfl ?_
                        refine R_iconst (Dat dd_Y_copy 81 rfl) ?_
                        exact R_call1 (Dat dd_Y_copy 82 rfl) rfl S.t400 rfl rfl rfl rfl rfl T
                      · replace T := T.2 c
                        refine R_iload (Dat dd_Y_copy 72 rfl) rfl ?_
                        refine R_aload_n (Dat dd_Y_copy 73 rfl) rfl rfl ?_
                        refine R_getr (Dat dd_Y_copy 74 rfl) rfl rfl (tok S.t400) S.f400_3 (q := 404) rfl (tnz S.t404) ?_
                        refine R_iload_n (Dat dd_Y_copy 75 rfl) rfl ?_
                        obtain ⟨g79, T⟩ := T
                        obtain ⟨g80, T⟩ := T
                        refine R_iaload (Dat dd_Y_copy 76 rfl) (Or.inl S.t404) (lnle (show ln h 404 = 4 from S.l404) (by decide)) g79 (lnlt (show ln h 404 = 4 from S.l404) g80) ?_
                        refine R_iload (Dat dd_Y_copy 77 rfl) rfl ?_
                        refine R_isub (Dat dd_Y_copy 78 rfl) ?_
                        obtain ⟨g81, T⟩ := T
                        obtain ⟨g82, T⟩ := T
                        refine R_ic_le (Dat dd_Y_copy 79 rfl) rfl g81 g82 (fun c => ?_) (fun c => ?_)
                        · replace T := T.1 c
                          refine R_aload_n (Dat dd_Y_copy 80 rfl) rfl rfl ?_
                          refine R_iconst (Dat dd_Y_copy 81 rfl) ?_
                          exact R_call1 (Dat dd_Y_copy 82 rfl) rfl S.t400 rfl rfl rfl rfl rfl T
                        · replace T := T.2 c
                          refine R_iload_n (Dat dd_Y_copy 84 rfl) rfl ?_
                          refine R_iload (Dat dd_Y_copy 85 rfl) rfl ?_
                          obtain ⟨g83, T⟩ := T
                          obtain ⟨g84, T⟩ := T
                          refine R_ic_ge (Dat dd_Y_copy 86 rfl) rfl g83 g84 (fun c => ?_) (fun c => ?_)
                          · replace T := T.1 c
                            refine R_iconst (Dat dd_Y_copy 87 rfl) ?_
                            refine R_goto (Dat dd_Y_copy 88 rfl) rfl ?_
                            refine R_istore (Dat dd_Y_copy 90 rfl) rfl rfl ?_
                            refine R_iconst (Dat dd_Y_copy 91 rfl) ?_
                            refine R_istore (Dat dd_Y_copy 92 rfl) rfl rfl ?_
                            exact T
                          · replace T := T.2 c
                            refine R_iconst (Dat dd_Y_copy 89 rfl) ?_
                            refine R_istore (Dat dd_Y_copy 90 rfl) rfl rfl ?_
                            refine R_iconst (Dat dd_Y_copy 91 rfl) ?_
                            refine R_istore (Dat dd_Y_copy 92 rfl) rfl rfl ?_
                            exact T
        · replace T := T.2 c
          refine R_aload_n (Dat dd_Y_copy 36 rfl) rfl rfl ?_
          refine R_iconst (Dat dd_Y_copy 37 rfl) ?_
          exact R_call1 (Dat dd_Y_copy 38 rfl) rfl S.t400 rfl rfl rfl rfl rfl T
theorem t_Y_copy_48 {h : Hp} {P : Value → Hp → Prop} {s0 : Int} {a0 a1 a2 a3 a4 a5 a6 a7 a8 a9 : Value} (S : YS h) (T : P (.int (I s0)) h) : R 200 48 [a0, a1, a2, a3, a4, a5, a6, a7, a8, a9] [.int (I s0)] h P := by
  exact R_ireturn (Dat dd_Y_copy 26 rfl) rfl T
theorem t_Y_copy_149 {h : Hp} {P : Value → Hp → Prop} {s0 : Int} {a0 a1 a2 a3 a4 a5 a6 a7 a8 a9 : Value} (S : YS h) (T : P (.int (I s0)) h) : R 200 149 [a0, a1, a2, a3, a4, a5, a6, a7, a8, a9] [.int (I s0)] h P := by
  exact R_ireturn (Dat dd_Y_copy 83 rfl) rfl T
theorem t_Y_copy_166 {h : Hp} {P : Value → Hp → Prop} {a1 a2 a3 a4 a5 a7 a8 : Int} {a6 a9 : Value} (S : YS h) (T : (rng a8) ∧ (rng a5) ∧ ((a8 < a5 → (rng a7) ∧ ((a7 = 0 → (0 ≤ (((60 * a1) + a2) + a8)) ∧ ((((60 * a1) + a2) + a8) < 240) ∧ (0 ≤ (((60 * a3) + a4) + a8)) ∧ ((((60 * a3) + a4) + a8) < 240) ∧ R 200 166 [.ref 400, .int (I a1), .int (I a2), .int (I a3), .int (I a4), .int (I a5), a6, .int (I a7), .int (I (a8 + 1)), .int (I a8)] [] (setI h 405 (((60 * a3) + a4) + a8) (wr (iv h 405 (((60 * a1) + a2) + a8)))) P) ∧ (¬ a7 = 0 → (0 ≤ (((60 * a1) + a2) + ((a5 - 1) - a8))) ∧ ((((60 * a1) + a2) + ((a5 - 1) - a8)) < 240) ∧ (0 ≤ (((60 * a3) + a4) + ((a5 - 1) - a8))) ∧ ((((60 * a3) + a4) + ((a5 - 1) - a8)) < 240) ∧ R 200 166 [.ref 400, .int (I a1), .int (I a2), .int (I a3), .int (I a4), .int (I a5), a6, .int (I a7), .int (I (a8 + 1)), .int (I ((a5 - 1) - a8))] [] (setI h 405 (((60 * a3) + a4) + ((a5 - 1) - a8)) (wr (iv h 405 (((60 * a1) + a2) + ((a5 - 1) - a8))))) P))) ∧ (¬ a8 < a5 → P (.int (I a5)) h))) : R 200 166 [.ref 400, .int (I a1), .int (I a2), .int (I a3), .int (I a4), .int (I a5), a6, .int (I a7), .int (I a8), a9] [] h P := by
  refine R_iload (Dat dd_Y_copy 93 rfl) rfl ?_
  refine R_iload (Dat dd_Y_copy 94 rfl) rfl ?_
  obtain ⟨g1, T⟩ := T
  obtain ⟨g2, T⟩ := T
  refine R_ic_ge (Dat dd_Y_copy 95 rfl) rfl g1 g2 (fun c => ?_) (fun c => ?_)
  · replace T := T.1 c
    refine R_iload (Dat dd_Y_copy 96 rfl) rfl ?_
    obtain ⟨g3, T⟩ := T
    refine R_if_eq (Dat dd_Y_copy 97 rfl) rfl g3  (fun c => ?_) (fun c => ?_)
    · replace T := T.1 c
      refine R_iload (Dat dd_Y_copy 104 rfl) rfl ?_
      refine R_istore (Dat dd_Y_copy 105 rfl) rfl rfl ?_
      refine R_aload_n (Dat dd_Y_copy 106 rfl) rfl rfl ?_
      refine R_getr (Dat dd_Y_copy 107 rfl) rfl rfl (tok S.t400) S.f400_4 (q := 405) rfl (tnz S.t405) ?_
      refine R_bipush (Dat dd_Y_copy 108 rfl) (a := 60) rfl ?_
      refine R_iload_n (Dat dd_Y_copy 109 rfl) rfl ?_
      refine R_imul (Dat dd_Y_copy 110 rfl) ?_
      refine R_iload (Dat dd_Y_copy 111 rfl) rfl ?_
      refine R_iadd (Dat dd_Y_copy 112 rfl) ?_
      refine R_iload (Dat dd_Y_copy 113 rfl) rfl ?_
      refine R_iadd (Dat dd_Y_copy 114 rfl) ?_
      refine R_aload_n (Dat dd_Y_copy 115 rfl) rfl rfl ?_
      refine R_getr (Dat dd_Y_copy 116 rfl) rfl rfl (tok S.t400) S.f400_4 (q := 405) rfl (tnz S.t405) ?_
      refine R_bipush (Dat dd_Y_copy 117 rfl) (a := 60) rfl ?_
      refine R_iload_n (Dat dd_Y_copy 118 rfl) rfl ?_
      refine R_imul (Dat dd_Y_copy 119 rfl) ?_
      refine R_iload_n (Dat dd_Y_copy 120 rfl) rfl ?_
      refine R_iadd (Dat dd_Y_copy 121 rfl) ?_
      refine R_iload (Dat dd_Y_copy 122 rfl) rfl ?_
      refine R_iadd (Dat dd_Y_copy 123 rfl) ?_
      obtain ⟨g4, T⟩ := T
      obtain ⟨g5, T⟩ := T
      refine R_iaload (Dat dd_Y_copy 124 rfl) (Or.inl S.t405) (lnle (show ln h 405 = 240 from S.l405) (by decide)) g4 (lnlt (show ln h 405 = 240 from S.l405) g5) ?_
      obtain ⟨g6, T⟩ := T
      obtain ⟨g7, T⟩ := T
      refine R_iastore (Dat dd_Y_copy 125 rfl) S.t405 (lnle (show ln h 405 = 240 from S.l405) (by decide)) g6 (lnlt (show ln h 405 = 240 from S.l405) g7) (v := wr (iv h 405 (((60 * a1) + a2) + a8))) rfl ?_
      refine R_iinc (Dat dd_Y_copy 126 rfl) rfl rfl rfl ?_
      refine R_goto (Dat dd_Y_copy 127 rfl) rfl ?_
      exact T
    · replace T := T.2 c
      refine R_iload (Dat dd_Y_copy 98 rfl) rfl ?_
      refine R_iconst (Dat dd_Y_copy 99 rfl) ?_
      refine R_isub (Dat dd_Y_copy 100 rfl) ?_
      refine R_iload (Dat dd_Y_copy 101 rfl) rfl ?_
      refine R_isub (Dat dd_Y_copy 102 rfl) ?_
      refine R_goto (Dat dd_Y_copy 103 rfl) rfl ?_
      refine R_istore (Dat dd_Y_copy 105 rfl) rfl rfl ?_
      refine R_aload_n (Dat dd_Y_copy 106 rfl) rfl rfl ?_
      refine R_getr (Dat dd_Y_copy 107 rfl) rfl rfl (tok S.t400) S.f400_4 (q := 405) rfl (tnz S.t405) ?_
      refine R_bipush (Dat dd_Y_copy 108 rfl) (a := 60) rfl ?_
      refine R_iload_n (Dat dd_Y_copy 109 rfl) rfl ?_
      refine R_imul (Dat dd_Y_copy 110 rfl) ?_
      refine R_iload (Dat dd_Y_copy 111 rfl) rfl ?_
      refine R_iadd (Dat dd_Y_copy 112 rfl) ?_
      refine R_iload (Dat dd_Y_copy 113 rfl) rfl ?_
      refine R_iadd (Dat dd_Y_copy 114 rfl) ?_
      refine R_aload_n (Dat dd_Y_copy 115 rfl) rfl rfl ?_
      refine R_getr (Dat dd_Y_copy 116 rfl) rfl rfl (tok S.t400) S.f400_4 (q := 405) rfl (tnz S.t405) ?_
      refine R_bipush (Dat dd_Y_copy 117 rfl) (a := 60) rfl ?_
      refine R_iload_n (Dat dd_Y_copy 118 rfl) rfl ?_
      refine R_imul (Dat dd_Y_copy 119 rfl) ?_
      refine R_iload_n (Dat dd_Y_copy 120 rfl) rfl ?_
      refine R_iadd (Dat dd_Y_copy 121 rfl) ?_
      refine R_iload (Dat dd_Y_copy 122 rfl) rfl ?_
      refine R_iadd (Dat dd_Y_copy 123 rfl) ?_
      obtain ⟨g8, T⟩ := T
      obtain ⟨g9, T⟩ := T
      refine R_iaload (Dat dd_Y_copy 124 rfl) (Or.inl S.t405) (lnle (show ln h 405 = 240 from S.l405) (by decide)) g8 (lnlt (show ln h 405 = 240 from S.l405) g9) ?_
      obtain ⟨g10, T⟩ := T
      obtain ⟨g11, T⟩ := T
      refine R_iastore (Dat dd_Y_copy 125 rfl) S.t405 (lnle (show ln h 405 = 240 from S.l405) (by decide)) g10 (lnlt (show ln h 405 = 240 from S.l405) g11) (v := wr (iv h 405 (((60 * a1) + a2) + ((a5 - 1) - a8)))) rfl ?_
      refine R_iinc (Dat dd_Y_copy 126 rfl) rfl rfl rfl ?_
      refine R_goto (Dat dd_Y_copy 127 rfl) rfl ?_
      exact T
  · replace T := T.2 c
    refine R_iload (Dat dd_Y_copy 128 rfl) rfl ?_
    exact R_ireturn (Dat dd_Y_copy 129 rfl) rfl T
theorem t_Y_copy_69 {h : Hp} {P : Value → Hp → Prop} {s0 : Int} {a0 a1 a2 a3 a4 a5 a6 a7 a8 a9 : Value} (S : YS h) (T : P (.int (I s0)) h) : R 200 69 [a0, a1, a2, a3, a4, a5, a6, a7, a8, a9] [.int (I s0)] h P := by
  exact R_ireturn (Dat dd_Y_copy 39 rfl) rfl T
def dl_Y_begins : List (Nat × Instr × Nat) := [(0, .aload_n 0, 1), (1, .bipush 31, 2), (3, .aload_n 0, 1), (4, .getfield 257, 3), (7, .imul, 1), (8, .iload_n 1, 1), (9, .iadd, 1), (10, .putfield 257, 3), (13, .return_, 1)]
theorem dd_Y_begins : Dall 202 dl_Y_begins = true := by decide +kernel
theorem t_Y_begins {h : Hp} {P : Value → Hp → Prop} {p0 : Int} (S : YS h) (T : P .null (setI h 400 1 (wr ((31 * (iv h 400 1)) + p0)))) : R 202 0 [.ref 400, .int (I p0)] [] h P := by
  refine R_aload_n (Dat dd_Y_begins 0 rfl) rfl rfl ?_
  refine R_bipush (Dat dd_Y_begins 1 rfl) (a := 31) rfl ?_
  refine R_aload_n (Dat dd_Y_begins 2 rfl) rfl rfl ?_
  refine R_geti (Dat dd_Y_begins 3 rfl) rfl rfl (tok S.t400) ?_
  refine R_imul (Dat dd_Y_begins 4 rfl) ?_
  refine R_iload_n (Dat dd_Y_begins 5 rfl) rfl ?_
  refine R_iadd (Dat dd_Y_begins 6 rfl) ?_
  refine R_puti (Dat dd_Y_begins 7 rfl) rfl rfl rfl (tok S.t400) rfl (v := wr ((31 * (iv h 400 1)) + p0)) rfl ?_
  exact R_return (Dat dd_Y_begins 8 rfl) rfl T
def dl_Y_sift : List (Nat × Instr × Nat) := [(0, .aload_n 0, 1), (1, .iload_n 1, 1), (2, .invokevirtual 142, 3), (5, .ifCond .ne 5, 3), (8, .iconst (-1), 1), (9, .ireturn, 1), (10, .aload_n 0, 1), (11, .aload_n 0, 1), (12, .getfield 25, 3), (15, .iload_n 1, 1), (16, .iaload, 1), (17, .iconst 2, 1), (18, .if_icmp .ne 7, 3), (21, .iconst 5, 1), (22, .goto 4, 3), (25, .iconst 4, 1), (26, .invokevirtual 260, 3), (29, .aload_n 0, 1), (30, .getfield 25, 3), (33, .iload_n 1, 1), (34, .iaload, 1), (35, .iconst 2, 1), (36, .if_icmp .ne 8, 3), (39, .bipush 50, 2), (41, .goto 4, 3), (44, .iload_n 1, 1), (45, .ireturn, 1)]
theorem dd_Y_sift : Dall 203 dl_Y_sift = true := by decide +kernel
theorem t_Y_sift {h : Hp} {P : Value → Hp → Prop} {p0 : Int} (S : YS h) (T : R 137 0 [.ref 400, .int (I p0)] [] h (fun v h2 => R 203 5 [.ref 400, .int (I p0)] (v :: []) h2 P)) : R 203 0 [.ref 400, .int (I p0)] [] h P := by
  refine R_aload_n (Dat dd_Y_sift 0 rfl) rfl rfl ?_
  refine R_iload_n (Dat dd_Y_sift 1 rfl) rfl ?_
  exact R_call1 (Dat dd_Y_sift 2 rfl) rfl S.t400 rfl rfl rfl rfl rfl T
theorem t_Y_sift_5 {h : Hp} {P : Value → Hp → Prop} {a1 s0 : Int} (S : YS h) (T : (rng s0) ∧ ((s0 = 0 → P (.int (I (-1))) h) ∧ (¬ s0 = 0 → (0 ≤ a1) ∧ (a1 < 7) ∧ (rng (iv h 412 a1)) ∧ (((iv h 412 a1) = 2 → R 202 0 [.ref 400, .int (I 5)] [] h (fun _ h2 => R 203 29 [.ref 400, .int (I a1)] [] h2 P)) ∧ (¬ (iv h 412 a1) = 2 → R 202 0 [.ref 400, .int (I 4)] [] h (fun _ h2 => R 203 29 [.ref 400, .int (I a1)] [] h2 P)))))) : R 203 5 [.ref 400, .int (I a1)] [.int (I s0)] h P := by
  obtain ⟨g1, T⟩ := T
  refine R_if_ne (Dat dd_Y_sift 3 rfl) rfl g1  (fun c => ?_) (fun c => ?_)
  · replace T := T.1 c
    refine R_iconst (Dat dd_Y_sift 4 rfl) ?_
    exact R_ireturn (Dat dd_Y_sift 5 rfl) rfl T
  · replace T := T.2 c
    refine R_aload_n (Dat dd_Y_sift 6 rfl) rfl rfl ?_
    refine R_aload_n (Dat dd_Y_sift 7 rfl) rfl rfl ?_
    refine R_getr (Dat dd_Y_sift 8 rfl) rfl rfl (tok S.t400) S.f400_11 (q := 412) rfl (tnz S.t412) ?_
    refine R_iload_n (Dat dd_Y_sift 9 rfl) rfl ?_
    obtain ⟨g2, T⟩ := T
    obtain ⟨g3, T⟩ := T
    refine R_iaload (Dat dd_Y_sift 10 rfl) (Or.inl S.t412) (lnle (show ln h 412 = 7 from S.l412) (by decide)) g2 (lnlt (show ln h 412 = 7 from S.l412) g3) ?_
    refine R_iconst (Dat dd_Y_sift 11 rfl) ?_
    obtain ⟨g4, T⟩ := T
    refine R_ic_ne (Dat dd_Y_sift 12 rfl) rfl g4 (by decide) (fun c => ?_) (fun c => ?_)
    · replace T := T.1 c
      refine R_iconst (Dat dd_Y_sift 13 rfl) ?_
      refine R_goto (Dat dd_Y_sift 14 rfl) rfl ?_
      exact R_call1 (Dat dd_Y_sift 16 rfl) rfl S.t400 rfl rfl rfl rfl rfl T
    · replace T := T.2 c
      refine R_iconst (Dat dd_Y_sift 15 rfl) ?_
      exact R_call1 (Dat dd_Y_sift 16 rfl) rfl S.t400 rfl rfl rfl rfl rfl T
theorem t_Y_sift_29 {h : Hp} {P : Value → Hp → Prop} {a1 : Int} (S : YS h) (T : (0 ≤ a1) ∧ (a1 < 7) ∧ (rng (iv h 412 a1)) ∧ (((iv h 412 a1) = 2 → P (.int (I 50)) h) ∧ (¬ (iv h 412 a1) = 2 → P (.int (I a1)) h))) : R 203 29 [.ref 400, .int (I a1)] [] h P := by
  refine R_aload_n (Dat dd_Y_sift 17 rfl) rfl rfl ?_
  refine R_getr (Dat dd_Y_sift 18 rfl) rfl rfl (tok S.t400) S.f400_11 (q := 412) rfl (tnz S.t412) ?_
  refine R_iload_n (Dat dd_Y_sift 19 rfl) rfl ?_
  obtain ⟨g1, T⟩ := T
  obtain ⟨g2, T⟩ := T
  refine R_iaload (Dat dd_Y_sift 20 rfl) (Or.inl S.t412) (lnle (show ln h 412 = 7 from S.l412) (by decide)) g1 (lnlt (show ln h 412 = 7 from S.l412) g2) ?_
  refine R_iconst (Dat dd_Y_sift 21 rfl) ?_
  obtain ⟨g3, T⟩ := T
  refine R_ic_ne (Dat dd_Y_sift 22 rfl) rfl g3 (by decide) (fun c => ?_) (fun c => ?_)
  · replace T := T.1 c
    refine R_bipush (Dat dd_Y_sift 23 rfl) (a := 50) rfl ?_
    refine R_goto (Dat dd_Y_sift 24 rfl) rfl ?_
    exact R_ireturn (Dat dd_Y_sift 26 rfl) rfl T
  · replace T := T.2 c
    refine R_iload_n (Dat dd_Y_sift 25 rfl) rfl ?_
    exact R_ireturn (Dat dd_Y_sift 26 rfl) rfl T
def dl_Y_as : List (Nat × Instr × Nat) := [(0, .aload_n 0, 1), (1, .iconst 0, 1), (2, .putfield 83, 3), (5, .aload_n 0, 1), (6, .iload_n 1, 1), (7, .invokevirtual 142, 3), (10, .ifCond .ne 5, 3), (13, .iconst (-1), 1), (14, .ireturn, 1), (15, .iload_n 2, 1), (16, .iconst 0, 1), (17, .iconst 2, 1), (18, .invokestatic 88, 3), (21, .ifCond .ne 6, 3), (24, .bipush (-2), 2), (26, .ireturn, 1), (27, .aload_n 0, 1), (28, .getfield 25, 3), (31, .iload_n 1, 1), (32, .iaload, 1), (33, .iload_n 2, 1), (34, .if_icmp .lt 7, 3), (37, .iconst 1, 1), (38, .goto 8, 3), (41, .aload_n 0, 1), (42, .iconst 2, 1), (43, .invokevirtual 112, 3), (46, .ireturn, 1)]
theorem dd_Y_as : Dall 204 dl_Y_as = true := by decide +kernel
theorem t_Y_as {h : Hp} {P : Value → Hp → Prop} {p0 p1 : Int} (S : YS h) (T : R 137 0 [.ref 400, .int (I p0)] [] (setI h 400 0 0) (fun v h2 => R 204 10 [.ref 400, .int (I p0), .int (I p1)] (v :: []) h2 P)) : R 204 0 [.ref 400, .int (I p0), .int (I p1)] [] h P := by
  refine R_aload_n (Dat dd_Y_as 0 rfl) rfl rfl ?_
  refine R_iconst (Dat dd_Y_as 1 rfl) ?_
  refine R_puti (Dat dd_Y_as 2 rfl) rfl rfl rfl (tok S.t400) rfl (v := 0) rfl ?_
  refine R_aload_n (Dat dd_Y_as 3 rfl) rfl rfl ?_
  refine R_iload_n (Dat dd_Y_as 4 rfl) rfl ?_
  exact R_call1 (Dat dd_Y_as 5 rfl) rfl S.t400 rfl rfl rfl rfl rfl T
theorem t_Y_as_10 {h : Hp} {P : Value → Hp → Prop} {a1 a2 s0 : Int} (S : YS h) (T : (rng s0) ∧ ((s0 = 0 → P (.int (I (-1))) h) ∧ (¬ s0 = 0 → R 129 0 [.int (I a2), .int (I 0), .int (I 2)] [] h (fun v h2 => R 204 21 [.ref 400, .int (I a1), .int (I a2)] (v :: []) h2 P)))) : R 204 10 [.ref 400, .int (I a1), .int (I a2)] [.int (I s0)] h P := by
  obtain ⟨g1, T⟩ := T
  refine R_if_ne (Dat dd_Y_as 6 rfl) rfl g1  (fun c => ?_) (fun c => ?_)
  · replace T := T.1 c
    refine R_iconst (Dat dd_Y_as 7 rfl) ?_
    exact R_ireturn (Dat dd_Y_as 8 rfl) rfl T
  · replace T := T.2 c
    refine R_iload_n (Dat dd_Y_as 9 rfl) rfl ?_
    refine R_iconst (Dat dd_Y_as 10 rfl) ?_
    refine R_iconst (Dat dd_Y_as 11 rfl) ?_
    exact R_call0 (Dat dd_Y_as 12 rfl) rfl rfl rfl rfl rfl rfl T
theorem t_Y_as_21 {h : Hp} {P : Value → Hp → Prop} {a1 a2 s0 : Int} (S : YS h) (T : (rng s0) ∧ ((s0 = 0 → P (.int (I (-2))) h) ∧ (¬ s0 = 0 → (0 ≤ a1) ∧ (a1 < 7) ∧ (rng (iv h 412 a1)) ∧ (rng a2) ∧ (((iv h 412 a1) < a2 → R 132 0 [.ref 400, .int (I 2)] [] h (fun v h2 => R 204 46 [.ref 400, .int (I a1), .int (I a2)] (v :: []) h2 P)) ∧ (¬ (iv h 412 a1) < a2 → P (.int (I 1)) h))))) : R 204 21 [.ref 400, .int (I a1), .int (I a2)] [.int (I s0)] h P := by
  obtain ⟨g1, T⟩ := T
  refine R_if_ne (Dat dd_Y_as 13 rfl) rfl g1  (fun c => ?_) (fun c => ?_)
  · replace T := T.1 c
    refine R_bipush (Dat dd_Y_as 14 rfl) (a := (-2)) rfl ?_
    exact R_ireturn (Dat dd_Y_as 15 rfl) rfl T
  · replace T := T.2 c
    refine R_aload_n (Dat dd_Y_as 16 rfl) rfl rfl ?_
    refine R_getr (Dat dd_Y_as 17 rfl) rfl rfl (tok S.t400) S.f400_11 (q := 412) rfl (tnz S.t412) ?_
    refine R_iload_n (Dat dd_Y_as 18 rfl) rfl ?_
    obtain ⟨g2, T⟩ := T
    obtain ⟨g3, T⟩ := T
    refine R_iaload (Dat dd_Y_as 19 rfl) (Or.inl S.t412) (lnle (show ln h 412 = 7 from S.l412) (by decide)) g2 (lnlt (show ln h 412 = 7 from S.l412) g3) ?_
    refine R_iload_n (Dat dd_Y_as 20 rfl) rfl ?_
    obtain ⟨g4, T⟩ := T
    obtain ⟨g5, T⟩ := T
    refine R_ic_lt (Dat dd_Y_as 21 rfl) rfl g4 g5 (fun c => ?_) (fun c => ?_)
    · replace T := T.1 c
      refine R_aload_n (Dat dd_Y_as 24 rfl) rfl rfl ?_
      refine R_iconst (Dat dd_Y_as 25 rfl) ?_
      exact R_call1 (Dat dd_Y_as 26 rfl) rfl S.t400 rfl rfl rfl rfl rfl T
    · replace T := T.2 c
      refine R_iconst (Dat dd_Y_as 22 rfl) ?_
      refine R_goto (Dat dd_Y_as 23 rfl) rfl ?_
      exact R_ireturn (Dat dd_Y_as 27 rfl) rfl T
theorem t_Y_as_46 {h : Hp} {P : Value → Hp → Prop} {s0 : Int} {a0 a1 a2 : Value} (S : YS h) (T : P (.int (I s0)) h) : R 204 46 [a0, a1, a2] [.int (I s0)] h P := by
  exact R_ireturn (Dat dd_Y_as 27 rfl) rfl T
def dl_Y_trace : List (Nat × Instr × Nat) := [(0, .aload_n 0, 1), (1, .getfield 257, 3), (4, .ireturn, 1)]
theorem dd_Y_trace : Dall 205 dl_Y_trace = true := by decide +kernel
theorem t_Y_trace {h : Hp} {P : Value → Hp → Prop}  (S : YS h) (T : P (.int (I (iv h 400 1))) h) : R 205 0 [.ref 400] [] h P := by
  refine R_aload_n (Dat dd_Y_trace 0 rfl) rfl rfl ?_
  refine R_geti (Dat dd_Y_trace 1 rfl) rfl rfl (tok S.t400) ?_
  exact R_ireturn (Dat dd_Y_trace 2 rfl) rfl T
def dl_Y_fault : List (Nat × Instr × Nat) := [(0, .aload_n 0, 1), (1, .getfield 83, 3), (4, .ireturn, 1)]
theorem dd_Y_fault : Dall 206 dl_Y_fault = true := by decide +kernel
theorem t_Y_fault {h : Hp} {P : Value → Hp → Prop}  (S : YS h) (T : P (.int (I (iv h 400 0))) h) : R 206 0 [.ref 400] [] h P := by
  refine R_aload_n (Dat dd_Y_fault 0 rfl) rfl rfl ?_
  refine R_geti (Dat dd_Y_fault 1 rfl) rfl rfl (tok S.t400) ?_
  exact R_ireturn (Dat dd_Y_fault 2 rfl) rfl T
def dl_Y_many : List (Nat × Instr × Nat) := [(0, .iload_n 1, 1), (1, .tableswitch 81 0 5 #[39, 44, 49, 54, 59, 64], 39), (40, .aload_n 0, 1), (41, .getfield 92, 3), (44, .ireturn, 1), (45, .aload_n 0, 1), (46, .getfield 95, 3), (49, .ireturn, 1), (50, .aload_n 0, 1), (51, .getfield 161, 3), (54, .ireturn, 1), (55, .aload_n 0, 1), (56, .getfield 128, 3), (59, .ireturn, 1), (60, .aload_n 0, 1), (61, .getfield 125, 3), (64, .ireturn, 1), (65, .aload_n 0, 1), (66, .getfield 161, 3), (69, .ifCond .ne 8, 3), (72, .bipush (-9), 2), (74, .goto 7, 3), (77, .aload_n 0, 1), (78, .getfield 173, 3), (81, .ireturn, 1), (82, .bipush (-2), 2), (84, .ireturn, 1)]
theorem dd_Y_many : Dall 207 dl_Y_many = true := by decide +kernel
theorem t_Y_many {h : Hp} {P : Value → Hp → Prop} {p0 : Int} (S : YS h) (T : (rng p0) ∧ (((p0 = 0 → P (.int (I (iv h 400 5))) h) ∧ (p0 = 1 → P (.int (I (iv h 400 6))) h) ∧ (p0 = 2 → P (.int (I (iv h 400 18))) h) ∧ (p0 = 3 → P (.int (I (iv h 400 34))) h) ∧ (p0 = 4 → P (.int (I (iv h 400 8))) h) ∧ (p0 = 5 → (rng (iv h 400 18)) ∧ (((iv h 400 18) = 0 → P (.int (I (-9))) h) ∧ (¬ (iv h 400 18) = 0 → P (.int (I (iv h 400 19))) h)))) ∧ (p0 < 0 ∨ 5 < p0 → P (.int (I (-2))) h))) : R 207 0 [.ref 400, .int (I p0)] [] h P := by
  refine R_iload_n (Dat dd_Y_many 0 rfl) rfl ?_
  obtain ⟨g1, T⟩ := T
  refine R_tsw (lo := 0) (hi := 5) (Dat dd_Y_many 1 rfl) (td := 82) (ts := [40, 45, 50, 55, 60, 65]) g1 rfl rfl rfl rfl (fun i hi hc => ?_) (fun c => ?_)
  · obtain ⟨T, -⟩ := T
    have hi : i < 6 := hi
    rcases (show i = 0 ∨ i = 1 ∨ i = 2 ∨ i = 3 ∨ i = 4 ∨ i = 5 by omega) with rfl | rfl | rfl | rfl | rfl | rfl
    · replace T := T.1 (by exact hc)
      refine R_aload_n (Dat dd_Y_many 2 rfl) rfl rfl ?_
      refine R_geti (Dat dd_Y_many 3 rfl) rfl rfl (tok S.t400) ?_
      exact R_ireturn (Dat dd_Y_many 4 rfl) rfl T
    · replace T := T.2.1 (by exact hc)
      refine R_aload_n (Dat dd_Y_many 5 rfl) rfl rfl ?_
      refine R_geti (Dat dd_Y_many 6 rfl) rfl rfl (tok S.t400) ?_
      exact R_ireturn (Dat dd_Y_many 7 rfl) rfl T
    · replace T := T.2.2.1 (by exact hc)
      refine R_aload_n (Dat dd_Y_many 8 rfl) rfl rfl ?_
      refine R_geti (Dat dd_Y_many 9 rfl) rfl rfl (tok S.t400) ?_
      exact R_ireturn (Dat dd_Y_many 10 rfl) rfl T
    · replace T := T.2.2.2.1 (by exact hc)
      refine R_aload_n (Dat dd_Y_many 11 rfl) rfl rfl ?_
      refine R_geti (Dat dd_Y_many 12 rfl) rfl rfl (tok S.t400) ?_
      exact R_ireturn (Dat dd_Y_many 13 rfl) rfl T
    · replace T := T.2.2.2.2.1 (by exact hc)
      refine R_aload_n (Dat dd_Y_many 14 rfl) rfl rfl ?_
      refine R_geti (Dat dd_Y_many 15 rfl) rfl rfl (tok S.t400) ?_
      exact R_ireturn (Dat dd_Y_many 16 rfl) rfl T
    · replace T := T.2.2.2.2.2 (by exact hc)
      refine R_aload_n (Dat dd_Y_many 17 rfl) rfl rfl ?_
      refine R_geti (Dat dd_Y_many 18 rfl) rfl rfl (tok S.t400) ?_
      obtain ⟨g2, T⟩ := T
      refine R_if_ne (Dat dd_Y_many 19 rfl) rfl g2  (fun c => ?_) (fun c => ?_)
      · replace T := T.1 c
        refine R_bipush (Dat dd_Y_many 20 rfl) (a := (-9)) rfl ?_
        refine R_goto (Dat dd_Y_many 21 rfl) rfl ?_
        exact R_ireturn (Dat dd_Y_many 24 rfl) rfl T
      · replace T := T.2 c
        refine R_aload_n (Dat dd_Y_many 22 rfl) rfl rfl ?_
        refine R_geti (Dat dd_Y_many 23 rfl) rfl rfl (tok S.t400) ?_
        exact R_ireturn (Dat dd_Y_many 24 rfl) rfl T
  · replace T := T.2 c
    refine R_bipush (Dat dd_Y_many 25 rfl) (a := (-2)) rfl ?_
    exact R_ireturn (Dat dd_Y_many 26 rfl) rfl T
