def k_1 : List XI := [(0, .iload_n 0, 1, 0, 0, 0, 0),
  (1, .iconst 1, 1, 0, 0, 1, 0),
  (2, .if_icmp .lt 35, 3, 37, 0, 0, 0),
  (5, .iload_n 0, 1, 0, 0, 0, 0),
  (6, .bipush 20, 2, 0, 0, 20, 0),
  (8, .if_icmp .gt 29, 3, 37, 0, 0, 0),
  (11, .iload_n 1, 1, 0, 0, 0, 0),
  (12, .iconst 2, 1, 0, 0, 2, 0),
  (13, .if_icmp .lt 24, 3, 37, 0, 0, 0),
  (16, .iload_n 1, 1, 0, 0, 0, 0),
  (17, .bipush 60, 2, 0, 0, 60, 0),
  (19, .if_icmp .gt 18, 3, 37, 0, 0, 0),
  (22, .iload_n 2, 1, 0, 0, 0, 0),
  (23, .iconst 1, 1, 0, 0, 1, 0),
  (24, .if_icmp .lt 13, 3, 37, 0, 0, 0),
  (27, .iload_n 2, 1, 0, 0, 0, 0),
  (28, .bipush 60, 2, 0, 0, 60, 0),
  (30, .if_icmp .gt 7, 3, 37, 0, 0, 0),
  (33, .iconst 1, 1, 0, 0, 1, 0),
  (34, .goto 4, 3, 38, 0, 0, 0),
  (37, .iconst 0, 1, 0, 0, 0, 0),
  (38, .ireturn, 1, 0, 0, 0, 0)]
set_option maxRecDepth 100000 in
set_option maxHeartbeats 4000000 in
theorem kk_1 : k_1.all (entOK (mCi 1) (mB 1)) = true := by decide +kernel
set_option maxRecDepth 100000 in
set_option maxHeartbeats 4000000 in
theorem fD_canBe {E : XE} {h : Mem} {Q : Int32 → Mem → Prop} {a1 : Int32} {a2 : Int32} {a3 : Int32} 
    (hF : (a1 < 1 → Q 0 h) ∧ (¬ a1 < 1 → (20 < a1 → Q 0 h) ∧ (¬ 20 < a1 → (a2 < 2 → Q 0 h) ∧ (¬ a2 < 2 → (60 < a2 → Q 0 h) ∧ (¬ 60 < a2 → (a3 < 1 → Q 0 h) ∧ (¬ a3 < 1 → (60 < a3 → Q 0 h) ∧ (¬ 60 < a3 → Q 1 h))))))) :
    CALLI E mD_canBe [.int a1, .int a2, .int a3] h Q := CALL_of rfl (wp_sound [] kk_1 22 hF)
def k_2_0 : List XI := [(0, .aload_n 0, 1, 0, 0, 0, 0),
  (1, .aload_n 1, 1, 0, 0, 0, 0),
  (2, .getfield 9, 3, 0, 0, 0, 0),
  (5, .putfield 9, 3, 0, 0, 0, 0),
  (8, .aload_n 0, 1, 0, 0, 0, 0),
  (9, .aload_n 1, 1, 0, 0, 0, 0),
  (10, .getfield 15, 3, 0, 1, 0, 0),
  (13, .putfield 15, 3, 0, 1, 0, 0),
  (16, .aload_n 1, 1, 0, 0, 0, 0),
  (17, .getfield 18, 3, 0, 2, 0, 0),
  (20, .iconst 0, 1, 0, 0, 0, 0),
  (21, .aload_n 0, 1, 0, 0, 0, 0),
  (22, .getfield 18, 3, 0, 2, 0, 0),
  (25, .iconst 0, 1, 0, 0, 0, 0),
  (26, .bipush 6, 2, 0, 0, 6, 0),
  (28, .invokestatic 58, 3, 999, 0, 0, 0),
  (31, .aload_n 1, 1, 0, 0, 0, 0),
  (32, .getfield 22, 3, 0, 3, 0, 0),
  (35, .iconst 0, 1, 0, 0, 0, 0),
  (36, .aload_n 0, 1, 0, 0, 0, 0),
  (37, .getfield 22, 3, 0, 3, 0, 0),
  (40, .iconst 0, 1, 0, 0, 0, 0),
  (41, .bipush 6, 2, 0, 0, 6, 0),
  (43, .invokestatic 58, 3, 999, 0, 0, 0),
  (46, .aload_n 1, 1, 0, 0, 0, 0),
  (47, .getfield 25, 3, 0, 4, 0, 0),
  (50, .iconst 0, 1, 0, 0, 0, 0),
  (51, .aload_n 0, 1, 0, 0, 0, 0),
  (52, .getfield 25, 3, 0, 4, 0, 0),
  (55, .iconst 0, 1, 0, 0, 0, 0)]
set_option maxRecDepth 100000 in
set_option maxHeartbeats 4000000 in
theorem kk_2_0 : k_2_0.all (entOK (mCi 2) (mB 2)) = true := by decide +kernel
def k_2_1 : List XI := [(56, .bipush 6, 2, 0, 0, 6, 0),
  (58, .invokestatic 58, 3, 999, 0, 0, 0),
  (61, .aload_n 1, 1, 0, 0, 0, 0),
  (62, .getfield 28, 3, 0, 5, 0, 0),
  (65, .iconst 0, 1, 0, 0, 0, 0),
  (66, .aload_n 0, 1, 0, 0, 0, 0),
  (67, .getfield 28, 3, 0, 5, 0, 0),
  (70, .iconst 0, 1, 0, 0, 0, 0),
  (71, .bipush 6, 2, 0, 0, 6, 0),
  (73, .invokestatic 58, 3, 999, 0, 0, 0),
  (76, .aload_n 1, 1, 0, 0, 0, 0),
  (77, .getfield 31, 3, 0, 6, 0, 0),
  (80, .iconst 0, 1, 0, 0, 0, 0),
  (81, .aload_n 0, 1, 0, 0, 0, 0),
  (82, .getfield 31, 3, 0, 6, 0, 0),
  (85, .iconst 0, 1, 0, 0, 0, 0),
  (86, .bipush 6, 2, 0, 0, 6, 0),
  (88, .invokestatic 58, 3, 999, 0, 0, 0),
  (91, .aload_n 1, 1, 0, 0, 0, 0),
  (92, .getfield 34, 3, 0, 7, 0, 0),
  (95, .iconst 0, 1, 0, 0, 0, 0),
  (96, .aload_n 0, 1, 0, 0, 0, 0),
  (97, .getfield 34, 3, 0, 7, 0, 0),
  (100, .iconst 0, 1, 0, 0, 0, 0),
  (101, .bipush 6, 2, 0, 0, 6, 0),
  (103, .invokestatic 58, 3, 999, 0, 0, 0),
  (106, .aload_n 1, 1, 0, 0, 0, 0),
  (107, .getfield 37, 3, 0, 8, 0, 0),
  (110, .iconst 0, 1, 0, 0, 0, 0),
  (111, .aload_n 0, 1, 0, 0, 0, 0)]
set_option maxRecDepth 100000 in
set_option maxHeartbeats 4000000 in
theorem kk_2_1 : k_2_1.all (entOK (mCi 2) (mB 2)) = true := by decide +kernel
def k_2_2 : List XI := [(112, .getfield 37, 3, 0, 8, 0, 0),
  (115, .iconst 0, 1, 0, 0, 0, 0),
  (116, .bipush 6, 2, 0, 0, 6, 0),
  (118, .invokestatic 58, 3, 999, 0, 0, 0),
  (121, .aload_n 1, 1, 0, 0, 0, 0),
  (122, .getfield 40, 3, 0, 9, 0, 0),
  (125, .iconst 0, 1, 0, 0, 0, 0),
  (126, .aload_n 0, 1, 0, 0, 0, 0),
  (127, .getfield 40, 3, 0, 9, 0, 0),
  (130, .iconst 0, 1, 0, 0, 0, 0),
  (131, .bipush 24, 2, 0, 0, 24, 0),
  (133, .invokestatic 58, 3, 999, 0, 0, 0),
  (136, .aload_n 1, 1, 0, 0, 0, 0),
  (137, .getfield 43, 3, 0, 10, 0, 0),
  (140, .iconst 0, 1, 0, 0, 0, 0),
  (141, .aload_n 0, 1, 0, 0, 0, 0),
  (142, .getfield 43, 3, 0, 10, 0, 0),
  (145, .iconst 0, 1, 0, 0, 0, 0),
  (146, .bipush 6, 2, 0, 0, 6, 0),
  (148, .invokestatic 58, 3, 999, 0, 0, 0),
  (151, .aload_n 1, 1, 0, 0, 0, 0),
  (152, .getfield 46, 3, 0, 11, 0, 0),
  (155, .iconst 0, 1, 0, 0, 0, 0),
  (156, .aload_n 0, 1, 0, 0, 0, 0),
  (157, .getfield 46, 3, 0, 11, 0, 0),
  (160, .iconst 0, 1, 0, 0, 0, 0),
  (161, .bipush 6, 2, 0, 0, 6, 0),
  (163, .invokestatic 58, 3, 999, 0, 0, 0),
  (166, .aload_n 1, 1, 0, 0, 0, 0),
  (167, .getfield 49, 3, 0, 12, 0, 0)]
set_option maxRecDepth 100000 in
set_option maxHeartbeats 4000000 in
theorem kk_2_2 : k_2_2.all (entOK (mCi 2) (mB 2)) = true := by decide +kernel
def k_2_3 : List XI := [(170, .iconst 0, 1, 0, 0, 0, 0),
  (171, .aload_n 0, 1, 0, 0, 0, 0),
  (172, .getfield 49, 3, 0, 12, 0, 0),
  (175, .iconst 0, 1, 0, 0, 0, 0),
  (176, .bipush 6, 2, 0, 0, 6, 0),
  (178, .invokestatic 58, 3, 999, 0, 0, 0),
  (181, .aload_n 1, 1, 0, 0, 0, 0),
  (182, .getfield 52, 3, 0, 13, 0, 0),
  (185, .iconst 0, 1, 0, 0, 0, 0),
  (186, .aload_n 0, 1, 0, 0, 0, 0),
  (187, .getfield 52, 3, 0, 13, 0, 0),
  (190, .iconst 0, 1, 0, 0, 0, 0),
  (191, .bipush 6, 2, 0, 0, 6, 0),
  (193, .invokestatic 58, 3, 999, 0, 0, 0),
  (196, .aload_n 1, 1, 0, 0, 0, 0),
  (197, .getfield 55, 3, 0, 14, 0, 0),
  (200, .iconst 0, 1, 0, 0, 0, 0),
  (201, .aload_n 0, 1, 0, 0, 0, 0),
  (202, .getfield 55, 3, 0, 14, 0, 0),
  (205, .iconst 0, 1, 0, 0, 0, 0),
  (206, .bipush 6, 2, 0, 0, 6, 0),
  (208, .invokestatic 58, 3, 999, 0, 0, 0),
  (211, .return_, 1, 0, 0, 0, 0)]
set_option maxRecDepth 100000 in
set_option maxHeartbeats 4000000 in
theorem kk_2_3 : k_2_3.all (entOK (mCi 2) (mB 2)) = true := by decide +kernel
def k_2 : List XI := k_2_0 ++ (k_2_1 ++ (k_2_2 ++ (k_2_3)))
theorem kk_2 : k_2.all (entOK (mCi 2) (mB 2)) = true := all_app kk_2_0 (all_app kk_2_1 (all_app kk_2_2 (kk_2_3)))
set_option maxRecDepth 100000 in
set_option maxHeartbeats 4000000 in
theorem fD_copyFrom {E : XE} {h : Mem} {Q : Mem → Prop} {p : Nat} {p2 : Nat} (hp : p = 1 ∨ p = 15 ∨ p = 29) (hp2 : p2 = 1 ∨ p2 = 15 ∨ p2 = 29)
    (hF : WP E mD_copyFrom 31 [some (.ref p), some (.ref p2)] [] (updR (upd2 (upd2 h p 0 (h p2 0)) p 1 ((upd2 h p 0 (h p2 0)) p2 1)) (p + 1) (va_cpy ((upd2 (upd2 h p 0 (h p2 0)) p 1 ((upd2 h p 0 (h p2 0)) p2 1)) (p2 + 1)) ((upd2 (upd2 h p 0 (h p2 0)) p 1 ((upd2 h p 0 (h p2 0)) p2 1)) (p + 1)) (ix 0) (ix 0) (ix 6))) (qV Q)) :
    CALLV E mD_copyFrom [.ref p, .ref p2] h Q := by
  rcases hp with rfl | rfl | rfl
  all_goals rcases hp2 with rfl | rfl | rfl
  all_goals exact CALL_of rfl (wp_sound [(31, [1, 1]), (46, [1, 1]), (61, [1, 1]), (76, [1, 1]), (91, [1, 1]), (106, [1, 1]), (121, [1, 1]), (136, [1, 1]), (151, [1, 1]), (166, [1, 1]), (181, [1, 1]), (196, [1, 1]), (211, [0, 0])] kk_2 17 hF)
set_option maxRecDepth 100000 in
set_option maxHeartbeats 4000000 in
theorem fD_copyFrom_31 {E : XE} {h : Mem} {Q : Mem → Prop} {p : Nat} {p2 : Nat} (hp : p = 1 ∨ p = 15 ∨ p = 29) (hp2 : p2 = 1 ∨ p2 = 15 ∨ p2 = 29)
    (hF : WP E mD_copyFrom 46 [some (.ref p), some (.ref p2)] [] (updR h (p + 2) (va_cpy (h (p2 + 2)) (h (p + 2)) (ix 0) (ix 0) (ix 6))) (qV Q)) :
    WP E mD_copyFrom 31 [some (.ref p), some (.ref p2)] [] h (qV Q) := by
  rcases hp with rfl | rfl | rfl
  all_goals rcases hp2 with rfl | rfl | rfl
  all_goals exact wp_sound [(31, [1, 1]), (46, [1, 1]), (61, [1, 1]), (76, [1, 1]), (91, [1, 1]), (106, [1, 1]), (121, [1, 1]), (136, [1, 1]), (151, [1, 1]), (166, [1, 1]), (181, [1, 1]), (196, [1, 1]), (211, [0, 0])] kk_2 9 hF
set_option maxRecDepth 100000 in
set_option maxHeartbeats 4000000 in
theorem fD_copyFrom_46 {E : XE} {h : Mem} {Q : Mem → Prop} {p : Nat} {p2 : Nat} (hp : p = 1 ∨ p = 15 ∨ p = 29) (hp2 : p2 = 1 ∨ p2 = 15 ∨ p2 = 29)
    (hF : WP E mD_copyFrom 61 [some (.ref p), some (.ref p2)] [] (updR h (p + 3) (va_cpy (h (p2 + 3)) (h (p + 3)) (ix 0) (ix 0) (ix 6))) (qV Q)) :
    WP E mD_copyFrom 46 [some (.ref p), some (.ref p2)] [] h (qV Q) := by
  rcases hp with rfl | rfl | rfl
  all_goals rcases hp2 with rfl | rfl | rfl
  all_goals exact wp_sound [(31, [1, 1]), (46, [1, 1]), (61, [1, 1]), (76, [1, 1]), (91, [1, 1]), (106, [1, 1]), (121, [1, 1]), (136, [1, 1]), (151, [1, 1]), (166, [1, 1]), (181, [1, 1]), (196, [1, 1]), (211, [0, 0])] kk_2 9 hF
set_option maxRecDepth 100000 in
set_option maxHeartbeats 4000000 in
theorem fD_copyFrom_61 {E : XE} {h : Mem} {Q : Mem → Prop} {p : Nat} {p2 : Nat} (hp : p = 1 ∨ p = 15 ∨ p = 29) (hp2 : p2 = 1 ∨ p2 = 15 ∨ p2 = 29)
    (hF : WP E mD_copyFrom 76 [some (.ref p), some (.ref p2)] [] (updR h (p + 4) (va_cpy (h (p2 + 4)) (h (p + 4)) (ix 0) (ix 0) (ix 6))) (qV Q)) :
    WP E mD_copyFrom 61 [some (.ref p), some (.ref p2)] [] h (qV Q) := by
  rcases hp with rfl | rfl | rfl
  all_goals rcases hp2 with rfl | rfl | rfl
  all_goals exact wp_sound [(31, [1, 1]), (46, [1, 1]), (61, [1, 1]), (76, [1, 1]), (91, [1, 1]), (106, [1, 1]), (121, [1, 1]), (136, [1, 1]), (151, [1, 1]), (166, [1, 1]), (181, [1, 1]), (196, [1, 1]), (211, [0, 0])] kk_2 9 hF
set_option maxRecDepth 100000 in
set_option maxHeartbeats 4000000 in
theorem fD_copyFrom_76 {E : XE} {h : Mem} {Q : Mem → Prop} {p : Nat} {p2 : Nat} (hp : p = 1 ∨ p = 15 ∨ p = 29) (hp2 : p2 = 1 ∨ p2 = 15 ∨ p2 = 29)
    (hF : WP E mD_copyFrom 91 [some (.ref p), some (.ref p2)] [] (updR h (p + 5) (va_cpy (h (p2 + 5)) (h (p + 5)) (ix 0) (ix 0) (ix 6))) (qV Q)) :
    WP E mD_copyFrom 76 [some (.ref p), some (.ref p2)] [] h (qV Q) := by
  rcases hp with rfl | rfl | rfl
  all_goals rcases hp2 with rfl | rfl | rfl
  all_goals exact wp_sound [(31, [1, 1]), (46, [1, 1]), (61, [1, 1]), (76, [1, 1]), (91, [1, 1]), (106, [1, 1]), (121, [1, 1]), (136, [1, 1]), (151, [1, 1]), (166, [1, 1]), (181, [1, 1]), (196, [1, 1]), (211, [0, 0])] kk_2 9 hF
set_option maxRecDepth 100000 in
set_option maxHeartbeats 4000000 in
theorem fD_copyFrom_91 {E : XE} {h : Mem} {Q : Mem → Prop} {p : Nat} {p2 : Nat} (hp : p = 1 ∨ p = 15 ∨ p = 29) (hp2 : p2 = 1 ∨ p2 = 15 ∨ p2 = 29)
    (hF : WP E mD_copyFrom 106 [some (.ref p), some (.ref p2)] [] (updR h (p + 6) (va_cpy (h (p2 + 6)) (h (p + 6)) (ix 0) (ix 0) (ix 6))) (qV Q)) :
    WP E mD_copyFrom 91 [some (.ref p), some (.ref p2)] [] h (qV Q) := by
  rcases hp with rfl | rfl | rfl
  all_goals rcases hp2 with rfl | rfl | rfl
  all_goals exact wp_sound [(31, [1, 1]), (46, [1, 1]), (61, [1, 1]), (76, [1, 1]), (91, [1, 1]), (106, [1, 1]), (121, [1, 1]), (136, [1, 1]), (151, [1, 1]), (166, [1, 1]), (181, [1, 1]), (196, [1, 1]), (211, [0, 0])] kk_2 9 hF
set_option maxRecDepth 100000 in
set_option maxHeartbeats 4000000 in
theorem fD_copyFrom_106 {E : XE} {h : Mem} {Q : Mem → Prop} {p : Nat} {p2 : Nat} (hp : p = 1 ∨ p = 15 ∨ p = 29) (hp2 : p2 = 1 ∨ p2 = 15 ∨ p2 = 29)
    (hF : WP E mD_copyFrom 121 [some (.ref p), some (.ref p2)] [] (updR h (p + 7) (va_cpy (h (p2 + 7)) (h (p + 7)) (ix 0) (ix 0) (ix 6))) (qV Q)) :
    WP E mD_copyFrom 106 [some (.ref p), some (.ref p2)] [] h (qV Q) := by
  rcases hp with rfl | rfl | rfl
  all_goals rcases hp2 with rfl | rfl | rfl
  all_goals exact wp_sound [(31, [1, 1]), (46, [1, 1]), (61, [1, 1]), (76, [1, 1]), (91, [1, 1]), (106, [1, 1]), (121, [1, 1]), (136, [1, 1]), (151, [1, 1]), (166, [1, 1]), (181, [1, 1]), (196, [1, 1]), (211, [0, 0])] kk_2 9 hF
set_option maxRecDepth 100000 in
set_option maxHeartbeats 4000000 in
theorem fD_copyFrom_121 {E : XE} {h : Mem} {Q : Mem → Prop} {p : Nat} {p2 : Nat} (hp : p = 1 ∨ p = 15 ∨ p = 29) (hp2 : p2 = 1 ∨ p2 = 15 ∨ p2 = 29)
    (hF : WP E mD_copyFrom 136 [some (.ref p), some (.ref p2)] [] (updR h (p + 8) (va_cpy (h (p2 + 8)) (h (p + 8)) (ix 0) (ix 0) (ix 24))) (qV Q)) :
    WP E mD_copyFrom 121 [some (.ref p), some (.ref p2)] [] h (qV Q) := by
  rcases hp with rfl | rfl | rfl
  all_goals rcases hp2 with rfl | rfl | rfl
  all_goals exact wp_sound [(31, [1, 1]), (46, [1, 1]), (61, [1, 1]), (76, [1, 1]), (91, [1, 1]), (106, [1, 1]), (121, [1, 1]), (136, [1, 1]), (151, [1, 1]), (166, [1, 1]), (181, [1, 1]), (196, [1, 1]), (211, [0, 0])] kk_2 9 hF
set_option maxRecDepth 100000 in
set_option maxHeartbeats 4000000 in
theorem fD_copyFrom_136 {E : XE} {h : Mem} {Q : Mem → Prop} {p : Nat} {p2 : Nat} (hp : p = 1 ∨ p = 15 ∨ p = 29) (hp2 : p2 = 1 ∨ p2 = 15 ∨ p2 = 29)
    (hF : WP E mD_copyFrom 151 [some (.ref p), some (.ref p2)] [] (updR h (p + 9) (va_cpy (h (p2 + 9)) (h (p + 9)) (ix 0) (ix 0) (ix 6))) (qV Q)) :
    WP E mD_copyFrom 136 [some (.ref p), some (.ref p2)] [] h (qV Q) := by
  rcases hp with rfl | rfl | rfl
  all_goals rcases hp2 with rfl | rfl | rfl
  all_goals exact wp_sound [(31, [1, 1]), (46, [1, 1]), (61, [1, 1]), (76, [1, 1]), (91, [1, 1]), (106, [1, 1]), (121, [1, 1]), (136, [1, 1]), (151, [1, 1]), (166, [1, 1]), (181, [1, 1]), (196, [1, 1]), (211, [0, 0])] kk_2 9 hF
set_option maxRecDepth 100000 in
set_option maxHeartbeats 4000000 in
theorem fD_copyFrom_151 {E : XE} {h : Mem} {Q : Mem → Prop} {p : Nat} {p2 : Nat} (hp : p = 1 ∨ p = 15 ∨ p = 29) (hp2 : p2 = 1 ∨ p2 = 15 ∨ p2 = 29)
    (hF : WP E mD_copyFrom 166 [some (.ref p), some (.ref p2)] [] (updR h (p + 10) (va_cpy (h (p2 + 10)) (h (p + 10)) (ix 0) (ix 0) (ix 6))) (qV Q)) :
    WP E mD_copyFrom 151 [some (.ref p), some (.ref p2)] [] h (qV Q) := by
  rcases hp with rfl | rfl | rfl
  all_goals rcases hp2 with rfl | rfl | rfl
  all_goals exact wp_sound [(31, [1, 1]), (46, [1, 1]), (61, [1, 1]), (76, [1, 1]), (91, [1, 1]), (106, [1, 1]), (121, [1, 1]), (136, [1, 1]), (151, [1, 1]), (166, [1, 1]), (181, [1, 1]), (196, [1, 1]), (211, [0, 0])] kk_2 9 hF
set_option maxRecDepth 100000 in
set_option maxHeartbeats 4000000 in
theorem fD_copyFrom_166 {E : XE} {h : Mem} {Q : Mem → Prop} {p : Nat} {p2 : Nat} (hp : p = 1 ∨ p = 15 ∨ p = 29) (hp2 : p2 = 1 ∨ p2 = 15 ∨ p2 = 29)
    (hF : WP E mD_copyFrom 181 [some (.ref p), some (.ref p2)] [] (updR h (p + 11) (va_cpy (h (p2 + 11)) (h (p + 11)) (ix 0) (ix 0) (ix 6))) (qV Q)) :
    WP E mD_copyFrom 166 [some (.ref p), some (.ref p2)] [] h (qV Q) := by
  rcases hp with rfl | rfl | rfl
  all_goals rcases hp2 with rfl | rfl | rfl
  all_goals exact wp_sound [(31, [1, 1]), (46, [1, 1]), (61, [1, 1]), (76, [1, 1]), (91, [1, 1]), (106, [1, 1]), (121, [1, 1]), (136, [1, 1]), (151, [1, 1]), (166, [1, 1]), (181, [1, 1]), (196, [1, 1]), (211, [0, 0])] kk_2 9 hF
set_option maxRecDepth 100000 in
set_option maxHeartbeats 4000000 in
theorem fD_copyFrom_181 {E : XE} {h : Mem} {Q : Mem → Prop} {p : Nat} {p2 : Nat} (hp : p = 1 ∨ p = 15 ∨ p = 29) (hp2 : p2 = 1 ∨ p2 = 15 ∨ p2 = 29)
    (hF : WP E mD_copyFrom 196 [some (.ref p), some (.ref p2)] [] (updR h (p + 12) (va_cpy (h (p2 + 12)) (h (p + 12)) (ix 0) (ix 0) (ix 6))) (qV Q)) :
    WP E mD_copyFrom 181 [some (.ref p), some (.ref p2)] [] h (qV Q) := by
  rcases hp with rfl | rfl | rfl
  all_goals rcases hp2 with rfl | rfl | rfl
  all_goals exact wp_sound [(31, [1, 1]), (46, [1, 1]), (61, [1, 1]), (76, [1, 1]), (91, [1, 1]), (106, [1, 1]), (121, [1, 1]), (136, [1, 1]), (151, [1, 1]), (166, [1, 1]), (181, [1, 1]), (196, [1, 1]), (211, [0, 0])] kk_2 9 hF
set_option maxRecDepth 100000 in
set_option maxHeartbeats 4000000 in
theorem fD_copyFrom_196 {E : XE} {h : Mem} {Q : Mem → Prop} {p : Nat} {p2 : Nat} (hp : p = 1 ∨ p = 15 ∨ p = 29) (hp2 : p2 = 1 ∨ p2 = 15 ∨ p2 = 29)
    (hF : WP E mD_copyFrom 211 [none, none] [] (updR h (p + 13) (va_cpy (h (p2 + 13)) (h (p + 13)) (ix 0) (ix 0) (ix 6))) (qV Q)) :
    WP E mD_copyFrom 196 [some (.ref p), some (.ref p2)] [] h (qV Q) := by
  rcases hp with rfl | rfl | rfl
  all_goals rcases hp2 with rfl | rfl | rfl
  all_goals exact wp_sound [(31, [1, 1]), (46, [1, 1]), (61, [1, 1]), (76, [1, 1]), (91, [1, 1]), (106, [1, 1]), (121, [1, 1]), (136, [1, 1]), (151, [1, 1]), (166, [1, 1]), (181, [1, 1]), (196, [1, 1]), (211, [0, 0])] kk_2 9 hF
set_option maxRecDepth 100000 in
set_option maxHeartbeats 4000000 in
theorem fD_copyFrom_211 {E : XE} {h : Mem} {Q : Mem → Prop}  
    (hF : Q h) :
    WP E mD_copyFrom 211 [none, none] [] h (qV Q) := wp_sound [(31, [1, 1]), (46, [1, 1]), (61, [1, 1]), (76, [1, 1]), (91, [1, 1]), (106, [1, 1]), (121, [1, 1]), (136, [1, 1]), (151, [1, 1]), (166, [1, 1]), (181, [1, 1]), (196, [1, 1]), (211, [0, 0])] kk_2 2 hF
def k_3 : List XI := [(0, .aload_n 0, 1, 0, 0, 0, 0),
  (1, .getfield 9, 3, 0, 0, 0, 0),
  (4, .bipush 6, 2, 0, 0, 6, 0),
  (6, .if_icmp .lt 7, 3, 13, 0, 0, 0),
  (9, .iconst 1, 1, 0, 0, 1, 0),
  (10, .goto 4, 3, 14, 0, 0, 0),
  (13, .iconst 0, 1, 0, 0, 0, 0),
  (14, .ireturn, 1, 0, 0, 0, 0)]
set_option maxRecDepth 100000 in
set_option maxHeartbeats 4000000 in
theorem kk_3 : k_3.all (entOK (mCi 3) (mB 3)) = true := by decide +kernel
set_option maxRecDepth 100000 in
set_option maxHeartbeats 4000000 in
theorem fD_isFull {E : XE} {h : Mem} {Q : Int32 → Mem → Prop} {p : Nat} (hp : p = 1 ∨ p = 15 ∨ p = 29)
    (hF : ((h p 0) < 6 → Q 0 h) ∧ (¬ (h p 0) < 6 → Q 1 h)) :
    CALLI E mD_isFull [.ref p] h Q := by
  rcases hp with rfl | rfl | rfl
  all_goals exact CALL_of rfl (wp_sound [] kk_3 8 hF)
def k_4 : List XI := [(0, .iload_n 1, 1, 0, 0, 0, 0),
  (1, .ifCond .lt 15, 3, 16, 0, 0, 0),
  (4, .iload_n 1, 1, 0, 0, 0, 0),
  (5, .aload_n 0, 1, 0, 0, 0, 0),
  (6, .getfield 9, 3, 0, 0, 0, 0),
  (9, .if_icmp .ge 7, 3, 16, 0, 0, 0),
  (12, .iconst 1, 1, 0, 0, 1, 0),
  (13, .goto 4, 3, 17, 0, 0, 0),
  (16, .iconst 0, 1, 0, 0, 0, 0),
  (17, .ireturn, 1, 0, 0, 0, 0)]
set_option maxRecDepth 100000 in
set_option maxHeartbeats 4000000 in
theorem kk_4 : k_4.all (entOK (mCi 4) (mB 4)) = true := by decide +kernel
set_option maxRecDepth 100000 in
set_option maxHeartbeats 4000000 in
theorem fD_has {E : XE} {h : Mem} {Q : Int32 → Mem → Prop} {p : Nat} {a1 : Int32} (hp : p = 1 ∨ p = 15 ∨ p = 29)
    (hF : (a1 < 0 → Q 0 h) ∧ (¬ a1 < 0 → ((h p 0) ≤ a1 → Q 0 h) ∧ (¬ (h p 0) ≤ a1 → Q 1 h))) :
    CALLI E mD_has [.ref p, .int a1] h Q := by
  rcases hp with rfl | rfl | rfl
  all_goals exact CALL_of rfl (wp_sound [] kk_4 10 hF)
def k_5 : List XI := [(0, .aload_n 0, 1, 0, 0, 0, 0),
  (1, .iload_n 1, 1, 0, 0, 0, 0),
  (2, .invokevirtual 64, 3, 4, 1, 0, 0),
  (5, .ifCond .eq 18, 3, 23, 0, 0, 0),
  (8, .aload_n 0, 1, 0, 0, 0, 0),
  (9, .getfield 15, 3, 0, 1, 0, 0),
  (12, .iconst 1, 1, 0, 0, 1, 0),
  (13, .iload_n 1, 1, 0, 0, 0, 0),
  (14, .ishl, 1, 0, 0, 0, 0),
  (15, .iand, 1, 0, 0, 0, 0),
  (16, .ifCond .eq 7, 3, 23, 0, 0, 0),
  (19, .iconst 1, 1, 0, 0, 1, 0),
  (20, .goto 4, 3, 24, 0, 0, 0),
  (23, .iconst 0, 1, 0, 0, 0, 0),
  (24, .ireturn, 1, 0, 0, 0, 0)]
set_option maxRecDepth 100000 in
set_option maxHeartbeats 4000000 in
theorem kk_5 : k_5.all (entOK (mCi 5) (mB 5)) = true := by decide +kernel
set_option maxRecDepth 100000 in
set_option maxHeartbeats 4000000 in
theorem fD_isOn {E : XE} {h : Mem} {Q : Int32 → Mem → Prop} {p : Nat} {a1 : Int32} (hp : p = 1 ∨ p = 15 ∨ p = 29)
    (hF : CALLI E mD_has [.ref p, .int a1] h fun v1 h1 => (v1 = 0 → Q 0 h1) ∧ (¬ v1 = 0 → (((h1 p 1) &&& (shl 1 a1)) = 0 → Q 0 h1) ∧ (¬ ((h1 p 1) &&& (shl 1 a1)) = 0 → Q 1 h1))) :
    CALLI E mD_isOn [.ref p, .int a1] h Q := by
  rcases hp with rfl | rfl | rfl
  all_goals exact CALL_of rfl (wp_sound [] kk_5 15 hF)
def k_6_0 : List XI := [(0, .aload_n 0, 1, 0, 0, 0, 0),
  (1, .invokevirtual 68, 3, 3, 1, 0, 0),
  (4, .ifCond .eq 6, 3, 10, 0, 0, 0),
  (7, .bipush (-9), 2, 0, 0, (-9), 0),
  (9, .ireturn, 1, 0, 0, 0, 0),
  (10, .aload_n 0, 1, 0, 0, 0, 0),
  (11, .getfield 9, 3, 0, 0, 0, 0),
  (14, .istore 4, 2, 0, 0, 0, 0),
  (16, .aload_n 0, 1, 0, 0, 0, 0),
  (17, .getfield 18, 3, 0, 2, 0, 0),
  (20, .iload 4, 2, 0, 0, 0, 0),
  (22, .iload_n 1, 1, 0, 0, 0, 0),
  (23, .iastore, 1, 0, 0, 0, 0),
  (24, .aload_n 0, 1, 0, 0, 0, 0),
  (25, .getfield 22, 3, 0, 3, 0, 0),
  (28, .iload 4, 2, 0, 0, 0, 0),
  (30, .iload_n 2, 1, 0, 0, 0, 0),
  (31, .iastore, 1, 0, 0, 0, 0),
  (32, .aload_n 0, 1, 0, 0, 0, 0),
  (33, .getfield 25, 3, 0, 4, 0, 0),
  (36, .iload 4, 2, 0, 0, 0, 0),
  (38, .iload_n 3, 1, 0, 0, 0, 0),
  (39, .iastore, 1, 0, 0, 0, 0),
  (40, .aload_n 0, 1, 0, 0, 0, 0),
  (41, .iload 4, 2, 0, 0, 0, 0),
  (43, .aload_n 0, 1, 0, 0, 0, 0),
  (44, .getfield 34, 3, 0, 7, 0, 0),
  (47, .iload 4, 2, 0, 0, 0, 0),
  (49, .iaload, 1, 0, 0, 0, 0),
  (50, .aload_n 0, 1, 0, 0, 0, 0)]
set_option maxRecDepth 100000 in
set_option maxHeartbeats 4000000 in
theorem kk_6_0 : k_6_0.all (entOK (mCi 6) (mB 6)) = true := by decide +kernel
def k_6_1 : List XI := [(51, .getfield 37, 3, 0, 8, 0, 0),
  (54, .iload 4, 2, 0, 0, 0, 0),
  (56, .iaload, 1, 0, 0, 0, 0),
  (57, .invokevirtual 72, 3, 9, 0, 0, 0),
  (60, .aload_n 0, 1, 0, 0, 0, 0),
  (61, .dup, 1, 0, 0, 0, 0),
  (62, .getfield 15, 3, 0, 1, 0, 0),
  (65, .iconst 1, 1, 0, 0, 1, 0),
  (66, .iload 4, 2, 0, 0, 0, 0),
  (68, .ishl, 1, 0, 0, 0, 0),
  (69, .ior, 1, 0, 0, 0, 0),
  (70, .putfield 15, 3, 0, 1, 0, 0),
  (73, .aload_n 0, 1, 0, 0, 0, 0),
  (74, .dup, 1, 0, 0, 0, 0),
  (75, .getfield 9, 3, 0, 0, 0, 0),
  (78, .iconst 1, 1, 0, 0, 1, 0),
  (79, .iadd, 1, 0, 0, 0, 0),
  (80, .putfield 9, 3, 0, 0, 0, 0),
  (83, .iload 4, 2, 0, 0, 0, 0),
  (85, .ireturn, 1, 0, 0, 0, 0)]
set_option maxRecDepth 100000 in
set_option maxHeartbeats 4000000 in
theorem kk_6_1 : k_6_1.all (entOK (mCi 6) (mB 6)) = true := by decide +kernel
def k_6 : List XI := k_6_0 ++ (k_6_1)
theorem kk_6 : k_6.all (entOK (mCi 6) (mB 6)) = true := all_app kk_6_0 (kk_6_1)
set_option maxRecDepth 100000 in
set_option maxHeartbeats 4000000 in
theorem fD_add {E : XE} {h : Mem} {Q : Int32 → Mem → Prop} {p : Nat} {a1 : Int32} {a2 : Int32} {a3 : Int32} (hp : p = 1 ∨ p = 15 ∨ p = 29)
    (hF : CALLI E mD_isFull [.ref p] h fun v1 h1 => (v1 = 0 → cnd (inb (h1 p 0) 6) (cnd (inb (h1 p 0) 6) (cnd (inb (h1 p 0) 6) (cnd (inb (h1 p 0) 6) (cnd (inb (h1 p 0) 6) (CALLV E mD_setKind [.ref p, .int (h1 p 0), .int ((upd2 (upd2 (upd2 h1 (p + 1) (ix (h1 p 0)) a1) (p + 2) (ix (h1 p 0)) a2) (p + 3) (ix (h1 p 0)) a3) (p + 6) (ix (h1 p 0))), .int ((upd2 (upd2 (upd2 h1 (p + 1) (ix (h1 p 0)) a1) (p + 2) (ix (h1 p 0)) a2) (p + 3) (ix (h1 p 0)) a3) (p + 7) (ix (h1 p 0)))] (upd2 (upd2 (upd2 h1 (p + 1) (ix (h1 p 0)) a1) (p + 2) (ix (h1 p 0)) a2) (p + 3) (ix (h1 p 0)) a3) fun h2 => Q (h1 p 0) (upd2 (upd2 h2 p 1 ((h2 p 1) ||| (shl 1 (h1 p 0)))) p 0 (((upd2 h2 p 1 ((h2 p 1) ||| (shl 1 (h1 p 0)))) p 0) + 1)))))))) ∧ (¬ v1 = 0 → Q (-9) h1)) :
    CALLI E mD_add [.ref p, .int a1, .int a2, .int a3] h Q := by
  rcases hp with rfl | rfl | rfl
  all_goals exact CALL_of rfl (wp_sound [] kk_6 49 hF)
def k_7 : List XI := [(0, .aload_n 0, 1, 0, 0, 0, 0),
  (1, .iload_n 1, 1, 0, 0, 0, 0),
  (2, .invokevirtual 64, 3, 4, 1, 0, 0),
  (5, .ifCond .eq 15, 3, 20, 0, 0, 0),
  (8, .aload_n 0, 1, 0, 0, 0, 0),
  (9, .dup, 1, 0, 0, 0, 0),
  (10, .getfield 15, 3, 0, 1, 0, 0),
  (13, .iconst 1, 1, 0, 0, 1, 0),
  (14, .iload_n 1, 1, 0, 0, 0, 0),
  (15, .ishl, 1, 0, 0, 0, 0),
  (16, .ixor, 1, 0, 0, 0, 0),
  (17, .putfield 15, 3, 0, 1, 0, 0),
  (20, .return_, 1, 0, 0, 0, 0)]
set_option maxRecDepth 100000 in
set_option maxHeartbeats 4000000 in
theorem kk_7 : k_7.all (entOK (mCi 7) (mB 7)) = true := by decide +kernel
set_option maxRecDepth 100000 in
set_option maxHeartbeats 4000000 in
theorem fD_toggle {E : XE} {h : Mem} {Q : Mem → Prop} {p : Nat} {a1 : Int32} (hp : p = 1 ∨ p = 15 ∨ p = 29)
    (hF : CALLI E mD_has [.ref p, .int a1] h fun v1 h1 => (v1 = 0 → Q h1) ∧ (¬ v1 = 0 → Q (upd2 h1 p 1 ((h1 p 1) ^^^ (shl 1 a1))))) :
    CALLV E mD_toggle [.ref p, .int a1] h Q := by
  rcases hp with rfl | rfl | rfl
  all_goals exact CALL_of rfl (wp_sound [] kk_7 14 hF)
def k_8_0 : List XI := [(0, .iload_n 2, 1, 0, 0, 0, 0),
  (1, .tableswitch 132 0 9 #[55, 62, 69, 76, 83, 90, 97, 104, 118, 125], 55, 0, 0, 0, 0),
  (56, .aload_n 0, 1, 0, 0, 0, 0),
  (57, .getfield 18, 3, 0, 2, 0, 0),
  (60, .iload_n 1, 1, 0, 0, 0, 0),
  (61, .iaload, 1, 0, 0, 0, 0),
  (62, .ireturn, 1, 0, 0, 0, 0),
  (63, .aload_n 0, 1, 0, 0, 0, 0),
  (64, .getfield 22, 3, 0, 3, 0, 0),
  (67, .iload_n 1, 1, 0, 0, 0, 0),
  (68, .iaload, 1, 0, 0, 0, 0),
  (69, .ireturn, 1, 0, 0, 0, 0),
  (70, .aload_n 0, 1, 0, 0, 0, 0),
  (71, .getfield 25, 3, 0, 4, 0, 0),
  (74, .iload_n 1, 1, 0, 0, 0, 0),
  (75, .iaload, 1, 0, 0, 0, 0),
  (76, .ireturn, 1, 0, 0, 0, 0),
  (77, .aload_n 0, 1, 0, 0, 0, 0),
  (78, .getfield 28, 3, 0, 5, 0, 0),
  (81, .iload_n 1, 1, 0, 0, 0, 0),
  (82, .iaload, 1, 0, 0, 0, 0),
  (83, .ireturn, 1, 0, 0, 0, 0),
  (84, .aload_n 0, 1, 0, 0, 0, 0),
  (85, .getfield 31, 3, 0, 6, 0, 0),
  (88, .iload_n 1, 1, 0, 0, 0, 0),
  (89, .iaload, 1, 0, 0, 0, 0),
  (90, .ireturn, 1, 0, 0, 0, 0),
  (91, .aload_n 0, 1, 0, 0, 0, 0),
  (92, .getfield 34, 3, 0, 7, 0, 0),
  (95, .iload_n 1, 1, 0, 0, 0, 0)]
set_option maxRecDepth 100000 in
set_option maxHeartbeats 4000000 in
theorem kk_8_0 : k_8_0.all (entOK (mCi 8) (mB 8)) = true := by decide +kernel
def k_8_1 : List XI := [(96, .iaload, 1, 0, 0, 0, 0),
  (97, .ireturn, 1, 0, 0, 0, 0),
  (98, .aload_n 0, 1, 0, 0, 0, 0),
  (99, .getfield 37, 3, 0, 8, 0, 0),
  (102, .iload_n 1, 1, 0, 0, 0, 0),
  (103, .iaload, 1, 0, 0, 0, 0),
  (104, .ireturn, 1, 0, 0, 0, 0),
  (105, .aload_n 0, 1, 0, 0, 0, 0),
  (106, .iload_n 1, 1, 0, 0, 0, 0),
  (107, .invokevirtual 76, 3, 5, 1, 0, 0),
  (110, .ifCond .eq 7, 3, 117, 0, 0, 0),
  (113, .iconst 1, 1, 0, 0, 1, 0),
  (114, .goto 4, 3, 118, 0, 0, 0),
  (117, .iconst 0, 1, 0, 0, 0, 0),
  (118, .ireturn, 1, 0, 0, 0, 0),
  (119, .aload_n 0, 1, 0, 0, 0, 0),
  (120, .getfield 43, 3, 0, 10, 0, 0),
  (123, .iload_n 1, 1, 0, 0, 0, 0),
  (124, .iaload, 1, 0, 0, 0, 0),
  (125, .ireturn, 1, 0, 0, 0, 0),
  (126, .aload_n 0, 1, 0, 0, 0, 0),
  (127, .getfield 46, 3, 0, 11, 0, 0),
  (130, .iload_n 1, 1, 0, 0, 0, 0),
  (131, .iaload, 1, 0, 0, 0, 0),
  (132, .ireturn, 1, 0, 0, 0, 0),
  (133, .aload_n 0, 1, 0, 0, 0, 0),
  (134, .getfield 49, 3, 0, 12, 0, 0),
  (137, .iload_n 1, 1, 0, 0, 0, 0),
  (138, .iaload, 1, 0, 0, 0, 0),
  (139, .ireturn, 1, 0, 0, 0, 0)]
set_option maxRecDepth 100000 in
set_option maxHeartbeats 4000000 in
theorem kk_8_1 : k_8_1.all (entOK (mCi 8) (mB 8)) = true := by decide +kernel
def k_8 : List XI := k_8_0 ++ (k_8_1)
theorem kk_8 : k_8.all (entOK (mCi 8) (mB 8)) = true := all_app kk_8_0 (kk_8_1)
set_option maxRecDepth 100000 in
set_option maxHeartbeats 4000000 in
theorem fD_trait {E : XE} {h : Mem} {Q : Int32 → Mem → Prop} {p : Nat} {a1 : Int32} {a2 : Int32} (hp : p = 1 ∨ p = 15 ∨ p = 29)
    (hF : (a2 = Int32.ofInt 0 → cnd (inb a1 6) (Q (h (p + 1) (ix a1)) h)) ∧ (¬ a2 = Int32.ofInt 0 → (a2 = Int32.ofInt 1 → cnd (inb a1 6) (Q (h (p + 2) (ix a1)) h)) ∧ (¬ a2 = Int32.ofInt 1 → (a2 = Int32.ofInt 2 → cnd (inb a1 6) (Q (h (p + 3) (ix a1)) h)) ∧ (¬ a2 = Int32.ofInt 2 → (a2 = Int32.ofInt 3 → cnd (inb a1 6) (Q (h (p + 4) (ix a1)) h)) ∧ (¬ a2 = Int32.ofInt 3 → (a2 = Int32.ofInt 4 → cnd (inb a1 6) (Q (h (p + 5) (ix a1)) h)) ∧ (¬ a2 = Int32.ofInt 4 → (a2 = Int32.ofInt 5 → cnd (inb a1 6) (Q (h (p + 6) (ix a1)) h)) ∧ (¬ a2 = Int32.ofInt 5 → (a2 = Int32.ofInt 6 → cnd (inb a1 6) (Q (h (p + 7) (ix a1)) h)) ∧ (¬ a2 = Int32.ofInt 6 → (a2 = Int32.ofInt 7 → CALLI E mD_isOn [.ref p, .int a1] h fun v1 h1 => (v1 = 0 → WP E mD_trait 118 [none, none, none] [.int 0] h1 (qI Q)) ∧ (¬ v1 = 0 → WP E mD_trait 118 [none, none, none] [.int 1] h1 (qI Q))) ∧ (¬ a2 = Int32.ofInt 7 → (a2 = Int32.ofInt 8 → cnd (inb a1 6) (Q (h (p + 9) (ix a1)) h)) ∧ (¬ a2 = Int32.ofInt 8 → (a2 = Int32.ofInt 9 → cnd (inb a1 6) (Q (h (p + 10) (ix a1)) h)) ∧ (¬ a2 = Int32.ofInt 9 → cnd (inb a1 6) (Q (h (p + 11) (ix a1)) h)))))))))))) :
    CALLI E mD_trait [.ref p, .int a1, .int a2] h Q := by
  rcases hp with rfl | rfl | rfl
  all_goals exact CALL_of rfl (wp_sound [(118, [0, 0, 0])] kk_8 9 hF)
set_option maxRecDepth 100000 in
set_option maxHeartbeats 4000000 in
theorem fD_trait_118 {E : XE} {h : Mem} {Q : Int32 → Mem → Prop} {s0 : Int32} 
    (hF : Q s0 h) :
    WP E mD_trait 118 [none, none, none] [.int s0] h (qI Q) := wp_sound [(118, [0, 0, 0])] kk_8 2 hF
def k_9_0 : List XI := [(0, .aload_n 0, 1, 0, 0, 0, 0),
  (1, .getfield 34, 3, 0, 7, 0, 0),
  (4, .iload_n 1, 1, 0, 0, 0, 0),
  (5, .iload_n 2, 1, 0, 0, 0, 0),
  (6, .iastore, 1, 0, 0, 0, 0),
  (7, .aload_n 0, 1, 0, 0, 0, 0),
  (8, .getfield 37, 3, 0, 8, 0, 0),
  (11, .iload_n 1, 1, 0, 0, 0, 0),
  (12, .iload_n 3, 1, 0, 0, 0, 0),
  (13, .iastore, 1, 0, 0, 0, 0),
  (14, .iload_n 2, 1, 0, 0, 0, 0),
  (15, .iconst 2, 1, 0, 0, 2, 0),
  (16, .if_icmp .eq 8, 3, 24, 0, 0, 0),
  (19, .iload_n 2, 1, 0, 0, 0, 0),
  (20, .iconst 3, 1, 0, 0, 3, 0),
  (21, .if_icmp .ne 7, 3, 28, 0, 0, 0),
  (24, .iconst 1, 1, 0, 0, 1, 0),
  (25, .goto 4, 3, 29, 0, 0, 0),
  (28, .iconst 0, 1, 0, 0, 0, 0),
  (29, .istore 4, 2, 0, 0, 0, 0),
  (31, .iload_n 2, 1, 0, 0, 0, 0),
  (32, .iconst 1, 1, 0, 0, 1, 0),
  (33, .if_icmp .eq 8, 3, 41, 0, 0, 0),
  (36, .iload_n 2, 1, 0, 0, 0, 0),
  (37, .iconst 4, 1, 0, 0, 4, 0),
  (38, .if_icmp .ne 7, 3, 45, 0, 0, 0),
  (41, .iconst 1, 1, 0, 0, 1, 0),
  (42, .goto 4, 3, 46, 0, 0, 0),
  (45, .iconst 0, 1, 0, 0, 0, 0),
  (46, .istore 5, 2, 0, 0, 0, 0)]
set_option maxRecDepth 100000 in
set_option maxHeartbeats 4000000 in
theorem kk_9_0 : k_9_0.all (entOK (mCi 9) (mB 9)) = true := by decide +kernel
def k_9_1 : List XI := [(48, .aload_n 0, 1, 0, 0, 0, 0),
  (49, .getfield 43, 3, 0, 10, 0, 0),
  (52, .iload_n 1, 1, 0, 0, 0, 0),
  (53, .iload 4, 2, 0, 0, 0, 0),
  (55, .ifCond .eq 14, 3, 69, 0, 0, 0),
  (58, .aload_n 0, 1, 0, 0, 0, 0),
  (59, .getfield 22, 3, 0, 3, 0, 0),
  (62, .iload_n 1, 1, 0, 0, 0, 0),
  (63, .iaload, 1, 0, 0, 0, 0),
  (64, .iload_n 3, 1, 0, 0, 0, 0),
  (65, .iadd, 1, 0, 0, 0, 0),
  (66, .goto 9, 3, 75, 0, 0, 0),
  (69, .aload_n 0, 1, 0, 0, 0, 0),
  (70, .getfield 22, 3, 0, 3, 0, 0),
  (73, .iload_n 1, 1, 0, 0, 0, 0),
  (74, .iaload, 1, 0, 0, 0, 0),
  (75, .iastore, 1, 0, 0, 0, 0),
  (76, .aload_n 0, 1, 0, 0, 0, 0),
  (77, .getfield 46, 3, 0, 11, 0, 0),
  (80, .iload_n 1, 1, 0, 0, 0, 0),
  (81, .iload 5, 2, 0, 0, 0, 0),
  (83, .ifCond .eq 7, 3, 90, 0, 0, 0),
  (86, .iload_n 3, 1, 0, 0, 0, 0),
  (87, .goto 4, 3, 91, 0, 0, 0),
  (90, .iconst 0, 1, 0, 0, 0, 0),
  (91, .iastore, 1, 0, 0, 0, 0),
  (92, .aload_n 0, 1, 0, 0, 0, 0),
  (93, .getfield 49, 3, 0, 12, 0, 0),
  (96, .iload_n 1, 1, 0, 0, 0, 0),
  (97, .iload_n 2, 1, 0, 0, 0, 0)]
set_option maxRecDepth 100000 in
set_option maxHeartbeats 4000000 in
theorem kk_9_1 : k_9_1.all (entOK (mCi 9) (mB 9)) = true := by decide +kernel
def k_9_2 : List XI := [(98, .iconst 5, 1, 0, 0, 5, 0),
  (99, .if_icmp .ne 18, 3, 117, 0, 0, 0),
  (102, .iconst 1, 1, 0, 0, 1, 0),
  (103, .aload_n 0, 1, 0, 0, 0, 0),
  (104, .getfield 25, 3, 0, 4, 0, 0),
  (107, .iload_n 1, 1, 0, 0, 0, 0),
  (108, .iaload, 1, 0, 0, 0, 0),
  (109, .iload_n 3, 1, 0, 0, 0, 0),
  (110, .isub, 1, 0, 0, 0, 0),
  (111, .invokestatic 79, 3, 998, 0, 0, 0),
  (114, .goto 9, 3, 123, 0, 0, 0),
  (117, .aload_n 0, 1, 0, 0, 0, 0),
  (118, .getfield 25, 3, 0, 4, 0, 0),
  (121, .iload_n 1, 1, 0, 0, 0, 0),
  (122, .iaload, 1, 0, 0, 0, 0),
  (123, .iastore, 1, 0, 0, 0, 0),
  (124, .aload_n 0, 1, 0, 0, 0, 0),
  (125, .getfield 52, 3, 0, 13, 0, 0),
  (128, .iload_n 1, 1, 0, 0, 0, 0),
  (129, .iload_n 2, 1, 0, 0, 0, 0),
  (130, .iconst 4, 1, 0, 0, 4, 0),
  (131, .if_icmp .ne 9, 3, 140, 0, 0, 0),
  (134, .iload_n 3, 1, 0, 0, 0, 0),
  (135, .iconst 1, 1, 0, 0, 1, 0),
  (136, .iadd, 1, 0, 0, 0, 0),
  (137, .goto 5, 3, 142, 0, 0, 0),
  (140, .ldc 85, 2, 0, 0, 2147483647, 0),
  (142, .iastore, 1, 0, 0, 0, 0),
  (143, .aload_n 0, 1, 0, 0, 0, 0),
  (144, .getfield 55, 3, 0, 14, 0, 0)]
set_option maxRecDepth 100000 in
set_option maxHeartbeats 4000000 in
theorem kk_9_2 : k_9_2.all (entOK (mCi 9) (mB 9)) = true := by decide +kernel
def k_9_3 : List XI := [(147, .iload_n 1, 1, 0, 0, 0, 0),
  (148, .iload_n 2, 1, 0, 0, 0, 0),
  (149, .iconst 3, 1, 0, 0, 3, 0),
  (150, .if_icmp .ne 7, 3, 157, 0, 0, 0),
  (153, .iconst 1, 1, 0, 0, 1, 0),
  (154, .goto 4, 3, 158, 0, 0, 0),
  (157, .iconst 0, 1, 0, 0, 0, 0),
  (158, .iastore, 1, 0, 0, 0, 0),
  (159, .return_, 1, 0, 0, 0, 0)]
set_option maxRecDepth 100000 in
set_option maxHeartbeats 4000000 in
theorem kk_9_3 : k_9_3.all (entOK (mCi 9) (mB 9)) = true := by decide +kernel
def k_9 : List XI := k_9_0 ++ (k_9_1 ++ (k_9_2 ++ (k_9_3)))
theorem kk_9 : k_9.all (entOK (mCi 9) (mB 9)) = true := all_app kk_9_0 (all_app kk_9_1 (all_app kk_9_2 (kk_9_3)))
set_option maxRecDepth 100000 in
set_option maxHeartbeats 4000000 in
theorem fD_setKind {E : XE} {h : Mem} {Q : Mem → Prop} {p : Nat} {a1 : Int32} {a2 : Int32} {a3 : Int32} (hp : p = 1 ∨ p = 15 ∨ p = 29)
    (hF : cnd (inb a1 6) (cnd (inb a1 6) ((a2 = 2 → WP E mD_setKind 29 [some (.ref p), some (.int a1), some (.int a2), some (.int a3), none, none] [.int 1] (upd2 (upd2 h (p + 6) (ix a1) a2) (p + 7) (ix a1) a3) (qV Q)) ∧ (¬ a2 = 2 → (¬ a2 = 3 → WP E mD_setKind 29 [some (.ref p), some (.int a1), some (.int a2), some (.int a3), none, none] [.int 0] (upd2 (upd2 h (p + 6) (ix a1) a2) (p + 7) (ix a1) a3) (qV Q)) ∧ (a2 = 3 → WP E mD_setKind 29 [some (.ref p), some (.int a1), some (.int a2), some (.int a3), none, none] [.int 1] (upd2 (upd2 h (p + 6) (ix a1) a2) (p + 7) (ix a1) a3) (qV Q)))))) :
    CALLV E mD_setKind [.ref p, .int a1, .int a2, .int a3] h Q := by
  rcases hp with rfl | rfl | rfl
  all_goals exact CALL_of rfl (wp_sound [(29, [1, 1, 1, 1, 0, 0]), (75, [1, 1, 1, 1, 0, 1]), (123, [1, 1, 1, 1, 0, 0])] kk_9 19 hF)
set_option maxRecDepth 100000 in
set_option maxHeartbeats 4000000 in
theorem fD_setKind_29 {E : XE} {h : Mem} {Q : Mem → Prop} {p : Nat} {x1 : Int32} {x2 : Int32} {x3 : Int32} {s0 : Int32} (hp : p = 1 ∨ p = 15 ∨ p = 29)
    (hF : (x2 = 1 → (s0 = 0 → cnd (inb x1 6) (WP E mD_setKind 75 [some (.ref p), some (.int x1), some (.int x2), some (.int x3), none, some (.int 1)] [.int (h (p + 2) (ix x1)), .int x1, .ref (p + 9)] h (qV Q))) ∧ (¬ s0 = 0 → cnd (inb x1 6) (WP E mD_setKind 75 [some (.ref p), some (.int x1), some (.int x2), some (.int x3), none, some (.int 1)] [.int ((h (p + 2) (ix x1)) + x3), .int x1, .ref (p + 9)] h (qV Q)))) ∧ (¬ x2 = 1 → (¬ x2 = 4 → (s0 = 0 → cnd (inb x1 6) (WP E mD_setKind 75 [some (.ref p), some (.int x1), some (.int x2), some (.int x3), none, some (.int 0)] [.int (h (p + 2) (ix x1)), .int x1, .ref (p + 9)] h (qV Q))) ∧ (¬ s0 = 0 → cnd (inb x1 6) (WP E mD_setKind 75 [some (.ref p), some (.int x1), some (.int x2), some (.int x3), none, some (.int 0)] [.int ((h (p + 2) (ix x1)) + x3), .int x1, .ref (p + 9)] h (qV Q)))) ∧ (x2 = 4 → (s0 = 0 → cnd (inb x1 6) (WP E mD_setKind 75 [some (.ref p), some (.int x1), some (.int x2), some (.int x3), none, some (.int 1)] [.int (h (p + 2) (ix x1)), .int x1, .ref (p + 9)] h (qV Q))) ∧ (¬ s0 = 0 → cnd (inb x1 6) (WP E mD_setKind 75 [some (.ref p), some (.int x1), some (.int x2), some (.int x3), none, some (.int 1)] [.int ((h (p + 2) (ix x1)) + x3), .int x1, .ref (p + 9)] h (qV Q)))))) :
    WP E mD_setKind 29 [some (.ref p), some (.int x1), some (.int x2), some (.int x3), none, none] [.int s0] h (qV Q) := by
  rcases hp with rfl | rfl | rfl
  all_goals exact wp_sound [(29, [1, 1, 1, 1, 0, 0]), (75, [1, 1, 1, 1, 0, 1]), (123, [1, 1, 1, 1, 0, 0])] kk_9 23 hF
set_option maxRecDepth 100000 in
set_option maxHeartbeats 4000000 in
theorem fD_setKind_75 {E : XE} {h : Mem} {Q : Mem → Prop} {p : Nat} {x1 : Int32} {x2 : Int32} {x3 : Int32} {x5 : Int32} {s1 : Int32} {s2 : Int32} (hp : p = 1 ∨ p = 15 ∨ p = 29)
    (hF : cnd (inb s1 6) ((x5 = 0 → cnd (inb x1 6) ((¬ x2 = 5 → cnd (inb x1 6) (WP E mD_setKind 123 [some (.ref p), some (.int x1), some (.int x2), some (.int x3), none, none] [.int ((upd2 (upd2 h (p + 9) (ix s1) s2) (p + 10) (ix x1) 0) (p + 3) (ix x1)), .int x1, .ref (p + 11)] (upd2 (upd2 h (p + 9) (ix s1) s2) (p + 10) (ix x1) 0) (qV Q))) ∧ (x2 = 5 → cnd (inb x1 6) (WP E mD_setKind 123 [some (.ref p), some (.int x1), some (.int x2), some (.int x3), none, none] [.int (imax 1 (((upd2 (upd2 h (p + 9) (ix s1) s2) (p + 10) (ix x1) 0) (p + 3) (ix x1)) - x3)), .int x1, .ref (p + 11)] (upd2 (upd2 h (p + 9) (ix s1) s2) (p + 10) (ix x1) 0) (qV Q))))) ∧ (¬ x5 = 0 → cnd (inb x1 6) ((¬ x2 = 5 → cnd (inb x1 6) (WP E mD_setKind 123 [some (.ref p), some (.int x1), some (.int x2), some (.int x3), none, none] [.int ((upd2 (upd2 h (p + 9) (ix s1) s2) (p + 10) (ix x1) x3) (p + 3) (ix x1)), .int x1, .ref (p + 11)] (upd2 (upd2 h (p + 9) (ix s1) s2) (p + 10) (ix x1) x3) (qV Q))) ∧ (x2 = 5 → cnd (inb x1 6) (WP E mD_setKind 123 [some (.ref p), some (.int x1), some (.int x2), some (.int x3), none, none] [.int (imax 1 (((upd2 (upd2 h (p + 9) (ix s1) s2) (p + 10) (ix x1) x3) (p + 3) (ix x1)) - x3)), .int x1, .ref (p + 11)] (upd2 (upd2 h (p + 9) (ix s1) s2) (p + 10) (ix x1) x3) (qV Q))))))) :
    WP E mD_setKind 75 [some (.ref p), some (.int x1), some (.int x2), some (.int x3), none, some (.int x5)] [.int s2, .int s1, .ref (p + 9)] h (qV Q) := by
  rcases hp with rfl | rfl | rfl
  all_goals exact wp_sound [(29, [1, 1, 1, 1, 0, 0]), (75, [1, 1, 1, 1, 0, 1]), (123, [1, 1, 1, 1, 0, 0])] kk_9 25 hF
set_option maxRecDepth 100000 in
set_option maxHeartbeats 4000000 in
theorem fD_setKind_123 {E : XE} {h : Mem} {Q : Mem → Prop} {p : Nat} {x1 : Int32} {x2 : Int32} {x3 : Int32} {s1 : Int32} {s2 : Int32} (hp : p = 1 ∨ p = 15 ∨ p = 29)
    (hF : cnd (inb s1 6) ((¬ x2 = 4 → cnd (inb x1 6) ((¬ x2 = 3 → cnd (inb x1 6) (Q (upd2 (upd2 (upd2 h (p + 11) (ix s1) s2) (p + 12) (ix x1) 2147483647) (p + 13) (ix x1) 0))) ∧ (x2 = 3 → cnd (inb x1 6) (Q (upd2 (upd2 (upd2 h (p + 11) (ix s1) s2) (p + 12) (ix x1) 2147483647) (p + 13) (ix x1) 1))))) ∧ (x2 = 4 → cnd (inb x1 6) ((¬ x2 = 3 → cnd (inb x1 6) (Q (upd2 (upd2 (upd2 h (p + 11) (ix s1) s2) (p + 12) (ix x1) (x3 + 1)) (p + 13) (ix x1) 0))) ∧ (x2 = 3 → cnd (inb x1 6) (Q (upd2 (upd2 (upd2 h (p + 11) (ix s1) s2) (p + 12) (ix x1) (x3 + 1)) (p + 13) (ix x1) 1))))))) :
    WP E mD_setKind 123 [some (.ref p), some (.int x1), some (.int x2), some (.int x3), none, none] [.int s2, .int s1, .ref (p + 11)] h (qV Q) := by
  rcases hp with rfl | rfl | rfl
  all_goals exact wp_sound [(29, [1, 1, 1, 1, 0, 0]), (75, [1, 1, 1, 1, 0, 1]), (123, [1, 1, 1, 1, 0, 0])] kk_9 23 hF
def k_10_0 : List XI := [(0, .aload_n 0, 1, 0, 0, 0, 0),
  (1, .getfield 43, 3, 0, 10, 0, 0),
  (4, .iload_n 1, 1, 0, 0, 0, 0),
  (5, .iaload, 1, 0, 0, 0, 0),
  (6, .istore_n 3, 1, 0, 0, 0, 0),
  (7, .iload_n 2, 1, 0, 0, 0, 0),
  (8, .ifCond .le 7, 3, 15, 0, 0, 0),
  (11, .iload_n 3, 1, 0, 0, 0, 0),
  (12, .ifCond .gt 5, 3, 17, 0, 0, 0),
  (15, .iconst 0, 1, 0, 0, 0, 0),
  (16, .ireturn, 1, 0, 0, 0, 0),
  (17, .iload_n 2, 1, 0, 0, 0, 0),
  (18, .aload_n 0, 1, 0, 0, 0, 0),
  (19, .getfield 46, 3, 0, 11, 0, 0),
  (22, .iload_n 1, 1, 0, 0, 0, 0),
  (23, .iaload, 1, 0, 0, 0, 0),
  (24, .iadd, 1, 0, 0, 0, 0),
  (25, .iload_n 3, 1, 0, 0, 0, 0),
  (26, .iadd, 1, 0, 0, 0, 0),
  (27, .iconst 1, 1, 0, 0, 1, 0),
  (28, .isub, 1, 0, 0, 0, 0),
  (29, .iload_n 3, 1, 0, 0, 0, 0),
  (30, .idiv, 1, 0, 0, 0, 0),
  (31, .istore 4, 2, 0, 0, 0, 0),
  (33, .iload 4, 2, 0, 0, 0, 0),
  (35, .aload_n 0, 1, 0, 0, 0, 0),
  (36, .getfield 52, 3, 0, 13, 0, 0),
  (39, .iload_n 1, 1, 0, 0, 0, 0),
  (40, .iaload, 1, 0, 0, 0, 0),
  (41, .invokestatic 86, 3, 997, 0, 0, 0)]
set_option maxRecDepth 100000 in
set_option maxHeartbeats 4000000 in
theorem kk_10_0 : k_10_0.all (entOK (mCi 10) (mB 10)) = true := by decide +kernel
def k_10_1 : List XI := [(44, .aload_n 0, 1, 0, 0, 0, 0),
  (45, .getfield 55, 3, 0, 14, 0, 0),
  (48, .iload_n 1, 1, 0, 0, 0, 0),
  (49, .iaload, 1, 0, 0, 0, 0),
  (50, .iadd, 1, 0, 0, 0, 0),
  (51, .ireturn, 1, 0, 0, 0, 0)]
set_option maxRecDepth 100000 in
set_option maxHeartbeats 4000000 in
theorem kk_10_1 : k_10_1.all (entOK (mCi 10) (mB 10)) = true := by decide +kernel
def k_10 : List XI := k_10_0 ++ (k_10_1)
theorem kk_10 : k_10.all (entOK (mCi 10) (mB 10)) = true := all_app kk_10_0 (kk_10_1)
set_option maxRecDepth 100000 in
set_option maxHeartbeats 4000000 in
theorem fD_askedWithin {E : XE} {h : Mem} {Q : Int32 → Mem → Prop} {p : Nat} {a1 : Int32} {a2 : Int32} (hp : p = 1 ∨ p = 15 ∨ p = 29)
    (hF : cnd (inb a1 6) ((a2 ≤ 0 → Q 0 h) ∧ (¬ a2 ≤ 0 → (0 < (h (p + 9) (ix a1)) → cnd (inb a1 6) (cnd (nz (h (p + 9) (ix a1))) (cnd (inb a1 6) (cnd (inb a1 6) (Q ((imin ((((a2 + (h (p + 10) (ix a1))) + (h (p + 9) (ix a1))) - 1) / (h (p + 9) (ix a1))) (h (p + 12) (ix a1))) + (h (p + 13) (ix a1))) h))))) ∧ (¬ 0 < (h (p + 9) (ix a1)) → Q 0 h)))) :
    CALLI E mD_askedWithin [.ref p, .int a1, .int a2] h Q := by
  rcases hp with rfl | rfl | rfl
  all_goals exact CALL_of rfl (wp_sound [] kk_10 35 hF)
def k_11_0 : List XI := [(0, .aload_n 0, 1, 0, 0, 0, 0),
  (1, .getfield 43, 3, 0, 10, 0, 0),
  (4, .iload_n 1, 1, 0, 0, 0, 0),
  (5, .iaload, 1, 0, 0, 0, 0),
  (6, .istore_n 3, 1, 0, 0, 0, 0),
  (7, .iload_n 2, 1, 0, 0, 0, 0),
  (8, .aload_n 0, 1, 0, 0, 0, 0),
  (9, .getfield 46, 3, 0, 11, 0, 0),
  (12, .iload_n 1, 1, 0, 0, 0, 0),
  (13, .iaload, 1, 0, 0, 0, 0),
  (14, .iadd, 1, 0, 0, 0, 0),
  (15, .aload_n 0, 1, 0, 0, 0, 0),
  (16, .getfield 49, 3, 0, 12, 0, 0),
  (19, .iload_n 1, 1, 0, 0, 0, 0),
  (20, .iaload, 1, 0, 0, 0, 0),
  (21, .isub, 1, 0, 0, 0, 0),
  (22, .istore 4, 2, 0, 0, 0, 0),
  (24, .iload_n 2, 1, 0, 0, 0, 0),
  (25, .ifCond .le 12, 3, 37, 0, 0, 0),
  (28, .iload 4, 2, 0, 0, 0, 0),
  (30, .ifCond .lt 7, 3, 37, 0, 0, 0),
  (33, .iload_n 3, 1, 0, 0, 0, 0),
  (34, .ifCond .gt 5, 3, 39, 0, 0, 0),
  (37, .iconst 0, 1, 0, 0, 0, 0),
  (38, .ireturn, 1, 0, 0, 0, 0),
  (39, .iload 4, 2, 0, 0, 0, 0),
  (41, .iload_n 3, 1, 0, 0, 0, 0),
  (42, .idiv, 1, 0, 0, 0, 0),
  (43, .iconst 1, 1, 0, 0, 1, 0),
  (44, .iadd, 1, 0, 0, 0, 0)]
set_option maxRecDepth 100000 in
set_option maxHeartbeats 4000000 in
theorem kk_11_0 : k_11_0.all (entOK (mCi 11) (mB 11)) = true := by decide +kernel
def k_11_1 : List XI := [(45, .aload_n 0, 1, 0, 0, 0, 0),
  (46, .getfield 52, 3, 0, 13, 0, 0),
  (49, .iload_n 1, 1, 0, 0, 0, 0),
  (50, .iaload, 1, 0, 0, 0, 0),
  (51, .invokestatic 86, 3, 997, 0, 0, 0),
  (54, .aload_n 0, 1, 0, 0, 0, 0),
  (55, .getfield 55, 3, 0, 14, 0, 0),
  (58, .iload_n 1, 1, 0, 0, 0, 0),
  (59, .iaload, 1, 0, 0, 0, 0),
  (60, .iadd, 1, 0, 0, 0, 0),
  (61, .ireturn, 1, 0, 0, 0, 0)]
set_option maxRecDepth 100000 in
set_option maxHeartbeats 4000000 in
theorem kk_11_1 : k_11_1.all (entOK (mCi 11) (mB 11)) = true := by decide +kernel
def k_11 : List XI := k_11_0 ++ (k_11_1)
theorem kk_11 : k_11.all (entOK (mCi 11) (mB 11)) = true := all_app kk_11_0 (kk_11_1)
set_option maxRecDepth 100000 in
set_option maxHeartbeats 4000000 in
theorem fD_owedWithin {E : XE} {h : Mem} {Q : Int32 → Mem → Prop} {p : Nat} {a1 : Int32} {a2 : Int32} (hp : p = 1 ∨ p = 15 ∨ p = 29)
    (hF : cnd (inb a1 6) (cnd (inb a1 6) (cnd (inb a1 6) ((a2 ≤ 0 → Q 0 h) ∧ (¬ a2 ≤ 0 → (((a2 + (h (p + 10) (ix a1))) - (h (p + 11) (ix a1))) < 0 → Q 0 h) ∧ (¬ ((a2 + (h (p + 10) (ix a1))) - (h (p + 11) (ix a1))) < 0 → (0 < (h (p + 9) (ix a1)) → cnd (nz (h (p + 9) (ix a1))) (cnd (inb a1 6) (cnd (inb a1 6) (Q ((imin ((((a2 + (h (p + 10) (ix a1))) - (h (p + 11) (ix a1))) / (h (p + 9) (ix a1))) + 1) (h (p + 12) (ix a1))) + (h (p + 13) (ix a1))) h)))) ∧ (¬ 0 < (h (p + 9) (ix a1)) → Q 0 h))))))) :
    CALLI E mD_owedWithin [.ref p, .int a1, .int a2] h Q := by
  rcases hp with rfl | rfl | rfl
  all_goals exact CALL_of rfl (wp_sound [] kk_11 40 hF)
def k_12_0 : List XI := [(0, .iconst 0, 1, 0, 0, 0, 0),
  (1, .istore_n 2, 1, 0, 0, 0, 0),
  (2, .iconst 0, 1, 0, 0, 0, 0),
  (3, .istore_n 3, 1, 0, 0, 0, 0),
  (4, .iload_n 3, 1, 0, 0, 0, 0),
  (5, .aload_n 0, 1, 0, 0, 0, 0),
  (6, .getfield 9, 3, 0, 0, 0, 0),
  (9, .if_icmp .ge 36, 3, 45, 0, 0, 0),
  (12, .aload_n 0, 1, 0, 0, 0, 0),
  (13, .getfield 15, 3, 0, 1, 0, 0),
  (16, .iconst 1, 1, 0, 0, 1, 0),
  (17, .iload_n 3, 1, 0, 0, 0, 0),
  (18, .ishl, 1, 0, 0, 0, 0),
  (19, .iand, 1, 0, 0, 0, 0),
  (20, .ifCond .eq 19, 3, 39, 0, 0, 0),
  (23, .iload_n 2, 1, 0, 0, 0, 0),
  (24, .aload_n 0, 1, 0, 0, 0, 0),
  (25, .getfield 18, 3, 0, 2, 0, 0),
  (28, .iload_n 3, 1, 0, 0, 0, 0),
  (29, .iaload, 1, 0, 0, 0, 0),
  (30, .aload_n 0, 1, 0, 0, 0, 0),
  (31, .iload_n 3, 1, 0, 0, 0, 0),
  (32, .iload_n 1, 1, 0, 0, 0, 0),
  (33, .invokevirtual 89, 3, 11, 1, 0, 0),
  (36, .imul, 1, 0, 0, 0, 0),
  (37, .iadd, 1, 0, 0, 0, 0),
  (38, .istore_n 2, 1, 0, 0, 0, 0),
  (39, .iinc 3 1, 3, 0, 0, 1, 0),
  (42, .goto (-38), 3, 4, 0, 0, 0),
  (45, .iload_n 2, 1, 0, 0, 0, 0)]
set_option maxRecDepth 100000 in
set_option maxHeartbeats 4000000 in
theorem kk_12_0 : k_12_0.all (entOK (mCi 12) (mB 12)) = true := by decide +kernel
def k_12_1 : List XI := [(46, .ireturn, 1, 0, 0, 0, 0)]
set_option maxRecDepth 100000 in
set_option maxHeartbeats 4000000 in
theorem kk_12_1 : k_12_1.all (entOK (mCi 12) (mB 12)) = true := by decide +kernel
def k_12 : List XI := k_12_0 ++ (k_12_1)
theorem kk_12 : k_12.all (entOK (mCi 12) (mB 12)) = true := all_app kk_12_0 (kk_12_1)
set_option maxRecDepth 100000 in
set_option maxHeartbeats 4000000 in
theorem fD_demandWithin {E : XE} {h : Mem} {Q : Int32 → Mem → Prop} {p : Nat} {a1 : Int32} (hp : p = 1 ∨ p = 15 ∨ p = 29)
    (hF : WP E mD_demandWithin 4 [some (.ref p), some (.int a1), some (.int 0), some (.int 0)] [] h (qI Q)) :
    CALLI E mD_demandWithin [.ref p, .int a1] h Q := by
  rcases hp with rfl | rfl | rfl
  all_goals exact CALL_of rfl (wp_sound [(4, [1, 1, 1, 1])] kk_12 5 hF)
set_option maxRecDepth 100000 in
set_option maxHeartbeats 4000000 in
theorem fD_demandWithin_4 {E : XE} {h : Mem} {Q : Int32 → Mem → Prop} {p : Nat} {x1 : Int32} {x2 : Int32} {x3 : Int32} (hp : p = 1 ∨ p = 15 ∨ p = 29)
    (hF : ((h p 0) ≤ x3 → Q x2 h) ∧ (¬ (h p 0) ≤ x3 → (((h p 1) &&& (shl 1 x3)) = 0 → WP E mD_demandWithin 4 [some (.ref p), some (.int x1), some (.int x2), some (.int (x3 + 1))] [] h (qI Q)) ∧ (¬ ((h p 1) &&& (shl 1 x3)) = 0 → cnd (inb x3 6) (CALLI E mD_owedWithin [.ref p, .int x3, .int x1] h fun v1 h1 => WP E mD_demandWithin 4 [some (.ref p), some (.int x1), some (.int (x2 + ((h (p + 1) (ix x3)) * v1))), some (.int (x3 + 1))] [] h1 (qI Q))))) :
    WP E mD_demandWithin 4 [some (.ref p), some (.int x1), some (.int x2), some (.int x3)] [] h (qI Q) := by
  rcases hp with rfl | rfl | rfl
  all_goals exact wp_sound [(4, [1, 1, 1, 1])] kk_12 26 hF
def k_13 : List XI := [(0, .iconst 0, 1, 0, 0, 0, 0),
  (1, .istore_n 3, 1, 0, 0, 0, 0),
  (2, .iconst 0, 1, 0, 0, 0, 0),
  (3, .istore 4, 2, 0, 0, 0, 0),
  (5, .iload 4, 2, 0, 0, 0, 0),
  (7, .aload_n 0, 1, 0, 0, 0, 0),
  (8, .getfield 9, 3, 0, 0, 0, 0),
  (11, .if_icmp .ge 36, 3, 47, 0, 0, 0),
  (14, .iload_n 1, 1, 0, 0, 0, 0),
  (15, .iconst 1, 1, 0, 0, 1, 0),
  (16, .iload 4, 2, 0, 0, 0, 0),
  (18, .ishl, 1, 0, 0, 0, 0),
  (19, .iand, 1, 0, 0, 0, 0),
  (20, .ifCond .eq 21, 3, 41, 0, 0, 0),
  (23, .iload_n 3, 1, 0, 0, 0, 0),
  (24, .aload_n 0, 1, 0, 0, 0, 0),
  (25, .getfield 18, 3, 0, 2, 0, 0),
  (28, .iload 4, 2, 0, 0, 0, 0),
  (30, .iaload, 1, 0, 0, 0, 0),
  (31, .aload_n 0, 1, 0, 0, 0, 0),
  (32, .iload 4, 2, 0, 0, 0, 0),
  (34, .iload_n 2, 1, 0, 0, 0, 0),
  (35, .invokevirtual 92, 3, 10, 1, 0, 0),
  (38, .imul, 1, 0, 0, 0, 0),
  (39, .iadd, 1, 0, 0, 0, 0),
  (40, .istore_n 3, 1, 0, 0, 0, 0),
  (41, .iinc 4 1, 3, 0, 0, 1, 0),
  (44, .goto (-39), 3, 5, 0, 0, 0),
  (47, .iload_n 3, 1, 0, 0, 0, 0),
  (48, .ireturn, 1, 0, 0, 0, 0)]
set_option maxRecDepth 100000 in
set_option maxHeartbeats 4000000 in
theorem kk_13 : k_13.all (entOK (mCi 13) (mB 13)) = true := by decide +kernel
set_option maxRecDepth 100000 in
set_option maxHeartbeats 4000000 in
theorem fD_workAsked {E : XE} {h : Mem} {Q : Int32 → Mem → Prop} {p : Nat} {a1 : Int32} {a2 : Int32} (hp : p = 1 ∨ p = 15 ∨ p = 29)
    (hF : WP E mD_workAsked 5 [some (.ref p), some (.int a1), some (.int a2), some (.int 0), some (.int 0)] [] h (qI Q)) :
    CALLI E mD_workAsked [.ref p, .int a1, .int a2] h Q := by
  rcases hp with rfl | rfl | rfl
  all_goals exact CALL_of rfl (wp_sound [(5, [1, 1, 1, 1, 1])] kk_13 5 hF)
set_option maxRecDepth 100000 in
set_option maxHeartbeats 4000000 in
theorem fD_workAsked_5 {E : XE} {h : Mem} {Q : Int32 → Mem → Prop} {p : Nat} {x1 : Int32} {x2 : Int32} {x3 : Int32} {x4 : Int32} (hp : p = 1 ∨ p = 15 ∨ p = 29)
    (hF : ((h p 0) ≤ x4 → Q x3 h) ∧ (¬ (h p 0) ≤ x4 → ((x1 &&& (shl 1 x4)) = 0 → WP E mD_workAsked 5 [some (.ref p), some (.int x1), some (.int x2), some (.int x3), some (.int (x4 + 1))] [] h (qI Q)) ∧ (¬ (x1 &&& (shl 1 x4)) = 0 → cnd (inb x4 6) (CALLI E mD_askedWithin [.ref p, .int x4, .int x2] h fun v1 h1 => WP E mD_workAsked 5 [some (.ref p), some (.int x1), some (.int x2), some (.int (x3 + ((h (p + 1) (ix x4)) * v1))), some (.int (x4 + 1))] [] h1 (qI Q))))) :
    WP E mD_workAsked 5 [some (.ref p), some (.int x1), some (.int x2), some (.int x3), some (.int x4)] [] h (qI Q) := by
  rcases hp with rfl | rfl | rfl
  all_goals exact wp_sound [(5, [1, 1, 1, 1, 1])] kk_13 25 hF
def k_14 : List XI := [(0, .iconst 0, 1, 0, 0, 0, 0),
  (1, .istore_n 1, 1, 0, 0, 0, 0),
  (2, .iconst 0, 1, 0, 0, 0, 0),
  (3, .istore_n 2, 1, 0, 0, 0, 0),
  (4, .iload_n 2, 1, 0, 0, 0, 0),
  (5, .aload_n 0, 1, 0, 0, 0, 0),
  (6, .getfield 9, 3, 0, 0, 0, 0),
  (9, .if_icmp .ge 26, 3, 35, 0, 0, 0),
  (12, .aload_n 0, 1, 0, 0, 0, 0),
  (13, .iload_n 2, 1, 0, 0, 0, 0),
  (14, .invokevirtual 76, 3, 5, 1, 0, 0),
  (17, .ifCond .eq 12, 3, 29, 0, 0, 0),
  (20, .iload_n 1, 1, 0, 0, 0, 0),
  (21, .aload_n 0, 1, 0, 0, 0, 0),
  (22, .getfield 18, 3, 0, 2, 0, 0),
  (25, .iload_n 2, 1, 0, 0, 0, 0),
  (26, .iaload, 1, 0, 0, 0, 0),
  (27, .iadd, 1, 0, 0, 0, 0),
  (28, .istore_n 1, 1, 0, 0, 0, 0),
  (29, .iinc 2 1, 3, 0, 0, 1, 0),
  (32, .goto (-28), 3, 4, 0, 0, 0),
  (35, .iload_n 1, 1, 0, 0, 0, 0),
  (36, .ireturn, 1, 0, 0, 0, 0)]
set_option maxRecDepth 100000 in
set_option maxHeartbeats 4000000 in
theorem kk_14 : k_14.all (entOK (mCi 14) (mB 14)) = true := by decide +kernel
set_option maxRecDepth 100000 in
set_option maxHeartbeats 4000000 in
theorem fD_costTogether {E : XE} {h : Mem} {Q : Int32 → Mem → Prop} {p : Nat} (hp : p = 1 ∨ p = 15 ∨ p = 29)
    (hF : WP E mD_costTogether 4 [some (.ref p), some (.int 0), some (.int 0)] [] h (qI Q)) :
    CALLI E mD_costTogether [.ref p] h Q := by
  rcases hp with rfl | rfl | rfl
  all_goals exact CALL_of rfl (wp_sound [(4, [1, 1, 1])] kk_14 5 hF)
set_option maxRecDepth 100000 in
set_option maxHeartbeats 4000000 in
theorem fD_costTogether_4 {E : XE} {h : Mem} {Q : Int32 → Mem → Prop} {p : Nat} {x1 : Int32} {x2 : Int32} (hp : p = 1 ∨ p = 15 ∨ p = 29)
    (hF : ((h p 0) ≤ x2 → Q x1 h) ∧ (¬ (h p 0) ≤ x2 → CALLI E mD_isOn [.ref p, .int x2] h fun v1 h1 => (v1 = 0 → WP E mD_costTogether 4 [some (.ref p), some (.int x1), some (.int (x2 + 1))] [] h1 (qI Q)) ∧ (¬ v1 = 0 → cnd (inb x2 6) (WP E mD_costTogether 4 [some (.ref p), some (.int (x1 + (h1 (p + 1) (ix x2)))), some (.int (x2 + 1))] [] h1 (qI Q))))) :
    WP E mD_costTogether 4 [some (.ref p), some (.int x1), some (.int x2)] [] h (qI Q) := by
  rcases hp with rfl | rfl | rfl
  all_goals exact wp_sound [(4, [1, 1, 1])] kk_14 18 hF
def k_15 : List XI := [(0, .lconst 1, 1, 0, 0, 0, 1),
  (1, .lstore_n 1, 1, 0, 0, 0, 0),
  (2, .iconst 0, 1, 0, 0, 0, 0),
  (3, .istore_n 3, 1, 0, 0, 0, 0),
  (4, .iload_n 3, 1, 0, 0, 0, 0),
  (5, .aload_n 0, 1, 0, 0, 0, 0),
  (6, .getfield 9, 3, 0, 0, 0, 0),
  (9, .if_icmp .ge 29, 3, 38, 0, 0, 0),
  (12, .aload_n 0, 1, 0, 0, 0, 0),
  (13, .iload_n 3, 1, 0, 0, 0, 0),
  (14, .invokevirtual 76, 3, 5, 1, 0, 0),
  (17, .ifCond .eq 15, 3, 32, 0, 0, 0),
  (20, .lload_n 1, 1, 0, 0, 0, 0),
  (21, .aload_n 0, 1, 0, 0, 0, 0),
  (22, .getfield 43, 3, 0, 10, 0, 0),
  (25, .iload_n 3, 1, 0, 0, 0, 0),
  (26, .iaload, 1, 0, 0, 0, 0),
  (27, .i2l, 1, 0, 0, 0, 0),
  (28, .invokestatic 95, 3, 18, 2, 0, 0),
  (31, .lstore_n 1, 1, 0, 0, 0, 0),
  (32, .iinc 3 1, 3, 0, 0, 1, 0),
  (35, .goto (-31), 3, 4, 0, 0, 0),
  (38, .lload_n 1, 1, 0, 0, 0, 0),
  (39, .lreturn, 1, 0, 0, 0, 0)]
set_option maxRecDepth 100000 in
set_option maxHeartbeats 4000000 in
theorem kk_15 : k_15.all (entOK (mCi 15) (mB 15)) = true := by decide +kernel
set_option maxRecDepth 100000 in
set_option maxHeartbeats 4000000 in
theorem fD_commonDistance {E : XE} {h : Mem} {Q : Int64 → Mem → Prop} {p : Nat} (hp : p = 1 ∨ p = 15 ∨ p = 29)
    (hF : WP E mD_commonDistance 4 [some (.ref p), some (.long 1), none, some (.int 0)] [] h (qL Q)) :
    CALLL E mD_commonDistance [.ref p] h Q := by
  rcases hp with rfl | rfl | rfl
  all_goals exact CALL_of rfl (wp_sound [(4, [1, 1, 0, 1])] kk_15 5 hF)
set_option maxRecDepth 100000 in
set_option maxHeartbeats 4000000 in
theorem fD_commonDistance_4 {E : XE} {h : Mem} {Q : Int64 → Mem → Prop} {p : Nat} {x1 : Int64} {x3 : Int32} (hp : p = 1 ∨ p = 15 ∨ p = 29)
    (hF : ((h p 0) ≤ x3 → Q x1 h) ∧ (¬ (h p 0) ≤ x3 → CALLI E mD_isOn [.ref p, .int x3] h fun v1 h1 => (v1 = 0 → WP E mD_commonDistance 4 [some (.ref p), some (.long x1), none, some (.int (x3 + 1))] [] h1 (qL Q)) ∧ (¬ v1 = 0 → cnd (inb x3 6) (CALLL E mNU_commonMultiple [.long x1, .long ((h1 (p + 9) (ix x3)).toInt64)] h1 fun v2 h2 => WP E mD_commonDistance 4 [some (.ref p), some (.long v2), none, some (.int (x3 + 1))] [] h2 (qL Q))))) :
    WP E mD_commonDistance 4 [some (.ref p), some (.long x1), none, some (.int x3)] [] h (qL Q) := by
  rcases hp with rfl | rfl | rfl
  all_goals exact wp_sound [(4, [1, 1, 0, 1])] kk_15 19 hF
def k_16_0 : List XI := [(0, .lconst 0, 1, 0, 0, 0, 0),
  (1, .lstore_n 3, 1, 0, 0, 0, 0),
  (2, .iconst 0, 1, 0, 0, 0, 0),
  (3, .istore 5, 2, 0, 0, 0, 0),
  (5, .iload 5, 2, 0, 0, 0, 0),
  (7, .aload_n 0, 1, 0, 0, 0, 0),
  (8, .getfield 9, 3, 0, 0, 0, 0),
  (11, .if_icmp .ge 49, 3, 60, 0, 0, 0),
  (14, .aload_n 0, 1, 0, 0, 0, 0),
  (15, .getfield 43, 3, 0, 10, 0, 0),
  (18, .iload 5, 2, 0, 0, 0, 0),
  (20, .iaload, 1, 0, 0, 0, 0),
  (21, .istore 6, 2, 0, 0, 0, 0),
  (23, .aload_n 0, 1, 0, 0, 0, 0),
  (24, .iload 5, 2, 0, 0, 0, 0),
  (26, .invokevirtual 76, 3, 5, 1, 0, 0),
  (29, .ifCond .eq 25, 3, 54, 0, 0, 0),
  (32, .iload 6, 2, 0, 0, 0, 0),
  (34, .ifCond .le 20, 3, 54, 0, 0, 0),
  (37, .lload_n 3, 1, 0, 0, 0, 0),
  (38, .lload_n 1, 1, 0, 0, 0, 0),
  (39, .iload 6, 2, 0, 0, 0, 0),
  (41, .i2l, 1, 0, 0, 0, 0),
  (42, .ldiv, 1, 0, 0, 0, 0),
  (43, .aload_n 0, 1, 0, 0, 0, 0),
  (44, .getfield 18, 3, 0, 2, 0, 0),
  (47, .iload 5, 2, 0, 0, 0, 0),
  (49, .iaload, 1, 0, 0, 0, 0),
  (50, .i2l, 1, 0, 0, 0, 0),
  (51, .lmul, 1, 0, 0, 0, 0)]
set_option maxRecDepth 100000 in
set_option maxHeartbeats 4000000 in
theorem kk_16_0 : k_16_0.all (entOK (mCi 16) (mB 16)) = true := by decide +kernel
def k_16_1 : List XI := [(52, .ladd, 1, 0, 0, 0, 0),
  (53, .lstore_n 3, 1, 0, 0, 0, 0),
  (54, .iinc 5 1, 3, 0, 0, 1, 0),
  (57, .goto (-52), 3, 5, 0, 0, 0),
  (60, .lload_n 3, 1, 0, 0, 0, 0),
  (61, .lreturn, 1, 0, 0, 0, 0)]
set_option maxRecDepth 100000 in
set_option maxHeartbeats 4000000 in
theorem kk_16_1 : k_16_1.all (entOK (mCi 16) (mB 16)) = true := by decide +kernel
def k_16 : List XI := k_16_0 ++ (k_16_1)
theorem kk_16 : k_16.all (entOK (mCi 16) (mB 16)) = true := all_app kk_16_0 (kk_16_1)
set_option maxRecDepth 100000 in
set_option maxHeartbeats 4000000 in
theorem fD_workWithin {E : XE} {h : Mem} {Q : Int64 → Mem → Prop} {p : Nat} {a1 : Int64} (hp : p = 1 ∨ p = 15 ∨ p = 29)
    (hF : WP E mD_workWithin 5 [some (.ref p), some (.long a1), none, some (.long 0), none, some (.int 0), none] [] h (qL Q)) :
    CALLL E mD_workWithin [.ref p, .long a1] h Q := by
  rcases hp with rfl | rfl | rfl
  all_goals exact CALL_of rfl (wp_sound [(5, [1, 1, 0, 1, 0, 1, 0])] kk_16 5 hF)
set_option maxRecDepth 100000 in
set_option maxHeartbeats 4000000 in
theorem fD_workWithin_5 {E : XE} {h : Mem} {Q : Int64 → Mem → Prop} {p : Nat} {x1 : Int64} {x3 : Int64} {x5 : Int32} (hp : p = 1 ∨ p = 15 ∨ p = 29)
    (hF : ((h p 0) ≤ x5 → Q x3 h) ∧ (¬ (h p 0) ≤ x5 → cnd (inb x5 6) (CALLI E mD_isOn [.ref p, .int x5] h fun v1 h1 => (v1 = 0 → WP E mD_workWithin 5 [some (.ref p), some (.long x1), none, some (.long x3), none, some (.int (x5 + 1)), none] [] h1 (qL Q)) ∧ (¬ v1 = 0 → ((h (p + 9) (ix x5)) ≤ 0 → WP E mD_workWithin 5 [some (.ref p), some (.long x1), none, some (.long x3), none, some (.int (x5 + 1)), none] [] h1 (qL Q)) ∧ (¬ (h (p + 9) (ix x5)) ≤ 0 → cnd (nzL ((h (p + 9) (ix x5)).toInt64)) (cnd (inb x5 6) (WP E mD_workWithin 5 [some (.ref p), some (.long x1), none, some (.long (x3 + ((x1 / ((h (p + 9) (ix x5)).toInt64)) * ((h1 (p + 1) (ix x5)).toInt64)))), none, some (.int (x5 + 1)), none] [] h1 (qL Q)))))))) :
    WP E mD_workWithin 5 [some (.ref p), some (.long x1), none, some (.long x3), none, some (.int x5), none] [] h (qL Q) := by
  rcases hp with rfl | rfl | rfl
  all_goals exact wp_sound [(5, [1, 1, 0, 1, 0, 1, 0])] kk_16 31 hF
def k_17 : List XI := [(0, .lload_n 0, 1, 0, 0, 0, 0),
  (1, .lstore 4, 2, 0, 0, 0, 0),
  (3, .lload_n 2, 1, 0, 0, 0, 0),
  (4, .lstore 6, 2, 0, 0, 0, 0),
  (6, .iconst 0, 1, 0, 0, 0, 0),
  (7, .istore 8, 2, 0, 0, 0, 0),
  (9, .iload 8, 2, 0, 0, 0, 0),
  (11, .sipush 200, 3, 0, 0, 200, 0),
  (14, .if_icmp .ge 31, 3, 45, 0, 0, 0),
  (17, .lload 6, 2, 0, 0, 0, 0),
  (19, .lconst 0, 1, 0, 0, 0, 0),
  (20, .lcmp, 1, 0, 0, 0, 0),
  (21, .ifCond .eq 24, 3, 45, 0, 0, 0),
  (24, .lload 4, 2, 0, 0, 0, 0),
  (26, .lload 6, 2, 0, 0, 0, 0),
  (28, .lrem, 1, 0, 0, 0, 0),
  (29, .lstore 9, 2, 0, 0, 0, 0),
  (31, .lload 6, 2, 0, 0, 0, 0),
  (33, .lstore 4, 2, 0, 0, 0, 0),
  (35, .lload 9, 2, 0, 0, 0, 0),
  (37, .lstore 6, 2, 0, 0, 0, 0),
  (39, .iinc 8 1, 3, 0, 0, 1, 0),
  (42, .goto (-33), 3, 9, 0, 0, 0),
  (45, .lload 4, 2, 0, 0, 0, 0),
  (47, .lreturn, 1, 0, 0, 0, 0)]
set_option maxRecDepth 100000 in
set_option maxHeartbeats 4000000 in
theorem kk_17 : k_17.all (entOK (mCi 17) (mB 17)) = true := by decide +kernel
set_option maxRecDepth 100000 in
set_option maxHeartbeats 4000000 in
theorem fNU_commonDivisor {E : XE} {h : Mem} {Q : Int64 → Mem → Prop} {a1 : Int64} {a2 : Int64} 
    (hF : WP E mNU_commonDivisor 9 [none, none, none, none, some (.long a1), none, some (.long a2), none, some (.int 0), none, none] [] h (qL Q)) :
    CALLL E mNU_commonDivisor [.long a1, .long a2] h Q := CALL_of rfl (wp_sound [(9, [0, 0, 0, 0, 1, 0, 1, 0, 1, 0, 0])] kk_17 7 hF)
set_option maxRecDepth 100000 in
set_option maxHeartbeats 4000000 in
theorem fNU_commonDivisor_9 {E : XE} {h : Mem} {Q : Int64 → Mem → Prop} {x4 : Int64} {x6 : Int64} {x8 : Int32} 
    (hF : (200 ≤ x8 → Q x4 h) ∧ (¬ 200 ≤ x8 → ((lg_cmp x6 0) = 0 → Q x4 h) ∧ (¬ (lg_cmp x6 0) = 0 → cnd (nzL x6) (WP E mNU_commonDivisor 9 [none, none, none, none, some (.long x6), none, some (.long (remL x4 x6)), none, some (.int (x8 + 1)), none, none] [] h (qL Q))))) :
    WP E mNU_commonDivisor 9 [none, none, none, none, some (.long x4), none, some (.long x6), none, some (.int x8), none, none] [] h (qL Q) := wp_sound [(9, [0, 0, 0, 0, 1, 0, 1, 0, 1, 0, 0])] kk_17 18 hF
def k_18 : List XI := [(0, .lload_n 0, 1, 0, 0, 0, 0),
  (1, .lload_n 2, 1, 0, 0, 0, 0),
  (2, .invokestatic 7, 3, 17, 2, 0, 0),
  (5, .lstore 4, 2, 0, 0, 0, 0),
  (7, .lload 4, 2, 0, 0, 0, 0),
  (9, .lconst 0, 1, 0, 0, 0, 0),
  (10, .lcmp, 1, 0, 0, 0, 0),
  (11, .ifCond .le 12, 3, 23, 0, 0, 0),
  (14, .lload_n 0, 1, 0, 0, 0, 0),
  (15, .lload 4, 2, 0, 0, 0, 0),
  (17, .ldiv, 1, 0, 0, 0, 0),
  (18, .lload_n 2, 1, 0, 0, 0, 0),
  (19, .lmul, 1, 0, 0, 0, 0),
  (20, .goto 4, 3, 24, 0, 0, 0),
  (23, .lconst 0, 1, 0, 0, 0, 0),
  (24, .lreturn, 1, 0, 0, 0, 0)]
set_option maxRecDepth 100000 in
set_option maxHeartbeats 4000000 in
theorem kk_18 : k_18.all (entOK (mCi 18) (mB 18)) = true := by decide +kernel
set_option maxRecDepth 100000 in
set_option maxHeartbeats 4000000 in
theorem fNU_commonMultiple {E : XE} {h : Mem} {Q : Int64 → Mem → Prop} {a1 : Int64} {a2 : Int64} 
    (hF : CALLL E mNU_commonDivisor [.long a1, .long a2] h fun v1 h1 => ((lg_cmp v1 0) ≤ 0 → Q 0 h1) ∧ (¬ (lg_cmp v1 0) ≤ 0 → cnd (nzL v1) (Q ((a1 / v1) * a2) h1))) :
    CALLL E mNU_commonMultiple [.long a1, .long a2] h Q := CALL_of rfl (wp_sound [] kk_18 16 hF)
def k_245_0 : List XI := [(0, .iload_n 0, 1, 0, 0, 0, 0),
  (1, .iload_n 0, 1, 0, 0, 0, 0),
  (2, .iconst 1, 1, 0, 0, 1, 0),
  (3, .iushr, 1, 0, 0, 0, 0),
  (4, .ldc_w 265, 3, 0, 0, 1431655765, 0),
  (7, .iand, 1, 0, 0, 0, 0),
  (8, .isub, 1, 0, 0, 0, 0),
  (9, .istore_n 0, 1, 0, 0, 0, 0),
  (10, .iload_n 0, 1, 0, 0, 0, 0),
  (11, .ldc_w 266, 3, 0, 0, 858993459, 0),
  (14, .iand, 1, 0, 0, 0, 0),
  (15, .iload_n 0, 1, 0, 0, 0, 0),
  (16, .iconst 2, 1, 0, 0, 2, 0),
  (17, .iushr, 1, 0, 0, 0, 0),
  (18, .ldc_w 266, 3, 0, 0, 858993459, 0),
  (21, .iand, 1, 0, 0, 0, 0),
  (22, .iadd, 1, 0, 0, 0, 0),
  (23, .istore_n 0, 1, 0, 0, 0, 0),
  (24, .iload_n 0, 1, 0, 0, 0, 0),
  (25, .iload_n 0, 1, 0, 0, 0, 0),
  (26, .iconst 4, 1, 0, 0, 4, 0),
  (27, .iushr, 1, 0, 0, 0, 0),
  (28, .iadd, 1, 0, 0, 0, 0),
  (29, .ldc_w 267, 3, 0, 0, 252645135, 0),
  (32, .iand, 1, 0, 0, 0, 0),
  (33, .istore_n 0, 1, 0, 0, 0, 0),
  (34, .iload_n 0, 1, 0, 0, 0, 0),
  (35, .iload_n 0, 1, 0, 0, 0, 0),
  (36, .bipush 8, 2, 0, 0, 8, 0),
  (38, .iushr, 1, 0, 0, 0, 0)]
set_option maxRecDepth 100000 in
set_option maxHeartbeats 4000000 in
theorem kk_245_0 : k_245_0.all (entOK (mCi 245) (mB 245)) = true := by decide +kernel
def k_245_1 : List XI := [(39, .iadd, 1, 0, 0, 0, 0),
  (40, .istore_n 0, 1, 0, 0, 0, 0),
  (41, .iload_n 0, 1, 0, 0, 0, 0),
  (42, .iload_n 0, 1, 0, 0, 0, 0),
  (43, .bipush 16, 2, 0, 0, 16, 0),
  (45, .iushr, 1, 0, 0, 0, 0),
  (46, .iadd, 1, 0, 0, 0, 0),
  (47, .istore_n 0, 1, 0, 0, 0, 0),
  (48, .iload_n 0, 1, 0, 0, 0, 0),
  (49, .bipush 63, 2, 0, 0, 63, 0),
  (51, .iand, 1, 0, 0, 0, 0),
  (52, .ireturn, 1, 0, 0, 0, 0)]
set_option maxRecDepth 100000 in
set_option maxHeartbeats 4000000 in
theorem kk_245_1 : k_245_1.all (entOK (mCi 245) (mB 245)) = true := by decide +kernel
def k_245 : List XI := k_245_0 ++ (k_245_1)
theorem kk_245 : k_245.all (entOK (mCi 245) (mB 245)) = true := all_app kk_245_0 (kk_245_1)
set_option maxRecDepth 100000 in
set_option maxHeartbeats 4000000 in
theorem fJ_bitCount {E : XE} {h : Mem} {Q : Int32 → Mem → Prop} {a1 : Int32} 
    (hF : Q ((((((((a1 - ((ushr a1 1) &&& 1431655765)) &&& 858993459) + ((ushr (a1 - ((ushr a1 1) &&& 1431655765)) 2) &&& 858993459)) + (ushr (((a1 - ((ushr a1 1) &&& 1431655765)) &&& 858993459) + ((ushr (a1 - ((ushr a1 1) &&& 1431655765)) 2) &&& 858993459)) 4)) &&& 252645135) + (ushr (((((a1 - ((ushr a1 1) &&& 1431655765)) &&& 858993459) + ((ushr (a1 - ((ushr a1 1) &&& 1431655765)) 2) &&& 858993459)) + (ushr (((a1 - ((ushr a1 1) &&& 1431655765)) &&& 858993459) + ((ushr (a1 - ((ushr a1 1) &&& 1431655765)) 2) &&& 858993459)) 4)) &&& 252645135) 8)) + (ushr ((((((a1 - ((ushr a1 1) &&& 1431655765)) &&& 858993459) + ((ushr (a1 - ((ushr a1 1) &&& 1431655765)) 2) &&& 858993459)) + (ushr (((a1 - ((ushr a1 1) &&& 1431655765)) &&& 858993459) + ((ushr (a1 - ((ushr a1 1) &&& 1431655765)) 2) &&& 858993459)) 4)) &&& 252645135) + (ushr (((((a1 - ((ushr a1 1) &&& 1431655765)) &&& 858993459) + ((ushr (a1 - ((ushr a1 1) &&& 1431655765)) 2) &&& 858993459)) + (ushr (((a1 - ((ushr a1 1) &&& 1431655765)) &&& 858993459) + ((ushr (a1 - ((ushr a1 1) &&& 1431655765)) 2) &&& 858993459)) 4)) &&& 252645135) 8)) 16)) &&& 63) h) :
    CALLI E mJ_bitCount [.int a1] h Q := CALL_of rfl (wp_sound [] kk_245 43 hF)
