def k_173_0 : List XI := [(0, .aload_n 0, 1, 0, 0, 0, 0),
  (1, .invokevirtual 146, 3, 157, 1, 0, 0),
  (4, .iload_n 1, 1, 0, 0, 0, 0),
  (5, .iconst (-1), 1, 0, 0, (-1), 0),
  (6, .ixor, 1, 0, 0, 0, 0),
  (7, .iand, 1, 0, 0, 0, 0),
  (8, .istore_n 3, 1, 0, 0, 0, 0),
  (9, .iload_n 3, 1, 0, 0, 0, 0),
  (10, .ifCond .ne 5, 3, 15, 0, 0, 0),
  (13, .iconst 1, 1, 0, 0, 1, 0),
  (14, .ireturn, 1, 0, 0, 0, 0),
  (15, .iconst 0, 1, 0, 0, 0, 0),
  (16, .istore 4, 2, 0, 0, 0, 0),
  (18, .iload 4, 2, 0, 0, 0, 0),
  (20, .aload_n 0, 1, 0, 0, 0, 0),
  (21, .getfield 9, 3, 7, 0, 0, 0),
  (24, .bipush 72, 2, 0, 0, 72, 0),
  (26, .iaload, 1, 0, 0, 0, 0),
  (27, .if_icmp .ge 64, 3, 91, 0, 0, 0),
  (30, .iload_n 3, 1, 0, 0, 0, 0),
  (31, .iload 4, 2, 0, 0, 0, 0),
  (33, .invokestatic 135, 3, 142, 1, 0, 0),
  (36, .ifCond .eq 49, 3, 85, 0, 0, 0),
  (39, .aload_n 0, 1, 0, 0, 0, 0),
  (40, .iload 4, 2, 0, 0, 0, 0),
  (42, .iload_n 3, 1, 0, 0, 0, 0),
  (43, .iconst 1, 1, 0, 0, 1, 0),
  (44, .iload 4, 2, 0, 0, 0, 0),
  (46, .ishl, 1, 0, 0, 0, 0),
  (47, .iconst (-1), 1, 0, 0, (-1), 0)]
set_option maxRecDepth 100000 in
set_option maxHeartbeats 4000000 in
theorem kk_173_0 : k_173_0.all (entOK (mCi 173) (mB 173)) = true := by decide +kernel
def k_173_1 : List XI := [(48, .ixor, 1, 0, 0, 0, 0),
  (49, .iand, 1, 0, 0, 0, 0),
  (50, .iload_n 1, 1, 0, 0, 0, 0),
  (51, .invokevirtual 158, 3, 164, 1, 0, 0),
  (54, .ifCond .eq 31, 3, 85, 0, 0, 0),
  (57, .aload_n 0, 1, 0, 0, 0, 0),
  (58, .getfield 34, 3, 7, 16, 0, 0),
  (61, .iload_n 2, 1, 0, 0, 0, 0),
  (62, .iconst 1, 1, 0, 0, 1, 0),
  (63, .isub, 1, 0, 0, 0, 0),
  (64, .iload 4, 2, 0, 0, 0, 0),
  (66, .iastore, 1, 0, 0, 0, 0),
  (67, .aload_n 0, 1, 0, 0, 0, 0),
  (68, .iload_n 1, 1, 0, 0, 0, 0),
  (69, .iconst 1, 1, 0, 0, 1, 0),
  (70, .iload 4, 2, 0, 0, 0, 0),
  (72, .ishl, 1, 0, 0, 0, 0),
  (73, .ior, 1, 0, 0, 0, 0),
  (74, .iload_n 2, 1, 0, 0, 0, 0),
  (75, .iconst 1, 1, 0, 0, 1, 0),
  (76, .isub, 1, 0, 0, 0, 0),
  (77, .invokevirtual 164, 3, 172, 1, 0, 0),
  (80, .ifCond .eq 5, 3, 85, 0, 0, 0),
  (83, .iconst 1, 1, 0, 0, 1, 0),
  (84, .ireturn, 1, 0, 0, 0, 0),
  (85, .iinc 4 1, 3, 0, 0, 1, 0),
  (88, .goto (-70), 3, 18, 0, 0, 0),
  (91, .iconst 0, 1, 0, 0, 0, 0),
  (92, .ireturn, 1, 0, 0, 0, 0)]
set_option maxRecDepth 100000 in
set_option maxHeartbeats 4000000 in
theorem kk_173_1 : k_173_1.all (entOK (mCi 173) (mB 173)) = true := by decide +kernel
def k_173 : List XI := k_173_0 ++ (k_173_1)
theorem kk_173 : k_173.all (entOK (mCi 173) (mB 173)) = true := all_app kk_173_0 (kk_173_1)
set_option maxRecDepth 100000 in
set_option maxHeartbeats 4000000 in
theorem fM_seeks6 {E : XE} {h : Mem} {Q : Int32 → Mem → Prop} {a1 : Int32} {a2 : Int32} 
    (hF : CALLI E mM_onSet [.ref 60] h fun v1 h1 => (¬ (v1 &&& (a1 ^^^ (-1))) = 0 → WP E mM_seeks6 18 [some (.ref 60), some (.int a1), some (.int a2), some (.int (v1 &&& (a1 ^^^ (-1)))), some (.int 0)] [] h1 (qI Q)) ∧ ((v1 &&& (a1 ^^^ (-1))) = 0 → Q 1 h1)) :
    CALLI E mM_seeks6 [.ref 60, .int a1, .int a2] h Q := CALL_of rfl (wp_sound [(18, [1, 1, 1, 1, 1])] kk_173 12 hF)
set_option maxRecDepth 100000 in
set_option maxHeartbeats 4000000 in
theorem fM_seeks6_18 {E : XE} {h : Mem} {Q : Int32 → Mem → Prop} {x1 : Int32} {x2 : Int32} {x3 : Int32} {x4 : Int32} 
    (hF : ((h 61 (ix 72)) ≤ x4 → Q 0 h) ∧ (¬ (h 61 (ix 72)) ≤ x4 → CALLI E mM_has [.int x3, .int x4] h fun v1 h1 => (v1 = 0 → WP E mM_seeks6 18 [some (.ref 60), some (.int x1), some (.int x2), some (.int x3), some (.int (x4 + 1))] [] h1 (qI Q)) ∧ (¬ v1 = 0 → CALLI E mM_fitsBy [.ref 60, .int x4, .int (x3 &&& ((shl 1 x4) ^^^ (-1))), .int x1] h1 fun v2 h2 => (v2 = 0 → WP E mM_seeks6 18 [some (.ref 60), some (.int x1), some (.int x2), some (.int x3), some (.int (x4 + 1))] [] h2 (qI Q)) ∧ (¬ v2 = 0 → cnd (inb (x2 - 1) 6) (CALLI E mM_seeks5 [.ref 60, .int (x1 ||| (shl 1 x4)), .int (x2 - 1)] (upd2 h2 69 (ix (x2 - 1)) x4) fun v3 h3 => (v3 = 0 → WP E mM_seeks6 18 [some (.ref 60), some (.int x1), some (.int x2), some (.int x3), some (.int (x4 + 1))] [] h3 (qI Q)) ∧ (¬ v3 = 0 → Q 1 h3)))))) :
    WP E mM_seeks6 18 [some (.ref 60), some (.int x1), some (.int x2), some (.int x3), some (.int x4)] [] h (qI Q) := wp_sound [(18, [1, 1, 1, 1, 1])] kk_173 43 hF
def k_174 : List XI := [(0, .iconst 0, 1, 0, 0, 0, 0),
  (1, .istore_n 1, 1, 0, 0, 0, 0),
  (2, .iconst 0, 1, 0, 0, 0, 0),
  (3, .istore_n 2, 1, 0, 0, 0, 0),
  (4, .iload_n 2, 1, 0, 0, 0, 0),
  (5, .bipush 6, 2, 0, 0, 6, 0),
  (7, .if_icmp .ge 17, 3, 24, 0, 0, 0),
  (10, .iload_n 1, 1, 0, 0, 0, 0),
  (11, .iload_n 0, 1, 0, 0, 0, 0),
  (12, .iload_n 2, 1, 0, 0, 0, 0),
  (13, .ishr, 1, 0, 0, 0, 0),
  (14, .iconst 1, 1, 0, 0, 1, 0),
  (15, .iand, 1, 0, 0, 0, 0),
  (16, .iadd, 1, 0, 0, 0, 0),
  (17, .istore_n 1, 1, 0, 0, 0, 0),
  (18, .iinc 2 1, 3, 0, 0, 1, 0),
  (21, .goto (-17), 3, 4, 0, 0, 0),
  (24, .iload_n 1, 1, 0, 0, 0, 0),
  (25, .ireturn, 1, 0, 0, 0, 0)]
set_option maxRecDepth 100000 in
set_option maxHeartbeats 4000000 in
theorem kk_174 : k_174.all (entOK (mCi 174) (mB 174)) = true := by decide +kernel
set_option maxRecDepth 100000 in
set_option maxHeartbeats 4000000 in
theorem fM_ones {E : XE} {h : Mem} {Q : Int32 → Mem → Prop} {a1 : Int32} 
    (hF : WP E mM_ones 4 [some (.int a1), some (.int 0), some (.int 0)] [] h (qI Q)) :
    CALLI E mM_ones [.int a1] h Q := CALL_of rfl (wp_sound [(4, [1, 1, 1])] kk_174 5 hF)
set_option maxRecDepth 100000 in
set_option maxHeartbeats 4000000 in
theorem fM_ones_4 {E : XE} {h : Mem} {Q : Int32 → Mem → Prop} {x0 : Int32} {x1 : Int32} {x2 : Int32} 
    (hF : (6 ≤ x2 → Q x1 h) ∧ (¬ 6 ≤ x2 → WP E mM_ones 4 [some (.int x0), some (.int (x1 + ((sshr x0 x2) &&& 1))), some (.int (x2 + 1))] [] h (qI Q))) :
    WP E mM_ones 4 [some (.int x0), some (.int x1), some (.int x2)] [] h (qI Q) := wp_sound [(4, [1, 1, 1])] kk_174 14 hF
def k_175 : List XI := [(0, .iload_n 1, 1, 0, 0, 0, 0),
  (1, .aload_n 0, 1, 0, 0, 0, 0),
  (2, .getfield 167, 3, 7, 8, 0, 0),
  (5, .if_icmp .ge 12, 3, 17, 0, 0, 0),
  (8, .aload_n 0, 1, 0, 0, 0, 0),
  (9, .getfield 25, 3, 7, 7, 0, 0),
  (12, .iload_n 1, 1, 0, 0, 0, 0),
  (13, .iaload, 1, 0, 0, 0, 0),
  (14, .goto 4, 3, 18, 0, 0, 0),
  (17, .iconst (-1), 1, 0, 0, (-1), 0),
  (18, .ireturn, 1, 0, 0, 0, 0)]
set_option maxRecDepth 100000 in
set_option maxHeartbeats 4000000 in
theorem kk_175 : k_175.all (entOK (mCi 175) (mB 175)) = true := by decide +kernel
set_option maxRecDepth 100000 in
set_option maxHeartbeats 4000000 in
theorem fM_letterAt {E : XE} {h : Mem} {Q : Int32 → Mem → Prop} {a1 : Int32} 
    (hF : ((h 60 8) ≤ a1 → Q (-1) h) ∧ (¬ (h 60 8) ≤ a1 → cnd (inb a1 96) (Q (h 66 (ix a1)) h))) :
    CALLI E mM_letterAt [.ref 60, .int a1] h Q := CALL_of rfl (wp_sound [] kk_175 11 hF)
def k_176 : List XI := [(0, .aload_n 0, 1, 0, 0, 0, 0),
  (1, .aload_n 0, 1, 0, 0, 0, 0),
  (2, .getfield 170, 3, 7, 18, 0, 0),
  (5, .ifCond .eq 11, 3, 16, 0, 0, 0),
  (8, .iload_n 1, 1, 0, 0, 0, 0),
  (9, .ifCond .eq 7, 3, 16, 0, 0, 0),
  (12, .iconst 1, 1, 0, 0, 1, 0),
  (13, .goto 4, 3, 17, 0, 0, 0),
  (16, .iconst 0, 1, 0, 0, 0, 0),
  (17, .putfield 170, 3, 7, 18, 1, 0),
  (20, .aload_n 0, 1, 0, 0, 0, 0),
  (21, .dup, 1, 0, 0, 0, 0),
  (22, .getfield 174, 3, 7, 17, 0, 0),
  (25, .aload_n 0, 1, 0, 0, 0, 0),
  (26, .getfield 170, 3, 7, 18, 0, 0),
  (29, .ifCond .eq 7, 3, 36, 0, 0, 0),
  (32, .iconst 1, 1, 0, 0, 1, 0),
  (33, .goto 4, 3, 37, 0, 0, 0),
  (36, .iconst 0, 1, 0, 0, 0, 0),
  (37, .iadd, 1, 0, 0, 0, 0),
  (38, .putfield 174, 3, 7, 17, 0, 0),
  (41, .return_, 1, 0, 0, 0, 0)]
set_option maxRecDepth 100000 in
set_option maxHeartbeats 4000000 in
theorem kk_176 : k_176.all (entOK (mCi 176) (mB 176)) = true := by decide +kernel
set_option maxRecDepth 100000 in
set_option maxHeartbeats 4000000 in
theorem fM_takes {E : XE} {h : Mem} {Q : Mem → Prop} {a1 : Int32} 
    (hF : ((h 60 18) = 0 → (((upd2 h 60 18 0) 60 18) = 0 → Q (upd2 (upd2 h 60 18 0) 60 17 (((upd2 h 60 18 0) 60 17) + 0))) ∧ (¬ ((upd2 h 60 18 0) 60 18) = 0 → Q (upd2 (upd2 h 60 18 0) 60 17 (((upd2 h 60 18 0) 60 17) + 1)))) ∧ (¬ (h 60 18) = 0 → (a1 = 0 → (((upd2 h 60 18 0) 60 18) = 0 → Q (upd2 (upd2 h 60 18 0) 60 17 (((upd2 h 60 18 0) 60 17) + 0))) ∧ (¬ ((upd2 h 60 18 0) 60 18) = 0 → Q (upd2 (upd2 h 60 18 0) 60 17 (((upd2 h 60 18 0) 60 17) + 1)))) ∧ (¬ a1 = 0 → (((upd2 h 60 18 1) 60 18) = 0 → Q (upd2 (upd2 h 60 18 1) 60 17 (((upd2 h 60 18 1) 60 17) + 0))) ∧ (¬ ((upd2 h 60 18 1) 60 18) = 0 → Q (upd2 (upd2 h 60 18 1) 60 17 (((upd2 h 60 18 1) 60 17) + 1)))))) :
    CALLV E mM_takes [.ref 60, .int a1] h Q := CALL_of rfl (wp_sound [] kk_176 21 hF)
def k_177_0 : List XI := [(0, .aload_n 0, 1, 0, 0, 0, 0),
  (1, .getfield 174, 3, 7, 17, 0, 0),
  (4, .istore_n 1, 1, 0, 0, 0, 0),
  (5, .iconst 0, 1, 0, 0, 0, 0),
  (6, .istore_n 2, 1, 0, 0, 0, 0),
  (7, .aload_n 0, 1, 0, 0, 0, 0),
  (8, .aload_n 0, 1, 0, 0, 0, 0),
  (9, .aload_n 0, 1, 0, 0, 0, 0),
  (10, .getfield 174, 3, 7, 17, 0, 0),
  (13, .invokevirtual 177, 3, 175, 1, 0, 0),
  (16, .i2l, 1, 0, 0, 0, 0),
  (17, .ldc2_w 180, 3, 0, 0, 0, 48),
  (20, .ldc2_w 182, 3, 0, 0, 0, 57),
  (23, .invokestatic 62, 3, 135, 1, 0, 0),
  (26, .invokevirtual 184, 3, 176, 0, 0, 0),
  (29, .aload_n 0, 1, 0, 0, 0, 0),
  (30, .getfield 170, 3, 7, 18, 0, 0),
  (33, .ifCond .eq 34, 3, 67, 0, 0, 0),
  (36, .aload_n 0, 1, 0, 0, 0, 0),
  (37, .aload_n 0, 1, 0, 0, 0, 0),
  (38, .getfield 174, 3, 7, 17, 0, 0),
  (41, .invokevirtual 177, 3, 175, 1, 0, 0),
  (44, .i2l, 1, 0, 0, 0, 0),
  (45, .ldc2_w 180, 3, 0, 0, 0, 48),
  (48, .ldc2_w 182, 3, 0, 0, 0, 57),
  (51, .invokestatic 62, 3, 135, 1, 0, 0),
  (54, .ifCond .eq 13, 3, 67, 0, 0, 0),
  (57, .aload_n 0, 1, 0, 0, 0, 0),
  (58, .dup, 1, 0, 0, 0, 0),
  (59, .getfield 174, 3, 7, 17, 0, 0)]
set_option maxRecDepth 100000 in
set_option maxHeartbeats 4000000 in
theorem kk_177_0 : k_177_0.all (entOK (mCi 177) (mB 177)) = true := by decide +kernel
def k_177_1 : List XI := [(62, .iconst 1, 1, 0, 0, 1, 0),
  (63, .iadd, 1, 0, 0, 0, 0),
  (64, .putfield 174, 3, 7, 17, 0, 0),
  (67, .iload_n 1, 1, 0, 0, 0, 0),
  (68, .istore_n 3, 1, 0, 0, 0, 0),
  (69, .iload_n 3, 1, 0, 0, 0, 0),
  (70, .aload_n 0, 1, 0, 0, 0, 0),
  (71, .getfield 174, 3, 7, 17, 0, 0),
  (74, .if_icmp .ge 24, 3, 98, 0, 0, 0),
  (77, .bipush 10, 2, 0, 0, 10, 0),
  (79, .iload_n 2, 1, 0, 0, 0, 0),
  (80, .imul, 1, 0, 0, 0, 0),
  (81, .aload_n 0, 1, 0, 0, 0, 0),
  (82, .getfield 25, 3, 7, 7, 0, 0),
  (85, .iload_n 3, 1, 0, 0, 0, 0),
  (86, .iaload, 1, 0, 0, 0, 0),
  (87, .iadd, 1, 0, 0, 0, 0),
  (88, .bipush 48, 2, 0, 0, 48, 0),
  (90, .isub, 1, 0, 0, 0, 0),
  (91, .istore_n 2, 1, 0, 0, 0, 0),
  (92, .iinc 3 1, 3, 0, 0, 1, 0),
  (95, .goto (-26), 3, 69, 0, 0, 0),
  (98, .aload_n 0, 1, 0, 0, 0, 0),
  (99, .getfield 37, 3, 7, 19, 0, 0),
  (102, .aload_n 0, 1, 0, 0, 0, 0),
  (103, .getfield 188, 3, 7, 20, 0, 0),
  (106, .iload_n 2, 1, 0, 0, 0, 0),
  (107, .iastore, 1, 0, 0, 0, 0),
  (108, .aload_n 0, 1, 0, 0, 0, 0),
  (109, .dup, 1, 0, 0, 0, 0)]
set_option maxRecDepth 100000 in
set_option maxHeartbeats 4000000 in
theorem kk_177_1 : k_177_1.all (entOK (mCi 177) (mB 177)) = true := by decide +kernel
def k_177_2 : List XI := [(110, .getfield 188, 3, 7, 20, 0, 0),
  (113, .iconst 1, 1, 0, 0, 1, 0),
  (114, .iadd, 1, 0, 0, 0, 0),
  (115, .putfield 188, 3, 7, 20, 0, 0),
  (118, .return_, 1, 0, 0, 0, 0)]
set_option maxRecDepth 100000 in
set_option maxHeartbeats 4000000 in
theorem kk_177_2 : k_177_2.all (entOK (mCi 177) (mB 177)) = true := by decide +kernel
def k_177 : List XI := k_177_0 ++ (k_177_1 ++ (k_177_2))
theorem kk_177 : k_177.all (entOK (mCi 177) (mB 177)) = true := all_app kk_177_0 (all_app kk_177_1 (kk_177_2))
set_option maxRecDepth 100000 in
set_option maxHeartbeats 4000000 in
theorem fM_takesNumber {E : XE} {h : Mem} {Q : Mem → Prop}  
    (hF : CALLI E mM_letterAt [.ref 60, .int (h 60 17)] h fun v1 h1 => CALLI E mM_in [.long v1.toInt64, .long 48, .long 57] h1 fun v2 h2 => CALLV E mM_takes [.ref 60, .int v2] h2 fun h3 => ((h3 60 18) = 0 → WP E mM_takesNumber 69 [some (.ref 60), none, some (.int 0), some (.int (h 60 17))] [] h3 (qV Q)) ∧ (¬ (h3 60 18) = 0 → CALLI E mM_letterAt [.ref 60, .int (h3 60 17)] h3 fun v4 h4 => CALLI E mM_in [.long v4.toInt64, .long 48, .long 57] h4 fun v5 h5 => (v5 = 0 → WP E mM_takesNumber 69 [some (.ref 60), none, some (.int 0), some (.int (h 60 17))] [] h5 (qV Q)) ∧ (¬ v5 = 0 → WP E mM_takesNumber 69 [some (.ref 60), none, some (.int 0), some (.int (h 60 17))] [] (upd2 h5 60 17 ((h5 60 17) + 1)) (qV Q)))) :
    CALLV E mM_takesNumber [.ref 60] h Q := CALL_of rfl (wp_sound [(69, [1, 0, 1, 1])] kk_177 36 hF)
set_option maxRecDepth 100000 in
set_option maxHeartbeats 4000000 in
theorem fM_takesNumber_69 {E : XE} {h : Mem} {Q : Mem → Prop} {x2 : Int32} {x3 : Int32} 
    (hF : ((h 60 17) ≤ x3 → cnd (inb (h 60 20) 3) (Q (upd2 (upd2 h 70 (ix (h 60 20)) x2) 60 20 (((upd2 h 70 (ix (h 60 20)) x2) 60 20) + 1)))) ∧ (¬ (h 60 17) ≤ x3 → cnd (inb x3 96) (WP E mM_takesNumber 69 [some (.ref 60), none, some (.int (((10 * x2) + (h 66 (ix x3))) - 48)), some (.int (x3 + 1))] [] h (qV Q)))) :
    WP E mM_takesNumber 69 [some (.ref 60), none, some (.int x2), some (.int x3)] [] h (qV Q) := wp_sound [(69, [1, 0, 1, 1])] kk_177 18 hF
def k_178 : List XI := [(0, .aload_n 0, 1, 0, 0, 0, 0),
  (1, .aload_n 0, 1, 0, 0, 0, 0),
  (2, .aload_n 0, 1, 0, 0, 0, 0),
  (3, .getfield 174, 3, 7, 17, 0, 0),
  (6, .invokevirtual 177, 3, 175, 1, 0, 0),
  (9, .iload_n 1, 1, 0, 0, 0, 0),
  (10, .if_icmp .ne 7, 3, 17, 0, 0, 0),
  (13, .iconst 1, 1, 0, 0, 1, 0),
  (14, .goto 4, 3, 18, 0, 0, 0),
  (17, .iconst 0, 1, 0, 0, 0, 0),
  (18, .invokevirtual 184, 3, 176, 0, 0, 0),
  (21, .aload_n 0, 1, 0, 0, 0, 0),
  (22, .invokevirtual 191, 3, 177, 0, 0, 0),
  (25, .return_, 1, 0, 0, 0, 0)]
set_option maxRecDepth 100000 in
set_option maxHeartbeats 4000000 in
theorem kk_178 : k_178.all (entOK (mCi 178) (mB 178)) = true := by decide +kernel
set_option maxRecDepth 100000 in
set_option maxHeartbeats 4000000 in
theorem fM_takesSignAndNumber {E : XE} {h : Mem} {Q : Mem → Prop} {a1 : Int32} 
    (hF : CALLI E mM_letterAt [.ref 60, .int (h 60 17)] h fun v1 h1 => (¬ v1 = a1 → CALLV E mM_takes [.ref 60, .int 0] h1 fun h2 => CALLV E mM_takesNumber [.ref 60] h2 fun h3 => Q h3) ∧ (v1 = a1 → CALLV E mM_takes [.ref 60, .int 1] h1 fun h4 => CALLV E mM_takesNumber [.ref 60] h4 fun h5 => Q h5)) :
    CALLV E mM_takesSignAndNumber [.ref 60, .int a1] h Q := CALL_of rfl (wp_sound [] kk_178 14 hF)
def k_179 : List XI := [(0, .iload_n 0, 1, 0, 0, 0, 0),
  (1, .bipush 116, 2, 0, 0, 116, 0),
  (3, .if_icmp .eq 33, 3, 36, 0, 0, 0),
  (6, .iload_n 0, 1, 0, 0, 0, 0),
  (7, .bipush 111, 2, 0, 0, 111, 0),
  (9, .if_icmp .eq 27, 3, 36, 0, 0, 0),
  (12, .iload_n 0, 1, 0, 0, 0, 0),
  (13, .bipush 114, 2, 0, 0, 114, 0),
  (15, .if_icmp .eq 21, 3, 36, 0, 0, 0),
  (18, .iload_n 0, 1, 0, 0, 0, 0),
  (19, .bipush 107, 2, 0, 0, 107, 0),
  (21, .if_icmp .eq 15, 3, 36, 0, 0, 0),
  (24, .iload_n 0, 1, 0, 0, 0, 0),
  (25, .bipush 104, 2, 0, 0, 104, 0),
  (27, .if_icmp .eq 9, 3, 36, 0, 0, 0),
  (30, .iload_n 0, 1, 0, 0, 0, 0),
  (31, .bipush 120, 2, 0, 0, 120, 0),
  (33, .if_icmp .ne 7, 3, 40, 0, 0, 0),
  (36, .iconst 1, 1, 0, 0, 1, 0),
  (37, .goto 4, 3, 41, 0, 0, 0),
  (40, .iconst 0, 1, 0, 0, 0, 0),
  (41, .ireturn, 1, 0, 0, 0, 0)]
set_option maxRecDepth 100000 in
set_option maxHeartbeats 4000000 in
theorem kk_179 : k_179.all (entOK (mCi 179) (mB 179)) = true := by decide +kernel
set_option maxRecDepth 100000 in
set_option maxHeartbeats 4000000 in
theorem fM_isHead {E : XE} {h : Mem} {Q : Int32 → Mem → Prop} {a1 : Int32} 
    (hF : (a1 = 116 → Q 1 h) ∧ (¬ a1 = 116 → (a1 = 111 → Q 1 h) ∧ (¬ a1 = 111 → (a1 = 114 → Q 1 h) ∧ (¬ a1 = 114 → (a1 = 107 → Q 1 h) ∧ (¬ a1 = 107 → (a1 = 104 → Q 1 h) ∧ (¬ a1 = 104 → (¬ a1 = 120 → Q 0 h) ∧ (a1 = 120 → Q 1 h))))))) :
    CALLI E mM_isHead [.int a1] h Q := CALL_of rfl (wp_sound [] kk_179 22 hF)
def k_180_0 : List XI := [(0, .aload_n 0, 1, 0, 0, 0, 0),
  (1, .aload_n 0, 1, 0, 0, 0, 0),
  (2, .getfield 174, 3, 7, 17, 0, 0),
  (5, .invokevirtual 177, 3, 175, 1, 0, 0),
  (8, .istore_n 1, 1, 0, 0, 0, 0),
  (9, .aload_n 0, 1, 0, 0, 0, 0),
  (10, .iconst 0, 1, 0, 0, 0, 0),
  (11, .putfield 188, 3, 7, 20, 0, 0),
  (14, .aload_n 0, 1, 0, 0, 0, 0),
  (15, .iload_n 1, 1, 0, 0, 0, 0),
  (16, .invokestatic 194, 3, 179, 1, 0, 0),
  (19, .invokevirtual 184, 3, 176, 0, 0, 0),
  (22, .aload_n 0, 1, 0, 0, 0, 0),
  (23, .invokevirtual 191, 3, 177, 0, 0, 0),
  (26, .iload_n 1, 1, 0, 0, 0, 0),
  (27, .bipush 116, 2, 0, 0, 116, 0),
  (29, .if_icmp .eq 9, 3, 38, 0, 0, 0),
  (32, .iload_n 1, 1, 0, 0, 0, 0),
  (33, .bipush 104, 2, 0, 0, 104, 0),
  (35, .if_icmp .ne 9, 3, 44, 0, 0, 0),
  (38, .aload_n 0, 1, 0, 0, 0, 0),
  (39, .bipush 44, 2, 0, 0, 44, 0),
  (41, .invokevirtual 197, 3, 178, 0, 0, 0),
  (44, .iload_n 1, 1, 0, 0, 0, 0),
  (45, .bipush 111, 2, 0, 0, 111, 0),
  (47, .if_icmp .eq 21, 3, 68, 0, 0, 0),
  (50, .iload_n 1, 1, 0, 0, 0, 0),
  (51, .bipush 114, 2, 0, 0, 114, 0),
  (53, .if_icmp .eq 15, 3, 68, 0, 0, 0),
  (56, .iload_n 1, 1, 0, 0, 0, 0)]
set_option maxRecDepth 100000 in
set_option maxHeartbeats 4000000 in
theorem kk_180_0 : k_180_0.all (entOK (mCi 180) (mB 180)) = true := by decide +kernel
def k_180_1 : List XI := [(57, .bipush 107, 2, 0, 0, 107, 0),
  (59, .if_icmp .eq 9, 3, 68, 0, 0, 0),
  (62, .iload_n 1, 1, 0, 0, 0, 0),
  (63, .bipush 104, 2, 0, 0, 104, 0),
  (65, .if_icmp .ne 9, 3, 74, 0, 0, 0),
  (68, .aload_n 0, 1, 0, 0, 0, 0),
  (69, .bipush 61, 2, 0, 0, 61, 0),
  (71, .invokevirtual 197, 3, 178, 0, 0, 0),
  (74, .iload_n 1, 1, 0, 0, 0, 0),
  (75, .bipush 116, 2, 0, 0, 116, 0),
  (77, .if_icmp .eq 9, 3, 86, 0, 0, 0),
  (80, .iload_n 1, 1, 0, 0, 0, 0),
  (81, .bipush 107, 2, 0, 0, 107, 0),
  (83, .if_icmp .ne 9, 3, 92, 0, 0, 0),
  (86, .aload_n 0, 1, 0, 0, 0, 0),
  (87, .bipush 44, 2, 0, 0, 44, 0),
  (89, .invokevirtual 197, 3, 178, 0, 0, 0),
  (92, .aload_n 0, 1, 0, 0, 0, 0),
  (93, .aload_n 0, 1, 0, 0, 0, 0),
  (94, .aload_n 0, 1, 0, 0, 0, 0),
  (95, .getfield 174, 3, 7, 17, 0, 0),
  (98, .invokevirtual 177, 3, 175, 1, 0, 0),
  (101, .bipush 59, 2, 0, 0, 59, 0),
  (103, .if_icmp .ne 7, 3, 110, 0, 0, 0),
  (106, .iconst 1, 1, 0, 0, 1, 0),
  (107, .goto 4, 3, 111, 0, 0, 0),
  (110, .iconst 0, 1, 0, 0, 0, 0),
  (111, .invokevirtual 184, 3, 176, 0, 0, 0),
  (114, .return_, 1, 0, 0, 0, 0)]
set_option maxRecDepth 100000 in
set_option maxHeartbeats 4000000 in
theorem kk_180_1 : k_180_1.all (entOK (mCi 180) (mB 180)) = true := by decide +kernel
def k_180 : List XI := k_180_0 ++ (k_180_1)
theorem kk_180 : k_180.all (entOK (mCi 180) (mB 180)) = true := all_app kk_180_0 (kk_180_1)
set_option maxRecDepth 100000 in
set_option maxHeartbeats 4000000 in
theorem fM_goesThrough {E : XE} {h : Mem} {Q : Mem → Prop}  
    (hF : CALLI E mM_letterAt [.ref 60, .int (h 60 17)] h fun v1 h1 => CALLI E mM_isHead [.int v1] (upd2 h1 60 20 0) fun v2 h2 => CALLV E mM_takes [.ref 60, .int v2] h2 fun h3 => CALLV E mM_takesNumber [.ref 60] h3 fun h4 => (v1 = 116 → CALLV E mM_takesSignAndNumber [.ref 60, .int 44] h4 fun h5 => WP E mM_goesThrough 44 [some (.ref 60), some (.int v1)] [] h5 (qV Q)) ∧ (¬ v1 = 116 → (¬ v1 = 104 → WP E mM_goesThrough 44 [some (.ref 60), some (.int v1)] [] h4 (qV Q)) ∧ (v1 = 104 → CALLV E mM_takesSignAndNumber [.ref 60, .int 44] h4 fun h6 => WP E mM_goesThrough 44 [some (.ref 60), some (.int v1)] [] h6 (qV Q)))) :
    CALLV E mM_goesThrough [.ref 60] h Q := CALL_of rfl (wp_sound [(44, [1, 1]), (74, [1, 1])] kk_180 24 hF)
set_option maxRecDepth 100000 in
set_option maxHeartbeats 4000000 in
theorem fM_goesThrough_44 {E : XE} {h : Mem} {Q : Mem → Prop} {x1 : Int32} 
    (hF : (x1 = 111 → CALLV E mM_takesSignAndNumber [.ref 60, .int 61] h fun h1 => WP E mM_goesThrough 74 [some (.ref 60), some (.int x1)] [] h1 (qV Q)) ∧ (¬ x1 = 111 → (x1 = 114 → CALLV E mM_takesSignAndNumber [.ref 60, .int 61] h fun h2 => WP E mM_goesThrough 74 [some (.ref 60), some (.int x1)] [] h2 (qV Q)) ∧ (¬ x1 = 114 → (x1 = 107 → CALLV E mM_takesSignAndNumber [.ref 60, .int 61] h fun h3 => WP E mM_goesThrough 74 [some (.ref 60), some (.int x1)] [] h3 (qV Q)) ∧ (¬ x1 = 107 → (¬ x1 = 104 → WP E mM_goesThrough 74 [some (.ref 60), some (.int x1)] [] h (qV Q)) ∧ (x1 = 104 → CALLV E mM_takesSignAndNumber [.ref 60, .int 61] h fun h4 => WP E mM_goesThrough 74 [some (.ref 60), some (.int x1)] [] h4 (qV Q)))))) :
    WP E mM_goesThrough 44 [some (.ref 60), some (.int x1)] [] h (qV Q) := wp_sound [(44, [1, 1]), (74, [1, 1])] kk_180 16 hF
set_option maxRecDepth 100000 in
set_option maxHeartbeats 4000000 in
theorem fM_goesThrough_74 {E : XE} {h : Mem} {Q : Mem → Prop} {x1 : Int32} 
    (hF : (x1 = 116 → CALLV E mM_takesSignAndNumber [.ref 60, .int 44] h fun h1 => CALLI E mM_letterAt [.ref 60, .int (h1 60 17)] h1 fun v2 h2 => (¬ v2 = 59 → CALLV E mM_takes [.ref 60, .int 0] h2 fun h3 => Q h3) ∧ (v2 = 59 → CALLV E mM_takes [.ref 60, .int 1] h2 fun h4 => Q h4)) ∧ (¬ x1 = 116 → (¬ x1 = 107 → CALLI E mM_letterAt [.ref 60, .int (h 60 17)] h fun v5 h5 => (¬ v5 = 59 → CALLV E mM_takes [.ref 60, .int 0] h5 fun h6 => Q h6) ∧ (v5 = 59 → CALLV E mM_takes [.ref 60, .int 1] h5 fun h7 => Q h7)) ∧ (x1 = 107 → CALLV E mM_takesSignAndNumber [.ref 60, .int 44] h fun h8 => CALLI E mM_letterAt [.ref 60, .int (h8 60 17)] h8 fun v9 h9 => (¬ v9 = 59 → CALLV E mM_takes [.ref 60, .int 0] h9 fun h10 => Q h10) ∧ (v9 = 59 → CALLV E mM_takes [.ref 60, .int 1] h9 fun h11 => Q h11)))) :
    WP E mM_goesThrough 74 [some (.ref 60), some (.int x1)] [] h (qV Q) := wp_sound [(44, [1, 1]), (74, [1, 1])] kk_180 21 hF
def k_181_0 : List XI := [(0, .aload_n 0, 1, 0, 0, 0, 0),
  (1, .getfield 9, 3, 7, 0, 0, 0),
  (4, .bipush 72, 2, 0, 0, 72, 0),
  (6, .iaload, 1, 0, 0, 0, 0),
  (7, .istore 4, 2, 0, 0, 0, 0),
  (9, .iload 4, 2, 0, 0, 0, 0),
  (11, .bipush 6, 2, 0, 0, 6, 0),
  (13, .if_icmp .ne 5, 3, 18, 0, 0, 0),
  (16, .iconst 0, 1, 0, 0, 0, 0),
  (17, .ireturn, 1, 0, 0, 0, 0),
  (18, .aload_n 0, 1, 0, 0, 0, 0),
  (19, .getfield 9, 3, 7, 0, 0, 0),
  (22, .iconst 0, 1, 0, 0, 0, 0),
  (23, .iload 4, 2, 0, 0, 0, 0),
  (25, .iadd, 1, 0, 0, 0, 0),
  (26, .iload_n 1, 1, 0, 0, 0, 0),
  (27, .iastore, 1, 0, 0, 0, 0),
  (28, .aload_n 0, 1, 0, 0, 0, 0),
  (29, .getfield 9, 3, 7, 0, 0, 0),
  (32, .bipush 6, 2, 0, 0, 6, 0),
  (34, .iload 4, 2, 0, 0, 0, 0),
  (36, .iadd, 1, 0, 0, 0, 0),
  (37, .iload_n 2, 1, 0, 0, 0, 0),
  (38, .iastore, 1, 0, 0, 0, 0),
  (39, .aload_n 0, 1, 0, 0, 0, 0),
  (40, .getfield 9, 3, 7, 0, 0, 0),
  (43, .bipush 12, 2, 0, 0, 12, 0),
  (45, .iload 4, 2, 0, 0, 0, 0),
  (47, .iadd, 1, 0, 0, 0, 0),
  (48, .iload_n 3, 1, 0, 0, 0, 0)]
set_option maxRecDepth 100000 in
set_option maxHeartbeats 4000000 in
theorem kk_181_0 : k_181_0.all (entOK (mCi 181) (mB 181)) = true := by decide +kernel
def k_181_1 : List XI := [(49, .iastore, 1, 0, 0, 0, 0),
  (50, .aload_n 0, 1, 0, 0, 0, 0),
  (51, .getfield 9, 3, 7, 0, 0, 0),
  (54, .bipush 18, 2, 0, 0, 18, 0),
  (56, .iload 4, 2, 0, 0, 0, 0),
  (58, .iadd, 1, 0, 0, 0, 0),
  (59, .iconst 0, 1, 0, 0, 0, 0),
  (60, .iastore, 1, 0, 0, 0, 0),
  (61, .aload_n 0, 1, 0, 0, 0, 0),
  (62, .getfield 9, 3, 7, 0, 0, 0),
  (65, .bipush 24, 2, 0, 0, 24, 0),
  (67, .iload 4, 2, 0, 0, 0, 0),
  (69, .iadd, 1, 0, 0, 0, 0),
  (70, .iconst 0, 1, 0, 0, 0, 0),
  (71, .iastore, 1, 0, 0, 0, 0),
  (72, .aload_n 0, 1, 0, 0, 0, 0),
  (73, .getfield 9, 3, 7, 0, 0, 0),
  (76, .bipush 30, 2, 0, 0, 30, 0),
  (78, .iload 4, 2, 0, 0, 0, 0),
  (80, .iadd, 1, 0, 0, 0, 0),
  (81, .iconst 0, 1, 0, 0, 0, 0),
  (82, .iastore, 1, 0, 0, 0, 0),
  (83, .aload_n 0, 1, 0, 0, 0, 0),
  (84, .getfield 9, 3, 7, 0, 0, 0),
  (87, .bipush 36, 2, 0, 0, 36, 0),
  (89, .iload 4, 2, 0, 0, 0, 0),
  (91, .iadd, 1, 0, 0, 0, 0),
  (92, .iconst 0, 1, 0, 0, 0, 0),
  (93, .iastore, 1, 0, 0, 0, 0),
  (94, .aload_n 0, 1, 0, 0, 0, 0)]
set_option maxRecDepth 100000 in
set_option maxHeartbeats 4000000 in
theorem kk_181_1 : k_181_1.all (entOK (mCi 181) (mB 181)) = true := by decide +kernel
def k_181_2 : List XI := [(95, .getfield 9, 3, 7, 0, 0, 0),
  (98, .bipush 42, 2, 0, 0, 42, 0),
  (100, .iload 4, 2, 0, 0, 0, 0),
  (102, .iadd, 1, 0, 0, 0, 0),
  (103, .iconst 1, 1, 0, 0, 1, 0),
  (104, .iastore, 1, 0, 0, 0, 0),
  (105, .iconst 0, 1, 0, 0, 0, 0),
  (106, .istore 5, 2, 0, 0, 0, 0),
  (108, .iload 5, 2, 0, 0, 0, 0),
  (110, .iconst 4, 1, 0, 0, 4, 0),
  (111, .if_icmp .ge 25, 3, 136, 0, 0, 0),
  (114, .aload_n 0, 1, 0, 0, 0, 0),
  (115, .getfield 9, 3, 7, 0, 0, 0),
  (118, .bipush 48, 2, 0, 0, 48, 0),
  (120, .iconst 4, 1, 0, 0, 4, 0),
  (121, .iload 4, 2, 0, 0, 0, 0),
  (123, .imul, 1, 0, 0, 0, 0),
  (124, .iadd, 1, 0, 0, 0, 0),
  (125, .iload 5, 2, 0, 0, 0, 0),
  (127, .iadd, 1, 0, 0, 0, 0),
  (128, .iconst 0, 1, 0, 0, 0, 0),
  (129, .iastore, 1, 0, 0, 0, 0),
  (130, .iinc 5 1, 3, 0, 0, 1, 0),
  (133, .goto (-25), 3, 108, 0, 0, 0),
  (136, .aload_n 0, 1, 0, 0, 0, 0),
  (137, .getfield 9, 3, 7, 0, 0, 0),
  (140, .bipush 72, 2, 0, 0, 72, 0),
  (142, .dup2, 1, 0, 0, 0, 0),
  (143, .iaload, 1, 0, 0, 0, 0),
  (144, .iconst 1, 1, 0, 0, 1, 0)]
set_option maxRecDepth 100000 in
set_option maxHeartbeats 4000000 in
theorem kk_181_2 : k_181_2.all (entOK (mCi 181) (mB 181)) = true := by decide +kernel
def k_181_3 : List XI := [(145, .iadd, 1, 0, 0, 0, 0),
  (146, .iastore, 1, 0, 0, 0, 0),
  (147, .iconst 1, 1, 0, 0, 1, 0),
  (148, .ireturn, 1, 0, 0, 0, 0)]
set_option maxRecDepth 100000 in
set_option maxHeartbeats 4000000 in
theorem kk_181_3 : k_181_3.all (entOK (mCi 181) (mB 181)) = true := by decide +kernel
def k_181 : List XI := k_181_0 ++ (k_181_1 ++ (k_181_2 ++ (k_181_3)))
theorem kk_181 : k_181.all (entOK (mCi 181) (mB 181)) = true := all_app kk_181_0 (all_app kk_181_1 (all_app kk_181_2 (kk_181_3)))
set_option maxRecDepth 100000 in
set_option maxHeartbeats 4000000 in
theorem fM_comes {E : XE} {h : Mem} {Q : Int32 → Mem → Prop} {a1 : Int32} {a2 : Int32} {a3 : Int32} 
    (hF : (¬ (h 61 (ix 72)) = 6 → cnd (inb (0 + (h 61 (ix 72))) 73) (cnd (inb (6 + (h 61 (ix 72))) 73) (cnd (inb (12 + (h 61 (ix 72))) 73) (cnd (inb (18 + (h 61 (ix 72))) 73) (cnd (inb (24 + (h 61 (ix 72))) 73) (cnd (inb (30 + (h 61 (ix 72))) 73) (cnd (inb (36 + (h 61 (ix 72))) 73) (cnd (inb (42 + (h 61 (ix 72))) 73) (WP E mM_comes 108 [some (.ref 60), none, none, none, some (.int (h 61 (ix 72))), some (.int 0)] [] (upd2 (upd2 (upd2 (upd2 (upd2 (upd2 (upd2 (upd2 h 61 (ix (0 + (h 61 (ix 72)))) a1) 61 (ix (6 + (h 61 (ix 72)))) a2) 61 (ix (12 + (h 61 (ix 72)))) a3) 61 (ix (18 + (h 61 (ix 72)))) 0) 61 (ix (24 + (h 61 (ix 72)))) 0) 61 (ix (30 + (h 61 (ix 72)))) 0) 61 (ix (36 + (h 61 (ix 72)))) 0) 61 (ix (42 + (h 61 (ix 72)))) 1) (qI Q)))))))))) ∧ ((h 61 (ix 72)) = 6 → Q 0 h)) :
    CALLI E mM_comes [.ref 60, .int a1, .int a2, .int a3] h Q := CALL_of rfl (wp_sound [(108, [1, 0, 0, 0, 1, 1])] kk_181 67 hF)
set_option maxRecDepth 100000 in
set_option maxHeartbeats 4000000 in
theorem fM_comes_108 {E : XE} {h : Mem} {Q : Int32 → Mem → Prop} {x4 : Int32} {x5 : Int32} 
    (hF : (4 ≤ x5 → Q 1 (upd2 h 61 (ix 72) ((h 61 (ix 72)) + 1))) ∧ (¬ 4 ≤ x5 → cnd (inb ((48 + (4 * x4)) + x5) 73) (WP E mM_comes 108 [some (.ref 60), none, none, none, some (.int x4), some (.int (x5 + 1))] [] (upd2 h 61 (ix ((48 + (4 * x4)) + x5)) 0) (qI Q)))) :
    WP E mM_comes 108 [some (.ref 60), none, none, none, some (.int x4), some (.int x5)] [] h (qI Q) := wp_sound [(108, [1, 0, 0, 0, 1, 1])] kk_181 17 hF
def k_182 : List XI := [(0, .iload_n 0, 1, 0, 0, 0, 0),
  (1, .i2l, 1, 0, 0, 0, 0),
  (2, .lconst 1, 1, 0, 0, 0, 1),
  (3, .ldc2_w 200, 3, 0, 0, 0, 20),
  (6, .invokestatic 62, 3, 135, 1, 0, 0),
  (9, .ifCond .eq 33, 3, 42, 0, 0, 0),
  (12, .iload_n 1, 1, 0, 0, 0, 0),
  (13, .i2l, 1, 0, 0, 0, 0),
  (14, .ldc2_w 202, 3, 0, 0, 0, 2),
  (17, .ldc2_w 204, 3, 0, 0, 0, 60),
  (20, .invokestatic 62, 3, 135, 1, 0, 0),
  (23, .ifCond .eq 19, 3, 42, 0, 0, 0),
  (26, .iload_n 2, 1, 0, 0, 0, 0),
  (27, .i2l, 1, 0, 0, 0, 0),
  (28, .lconst 1, 1, 0, 0, 0, 1),
  (29, .ldc2_w 204, 3, 0, 0, 0, 60),
  (32, .invokestatic 62, 3, 135, 1, 0, 0),
  (35, .ifCond .eq 7, 3, 42, 0, 0, 0),
  (38, .iconst 1, 1, 0, 0, 1, 0),
  (39, .goto 4, 3, 43, 0, 0, 0),
  (42, .iconst 0, 1, 0, 0, 0, 0),
  (43, .ireturn, 1, 0, 0, 0, 0)]
set_option maxRecDepth 100000 in
set_option maxHeartbeats 4000000 in
theorem kk_182 : k_182.all (entOK (mCi 182) (mB 182)) = true := by decide +kernel
set_option maxRecDepth 100000 in
set_option maxHeartbeats 4000000 in
theorem fM_isTaskTold {E : XE} {h : Mem} {Q : Int32 → Mem → Prop} {a1 : Int32} {a2 : Int32} {a3 : Int32} 
    (hF : CALLI E mM_in [.long a1.toInt64, .long 1, .long 20] h fun v1 h1 => (v1 = 0 → Q 0 h1) ∧ (¬ v1 = 0 → CALLI E mM_in [.long a2.toInt64, .long 2, .long 60] h1 fun v2 h2 => (v2 = 0 → Q 0 h2) ∧ (¬ v2 = 0 → CALLI E mM_in [.long a3.toInt64, .long 1, .long 60] h2 fun v3 h3 => (v3 = 0 → Q 0 h3) ∧ (¬ v3 = 0 → Q 1 h3)))) :
    CALLI E mM_isTaskTold [.int a1, .int a2, .int a3] h Q := CALL_of rfl (wp_sound [] kk_182 22 hF)
def k_183 : List XI := [(0, .iload_n 2, 1, 0, 0, 0, 0),
  (1, .iload_n 3, 1, 0, 0, 0, 0),
  (2, .if_icmp .le 5, 3, 7, 0, 0, 0),
  (5, .iconst 0, 1, 0, 0, 0, 0),
  (6, .ireturn, 1, 0, 0, 0, 0),
  (7, .aload_n 0, 1, 0, 0, 0, 0),
  (8, .getfield 9, 3, 7, 0, 0, 0),
  (11, .iload_n 1, 1, 0, 0, 0, 0),
  (12, .iload_n 2, 1, 0, 0, 0, 0),
  (13, .iastore, 1, 0, 0, 0, 0),
  (14, .iconst 1, 1, 0, 0, 1, 0),
  (15, .ireturn, 1, 0, 0, 0, 0)]
set_option maxRecDepth 100000 in
set_option maxHeartbeats 4000000 in
theorem kk_183 : k_183.all (entOK (mCi 183) (mB 183)) = true := by decide +kernel
set_option maxRecDepth 100000 in
set_option maxHeartbeats 4000000 in
theorem fM_becomes {E : XE} {h : Mem} {Q : Int32 → Mem → Prop} {a1 : Int32} {a2 : Int32} {a3 : Int32} 
    (hF : (a2 ≤ a3 → cnd (inb a1 73) (Q 1 (upd2 h 61 (ix a1) a2))) ∧ (¬ a2 ≤ a3 → Q 0 h)) :
    CALLI E mM_becomes [.ref 60, .int a1, .int a2, .int a3] h Q := CALL_of rfl (wp_sound [] kk_183 11 hF)
def k_184_0 : List XI := [(0, .aload_n 0, 1, 0, 0, 0, 0),
  (1, .getfield 37, 3, 7, 19, 0, 0),
  (4, .iconst 0, 1, 0, 0, 0, 0),
  (5, .iaload, 1, 0, 0, 0, 0),
  (6, .istore_n 2, 1, 0, 0, 0, 0),
  (7, .iload_n 1, 1, 0, 0, 0, 0),
  (8, .bipush 116, 2, 0, 0, 116, 0),
  (10, .if_icmp .ne 48, 3, 58, 0, 0, 0),
  (13, .iload_n 2, 1, 0, 0, 0, 0),
  (14, .aload_n 0, 1, 0, 0, 0, 0),
  (15, .getfield 37, 3, 7, 19, 0, 0),
  (18, .iconst 1, 1, 0, 0, 1, 0),
  (19, .iaload, 1, 0, 0, 0, 0),
  (20, .aload_n 0, 1, 0, 0, 0, 0),
  (21, .getfield 37, 3, 7, 19, 0, 0),
  (24, .iconst 2, 1, 0, 0, 2, 0),
  (25, .iaload, 1, 0, 0, 0, 0),
  (26, .invokestatic 206, 3, 182, 1, 0, 0),
  (29, .ifCond .eq 27, 3, 56, 0, 0, 0),
  (32, .aload_n 0, 1, 0, 0, 0, 0),
  (33, .iload_n 2, 1, 0, 0, 0, 0),
  (34, .aload_n 0, 1, 0, 0, 0, 0),
  (35, .getfield 37, 3, 7, 19, 0, 0),
  (38, .iconst 1, 1, 0, 0, 1, 0),
  (39, .iaload, 1, 0, 0, 0, 0),
  (40, .aload_n 0, 1, 0, 0, 0, 0),
  (41, .getfield 37, 3, 7, 19, 0, 0),
  (44, .iconst 2, 1, 0, 0, 2, 0),
  (45, .iaload, 1, 0, 0, 0, 0),
  (46, .invokevirtual 209, 3, 181, 1, 0, 0)]
set_option maxRecDepth 100000 in
set_option maxHeartbeats 4000000 in
theorem kk_184_0 : k_184_0.all (entOK (mCi 184) (mB 184)) = true := by decide +kernel
def k_184_1 : List XI := [(49, .ifCond .eq 7, 3, 56, 0, 0, 0),
  (52, .iconst 1, 1, 0, 0, 1, 0),
  (53, .goto 4, 3, 57, 0, 0, 0),
  (56, .iconst 0, 1, 0, 0, 0, 0),
  (57, .ireturn, 1, 0, 0, 0, 0),
  (58, .aload_n 0, 1, 0, 0, 0, 0),
  (59, .iload_n 2, 1, 0, 0, 0, 0),
  (60, .invokevirtual 212, 3, 140, 1, 0, 0),
  (63, .ifCond .ne 5, 3, 68, 0, 0, 0),
  (66, .iconst 0, 1, 0, 0, 0, 0),
  (67, .ireturn, 1, 0, 0, 0, 0),
  (68, .iload_n 1, 1, 0, 0, 0, 0),
  (69, .lookupswitch 175 #[(104, 131), (107, 77), (111, 43), (114, 60)], 43, 0, 0, 0, 0),
  (112, .aload_n 0, 1, 0, 0, 0, 0),
  (113, .bipush 18, 2, 0, 0, 18, 0),
  (115, .iload_n 2, 1, 0, 0, 0, 0),
  (116, .iadd, 1, 0, 0, 0, 0),
  (117, .aload_n 0, 1, 0, 0, 0, 0),
  (118, .getfield 37, 3, 7, 19, 0, 0),
  (121, .iconst 1, 1, 0, 0, 1, 0),
  (122, .iaload, 1, 0, 0, 0, 0),
  (123, .bipush 59, 2, 0, 0, 59, 0),
  (125, .invokevirtual 215, 3, 183, 1, 0, 0),
  (128, .ireturn, 1, 0, 0, 0, 0),
  (129, .aload_n 0, 1, 0, 0, 0, 0),
  (130, .bipush 24, 2, 0, 0, 24, 0),
  (132, .iload_n 2, 1, 0, 0, 0, 0),
  (133, .iadd, 1, 0, 0, 0, 0),
  (134, .aload_n 0, 1, 0, 0, 0, 0),
  (135, .getfield 37, 3, 7, 19, 0, 0)]
set_option maxRecDepth 100000 in
set_option maxHeartbeats 4000000 in
theorem kk_184_1 : k_184_1.all (entOK (mCi 184) (mB 184)) = true := by decide +kernel
def k_184_2 : List XI := [(138, .iconst 1, 1, 0, 0, 1, 0),
  (139, .iaload, 1, 0, 0, 0, 0),
  (140, .bipush 9, 2, 0, 0, 9, 0),
  (142, .invokevirtual 215, 3, 183, 1, 0, 0),
  (145, .ireturn, 1, 0, 0, 0, 0),
  (146, .aload_n 0, 1, 0, 0, 0, 0),
  (147, .getfield 37, 3, 7, 19, 0, 0),
  (150, .iconst 2, 1, 0, 0, 2, 0),
  (151, .iaload, 1, 0, 0, 0, 0),
  (152, .bipush 10, 2, 0, 0, 10, 0),
  (154, .if_icmp .ge 44, 3, 198, 0, 0, 0),
  (157, .aload_n 0, 1, 0, 0, 0, 0),
  (158, .bipush 30, 2, 0, 0, 30, 0),
  (160, .iload_n 2, 1, 0, 0, 0, 0),
  (161, .iadd, 1, 0, 0, 0, 0),
  (162, .aload_n 0, 1, 0, 0, 0, 0),
  (163, .getfield 37, 3, 7, 19, 0, 0),
  (166, .iconst 1, 1, 0, 0, 1, 0),
  (167, .iaload, 1, 0, 0, 0, 0),
  (168, .iconst 5, 1, 0, 0, 5, 0),
  (169, .invokevirtual 215, 3, 183, 1, 0, 0),
  (172, .ifCond .eq 26, 3, 198, 0, 0, 0),
  (175, .aload_n 0, 1, 0, 0, 0, 0),
  (176, .bipush 36, 2, 0, 0, 36, 0),
  (178, .iload_n 2, 1, 0, 0, 0, 0),
  (179, .iadd, 1, 0, 0, 0, 0),
  (180, .aload_n 0, 1, 0, 0, 0, 0),
  (181, .getfield 37, 3, 7, 19, 0, 0),
  (184, .iconst 2, 1, 0, 0, 2, 0),
  (185, .iaload, 1, 0, 0, 0, 0)]
set_option maxRecDepth 100000 in
set_option maxHeartbeats 4000000 in
theorem kk_184_2 : k_184_2.all (entOK (mCi 184) (mB 184)) = true := by decide +kernel
def k_184_3 : List XI := [(186, .bipush 9, 2, 0, 0, 9, 0),
  (188, .invokevirtual 215, 3, 183, 1, 0, 0),
  (191, .ifCond .eq 7, 3, 198, 0, 0, 0),
  (194, .iconst 1, 1, 0, 0, 1, 0),
  (195, .goto 4, 3, 199, 0, 0, 0),
  (198, .iconst 0, 1, 0, 0, 0, 0),
  (199, .ireturn, 1, 0, 0, 0, 0),
  (200, .aload_n 0, 1, 0, 0, 0, 0),
  (201, .getfield 37, 3, 7, 19, 0, 0),
  (204, .iconst 1, 1, 0, 0, 1, 0),
  (205, .iaload, 1, 0, 0, 0, 0),
  (206, .iconst 4, 1, 0, 0, 4, 0),
  (207, .if_icmp .ge 35, 3, 242, 0, 0, 0),
  (210, .aload_n 0, 1, 0, 0, 0, 0),
  (211, .bipush 48, 2, 0, 0, 48, 0),
  (213, .iconst 4, 1, 0, 0, 4, 0),
  (214, .iload_n 2, 1, 0, 0, 0, 0),
  (215, .imul, 1, 0, 0, 0, 0),
  (216, .iadd, 1, 0, 0, 0, 0),
  (217, .aload_n 0, 1, 0, 0, 0, 0),
  (218, .getfield 37, 3, 7, 19, 0, 0),
  (221, .iconst 1, 1, 0, 0, 1, 0),
  (222, .iaload, 1, 0, 0, 0, 0),
  (223, .iadd, 1, 0, 0, 0, 0),
  (224, .aload_n 0, 1, 0, 0, 0, 0),
  (225, .getfield 37, 3, 7, 19, 0, 0),
  (228, .iconst 2, 1, 0, 0, 2, 0),
  (229, .iaload, 1, 0, 0, 0, 0),
  (230, .bipush 9, 2, 0, 0, 9, 0),
  (232, .invokevirtual 215, 3, 183, 1, 0, 0)]
set_option maxRecDepth 100000 in
set_option maxHeartbeats 4000000 in
theorem kk_184_3 : k_184_3.all (entOK (mCi 184) (mB 184)) = true := by decide +kernel
def k_184_4 : List XI := [(235, .ifCond .eq 7, 3, 242, 0, 0, 0),
  (238, .iconst 1, 1, 0, 0, 1, 0),
  (239, .goto 4, 3, 243, 0, 0, 0),
  (242, .iconst 0, 1, 0, 0, 0, 0),
  (243, .ireturn, 1, 0, 0, 0, 0),
  (244, .aload_n 0, 1, 0, 0, 0, 0),
  (245, .getfield 9, 3, 7, 0, 0, 0),
  (248, .bipush 42, 2, 0, 0, 42, 0),
  (250, .iload_n 2, 1, 0, 0, 0, 0),
  (251, .iadd, 1, 0, 0, 0, 0),
  (252, .iconst 1, 1, 0, 0, 1, 0),
  (253, .aload_n 0, 1, 0, 0, 0, 0),
  (254, .getfield 9, 3, 7, 0, 0, 0),
  (257, .bipush 42, 2, 0, 0, 42, 0),
  (259, .iload_n 2, 1, 0, 0, 0, 0),
  (260, .iadd, 1, 0, 0, 0, 0),
  (261, .iaload, 1, 0, 0, 0, 0),
  (262, .isub, 1, 0, 0, 0, 0),
  (263, .iastore, 1, 0, 0, 0, 0),
  (264, .iconst 1, 1, 0, 0, 1, 0),
  (265, .ireturn, 1, 0, 0, 0, 0)]
set_option maxRecDepth 100000 in
set_option maxHeartbeats 4000000 in
theorem kk_184_4 : k_184_4.all (entOK (mCi 184) (mB 184)) = true := by decide +kernel
def k_184 : List XI := k_184_0 ++ (k_184_1 ++ (k_184_2 ++ (k_184_3 ++ (k_184_4))))
theorem kk_184 : k_184.all (entOK (mCi 184) (mB 184)) = true := all_app kk_184_0 (all_app kk_184_1 (all_app kk_184_2 (all_app kk_184_3 (kk_184_4))))
set_option maxRecDepth 100000 in
set_option maxHeartbeats 4000000 in
theorem fM_does {E : XE} {h : Mem} {Q : Int32 → Mem → Prop} {a1 : Int32} 
    (hF : (¬ a1 = 116 → CALLI E mM_isTask [.ref 60, .int (h 70 (ix 0))] h fun v1 h1 => (¬ v1 = 0 → (a1 = Int32.ofInt 104 → (4 ≤ (h1 70 (ix 1)) → WP E mM_does 242 [none, none, none] [] h1 (qI Q)) ∧ (¬ 4 ≤ (h1 70 (ix 1)) → CALLI E mM_becomes [.ref 60, .int ((48 + (4 * (h 70 (ix 0)))) + (h1 70 (ix 1))), .int (h1 70 (ix 2)), .int 9] h1 fun v6 h6 => (v6 = 0 → WP E mM_does 242 [none, none, none] [] h6 (qI Q)) ∧ (¬ v6 = 0 → WP E mM_does 243 [none, none, none] [.int 1] h6 (qI Q)))) ∧ (¬ a1 = Int32.ofInt 104 → (a1 = Int32.ofInt 107 → (10 ≤ (h1 70 (ix 2)) → WP E mM_does 198 [none, none, none] [] h1 (qI Q)) ∧ (¬ 10 ≤ (h1 70 (ix 2)) → CALLI E mM_becomes [.ref 60, .int (30 + (h 70 (ix 0))), .int (h1 70 (ix 1)), .int 5] h1 fun v4 h4 => (v4 = 0 → WP E mM_does 198 [none, none, none] [] h4 (qI Q)) ∧ (¬ v4 = 0 → CALLI E mM_becomes [.ref 60, .int (36 + (h 70 (ix 0))), .int (h4 70 (ix 2)), .int 9] h4 fun v5 h5 => (v5 = 0 → WP E mM_does 198 [none, none, none] [] h5 (qI Q)) ∧ (¬ v5 = 0 → WP E mM_does 199 [none, none, none] [.int 1] h5 (qI Q))))) ∧ (¬ a1 = Int32.ofInt 107 → (a1 = Int32.ofInt 111 → CALLI E mM_becomes [.ref 60, .int (18 + (h 70 (ix 0))), .int (h1 70 (ix 1)), .int 59] h1 fun v3 h3 => cnd (nb v3) (Q v3 h3)) ∧ (¬ a1 = Int32.ofInt 111 → (a1 = Int32.ofInt 114 → CALLI E mM_becomes [.ref 60, .int (24 + (h 70 (ix 0))), .int (h1 70 (ix 1)), .int 9] h1 fun v2 h2 => cnd (nb v2) (Q v2 h2)) ∧ (¬ a1 = Int32.ofInt 114 → cnd (inb (42 + (h 70 (ix 0))) 73) (cnd (inb (42 + (h 70 (ix 0))) 73) (Q 1 (upd2 h1 61 (ix (42 + (h 70 (ix 0)))) (1 - (h1 61 (ix (42 + (h 70 (ix 0)))))))))))))) ∧ (v1 = 0 → Q 0 h1)) ∧ (a1 = 116 → CALLI E mM_isTaskTold [.int (h 70 (ix 0)), .int (h 70 (ix 1)), .int (h 70 (ix 2))] h fun v7 h7 => (v7 = 0 → WP E mM_does 56 [none, none, none] [] h7 (qI Q)) ∧ (¬ v7 = 0 → CALLI E mM_comes [.ref 60, .int (h 70 (ix 0)), .int (h7 70 (ix 1)), .int (h7 70 (ix 2))] h7 fun v8 h8 => (v8 = 0 → WP E mM_does 56 [none, none, none] [] h8 (qI Q)) ∧ (¬ v8 = 0 → WP E mM_does 57 [none, none, none] [.int 1] h8 (qI Q))))) :
    CALLI E mM_does [.ref 60, .int a1] h Q := CALL_of rfl (wp_sound [(56, [0, 0, 0]), (57, [0, 0, 0]), (198, [0, 0, 0]), (199, [0, 0, 0]), (242, [0, 0, 0]), (243, [0, 0, 0])] kk_184 45 hF)
set_option maxRecDepth 100000 in
set_option maxHeartbeats 4000000 in
theorem fM_does_56 {E : XE} {h : Mem} {Q : Int32 → Mem → Prop}  
    (hF : WP E mM_does 57 [none, none, none] [.int 0] h (qI Q)) :
    WP E mM_does 56 [none, none, none] [] h (qI Q) := wp_sound [(56, [0, 0, 0]), (57, [0, 0, 0]), (198, [0, 0, 0]), (199, [0, 0, 0]), (242, [0, 0, 0]), (243, [0, 0, 0])] kk_184 2 hF
set_option maxRecDepth 100000 in
set_option maxHeartbeats 4000000 in
theorem fM_does_57 {E : XE} {h : Mem} {Q : Int32 → Mem → Prop} {s0 : Int32} 
    (hF : cnd (nb s0) (Q s0 h)) :
    WP E mM_does 57 [none, none, none] [.int s0] h (qI Q) := wp_sound [(56, [0, 0, 0]), (57, [0, 0, 0]), (198, [0, 0, 0]), (199, [0, 0, 0]), (242, [0, 0, 0]), (243, [0, 0, 0])] kk_184 2 hF
set_option maxRecDepth 100000 in
set_option maxHeartbeats 4000000 in
theorem fM_does_198 {E : XE} {h : Mem} {Q : Int32 → Mem → Prop}  
    (hF : WP E mM_does 199 [none, none, none] [.int 0] h (qI Q)) :
    WP E mM_does 198 [none, none, none] [] h (qI Q) := wp_sound [(56, [0, 0, 0]), (57, [0, 0, 0]), (198, [0, 0, 0]), (199, [0, 0, 0]), (242, [0, 0, 0]), (243, [0, 0, 0])] kk_184 2 hF
set_option maxRecDepth 100000 in
set_option maxHeartbeats 4000000 in
theorem fM_does_199 {E : XE} {h : Mem} {Q : Int32 → Mem → Prop} {s0 : Int32} 
    (hF : cnd (nb s0) (Q s0 h)) :
    WP E mM_does 199 [none, none, none] [.int s0] h (qI Q) := wp_sound [(56, [0, 0, 0]), (57, [0, 0, 0]), (198, [0, 0, 0]), (199, [0, 0, 0]), (242, [0, 0, 0]), (243, [0, 0, 0])] kk_184 2 hF
set_option maxRecDepth 100000 in
set_option maxHeartbeats 4000000 in
theorem fM_does_242 {E : XE} {h : Mem} {Q : Int32 → Mem → Prop}  
    (hF : WP E mM_does 243 [none, none, none] [.int 0] h (qI Q)) :
    WP E mM_does 242 [none, none, none] [] h (qI Q) := wp_sound [(56, [0, 0, 0]), (57, [0, 0, 0]), (198, [0, 0, 0]), (199, [0, 0, 0]), (242, [0, 0, 0]), (243, [0, 0, 0])] kk_184 2 hF
set_option maxRecDepth 100000 in
set_option maxHeartbeats 4000000 in
theorem fM_does_243 {E : XE} {h : Mem} {Q : Int32 → Mem → Prop} {s0 : Int32} 
    (hF : cnd (nb s0) (Q s0 h)) :
    WP E mM_does 243 [none, none, none] [.int s0] h (qI Q) := wp_sound [(56, [0, 0, 0]), (57, [0, 0, 0]), (198, [0, 0, 0]), (199, [0, 0, 0]), (242, [0, 0, 0]), (243, [0, 0, 0])] kk_184 2 hF
def k_185_0 : List XI := [(0, .aload_n 0, 1, 0, 0, 0, 0),
  (1, .iconst 0, 1, 0, 0, 0, 0),
  (2, .putfield 174, 3, 7, 17, 0, 0),
  (5, .aload_n 0, 1, 0, 0, 0, 0),
  (6, .iconst 1, 1, 0, 0, 1, 0),
  (7, .putfield 170, 3, 7, 18, 1, 0),
  (10, .iconst 0, 1, 0, 0, 0, 0),
  (11, .istore_n 1, 1, 0, 0, 0, 0),
  (12, .aload_n 0, 1, 0, 0, 0, 0),
  (13, .getfield 170, 3, 7, 18, 0, 0),
  (16, .ifCond .eq 28, 3, 44, 0, 0, 0),
  (19, .iload_n 1, 1, 0, 0, 0, 0),
  (20, .ifCond .eq 14, 3, 34, 0, 0, 0),
  (23, .aload_n 0, 1, 0, 0, 0, 0),
  (24, .getfield 174, 3, 7, 17, 0, 0),
  (27, .aload_n 0, 1, 0, 0, 0, 0),
  (28, .getfield 167, 3, 7, 8, 0, 0),
  (31, .if_icmp .ge 13, 3, 44, 0, 0, 0),
  (34, .aload_n 0, 1, 0, 0, 0, 0),
  (35, .invokevirtual 218, 3, 180, 0, 0, 0),
  (38, .iinc 1 1, 3, 0, 0, 1, 0),
  (41, .goto (-29), 3, 12, 0, 0, 0),
  (44, .aload_n 0, 1, 0, 0, 0, 0),
  (45, .getfield 170, 3, 7, 18, 0, 0),
  (48, .ifCond .ne 12, 3, 60, 0, 0, 0),
  (51, .sipush (-1000), 3, 0, 0, (-1000), 0),
  (54, .aload_n 0, 1, 0, 0, 0, 0),
  (55, .getfield 174, 3, 7, 17, 0, 0),
  (58, .isub, 1, 0, 0, 0, 0),
  (59, .ireturn, 1, 0, 0, 0, 0)]
set_option maxRecDepth 100000 in
set_option maxHeartbeats 4000000 in
theorem kk_185_0 : k_185_0.all (entOK (mCi 185) (mB 185)) = true := by decide +kernel
def k_185_1 : List XI := [(60, .aload_n 0, 1, 0, 0, 0, 0),
  (61, .invokevirtual 221, 3, 138, 0, 0, 0),
  (64, .aload_n 0, 1, 0, 0, 0, 0),
  (65, .iconst 0, 1, 0, 0, 0, 0),
  (66, .putfield 174, 3, 7, 17, 0, 0),
  (69, .aload_n 0, 1, 0, 0, 0, 0),
  (70, .getfield 174, 3, 7, 17, 0, 0),
  (73, .aload_n 0, 1, 0, 0, 0, 0),
  (74, .getfield 167, 3, 7, 8, 0, 0),
  (77, .if_icmp .ge 38, 3, 115, 0, 0, 0),
  (80, .aload_n 0, 1, 0, 0, 0, 0),
  (81, .getfield 174, 3, 7, 17, 0, 0),
  (84, .istore_n 2, 1, 0, 0, 0, 0),
  (85, .aload_n 0, 1, 0, 0, 0, 0),
  (86, .invokevirtual 218, 3, 180, 0, 0, 0),
  (89, .aload_n 0, 1, 0, 0, 0, 0),
  (90, .aload_n 0, 1, 0, 0, 0, 0),
  (91, .getfield 25, 3, 7, 7, 0, 0),
  (94, .iload_n 2, 1, 0, 0, 0, 0),
  (95, .iaload, 1, 0, 0, 0, 0),
  (96, .invokevirtual 224, 3, 184, 1, 0, 0),
  (99, .ifCond .ne 13, 3, 112, 0, 0, 0),
  (102, .aload_n 0, 1, 0, 0, 0, 0),
  (103, .invokevirtual 227, 3, 139, 0, 0, 0),
  (106, .sipush (-2000), 3, 0, 0, (-2000), 0),
  (109, .iload_n 2, 1, 0, 0, 0, 0),
  (110, .isub, 1, 0, 0, 0, 0),
  (111, .ireturn, 1, 0, 0, 0, 0),
  (112, .goto (-43), 3, 69, 0, 0, 0),
  (115, .iload_n 1, 1, 0, 0, 0, 0)]
set_option maxRecDepth 100000 in
set_option maxHeartbeats 4000000 in
theorem kk_185_1 : k_185_1.all (entOK (mCi 185) (mB 185)) = true := by decide +kernel
def k_185_2 : List XI := [(116, .ireturn, 1, 0, 0, 0, 0)]
set_option maxRecDepth 100000 in
set_option maxHeartbeats 4000000 in
theorem kk_185_2 : k_185_2.all (entOK (mCi 185) (mB 185)) = true := by decide +kernel
def k_185 : List XI := k_185_0 ++ (k_185_1 ++ (k_185_2))
theorem kk_185 : k_185.all (entOK (mCi 185) (mB 185)) = true := all_app kk_185_0 (all_app kk_185_1 (kk_185_2))
set_option maxRecDepth 100000 in
set_option maxHeartbeats 4000000 in
theorem fM_readsAll {E : XE} {h : Mem} {Q : Int32 → Mem → Prop}  
    (hF : WP E mM_readsAll 12 [some (.ref 60), some (.int 0), none] [] (upd2 (upd2 h 60 17 0) 60 18 1) (qI Q)) :
    CALLI E mM_readsAll [.ref 60] h Q := CALL_of rfl (wp_sound [(12, [1, 1, 0]), (69, [1, 1, 0])] kk_185 9 hF)
set_option maxRecDepth 100000 in
set_option maxHeartbeats 4000000 in
theorem fM_readsAll_12 {E : XE} {h : Mem} {Q : Int32 → Mem → Prop} {x1 : Int32} 
    (hF : ((h 60 18) = 0 → (¬ (h 60 18) = 0 → CALLV E mM_minds [.ref 60] h fun h1 => WP E mM_readsAll 69 [some (.ref 60), some (.int x1), none] [] (upd2 h1 60 17 0) (qI Q)) ∧ ((h 60 18) = 0 → Q ((-1000) - (h 60 17)) h)) ∧ (¬ (h 60 18) = 0 → (x1 = 0 → CALLV E mM_goesThrough [.ref 60] h fun h2 => WP E mM_readsAll 12 [some (.ref 60), some (.int (x1 + 1)), none] [] h2 (qI Q)) ∧ (¬ x1 = 0 → ((h 60 8) ≤ (h 60 17) → (¬ (h 60 18) = 0 → CALLV E mM_minds [.ref 60] h fun h3 => WP E mM_readsAll 69 [some (.ref 60), some (.int x1), none] [] (upd2 h3 60 17 0) (qI Q)) ∧ ((h 60 18) = 0 → Q ((-1000) - (h 60 17)) h)) ∧ (¬ (h 60 8) ≤ (h 60 17) → CALLV E mM_goesThrough [.ref 60] h fun h4 => WP E mM_readsAll 12 [some (.ref 60), some (.int (x1 + 1)), none] [] h4 (qI Q))))) :
    WP E mM_readsAll 12 [some (.ref 60), some (.int x1), none] [] h (qI Q) := wp_sound [(12, [1, 1, 0]), (69, [1, 1, 0])] kk_185 19 hF
set_option maxRecDepth 100000 in
set_option maxHeartbeats 4000000 in
theorem fM_readsAll_69 {E : XE} {h : Mem} {Q : Int32 → Mem → Prop} {x1 : Int32} 
    (hF : ((h 60 8) ≤ (h 60 17) → Q x1 h) ∧ (¬ (h 60 8) ≤ (h 60 17) → CALLV E mM_goesThrough [.ref 60] h fun h1 => cnd (inb (h 60 17) 96) (CALLI E mM_does [.ref 60, .int (h1 66 (ix (h 60 17)))] h1 fun v2 h2 => (¬ v2 = 0 → WP E mM_readsAll 69 [some (.ref 60), some (.int x1), none] [] h2 (qI Q)) ∧ (v2 = 0 → CALLV E mM_forgets [.ref 60] h2 fun h3 => Q ((-2000) - (h 60 17)) h3)))) :
    WP E mM_readsAll 69 [some (.ref 60), some (.int x1), none] [] h (qI Q) := wp_sound [(12, [1, 1, 0]), (69, [1, 1, 0])] kk_185 24 hF
def k_186_0 : List XI := [(0, .iload_n 1, 1, 0, 0, 0, 0),
  (1, .i2l, 1, 0, 0, 0, 0),
  (2, .lconst 0, 1, 0, 0, 0, 0),
  (3, .ldc2_w 230, 3, 0, 0, 0, 255),
  (6, .invokestatic 62, 3, 135, 1, 0, 0),
  (9, .ifCond .ne 19, 3, 28, 0, 0, 0),
  (12, .aload_n 0, 1, 0, 0, 0, 0),
  (13, .iload_n 1, 1, 0, 0, 0, 0),
  (14, .ifCond .ge 8, 3, 22, 0, 0, 0),
  (17, .bipush (-4), 2, 0, 0, (-4), 0),
  (19, .goto 5, 3, 24, 0, 0, 0),
  (22, .bipush (-6), 2, 0, 0, (-6), 0),
  (24, .invokevirtual 232, 3, 136, 1, 0, 0),
  (27, .ireturn, 1, 0, 0, 0, 0),
  (28, .aload_n 0, 1, 0, 0, 0, 0),
  (29, .getfield 167, 3, 7, 8, 0, 0),
  (32, .bipush 96, 2, 0, 0, 96, 0),
  (34, .if_icmp .ne 10, 3, 44, 0, 0, 0),
  (37, .aload_n 0, 1, 0, 0, 0, 0),
  (38, .bipush (-6), 2, 0, 0, (-6), 0),
  (40, .invokevirtual 232, 3, 136, 1, 0, 0),
  (43, .ireturn, 1, 0, 0, 0, 0),
  (44, .aload_n 0, 1, 0, 0, 0, 0),
  (45, .getfield 25, 3, 7, 7, 0, 0),
  (48, .aload_n 0, 1, 0, 0, 0, 0),
  (49, .getfield 167, 3, 7, 8, 0, 0),
  (52, .iload_n 1, 1, 0, 0, 0, 0),
  (53, .iastore, 1, 0, 0, 0, 0),
  (54, .aload_n 0, 1, 0, 0, 0, 0),
  (55, .dup, 1, 0, 0, 0, 0)]
set_option maxRecDepth 100000 in
set_option maxHeartbeats 4000000 in
theorem kk_186_0 : k_186_0.all (entOK (mCi 186) (mB 186)) = true := by decide +kernel
def k_186_1 : List XI := [(56, .getfield 167, 3, 7, 8, 0, 0),
  (59, .iconst 1, 1, 0, 0, 1, 0),
  (60, .iadd, 1, 0, 0, 0, 0),
  (61, .putfield 167, 3, 7, 8, 0, 0),
  (64, .aload_n 0, 1, 0, 0, 0, 0),
  (65, .getfield 167, 3, 7, 8, 0, 0),
  (68, .ireturn, 1, 0, 0, 0, 0)]
set_option maxRecDepth 100000 in
set_option maxHeartbeats 4000000 in
theorem kk_186_1 : k_186_1.all (entOK (mCi 186) (mB 186)) = true := by decide +kernel
def k_186 : List XI := k_186_0 ++ (k_186_1)
theorem kk_186 : k_186.all (entOK (mCi 186) (mB 186)) = true := all_app kk_186_0 (kk_186_1)
set_option maxRecDepth 100000 in
set_option maxHeartbeats 4000000 in
theorem fM_letter {E : XE} {h : Mem} {Q : Int32 → Mem → Prop} {a1 : Int32} 
    (hF : CALLI E mM_in [.long a1.toInt64, .long 0, .long 255] h fun v1 h1 => (¬ v1 = 0 → (¬ (h1 60 8) = 96 → cnd (inb (h1 60 8) 96) (Q ((upd2 (upd2 h1 66 (ix (h1 60 8)) a1) 60 8 (((upd2 h1 66 (ix (h1 60 8)) a1) 60 8) + 1)) 60 8) (upd2 (upd2 h1 66 (ix (h1 60 8)) a1) 60 8 (((upd2 h1 66 (ix (h1 60 8)) a1) 60 8) + 1)))) ∧ ((h1 60 8) = 96 → CALLI E mM_refused [.ref 60, .int (-6)] h1 fun v2 h2 => Q v2 h2)) ∧ (v1 = 0 → (0 ≤ a1 → CALLI E mM_refused [.ref 60, .int (-6)] h1 fun v3 h3 => Q v3 h3) ∧ (¬ 0 ≤ a1 → CALLI E mM_refused [.ref 60, .int (-4)] h1 fun v4 h4 => Q v4 h4))) :
    CALLI E mM_letter [.ref 60, .int a1] h Q := CALL_of rfl (wp_sound [] kk_186 26 hF)
def k_187 : List XI := [(0, .aload_n 0, 1, 0, 0, 0, 0),
  (1, .invokevirtual 235, 3, 185, 1, 0, 0),
  (4, .istore_n 1, 1, 0, 0, 0, 0),
  (5, .aload_n 0, 1, 0, 0, 0, 0),
  (6, .iconst 0, 1, 0, 0, 0, 0),
  (7, .putfield 167, 3, 7, 8, 0, 0),
  (10, .iload_n 1, 1, 0, 0, 0, 0),
  (11, .ireturn, 1, 0, 0, 0, 0)]
set_option maxRecDepth 100000 in
set_option maxHeartbeats 4000000 in
theorem kk_187 : k_187.all (entOK (mCi 187) (mB 187)) = true := by decide +kernel
set_option maxRecDepth 100000 in
set_option maxHeartbeats 4000000 in
theorem fM_tells {E : XE} {h : Mem} {Q : Int32 → Mem → Prop}  
    (hF : CALLI E mM_readsAll [.ref 60] h fun v1 h1 => Q v1 (upd2 h1 60 8 0)) :
    CALLI E mM_tells [.ref 60] h Q := CALL_of rfl (wp_sound [] kk_187 9 hF)
def k_188_0 : List XI := [(0, .iload_n 1, 1, 0, 0, 0, 0),
  (1, .iconst 1, 1, 0, 0, 1, 0),
  (2, .if_icmp .lt 13, 3, 15, 0, 0, 0),
  (5, .iload_n 2, 1, 0, 0, 0, 0),
  (6, .iconst 2, 1, 0, 0, 2, 0),
  (7, .if_icmp .lt 8, 3, 15, 0, 0, 0),
  (10, .iload_n 3, 1, 0, 0, 0, 0),
  (11, .iconst 1, 1, 0, 0, 1, 0),
  (12, .if_icmp .ge 10, 3, 22, 0, 0, 0),
  (15, .aload_n 0, 1, 0, 0, 0, 0),
  (16, .bipush (-4), 2, 0, 0, (-4), 0),
  (18, .invokevirtual 232, 3, 136, 1, 0, 0),
  (21, .ireturn, 1, 0, 0, 0, 0),
  (22, .iload_n 1, 1, 0, 0, 0, 0),
  (23, .iload_n 2, 1, 0, 0, 0, 0),
  (24, .iload_n 3, 1, 0, 0, 0, 0),
  (25, .invokestatic 206, 3, 182, 1, 0, 0),
  (28, .ifCond .eq 13, 3, 41, 0, 0, 0),
  (31, .aload_n 0, 1, 0, 0, 0, 0),
  (32, .iload_n 1, 1, 0, 0, 0, 0),
  (33, .iload_n 2, 1, 0, 0, 0, 0),
  (34, .iload_n 3, 1, 0, 0, 0, 0),
  (35, .invokevirtual 209, 3, 181, 1, 0, 0),
  (38, .ifCond .ne 10, 3, 48, 0, 0, 0),
  (41, .aload_n 0, 1, 0, 0, 0, 0),
  (42, .bipush (-6), 2, 0, 0, (-6), 0),
  (44, .invokevirtual 232, 3, 136, 1, 0, 0),
  (47, .ireturn, 1, 0, 0, 0, 0),
  (48, .aload_n 0, 1, 0, 0, 0, 0),
  (49, .getfield 9, 3, 7, 0, 0, 0)]
set_option maxRecDepth 100000 in
set_option maxHeartbeats 4000000 in
theorem kk_188_0 : k_188_0.all (entOK (mCi 188) (mB 188)) = true := by decide +kernel
def k_188_1 : List XI := [(52, .bipush 72, 2, 0, 0, 72, 0),
  (54, .iaload, 1, 0, 0, 0, 0),
  (55, .iconst 1, 1, 0, 0, 1, 0),
  (56, .isub, 1, 0, 0, 0, 0),
  (57, .ireturn, 1, 0, 0, 0, 0)]
set_option maxRecDepth 100000 in
set_option maxHeartbeats 4000000 in
theorem kk_188_1 : k_188_1.all (entOK (mCi 188) (mB 188)) = true := by decide +kernel
def k_188 : List XI := k_188_0 ++ (k_188_1)
theorem kk_188 : k_188.all (entOK (mCi 188) (mB 188)) = true := all_app kk_188_0 (kk_188_1)
set_option maxRecDepth 100000 in
set_option maxHeartbeats 4000000 in
theorem fM_tasks {E : XE} {h : Mem} {Q : Int32 → Mem → Prop} {a1 : Int32} {a2 : Int32} {a3 : Int32} 
    (hF : (a1 < 1 → CALLI E mM_refused [.ref 60, .int (-4)] h fun v1 h1 => Q v1 h1) ∧ (¬ a1 < 1 → (a2 < 2 → CALLI E mM_refused [.ref 60, .int (-4)] h fun v2 h2 => Q v2 h2) ∧ (¬ a2 < 2 → (1 ≤ a3 → CALLI E mM_isTaskTold [.int a1, .int a2, .int a3] h fun v3 h3 => (v3 = 0 → CALLI E mM_refused [.ref 60, .int (-6)] h3 fun v4 h4 => Q v4 h4) ∧ (¬ v3 = 0 → CALLI E mM_comes [.ref 60, .int a1, .int a2, .int a3] h3 fun v5 h5 => (¬ v5 = 0 → Q ((h5 61 (ix 72)) - 1) h5) ∧ (v5 = 0 → CALLI E mM_refused [.ref 60, .int (-6)] h5 fun v6 h6 => Q v6 h6))) ∧ (¬ 1 ≤ a3 → CALLI E mM_refused [.ref 60, .int (-4)] h fun v7 h7 => Q v7 h7)))) :
    CALLI E mM_tasks [.ref 60, .int a1, .int a2, .int a3] h Q := CALL_of rfl (wp_sound [] kk_188 28 hF)
def k_189 : List XI := [(0, .aload_n 0, 1, 0, 0, 0, 0),
  (1, .iload_n 1, 1, 0, 0, 0, 0),
  (2, .invokevirtual 212, 3, 140, 1, 0, 0),
  (5, .ifCond .ne 9, 3, 14, 0, 0, 0),
  (8, .aload_n 0, 1, 0, 0, 0, 0),
  (9, .iconst (-1), 1, 0, 0, (-1), 0),
  (10, .invokevirtual 232, 3, 136, 1, 0, 0),
  (13, .ireturn, 1, 0, 0, 0, 0),
  (14, .aload_n 0, 1, 0, 0, 0, 0),
  (15, .getfield 9, 3, 7, 0, 0, 0),
  (18, .bipush 42, 2, 0, 0, 42, 0),
  (20, .iload_n 1, 1, 0, 0, 0, 0),
  (21, .iadd, 1, 0, 0, 0, 0),
  (22, .iconst 1, 1, 0, 0, 1, 0),
  (23, .aload_n 0, 1, 0, 0, 0, 0),
  (24, .getfield 9, 3, 7, 0, 0, 0),
  (27, .bipush 42, 2, 0, 0, 42, 0),
  (29, .iload_n 1, 1, 0, 0, 0, 0),
  (30, .iadd, 1, 0, 0, 0, 0),
  (31, .iaload, 1, 0, 0, 0, 0),
  (32, .isub, 1, 0, 0, 0, 0),
  (33, .iastore, 1, 0, 0, 0, 0),
  (34, .aload_n 0, 1, 0, 0, 0, 0),
  (35, .getfield 9, 3, 7, 0, 0, 0),
  (38, .bipush 42, 2, 0, 0, 42, 0),
  (40, .iload_n 1, 1, 0, 0, 0, 0),
  (41, .iadd, 1, 0, 0, 0, 0),
  (42, .iaload, 1, 0, 0, 0, 0),
  (43, .ireturn, 1, 0, 0, 0, 0)]
set_option maxRecDepth 100000 in
set_option maxHeartbeats 4000000 in
theorem kk_189 : k_189.all (entOK (mCi 189) (mB 189)) = true := by decide +kernel
set_option maxRecDepth 100000 in
set_option maxHeartbeats 4000000 in
theorem fM_turns {E : XE} {h : Mem} {Q : Int32 → Mem → Prop} {a1 : Int32} 
    (hF : CALLI E mM_isTask [.ref 60, .int a1] h fun v1 h1 => (¬ v1 = 0 → cnd (inb (42 + a1) 73) (cnd (inb (42 + a1) 73) (cnd (inb (42 + a1) 73) (Q ((upd2 h1 61 (ix (42 + a1)) (1 - (h1 61 (ix (42 + a1))))) 61 (ix (42 + a1))) (upd2 h1 61 (ix (42 + a1)) (1 - (h1 61 (ix (42 + a1))))))))) ∧ (v1 = 0 → CALLI E mM_refused [.ref 60, .int (-1)] h1 fun v2 h2 => Q v2 h2)) :
    CALLI E mM_turns [.ref 60, .int a1] h Q := CALL_of rfl (wp_sound [] kk_189 26 hF)
def k_190_0 : List XI := [(0, .aload_n 0, 1, 0, 0, 0, 0),
  (1, .iload_n 2, 1, 0, 0, 0, 0),
  (2, .invokevirtual 212, 3, 140, 1, 0, 0),
  (5, .ifCond .ne 9, 3, 14, 0, 0, 0),
  (8, .aload_n 0, 1, 0, 0, 0, 0),
  (9, .iconst (-1), 1, 0, 0, (-1), 0),
  (10, .invokevirtual 232, 3, 136, 1, 0, 0),
  (13, .ireturn, 1, 0, 0, 0, 0),
  (14, .iload_n 3, 1, 0, 0, 0, 0),
  (15, .i2l, 1, 0, 0, 0, 0),
  (16, .iload 4, 2, 0, 0, 0, 0),
  (18, .i2l, 1, 0, 0, 0, 0),
  (19, .iload 5, 2, 0, 0, 0, 0),
  (21, .i2l, 1, 0, 0, 0, 0),
  (22, .invokestatic 62, 3, 135, 1, 0, 0),
  (25, .ifCond .ne 21, 3, 46, 0, 0, 0),
  (28, .aload_n 0, 1, 0, 0, 0, 0),
  (29, .iload_n 3, 1, 0, 0, 0, 0),
  (30, .iload 4, 2, 0, 0, 0, 0),
  (32, .if_icmp .ge 8, 3, 40, 0, 0, 0),
  (35, .bipush (-4), 2, 0, 0, (-4), 0),
  (37, .goto 5, 3, 42, 0, 0, 0),
  (40, .bipush (-6), 2, 0, 0, (-6), 0),
  (42, .invokevirtual 232, 3, 136, 1, 0, 0),
  (45, .ireturn, 1, 0, 0, 0, 0),
  (46, .aload_n 0, 1, 0, 0, 0, 0),
  (47, .getfield 9, 3, 7, 0, 0, 0),
  (50, .iload_n 1, 1, 0, 0, 0, 0),
  (51, .iload_n 2, 1, 0, 0, 0, 0),
  (52, .iadd, 1, 0, 0, 0, 0)]
set_option maxRecDepth 100000 in
set_option maxHeartbeats 4000000 in
theorem kk_190_0 : k_190_0.all (entOK (mCi 190) (mB 190)) = true := by decide +kernel
def k_190_1 : List XI := [(53, .iaload, 1, 0, 0, 0, 0),
  (54, .istore 6, 2, 0, 0, 0, 0),
  (56, .aload_n 0, 1, 0, 0, 0, 0),
  (57, .getfield 9, 3, 7, 0, 0, 0),
  (60, .iload_n 1, 1, 0, 0, 0, 0),
  (61, .iload_n 2, 1, 0, 0, 0, 0),
  (62, .iadd, 1, 0, 0, 0, 0),
  (63, .iload_n 3, 1, 0, 0, 0, 0),
  (64, .iastore, 1, 0, 0, 0, 0),
  (65, .iload 6, 2, 0, 0, 0, 0),
  (67, .ireturn, 1, 0, 0, 0, 0)]
set_option maxRecDepth 100000 in
set_option maxHeartbeats 4000000 in
theorem kk_190_1 : k_190_1.all (entOK (mCi 190) (mB 190)) = true := by decide +kernel
def k_190 : List XI := k_190_0 ++ (k_190_1)
theorem kk_190 : k_190.all (entOK (mCi 190) (mB 190)) = true := all_app kk_190_0 (kk_190_1)
set_option maxRecDepth 100000 in
set_option maxHeartbeats 4000000 in
theorem fM_laidTo {E : XE} {h : Mem} {Q : Int32 → Mem → Prop} {a1 : Int32} {a2 : Int32} {a3 : Int32} {a4 : Int32} {a5 : Int32} 
    (hF : CALLI E mM_isTask [.ref 60, .int a2] h fun v1 h1 => (¬ v1 = 0 → CALLI E mM_in [.long a3.toInt64, .long a4.toInt64, .long a5.toInt64] h1 fun v2 h2 => (¬ v2 = 0 → cnd (inb (a1 + a2) 73) (cnd (inb (a1 + a2) 73) (Q (h2 61 (ix (a1 + a2))) (upd2 h2 61 (ix (a1 + a2)) a3)))) ∧ (v2 = 0 → (a4 ≤ a3 → CALLI E mM_refused [.ref 60, .int (-6)] h2 fun v3 h3 => Q v3 h3) ∧ (¬ a4 ≤ a3 → CALLI E mM_refused [.ref 60, .int (-4)] h2 fun v4 h4 => Q v4 h4))) ∧ (v1 = 0 → CALLI E mM_refused [.ref 60, .int (-1)] h1 fun v5 h5 => Q v5 h5)) :
    CALLI E mM_laidTo [.ref 60, .int a1, .int a2, .int a3, .int a4, .int a5] h Q := CALL_of rfl (wp_sound [] kk_190 29 hF)
def k_191 : List XI := [(0, .aload_n 0, 1, 0, 0, 0, 0),
  (1, .bipush 18, 2, 0, 0, 18, 0),
  (3, .iload_n 1, 1, 0, 0, 0, 0),
  (4, .iload_n 2, 1, 0, 0, 0, 0),
  (5, .iconst 0, 1, 0, 0, 0, 0),
  (6, .bipush 59, 2, 0, 0, 59, 0),
  (8, .invokevirtual 238, 3, 190, 1, 0, 0),
  (11, .ireturn, 1, 0, 0, 0, 0)]
set_option maxRecDepth 100000 in
set_option maxHeartbeats 4000000 in
theorem kk_191 : k_191.all (entOK (mCi 191) (mB 191)) = true := by decide +kernel
set_option maxRecDepth 100000 in
set_option maxHeartbeats 4000000 in
theorem fM_offset {E : XE} {h : Mem} {Q : Int32 → Mem → Prop} {a1 : Int32} {a2 : Int32} 
    (hF : CALLI E mM_laidTo [.ref 60, .int 18, .int a1, .int a2, .int 0, .int 59] h fun v1 h1 => Q v1 h1) :
    CALLI E mM_offset [.ref 60, .int a1, .int a2] h Q := CALL_of rfl (wp_sound [] kk_191 9 hF)
def k_192 : List XI := [(0, .aload_n 0, 1, 0, 0, 0, 0),
  (1, .bipush 24, 2, 0, 0, 24, 0),
  (3, .iload_n 1, 1, 0, 0, 0, 0),
  (4, .iload_n 2, 1, 0, 0, 0, 0),
  (5, .iconst 0, 1, 0, 0, 0, 0),
  (6, .bipush 9, 2, 0, 0, 9, 0),
  (8, .invokevirtual 238, 3, 190, 1, 0, 0),
  (11, .ireturn, 1, 0, 0, 0, 0)]
set_option maxRecDepth 100000 in
set_option maxHeartbeats 4000000 in
theorem kk_192 : k_192.all (entOK (mCi 192) (mB 192)) = true := by decide +kernel
set_option maxRecDepth 100000 in
set_option maxHeartbeats 4000000 in
theorem fM_rank {E : XE} {h : Mem} {Q : Int32 → Mem → Prop} {a1 : Int32} {a2 : Int32} 
    (hF : CALLI E mM_laidTo [.ref 60, .int 24, .int a1, .int a2, .int 0, .int 9] h fun v1 h1 => Q v1 h1) :
    CALLI E mM_rank [.ref 60, .int a1, .int a2] h Q := CALL_of rfl (wp_sound [] kk_192 9 hF)
def k_193 : List XI := [(0, .aload_n 0, 1, 0, 0, 0, 0),
  (1, .iconst 0, 1, 0, 0, 0, 0),
  (2, .iload_n 1, 1, 0, 0, 0, 0),
  (3, .iload_n 2, 1, 0, 0, 0, 0),
  (4, .iconst 1, 1, 0, 0, 1, 0),
  (5, .bipush 20, 2, 0, 0, 20, 0),
  (7, .invokevirtual 238, 3, 190, 1, 0, 0),
  (10, .ireturn, 1, 0, 0, 0, 0)]
set_option maxRecDepth 100000 in
set_option maxHeartbeats 4000000 in
theorem kk_193 : k_193.all (entOK (mCi 193) (mB 193)) = true := by decide +kernel
set_option maxRecDepth 100000 in
set_option maxHeartbeats 4000000 in
theorem fM_cost {E : XE} {h : Mem} {Q : Int32 → Mem → Prop} {a1 : Int32} {a2 : Int32} 
    (hF : CALLI E mM_laidTo [.ref 60, .int 0, .int a1, .int a2, .int 1, .int 20] h fun v1 h1 => Q v1 h1) :
    CALLI E mM_cost [.ref 60, .int a1, .int a2] h Q := CALL_of rfl (wp_sound [] kk_193 9 hF)
def k_194_0 : List XI := [(0, .aload_n 0, 1, 0, 0, 0, 0),
  (1, .iload_n 1, 1, 0, 0, 0, 0),
  (2, .invokevirtual 212, 3, 140, 1, 0, 0),
  (5, .ifCond .ne 9, 3, 14, 0, 0, 0),
  (8, .aload_n 0, 1, 0, 0, 0, 0),
  (9, .iconst (-1), 1, 0, 0, (-1), 0),
  (10, .invokevirtual 232, 3, 136, 1, 0, 0),
  (13, .ireturn, 1, 0, 0, 0, 0),
  (14, .iload_n 2, 1, 0, 0, 0, 0),
  (15, .i2l, 1, 0, 0, 0, 0),
  (16, .lconst 0, 1, 0, 0, 0, 0),
  (17, .ldc2_w 242, 3, 0, 0, 0, 5),
  (20, .invokestatic 62, 3, 135, 1, 0, 0),
  (23, .ifCond .ne 10, 3, 33, 0, 0, 0),
  (26, .aload_n 0, 1, 0, 0, 0, 0),
  (27, .bipush (-2), 2, 0, 0, (-2), 0),
  (29, .invokevirtual 232, 3, 136, 1, 0, 0),
  (32, .ireturn, 1, 0, 0, 0, 0),
  (33, .iload_n 3, 1, 0, 0, 0, 0),
  (34, .i2l, 1, 0, 0, 0, 0),
  (35, .lconst 0, 1, 0, 0, 0, 0),
  (36, .ldc2_w 244, 3, 0, 0, 0, 9),
  (39, .invokestatic 62, 3, 135, 1, 0, 0),
  (42, .ifCond .ne 19, 3, 61, 0, 0, 0),
  (45, .aload_n 0, 1, 0, 0, 0, 0),
  (46, .iload_n 3, 1, 0, 0, 0, 0),
  (47, .ifCond .ge 8, 3, 55, 0, 0, 0),
  (50, .bipush (-4), 2, 0, 0, (-4), 0),
  (52, .goto 5, 3, 57, 0, 0, 0),
  (55, .bipush (-6), 2, 0, 0, (-6), 0)]
set_option maxRecDepth 100000 in
set_option maxHeartbeats 4000000 in
theorem kk_194_0 : k_194_0.all (entOK (mCi 194) (mB 194)) = true := by decide +kernel
def k_194_1 : List XI := [(57, .invokevirtual 232, 3, 136, 1, 0, 0),
  (60, .ireturn, 1, 0, 0, 0, 0),
  (61, .bipush 10, 2, 0, 0, 10, 0),
  (63, .aload_n 0, 1, 0, 0, 0, 0),
  (64, .getfield 9, 3, 7, 0, 0, 0),
  (67, .bipush 30, 2, 0, 0, 30, 0),
  (69, .iload_n 1, 1, 0, 0, 0, 0),
  (70, .iadd, 1, 0, 0, 0, 0),
  (71, .iaload, 1, 0, 0, 0, 0),
  (72, .imul, 1, 0, 0, 0, 0),
  (73, .aload_n 0, 1, 0, 0, 0, 0),
  (74, .getfield 9, 3, 7, 0, 0, 0),
  (77, .bipush 36, 2, 0, 0, 36, 0),
  (79, .iload_n 1, 1, 0, 0, 0, 0),
  (80, .iadd, 1, 0, 0, 0, 0),
  (81, .iaload, 1, 0, 0, 0, 0),
  (82, .iadd, 1, 0, 0, 0, 0),
  (83, .istore 4, 2, 0, 0, 0, 0),
  (85, .aload_n 0, 1, 0, 0, 0, 0),
  (86, .getfield 9, 3, 7, 0, 0, 0),
  (89, .bipush 30, 2, 0, 0, 30, 0),
  (91, .iload_n 1, 1, 0, 0, 0, 0),
  (92, .iadd, 1, 0, 0, 0, 0),
  (93, .iload_n 2, 1, 0, 0, 0, 0),
  (94, .iastore, 1, 0, 0, 0, 0),
  (95, .aload_n 0, 1, 0, 0, 0, 0),
  (96, .getfield 9, 3, 7, 0, 0, 0),
  (99, .bipush 36, 2, 0, 0, 36, 0),
  (101, .iload_n 1, 1, 0, 0, 0, 0),
  (102, .iadd, 1, 0, 0, 0, 0)]
set_option maxRecDepth 100000 in
set_option maxHeartbeats 4000000 in
theorem kk_194_1 : k_194_1.all (entOK (mCi 194) (mB 194)) = true := by decide +kernel
def k_194_2 : List XI := [(103, .iload_n 3, 1, 0, 0, 0, 0),
  (104, .iastore, 1, 0, 0, 0, 0),
  (105, .iload 4, 2, 0, 0, 0, 0),
  (107, .ireturn, 1, 0, 0, 0, 0)]
set_option maxRecDepth 100000 in
set_option maxHeartbeats 4000000 in
theorem kk_194_2 : k_194_2.all (entOK (mCi 194) (mB 194)) = true := by decide +kernel
def k_194 : List XI := k_194_0 ++ (k_194_1 ++ (k_194_2))
theorem kk_194 : k_194.all (entOK (mCi 194) (mB 194)) = true := all_app kk_194_0 (all_app kk_194_1 (kk_194_2))
set_option maxRecDepth 100000 in
set_option maxHeartbeats 4000000 in
theorem fM_kind {E : XE} {h : Mem} {Q : Int32 → Mem → Prop} {a1 : Int32} {a2 : Int32} {a3 : Int32} 
    (hF : CALLI E mM_isTask [.ref 60, .int a1] h fun v1 h1 => (¬ v1 = 0 → CALLI E mM_in [.long a2.toInt64, .long 0, .long 5] h1 fun v2 h2 => (¬ v2 = 0 → CALLI E mM_in [.long a3.toInt64, .long 0, .long 9] h2 fun v3 h3 => (¬ v3 = 0 → cnd (inb (30 + a1) 73) (cnd (inb (36 + a1) 73) (cnd (inb (30 + a1) 73) (cnd (inb (36 + a1) 73) (Q ((10 * (h3 61 (ix (30 + a1)))) + (h3 61 (ix (36 + a1)))) (upd2 (upd2 h3 61 (ix (30 + a1)) a2) 61 (ix (36 + a1)) a3)))))) ∧ (v3 = 0 → (0 ≤ a3 → CALLI E mM_refused [.ref 60, .int (-6)] h3 fun v4 h4 => Q v4 h4) ∧ (¬ 0 ≤ a3 → CALLI E mM_refused [.ref 60, .int (-4)] h3 fun v5 h5 => Q v5 h5))) ∧ (v2 = 0 → CALLI E mM_refused [.ref 60, .int (-2)] h2 fun v6 h6 => Q v6 h6)) ∧ (v1 = 0 → CALLI E mM_refused [.ref 60, .int (-1)] h1 fun v7 h7 => Q v7 h7)) :
    CALLI E mM_kind [.ref 60, .int a1, .int a2, .int a3] h Q := CALL_of rfl (wp_sound [] kk_194 49 hF)
def k_195 : List XI := [(0, .iload_n 0, 1, 0, 0, 0, 0),
  (1, .i2l, 1, 0, 0, 0, 0),
  (2, .lconst 0, 1, 0, 0, 0, 0),
  (3, .ldc2_w 246, 3, 0, 0, 0, 3),
  (6, .invokestatic 62, 3, 135, 1, 0, 0),
  (9, .ireturn, 1, 0, 0, 0, 0)]
set_option maxRecDepth 100000 in
set_option maxHeartbeats 4000000 in
theorem kk_195 : k_195.all (entOK (mCi 195) (mB 195)) = true := by decide +kernel
set_option maxRecDepth 100000 in
set_option maxHeartbeats 4000000 in
theorem fM_isLock {E : XE} {h : Mem} {Q : Int32 → Mem → Prop} {a1 : Int32} 
    (hF : CALLI E mM_in [.long a1.toInt64, .long 0, .long 3] h fun v1 h1 => cnd (nb v1) (Q v1 h1)) :
    CALLI E mM_isLock [.int a1] h Q := CALL_of rfl (wp_sound [] kk_195 7 hF)
def k_196 : List XI := [(0, .aload_n 0, 1, 0, 0, 0, 0),
  (1, .iload_n 1, 1, 0, 0, 0, 0),
  (2, .invokevirtual 212, 3, 140, 1, 0, 0),
  (5, .ifCond .eq 10, 3, 15, 0, 0, 0),
  (8, .iload_n 2, 1, 0, 0, 0, 0),
  (9, .invokestatic 248, 3, 195, 1, 0, 0),
  (12, .ifCond .ne 9, 3, 21, 0, 0, 0),
  (15, .aload_n 0, 1, 0, 0, 0, 0),
  (16, .iconst (-1), 1, 0, 0, (-1), 0),
  (17, .invokevirtual 232, 3, 136, 1, 0, 0),
  (20, .ireturn, 1, 0, 0, 0, 0),
  (21, .aload_n 0, 1, 0, 0, 0, 0),
  (22, .bipush 48, 2, 0, 0, 48, 0),
  (24, .iconst 3, 1, 0, 0, 3, 0),
  (25, .iload_n 1, 1, 0, 0, 0, 0),
  (26, .imul, 1, 0, 0, 0, 0),
  (27, .iadd, 1, 0, 0, 0, 0),
  (28, .iload_n 2, 1, 0, 0, 0, 0),
  (29, .iadd, 1, 0, 0, 0, 0),
  (30, .iload_n 1, 1, 0, 0, 0, 0),
  (31, .iload_n 3, 1, 0, 0, 0, 0),
  (32, .iconst 0, 1, 0, 0, 0, 0),
  (33, .bipush 9, 2, 0, 0, 9, 0),
  (35, .invokevirtual 238, 3, 190, 1, 0, 0),
  (38, .ireturn, 1, 0, 0, 0, 0)]
set_option maxRecDepth 100000 in
set_option maxHeartbeats 4000000 in
theorem kk_196 : k_196.all (entOK (mCi 196) (mB 196)) = true := by decide +kernel
set_option maxRecDepth 100000 in
set_option maxHeartbeats 4000000 in
theorem fM_holds {E : XE} {h : Mem} {Q : Int32 → Mem → Prop} {a1 : Int32} {a2 : Int32} {a3 : Int32} 
    (hF : CALLI E mM_isTask [.ref 60, .int a1] h fun v1 h1 => (v1 = 0 → CALLI E mM_refused [.ref 60, .int (-1)] h1 fun v2 h2 => Q v2 h2) ∧ (¬ v1 = 0 → CALLI E mM_isLock [.int a2] h1 fun v3 h3 => (¬ v3 = 0 → CALLI E mM_laidTo [.ref 60, .int ((48 + (3 * a1)) + a2), .int a1, .int a3, .int 0, .int 9] h3 fun v4 h4 => Q v4 h4) ∧ (v3 = 0 → CALLI E mM_refused [.ref 60, .int (-1)] h3 fun v5 h5 => Q v5 h5))) :
    CALLI E mM_holds [.ref 60, .int a1, .int a2, .int a3] h Q := CALL_of rfl (wp_sound [] kk_196 22 hF)
def k_197_0 : List XI := [(0, .aload_n 0, 1, 0, 0, 0, 0),
  (1, .iload_n 1, 1, 0, 0, 0, 0),
  (2, .invokevirtual 212, 3, 140, 1, 0, 0),
  (5, .ifCond .ne 9, 3, 14, 0, 0, 0),
  (8, .aload_n 0, 1, 0, 0, 0, 0),
  (9, .iconst (-1), 1, 0, 0, (-1), 0),
  (10, .invokevirtual 232, 3, 136, 1, 0, 0),
  (13, .ireturn, 1, 0, 0, 0, 0),
  (14, .iload_n 2, 1, 0, 0, 0, 0),
  (15, .tableswitch 87 0 10 #[57, 57, 57, 57, 57, 57, 57, 57, 69, 75, 81], 57, 0, 0, 0, 0),
  (72, .aload_n 0, 1, 0, 0, 0, 0),
  (73, .getfield 9, 3, 7, 0, 0, 0),
  (76, .bipush 6, 2, 0, 0, 6, 0),
  (78, .iload_n 2, 1, 0, 0, 0, 0),
  (79, .imul, 1, 0, 0, 0, 0),
  (80, .iload_n 1, 1, 0, 0, 0, 0),
  (81, .iadd, 1, 0, 0, 0, 0),
  (82, .iaload, 1, 0, 0, 0, 0),
  (83, .ireturn, 1, 0, 0, 0, 0),
  (84, .aload_n 0, 1, 0, 0, 0, 0),
  (85, .iload_n 1, 1, 0, 0, 0, 0),
  (86, .invokevirtual 79, 3, 143, 1, 0, 0),
  (89, .ireturn, 1, 0, 0, 0, 0),
  (90, .aload_n 0, 1, 0, 0, 0, 0),
  (91, .iload_n 1, 1, 0, 0, 0, 0),
  (92, .invokevirtual 75, 3, 144, 1, 0, 0),
  (95, .ireturn, 1, 0, 0, 0, 0),
  (96, .aload_n 0, 1, 0, 0, 0, 0),
  (97, .iload_n 1, 1, 0, 0, 0, 0),
  (98, .invokevirtual 85, 3, 145, 1, 0, 0)]
set_option maxRecDepth 100000 in
set_option maxHeartbeats 4000000 in
theorem kk_197_0 : k_197_0.all (entOK (mCi 197) (mB 197)) = true := by decide +kernel
def k_197_1 : List XI := [(101, .ireturn, 1, 0, 0, 0, 0),
  (102, .aload_n 0, 1, 0, 0, 0, 0),
  (103, .bipush (-2), 2, 0, 0, (-2), 0),
  (105, .invokevirtual 232, 3, 136, 1, 0, 0),
  (108, .ireturn, 1, 0, 0, 0, 0)]
set_option maxRecDepth 100000 in
set_option maxHeartbeats 4000000 in
theorem kk_197_1 : k_197_1.all (entOK (mCi 197) (mB 197)) = true := by decide +kernel
def k_197 : List XI := k_197_0 ++ (k_197_1)
theorem kk_197 : k_197.all (entOK (mCi 197) (mB 197)) = true := all_app kk_197_0 (kk_197_1)
set_option maxRecDepth 100000 in
set_option maxHeartbeats 4000000 in
theorem fM_task {E : XE} {h : Mem} {Q : Int32 → Mem → Prop} {a1 : Int32} {a2 : Int32} 
    (hF : CALLI E mM_isTask [.ref 60, .int a1] h fun v1 h1 => (¬ v1 = 0 → (a2 = Int32.ofInt 0 → cnd (inb ((6 * a2) + a1) 73) (Q (h1 61 (ix ((6 * a2) + a1))) h1)) ∧ (¬ a2 = Int32.ofInt 0 → (a2 = Int32.ofInt 1 → cnd (inb ((6 * a2) + a1) 73) (Q (h1 61 (ix ((6 * a2) + a1))) h1)) ∧ (¬ a2 = Int32.ofInt 1 → (a2 = Int32.ofInt 2 → cnd (inb ((6 * a2) + a1) 73) (Q (h1 61 (ix ((6 * a2) + a1))) h1)) ∧ (¬ a2 = Int32.ofInt 2 → (a2 = Int32.ofInt 3 → cnd (inb ((6 * a2) + a1) 73) (Q (h1 61 (ix ((6 * a2) + a1))) h1)) ∧ (¬ a2 = Int32.ofInt 3 → (a2 = Int32.ofInt 4 → cnd (inb ((6 * a2) + a1) 73) (Q (h1 61 (ix ((6 * a2) + a1))) h1)) ∧ (¬ a2 = Int32.ofInt 4 → (a2 = Int32.ofInt 5 → cnd (inb ((6 * a2) + a1) 73) (Q (h1 61 (ix ((6 * a2) + a1))) h1)) ∧ (¬ a2 = Int32.ofInt 5 → (a2 = Int32.ofInt 6 → cnd (inb ((6 * a2) + a1) 73) (Q (h1 61 (ix ((6 * a2) + a1))) h1)) ∧ (¬ a2 = Int32.ofInt 6 → (a2 = Int32.ofInt 7 → cnd (inb ((6 * a2) + a1) 73) (Q (h1 61 (ix ((6 * a2) + a1))) h1)) ∧ (¬ a2 = Int32.ofInt 7 → (a2 = Int32.ofInt 8 → CALLI E mM_distance [.ref 60, .int a1] h1 fun v5 h5 => Q v5 h5) ∧ (¬ a2 = Int32.ofInt 8 → (a2 = Int32.ofInt 9 → CALLI E mM_late [.ref 60, .int a1] h1 fun v4 h4 => Q v4 h4) ∧ (¬ a2 = Int32.ofInt 9 → (a2 = Int32.ofInt 10 → CALLI E mM_limit [.ref 60, .int a1] h1 fun v3 h3 => Q v3 h3) ∧ (¬ a2 = Int32.ofInt 10 → CALLI E mM_refused [.ref 60, .int (-2)] h1 fun v2 h2 => Q v2 h2)))))))))))) ∧ (v1 = 0 → CALLI E mM_refused [.ref 60, .int (-1)] h1 fun v6 h6 => Q v6 h6)) :
    CALLI E mM_task [.ref 60, .int a1, .int a2] h Q := CALL_of rfl (wp_sound [] kk_197 16 hF)
def k_198 : List XI := [(0, .iload_n 1, 1, 0, 0, 0, 0),
  (1, .i2l, 1, 0, 0, 0, 0),
  (2, .lconst 0, 1, 0, 0, 0, 0),
  (3, .ldc2_w 251, 3, 0, 0, 0, 600),
  (6, .invokestatic 62, 3, 135, 1, 0, 0),
  (9, .ifCond .eq 7, 3, 16, 0, 0, 0),
  (12, .iconst 0, 1, 0, 0, 0, 0),
  (13, .goto 18, 3, 31, 0, 0, 0),
  (16, .aload_n 0, 1, 0, 0, 0, 0),
  (17, .iload_n 1, 1, 0, 0, 0, 0),
  (18, .ifCond .ge 8, 3, 26, 0, 0, 0),
  (21, .bipush (-4), 2, 0, 0, (-4), 0),
  (23, .goto 5, 3, 28, 0, 0, 0),
  (26, .bipush (-6), 2, 0, 0, (-6), 0),
  (28, .invokevirtual 232, 3, 136, 1, 0, 0),
  (31, .ireturn, 1, 0, 0, 0, 0)]
set_option maxRecDepth 100000 in
set_option maxHeartbeats 4000000 in
theorem kk_198 : k_198.all (entOK (mCi 198) (mB 198)) = true := by decide +kernel
set_option maxRecDepth 100000 in
set_option maxHeartbeats 4000000 in
theorem fM_wrongTime {E : XE} {h : Mem} {Q : Int32 → Mem → Prop} {a1 : Int32} 
    (hF : CALLI E mM_in [.long a1.toInt64, .long 0, .long 600] h fun v1 h1 => (v1 = 0 → (0 ≤ a1 → CALLI E mM_refused [.ref 60, .int (-6)] h1 fun v2 h2 => Q v2 h2) ∧ (¬ 0 ≤ a1 → CALLI E mM_refused [.ref 60, .int (-4)] h1 fun v3 h3 => Q v3 h3)) ∧ (¬ v1 = 0 → Q 0 h1)) :
    CALLI E mM_wrongTime [.ref 60, .int a1] h Q := CALL_of rfl (wp_sound [] kk_198 14 hF)
def k_199 : List XI := [(0, .aload_n 0, 1, 0, 0, 0, 0),
  (1, .iload_n 1, 1, 0, 0, 0, 0),
  (2, .invokevirtual 212, 3, 140, 1, 0, 0),
  (5, .ifCond .eq 11, 3, 16, 0, 0, 0),
  (8, .aload_n 0, 1, 0, 0, 0, 0),
  (9, .iload_n 2, 1, 0, 0, 0, 0),
  (10, .invokevirtual 253, 3, 198, 1, 0, 0),
  (13, .goto 8, 3, 21, 0, 0, 0),
  (16, .aload_n 0, 1, 0, 0, 0, 0),
  (17, .iconst (-1), 1, 0, 0, (-1), 0),
  (18, .invokevirtual 232, 3, 136, 1, 0, 0),
  (21, .istore_n 3, 1, 0, 0, 0, 0),
  (22, .iload_n 3, 1, 0, 0, 0, 0),
  (23, .ifCond .ge 7, 3, 30, 0, 0, 0),
  (26, .iload_n 3, 1, 0, 0, 0, 0),
  (27, .goto 9, 3, 36, 0, 0, 0),
  (30, .aload_n 0, 1, 0, 0, 0, 0),
  (31, .iload_n 1, 1, 0, 0, 0, 0),
  (32, .iload_n 2, 1, 0, 0, 0, 0),
  (33, .invokevirtual 95, 3, 147, 1, 0, 0),
  (36, .ireturn, 1, 0, 0, 0, 0)]
set_option maxRecDepth 100000 in
set_option maxHeartbeats 4000000 in
theorem kk_199 : k_199.all (entOK (mCi 199) (mB 199)) = true := by decide +kernel
set_option maxRecDepth 100000 in
set_option maxHeartbeats 4000000 in
theorem fM_asked {E : XE} {h : Mem} {Q : Int32 → Mem → Prop} {a1 : Int32} {a2 : Int32} 
    (hF : CALLI E mM_isTask [.ref 60, .int a1] h fun v1 h1 => (v1 = 0 → CALLI E mM_refused [.ref 60, .int (-1)] h1 fun v2 h2 => (0 ≤ v2 → CALLI E mM_askedOf [.ref 60, .int a1, .int a2] h2 fun v3 h3 => Q v3 h3) ∧ (¬ 0 ≤ v2 → Q v2 h2)) ∧ (¬ v1 = 0 → CALLI E mM_wrongTime [.ref 60, .int a2] h1 fun v4 h4 => (0 ≤ v4 → CALLI E mM_askedOf [.ref 60, .int a1, .int a2] h4 fun v5 h5 => Q v5 h5) ∧ (¬ 0 ≤ v4 → Q v4 h4))) :
    CALLI E mM_asked [.ref 60, .int a1, .int a2] h Q := CALL_of rfl (wp_sound [] kk_199 17 hF)
def k_200 : List XI := [(0, .aload_n 0, 1, 0, 0, 0, 0),
  (1, .iload_n 1, 1, 0, 0, 0, 0),
  (2, .invokevirtual 212, 3, 140, 1, 0, 0),
  (5, .ifCond .eq 11, 3, 16, 0, 0, 0),
  (8, .aload_n 0, 1, 0, 0, 0, 0),
  (9, .iload_n 2, 1, 0, 0, 0, 0),
  (10, .invokevirtual 253, 3, 198, 1, 0, 0),
  (13, .goto 8, 3, 21, 0, 0, 0),
  (16, .aload_n 0, 1, 0, 0, 0, 0),
  (17, .iconst (-1), 1, 0, 0, (-1), 0),
  (18, .invokevirtual 232, 3, 136, 1, 0, 0),
  (21, .istore_n 3, 1, 0, 0, 0, 0),
  (22, .iload_n 3, 1, 0, 0, 0, 0),
  (23, .ifCond .ge 7, 3, 30, 0, 0, 0),
  (26, .iload_n 3, 1, 0, 0, 0, 0),
  (27, .goto 9, 3, 36, 0, 0, 0),
  (30, .aload_n 0, 1, 0, 0, 0, 0),
  (31, .iload_n 1, 1, 0, 0, 0, 0),
  (32, .iload_n 2, 1, 0, 0, 0, 0),
  (33, .invokevirtual 92, 3, 148, 1, 0, 0),
  (36, .ireturn, 1, 0, 0, 0, 0)]
set_option maxRecDepth 100000 in
set_option maxHeartbeats 4000000 in
theorem kk_200 : k_200.all (entOK (mCi 200) (mB 200)) = true := by decide +kernel
set_option maxRecDepth 100000 in
set_option maxHeartbeats 4000000 in
theorem fM_owed {E : XE} {h : Mem} {Q : Int32 → Mem → Prop} {a1 : Int32} {a2 : Int32} 
    (hF : CALLI E mM_isTask [.ref 60, .int a1] h fun v1 h1 => (v1 = 0 → CALLI E mM_refused [.ref 60, .int (-1)] h1 fun v2 h2 => (0 ≤ v2 → CALLI E mM_owedOf [.ref 60, .int a1, .int a2] h2 fun v3 h3 => Q v3 h3) ∧ (¬ 0 ≤ v2 → Q v2 h2)) ∧ (¬ v1 = 0 → CALLI E mM_wrongTime [.ref 60, .int a2] h1 fun v4 h4 => (0 ≤ v4 → CALLI E mM_owedOf [.ref 60, .int a1, .int a2] h4 fun v5 h5 => Q v5 h5) ∧ (¬ 0 ≤ v4 → Q v4 h4))) :
    CALLI E mM_owed [.ref 60, .int a1, .int a2] h Q := CALL_of rfl (wp_sound [] kk_200 17 hF)
def k_201 : List XI := [(0, .aload_n 0, 1, 0, 0, 0, 0),
  (1, .iload_n 1, 1, 0, 0, 0, 0),
  (2, .invokevirtual 253, 3, 198, 1, 0, 0),
  (5, .istore_n 2, 1, 0, 0, 0, 0),
  (6, .iload_n 2, 1, 0, 0, 0, 0),
  (7, .ifCond .ge 7, 3, 14, 0, 0, 0),
  (10, .iload_n 2, 1, 0, 0, 0, 0),
  (11, .goto 8, 3, 19, 0, 0, 0),
  (14, .aload_n 0, 1, 0, 0, 0, 0),
  (15, .iload_n 1, 1, 0, 0, 0, 0),
  (16, .invokevirtual 115, 3, 149, 1, 0, 0),
  (19, .ireturn, 1, 0, 0, 0, 0)]
set_option maxRecDepth 100000 in
set_option maxHeartbeats 4000000 in
theorem kk_201 : k_201.all (entOK (mCi 201) (mB 201)) = true := by decide +kernel
set_option maxRecDepth 100000 in
set_option maxHeartbeats 4000000 in
theorem fM_demand {E : XE} {h : Mem} {Q : Int32 → Mem → Prop} {a1 : Int32} 
    (hF : CALLI E mM_wrongTime [.ref 60, .int a1] h fun v1 h1 => (0 ≤ v1 → CALLI E mM_demandOf [.ref 60, .int a1] h1 fun v2 h2 => Q v2 h2) ∧ (¬ 0 ≤ v1 → Q v1 h1)) :
    CALLI E mM_demand [.ref 60, .int a1] h Q := CALL_of rfl (wp_sound [] kk_201 11 hF)
def k_202 : List XI := [(0, .aload_n 0, 1, 0, 0, 0, 0),
  (1, .invokevirtual 101, 3, 151, 1, 0, 0),
  (4, .ireturn, 1, 0, 0, 0, 0)]
set_option maxRecDepth 100000 in
set_option maxHeartbeats 4000000 in
theorem kk_202 : k_202.all (entOK (mCi 202) (mB 202)) = true := by decide +kernel
set_option maxRecDepth 100000 in
set_option maxHeartbeats 4000000 in
theorem fM_busy {E : XE} {h : Mem} {Q : Int32 → Mem → Prop}  
    (hF : CALLI E mM_busyOf [.ref 60] h fun v1 h1 => Q v1 h1) :
    CALLI E mM_busy [.ref 60] h Q := CALL_of rfl (wp_sound [] kk_202 4 hF)
def k_203 : List XI := [(0, .iload_n 1, 1, 0, 0, 0, 0),
  (1, .iconst (-1), 1, 0, 0, (-1), 0),
  (2, .if_icmp .ge 10, 3, 12, 0, 0, 0),
  (5, .aload_n 0, 1, 0, 0, 0, 0),
  (6, .bipush (-4), 2, 0, 0, (-4), 0),
  (8, .invokevirtual 232, 3, 136, 1, 0, 0),
  (11, .ireturn, 1, 0, 0, 0, 0),
  (12, .aload_n 0, 1, 0, 0, 0, 0),
  (13, .invokevirtual 118, 3, 152, 0, 0, 0),
  (16, .iload_n 1, 1, 0, 0, 0, 0),
  (17, .ifCond .ge 10, 3, 27, 0, 0, 0),
  (20, .aload_n 0, 1, 0, 0, 0, 0),
  (21, .getfield 105, 3, 7, 10, 0, 0),
  (24, .goto 22, 3, 46, 0, 0, 0),
  (27, .iload_n 1, 1, 0, 0, 0, 0),
  (28, .aload_n 0, 1, 0, 0, 0, 0),
  (29, .getfield 105, 3, 7, 10, 0, 0),
  (32, .if_icmp .ge 12, 3, 44, 0, 0, 0),
  (35, .aload_n 0, 1, 0, 0, 0, 0),
  (36, .getfield 28, 3, 7, 9, 0, 0),
  (39, .iload_n 1, 1, 0, 0, 0, 0),
  (40, .iaload, 1, 0, 0, 0, 0),
  (41, .goto 5, 3, 46, 0, 0, 0),
  (44, .bipush (-9), 2, 0, 0, (-9), 0),
  (46, .ireturn, 1, 0, 0, 0, 0)]
set_option maxRecDepth 100000 in
set_option maxHeartbeats 4000000 in
theorem kk_203 : k_203.all (entOK (mCi 203) (mB 203)) = true := by decide +kernel
set_option maxRecDepth 100000 in
set_option maxHeartbeats 4000000 in
theorem fM_point {E : XE} {h : Mem} {Q : Int32 → Mem → Prop} {a1 : Int32} 
    (hF : ((-1) ≤ a1 → CALLV E mM_findsPoints [.ref 60] h fun h1 => (0 ≤ a1 → ((h1 60 10) ≤ a1 → Q (-9) h1) ∧ (¬ (h1 60 10) ≤ a1 → cnd (inb a1 600) (Q (h1 67 (ix a1)) h1))) ∧ (¬ 0 ≤ a1 → Q (h1 60 10) h1)) ∧ (¬ (-1) ≤ a1 → CALLI E mM_refused [.ref 60, .int (-4)] h fun v2 h2 => Q v2 h2)) :
    CALLI E mM_point [.ref 60, .int a1] h Q := CALL_of rfl (wp_sound [] kk_203 18 hF)
def k_204 : List XI := [(0, .aload_n 0, 1, 0, 0, 0, 0),
  (1, .invokevirtual 118, 3, 152, 0, 0, 0),
  (4, .aload_n 0, 1, 0, 0, 0, 0),
  (5, .getfield 109, 3, 7, 11, 0, 0),
  (8, .ireturn, 1, 0, 0, 0, 0)]
set_option maxRecDepth 100000 in
set_option maxHeartbeats 4000000 in
theorem kk_204 : k_204.all (entOK (mCi 204) (mB 204)) = true := by decide +kernel
set_option maxRecDepth 100000 in
set_option maxHeartbeats 4000000 in
theorem fM_miss {E : XE} {h : Mem} {Q : Int32 → Mem → Prop}  
    (hF : CALLV E mM_findsPoints [.ref 60] h fun h1 => Q (h1 60 11) h1) :
    CALLI E mM_miss [.ref 60] h Q := CALL_of rfl (wp_sound [] kk_204 6 hF)
def k_205 : List XI := [(0, .aload_n 0, 1, 0, 0, 0, 0),
  (1, .invokevirtual 118, 3, 152, 0, 0, 0),
  (4, .aload_n 0, 1, 0, 0, 0, 0),
  (5, .getfield 112, 3, 7, 12, 0, 0),
  (8, .ireturn, 1, 0, 0, 0, 0)]
set_option maxRecDepth 100000 in
set_option maxHeartbeats 4000000 in
theorem kk_205 : k_205.all (entOK (mCi 205) (mB 205)) = true := by decide +kernel
set_option maxRecDepth 100000 in
set_option maxHeartbeats 4000000 in
theorem fM_spare {E : XE} {h : Mem} {Q : Int32 → Mem → Prop}  
    (hF : CALLV E mM_findsPoints [.ref 60] h fun h1 => Q (h1 60 12) h1) :
    CALLI E mM_spare [.ref 60] h Q := CALL_of rfl (wp_sound [] kk_205 6 hF)
def k_206 : List XI := [(0, .iload_n 0, 1, 0, 0, 0, 0),
  (1, .i2l, 1, 0, 0, 0, 0),
  (2, .lconst 0, 1, 0, 0, 0, 0),
  (3, .ldc2_w 202, 3, 0, 0, 0, 2),
  (6, .invokestatic 62, 3, 135, 1, 0, 0),
  (9, .ireturn, 1, 0, 0, 0, 0)]
set_option maxRecDepth 100000 in
set_option maxHeartbeats 4000000 in
theorem kk_206 : k_206.all (entOK (mCi 206) (mB 206)) = true := by decide +kernel
set_option maxRecDepth 100000 in
set_option maxHeartbeats 4000000 in
theorem fM_isOrder {E : XE} {h : Mem} {Q : Int32 → Mem → Prop} {a1 : Int32} 
    (hF : CALLI E mM_in [.long a1.toInt64, .long 0, .long 2] h fun v1 h1 => cnd (nb v1) (Q v1 h1)) :
    CALLI E mM_isOrder [.int a1] h Q := CALL_of rfl (wp_sound [] kk_206 7 hF)
def k_207 : List XI := [(0, .iload_n 1, 1, 0, 0, 0, 0),
  (1, .invokestatic 256, 3, 206, 1, 0, 0),
  (4, .ifCond .ne 10, 3, 14, 0, 0, 0),
  (7, .aload_n 0, 1, 0, 0, 0, 0),
  (8, .bipush (-2), 2, 0, 0, (-2), 0),
  (10, .invokevirtual 232, 3, 136, 1, 0, 0),
  (13, .ireturn, 1, 0, 0, 0, 0),
  (14, .iload_n 2, 1, 0, 0, 0, 0),
  (15, .ifCond .ge 10, 3, 25, 0, 0, 0),
  (18, .aload_n 0, 1, 0, 0, 0, 0),
  (19, .bipush (-4), 2, 0, 0, (-4), 0),
  (21, .invokevirtual 232, 3, 136, 1, 0, 0),
  (24, .ireturn, 1, 0, 0, 0, 0),
  (25, .aload_n 0, 1, 0, 0, 0, 0),
  (26, .iload_n 1, 1, 0, 0, 0, 0),
  (27, .invokevirtual 128, 3, 155, 0, 0, 0),
  (30, .iload_n 2, 1, 0, 0, 0, 0),
  (31, .aload_n 0, 1, 0, 0, 0, 0),
  (32, .getfield 121, 3, 7, 14, 0, 0),
  (35, .if_icmp .ge 12, 3, 47, 0, 0, 0),
  (38, .aload_n 0, 1, 0, 0, 0, 0),
  (39, .getfield 31, 3, 7, 13, 0, 0),
  (42, .iload_n 2, 1, 0, 0, 0, 0),
  (43, .iaload, 1, 0, 0, 0, 0),
  (44, .goto 5, 3, 49, 0, 0, 0),
  (47, .bipush (-9), 2, 0, 0, (-9), 0),
  (49, .ireturn, 1, 0, 0, 0, 0)]
set_option maxRecDepth 100000 in
set_option maxHeartbeats 4000000 in
theorem kk_207 : k_207.all (entOK (mCi 207) (mB 207)) = true := by decide +kernel
set_option maxRecDepth 100000 in
set_option maxHeartbeats 4000000 in
theorem fM_order {E : XE} {h : Mem} {Q : Int32 → Mem → Prop} {a1 : Int32} {a2 : Int32} 
    (hF : CALLI E mM_isOrder [.int a1] h fun v1 h1 => (¬ v1 = 0 → (0 ≤ a2 → CALLV E mM_lines [.ref 60, .int a1] h1 fun h2 => ((h2 60 14) ≤ a2 → Q (-9) h2) ∧ (¬ (h2 60 14) ≤ a2 → cnd (inb a2 6) (Q (h2 68 (ix a2)) h2))) ∧ (¬ 0 ≤ a2 → CALLI E mM_refused [.ref 60, .int (-4)] h1 fun v3 h3 => Q v3 h3)) ∧ (v1 = 0 → CALLI E mM_refused [.ref 60, .int (-2)] h1 fun v4 h4 => Q v4 h4)) :
    CALLI E mM_order [.ref 60, .int a1, .int a2] h Q := CALL_of rfl (wp_sound [] kk_207 19 hF)
def k_208 : List XI := [(0, .iload_n 1, 1, 0, 0, 0, 0),
  (1, .invokestatic 256, 3, 206, 1, 0, 0),
  (4, .ifCond .ne 10, 3, 14, 0, 0, 0),
  (7, .aload_n 0, 1, 0, 0, 0, 0),
  (8, .bipush (-2), 2, 0, 0, (-2), 0),
  (10, .invokevirtual 232, 3, 136, 1, 0, 0),
  (13, .ireturn, 1, 0, 0, 0, 0),
  (14, .iload_n 2, 1, 0, 0, 0, 0),
  (15, .invokestatic 248, 3, 195, 1, 0, 0),
  (18, .ifCond .eq 12, 3, 30, 0, 0, 0),
  (21, .aload_n 0, 1, 0, 0, 0, 0),
  (22, .iload_n 2, 1, 0, 0, 0, 0),
  (23, .iload_n 1, 1, 0, 0, 0, 0),
  (24, .invokevirtual 259, 3, 159, 1, 0, 0),
  (27, .goto 8, 3, 35, 0, 0, 0),
  (30, .aload_n 0, 1, 0, 0, 0, 0),
  (31, .iconst (-1), 1, 0, 0, (-1), 0),
  (32, .invokevirtual 232, 3, 136, 1, 0, 0),
  (35, .ireturn, 1, 0, 0, 0, 0)]
set_option maxRecDepth 100000 in
set_option maxHeartbeats 4000000 in
theorem kk_208 : k_208.all (entOK (mCi 208) (mB 208)) = true := by decide +kernel
set_option maxRecDepth 100000 in
set_option maxHeartbeats 4000000 in
theorem fM_ceiling {E : XE} {h : Mem} {Q : Int32 → Mem → Prop} {a1 : Int32} {a2 : Int32} 
    (hF : CALLI E mM_isOrder [.int a1] h fun v1 h1 => (¬ v1 = 0 → CALLI E mM_isLock [.int a2] h1 fun v2 h2 => (v2 = 0 → CALLI E mM_refused [.ref 60, .int (-1)] h2 fun v3 h3 => Q v3 h3) ∧ (¬ v2 = 0 → CALLI E mM_ceilingOf [.ref 60, .int a2, .int a1] h2 fun v4 h4 => Q v4 h4)) ∧ (v1 = 0 → CALLI E mM_refused [.ref 60, .int (-2)] h1 fun v5 h5 => Q v5 h5)) :
    CALLI E mM_ceiling [.ref 60, .int a1, .int a2] h Q := CALL_of rfl (wp_sound [] kk_208 13 hF)
def k_209 : List XI := [(0, .iload_n 1, 1, 0, 0, 0, 0),
  (1, .invokestatic 256, 3, 206, 1, 0, 0),
  (4, .ifCond .ne 10, 3, 14, 0, 0, 0),
  (7, .aload_n 0, 1, 0, 0, 0, 0),
  (8, .bipush (-2), 2, 0, 0, (-2), 0),
  (10, .invokevirtual 232, 3, 136, 1, 0, 0),
  (13, .ireturn, 1, 0, 0, 0, 0),
  (14, .aload_n 0, 1, 0, 0, 0, 0),
  (15, .iload_n 2, 1, 0, 0, 0, 0),
  (16, .invokevirtual 212, 3, 140, 1, 0, 0),
  (19, .ifCond .ne 9, 3, 28, 0, 0, 0),
  (22, .aload_n 0, 1, 0, 0, 0, 0),
  (23, .iconst (-1), 1, 0, 0, (-1), 0),
  (24, .invokevirtual 232, 3, 136, 1, 0, 0),
  (27, .ireturn, 1, 0, 0, 0, 0),
  (28, .aload_n 0, 1, 0, 0, 0, 0),
  (29, .iload_n 2, 1, 0, 0, 0, 0),
  (30, .invokevirtual 88, 3, 141, 1, 0, 0),
  (33, .ifCond .eq 7, 3, 40, 0, 0, 0),
  (36, .iconst 0, 1, 0, 0, 0, 0),
  (37, .goto 9, 3, 46, 0, 0, 0),
  (40, .aload_n 0, 1, 0, 0, 0, 0),
  (41, .bipush (-3), 2, 0, 0, (-3), 0),
  (43, .invokevirtual 232, 3, 136, 1, 0, 0),
  (46, .ireturn, 1, 0, 0, 0, 0)]
set_option maxRecDepth 100000 in
set_option maxHeartbeats 4000000 in
theorem kk_209 : k_209.all (entOK (mCi 209) (mB 209)) = true := by decide +kernel
set_option maxRecDepth 100000 in
set_option maxHeartbeats 4000000 in
theorem fM_wrongIn {E : XE} {h : Mem} {Q : Int32 → Mem → Prop} {a1 : Int32} {a2 : Int32} 
    (hF : CALLI E mM_isOrder [.int a1] h fun v1 h1 => (¬ v1 = 0 → CALLI E mM_isTask [.ref 60, .int a2] h1 fun v2 h2 => (¬ v2 = 0 → CALLI E mM_isOn [.ref 60, .int a2] h2 fun v3 h3 => (v3 = 0 → CALLI E mM_refused [.ref 60, .int (-3)] h3 fun v4 h4 => Q v4 h4) ∧ (¬ v3 = 0 → Q 0 h3)) ∧ (v2 = 0 → CALLI E mM_refused [.ref 60, .int (-1)] h2 fun v5 h5 => Q v5 h5)) ∧ (v1 = 0 → CALLI E mM_refused [.ref 60, .int (-2)] h1 fun v6 h6 => Q v6 h6)) :
    CALLI E mM_wrongIn [.ref 60, .int a1, .int a2] h Q := CALL_of rfl (wp_sound [] kk_209 16 hF)
def k_210 : List XI := [(0, .aload_n 0, 1, 0, 0, 0, 0),
  (1, .iload_n 1, 1, 0, 0, 0, 0),
  (2, .iload_n 2, 1, 0, 0, 0, 0),
  (3, .invokevirtual 262, 3, 209, 1, 0, 0),
  (6, .istore_n 3, 1, 0, 0, 0, 0),
  (7, .iload_n 3, 1, 0, 0, 0, 0),
  (8, .ifCond .ge 5, 3, 13, 0, 0, 0),
  (11, .iload_n 3, 1, 0, 0, 0, 0),
  (12, .ireturn, 1, 0, 0, 0, 0),
  (13, .aload_n 0, 1, 0, 0, 0, 0),
  (14, .iload_n 2, 1, 0, 0, 0, 0),
  (15, .iload_n 1, 1, 0, 0, 0, 0),
  (16, .invokevirtual 149, 3, 156, 1, 0, 0),
  (19, .istore 4, 2, 0, 0, 0, 0),
  (21, .aload_n 0, 1, 0, 0, 0, 0),
  (22, .iload_n 2, 1, 0, 0, 0, 0),
  (23, .iload 4, 2, 0, 0, 0, 0),
  (25, .aload_n 0, 1, 0, 0, 0, 0),
  (26, .iload_n 2, 1, 0, 0, 0, 0),
  (27, .iload 4, 2, 0, 0, 0, 0),
  (29, .invokevirtual 152, 3, 162, 1, 0, 0),
  (32, .invokevirtual 139, 3, 160, 1, 0, 0),
  (35, .ireturn, 1, 0, 0, 0, 0)]
set_option maxRecDepth 100000 in
set_option maxHeartbeats 4000000 in
theorem kk_210 : k_210.all (entOK (mCi 210) (mB 210)) = true := by decide +kernel
set_option maxRecDepth 100000 in
set_option maxHeartbeats 4000000 in
theorem fM_blocking {E : XE} {h : Mem} {Q : Int32 → Mem → Prop} {a1 : Int32} {a2 : Int32} 
    (hF : CALLI E mM_wrongIn [.ref 60, .int a1, .int a2] h fun v1 h1 => (0 ≤ v1 → CALLI E mM_aheadOf [.ref 60, .int a2, .int a1] h1 fun v2 h2 => CALLI E mM_behindOf [.ref 60, .int a2, .int v2] h2 fun v3 h3 => CALLI E mM_blockingBy [.ref 60, .int a2, .int v2, .int v3] h3 fun v4 h4 => Q v4 h4) ∧ (¬ 0 ≤ v1 → Q v1 h1)) :
    CALLI E mM_blocking [.ref 60, .int a1, .int a2] h Q := CALL_of rfl (wp_sound [] kk_210 22 hF)
