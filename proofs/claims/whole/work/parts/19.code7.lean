def k_211 : List XI := [(0, .aload_n 0, 1, 0, 0, 0, 0),
  (1, .iload_n 1, 1, 0, 0, 0, 0),
  (2, .iload_n 2, 1, 0, 0, 0, 0),
  (3, .invokevirtual 262, 3, 209, 1, 0, 0),
  (6, .istore_n 3, 1, 0, 0, 0, 0),
  (7, .iload_n 3, 1, 0, 0, 0, 0),
  (8, .ifCond .ge 7, 3, 15, 0, 0, 0),
  (11, .iload_n 3, 1, 0, 0, 0, 0),
  (12, .goto 9, 3, 21, 0, 0, 0),
  (15, .aload_n 0, 1, 0, 0, 0, 0),
  (16, .iload_n 2, 1, 0, 0, 0, 0),
  (17, .iload_n 1, 1, 0, 0, 0, 0),
  (18, .invokevirtual 265, 3, 163, 1, 0, 0),
  (21, .ireturn, 1, 0, 0, 0, 0)]
set_option maxRecDepth 100000 in
set_option maxHeartbeats 4000000 in
theorem kk_211 : k_211.all (entOK (mCi 211) (mB 211)) = true := by decide +kernel
set_option maxRecDepth 100000 in
set_option maxHeartbeats 4000000 in
theorem fM_response {E : XE} {h : Mem} {Q : Int32 → Mem → Prop} {a1 : Int32} {a2 : Int32} 
    (hF : CALLI E mM_wrongIn [.ref 60, .int a1, .int a2] h fun v1 h1 => (0 ≤ v1 → CALLI E mM_responseOf [.ref 60, .int a2, .int a1] h1 fun v2 h2 => Q v2 h2) ∧ (¬ 0 ≤ v1 → Q v1 h1)) :
    CALLI E mM_response [.ref 60, .int a1, .int a2] h Q := CALL_of rfl (wp_sound [] kk_211 13 hF)
def k_212 : List XI := [(0, .aload_n 0, 1, 0, 0, 0, 0),
  (1, .iload_n 1, 1, 0, 0, 0, 0),
  (2, .iload_n 2, 1, 0, 0, 0, 0),
  (3, .invokevirtual 262, 3, 209, 1, 0, 0),
  (6, .istore_n 3, 1, 0, 0, 0, 0),
  (7, .iload_n 3, 1, 0, 0, 0, 0),
  (8, .ifCond .ge 5, 3, 13, 0, 0, 0),
  (11, .iload_n 3, 1, 0, 0, 0, 0),
  (12, .ireturn, 1, 0, 0, 0, 0),
  (13, .aload_n 0, 1, 0, 0, 0, 0),
  (14, .iload_n 2, 1, 0, 0, 0, 0),
  (15, .iload_n 1, 1, 0, 0, 0, 0),
  (16, .invokevirtual 265, 3, 163, 1, 0, 0),
  (19, .ifCond .ge 8, 3, 27, 0, 0, 0),
  (22, .bipush (-9), 2, 0, 0, (-9), 0),
  (24, .goto 7, 3, 31, 0, 0, 0),
  (27, .aload_n 0, 1, 0, 0, 0, 0),
  (28, .getfield 143, 3, 7, 15, 0, 0),
  (31, .ireturn, 1, 0, 0, 0, 0)]
set_option maxRecDepth 100000 in
set_option maxHeartbeats 4000000 in
theorem kk_212 : k_212.all (entOK (mCi 212) (mB 212)) = true := by decide +kernel
set_option maxRecDepth 100000 in
set_option maxHeartbeats 4000000 in
theorem fM_rounds {E : XE} {h : Mem} {Q : Int32 → Mem → Prop} {a1 : Int32} {a2 : Int32} 
    (hF : CALLI E mM_wrongIn [.ref 60, .int a1, .int a2] h fun v1 h1 => (0 ≤ v1 → CALLI E mM_responseOf [.ref 60, .int a2, .int a1] h1 fun v2 h2 => (0 ≤ v2 → Q (h2 60 15) h2) ∧ (¬ 0 ≤ v2 → Q (-9) h2)) ∧ (¬ 0 ≤ v1 → Q v1 h1)) :
    CALLI E mM_rounds [.ref 60, .int a1, .int a2] h Q := CALL_of rfl (wp_sound [] kk_212 16 hF)
def k_213 : List XI := [(0, .iload_n 1, 1, 0, 0, 0, 0),
  (1, .invokestatic 256, 3, 206, 1, 0, 0),
  (4, .ifCond .eq 11, 3, 15, 0, 0, 0),
  (7, .aload_n 0, 1, 0, 0, 0, 0),
  (8, .iload_n 1, 1, 0, 0, 0, 0),
  (9, .invokevirtual 161, 3, 165, 1, 0, 0),
  (12, .goto 9, 3, 21, 0, 0, 0),
  (15, .aload_n 0, 1, 0, 0, 0, 0),
  (16, .bipush (-2), 2, 0, 0, (-2), 0),
  (18, .invokevirtual 232, 3, 136, 1, 0, 0),
  (21, .ireturn, 1, 0, 0, 0, 0)]
set_option maxRecDepth 100000 in
set_option maxHeartbeats 4000000 in
theorem kk_213 : k_213.all (entOK (mCi 213) (mB 213)) = true := by decide +kernel
set_option maxRecDepth 100000 in
set_option maxHeartbeats 4000000 in
theorem fM_fits {E : XE} {h : Mem} {Q : Int32 → Mem → Prop} {a1 : Int32} 
    (hF : CALLI E mM_isOrder [.int a1] h fun v1 h1 => (v1 = 0 → CALLI E mM_refused [.ref 60, .int (-2)] h1 fun v2 h2 => Q v2 h2) ∧ (¬ v1 = 0 → CALLI E mM_fitsAll [.ref 60, .int a1] h1 fun v3 h3 => Q v3 h3)) :
    CALLI E mM_fits [.ref 60, .int a1] h Q := CALL_of rfl (wp_sound [] kk_213 9 hF)
def k_214 : List XI := [(0, .iload_n 1, 1, 0, 0, 0, 0),
  (1, .ifCond .ge 10, 3, 11, 0, 0, 0),
  (4, .aload_n 0, 1, 0, 0, 0, 0),
  (5, .bipush (-4), 2, 0, 0, (-4), 0),
  (7, .invokevirtual 232, 3, 136, 1, 0, 0),
  (10, .ireturn, 1, 0, 0, 0, 0),
  (11, .aload_n 0, 1, 0, 0, 0, 0),
  (12, .invokevirtual 146, 3, 157, 1, 0, 0),
  (15, .invokestatic 268, 3, 174, 1, 0, 0),
  (18, .istore_n 2, 1, 0, 0, 0, 0),
  (19, .iload_n 1, 1, 0, 0, 0, 0),
  (20, .iload_n 2, 1, 0, 0, 0, 0),
  (21, .if_icmp .ge 21, 3, 42, 0, 0, 0),
  (24, .aload_n 0, 1, 0, 0, 0, 0),
  (25, .iconst 0, 1, 0, 0, 0, 0),
  (26, .iload_n 2, 1, 0, 0, 0, 0),
  (27, .invokevirtual 164, 3, 173, 1, 0, 0),
  (30, .ifCond .eq 12, 3, 42, 0, 0, 0),
  (33, .aload_n 0, 1, 0, 0, 0, 0),
  (34, .getfield 34, 3, 7, 16, 0, 0),
  (37, .iload_n 1, 1, 0, 0, 0, 0),
  (38, .iaload, 1, 0, 0, 0, 0),
  (39, .goto 5, 3, 44, 0, 0, 0),
  (42, .bipush (-9), 2, 0, 0, (-9), 0),
  (44, .ireturn, 1, 0, 0, 0, 0)]
set_option maxRecDepth 100000 in
set_option maxHeartbeats 4000000 in
theorem kk_214 : k_214.all (entOK (mCi 214) (mB 214)) = true := by decide +kernel
set_option maxRecDepth 100000 in
set_option maxHeartbeats 4000000 in
theorem fM_lawful {E : XE} {h : Mem} {Q : Int32 → Mem → Prop} {a1 : Int32} 
    (hF : (0 ≤ a1 → CALLI E mM_onSet [.ref 60] h fun v1 h1 => CALLI E mM_ones [.int v1] h1 fun v2 h2 => (v2 ≤ a1 → Q (-9) h2) ∧ (¬ v2 ≤ a1 → CALLI E mM_seeks6 [.ref 60, .int 0, .int v2] h2 fun v3 h3 => (v3 = 0 → Q (-9) h3) ∧ (¬ v3 = 0 → cnd (inb a1 6) (Q (h3 69 (ix a1)) h3)))) ∧ (¬ 0 ≤ a1 → CALLI E mM_refused [.ref 60, .int (-4)] h fun v4 h4 => Q v4 h4)) :
    CALLI E mM_lawful [.ref 60, .int a1] h Q := CALL_of rfl (wp_sound [] kk_214 21 hF)
def k_215_0 : List XI := [(0, .iconst 0, 1, 0, 0, 0, 0),
  (1, .istore_n 2, 1, 0, 0, 0, 0),
  (2, .iload_n 2, 1, 0, 0, 0, 0),
  (3, .aload_n 0, 1, 0, 0, 0, 0),
  (4, .getfield 271, 3, 7, 24, 0, 0),
  (7, .if_icmp .ge 116, 3, 123, 0, 0, 0),
  (10, .aload_n 0, 1, 0, 0, 0, 0),
  (11, .getfield 46, 3, 7, 23, 0, 0),
  (14, .iload_n 2, 1, 0, 0, 0, 0),
  (15, .iaload, 1, 0, 0, 0, 0),
  (16, .ifCond .le 101, 3, 117, 0, 0, 0),
  (19, .aload_n 0, 1, 0, 0, 0, 0),
  (20, .getfield 43, 3, 7, 22, 0, 0),
  (23, .iload_n 2, 1, 0, 0, 0, 0),
  (24, .iaload, 1, 0, 0, 0, 0),
  (25, .iload_n 1, 1, 0, 0, 0, 0),
  (26, .if_icmp .gt 91, 3, 117, 0, 0, 0),
  (29, .aload_n 0, 1, 0, 0, 0, 0),
  (30, .getfield 40, 3, 7, 21, 0, 0),
  (33, .iload_n 2, 1, 0, 0, 0, 0),
  (34, .iaload, 1, 0, 0, 0, 0),
  (35, .istore_n 3, 1, 0, 0, 0, 0),
  (36, .aload_n 0, 1, 0, 0, 0, 0),
  (37, .getfield 46, 3, 7, 23, 0, 0),
  (40, .iload_n 2, 1, 0, 0, 0, 0),
  (41, .iconst 0, 1, 0, 0, 0, 0),
  (42, .iastore, 1, 0, 0, 0, 0),
  (43, .aload_n 0, 1, 0, 0, 0, 0),
  (44, .getfield 55, 3, 7, 27, 0, 0),
  (47, .iload_n 3, 1, 0, 0, 0, 0)]
set_option maxRecDepth 100000 in
set_option maxHeartbeats 4000000 in
theorem kk_215_0 : k_215_0.all (entOK (mCi 215) (mB 215)) = true := by decide +kernel
def k_215_1 : List XI := [(48, .dup2, 1, 0, 0, 0, 0),
  (49, .iaload, 1, 0, 0, 0, 0),
  (50, .iconst 1, 1, 0, 0, 1, 0),
  (51, .iadd, 1, 0, 0, 0, 0),
  (52, .iastore, 1, 0, 0, 0, 0),
  (53, .aload_n 0, 1, 0, 0, 0, 0),
  (54, .getfield 274, 3, 7, 28, 0, 0),
  (57, .ifCond .lt 19, 3, 76, 0, 0, 0),
  (60, .aload_n 0, 1, 0, 0, 0, 0),
  (61, .getfield 274, 3, 7, 28, 0, 0),
  (64, .iload_n 1, 1, 0, 0, 0, 0),
  (65, .if_icmp .ne 15, 3, 80, 0, 0, 0),
  (68, .iload_n 3, 1, 0, 0, 0, 0),
  (69, .aload_n 0, 1, 0, 0, 0, 0),
  (70, .getfield 277, 3, 7, 29, 0, 0),
  (73, .if_icmp .ge 7, 3, 80, 0, 0, 0),
  (76, .iconst 1, 1, 0, 0, 1, 0),
  (77, .goto 4, 3, 81, 0, 0, 0),
  (80, .iconst 0, 1, 0, 0, 0, 0),
  (81, .istore 4, 2, 0, 0, 0, 0),
  (83, .aload_n 0, 1, 0, 0, 0, 0),
  (84, .iload 4, 2, 0, 0, 0, 0),
  (86, .ifCond .eq 7, 3, 93, 0, 0, 0),
  (89, .iload_n 3, 1, 0, 0, 0, 0),
  (90, .goto 7, 3, 97, 0, 0, 0),
  (93, .aload_n 0, 1, 0, 0, 0, 0),
  (94, .getfield 277, 3, 7, 29, 0, 0),
  (97, .putfield 277, 3, 7, 29, 0, 0),
  (100, .aload_n 0, 1, 0, 0, 0, 0),
  (101, .iload 4, 2, 0, 0, 0, 0)]
set_option maxRecDepth 100000 in
set_option maxHeartbeats 4000000 in
theorem kk_215_1 : k_215_1.all (entOK (mCi 215) (mB 215)) = true := by decide +kernel
def k_215_2 : List XI := [(103, .ifCond .eq 7, 3, 110, 0, 0, 0),
  (106, .iload_n 1, 1, 0, 0, 0, 0),
  (107, .goto 7, 3, 114, 0, 0, 0),
  (110, .aload_n 0, 1, 0, 0, 0, 0),
  (111, .getfield 274, 3, 7, 28, 0, 0),
  (114, .putfield 274, 3, 7, 28, 0, 0),
  (117, .iinc 2 1, 3, 0, 0, 1, 0),
  (120, .goto (-118), 3, 2, 0, 0, 0),
  (123, .return_, 1, 0, 0, 0, 0)]
set_option maxRecDepth 100000 in
set_option maxHeartbeats 4000000 in
theorem kk_215_2 : k_215_2.all (entOK (mCi 215) (mB 215)) = true := by decide +kernel
def k_215 : List XI := k_215_0 ++ (k_215_1 ++ (k_215_2))
theorem kk_215 : k_215.all (entOK (mCi 215) (mB 215)) = true := all_app kk_215_0 (all_app kk_215_1 (kk_215_2))
set_option maxRecDepth 100000 in
set_option maxHeartbeats 4000000 in
theorem fM_misses {E : XE} {h : Mem} {Q : Mem → Prop} {a1 : Int32} 
    (hF : WP E mM_misses 2 [some (.ref 60), some (.int a1), some (.int 0), none, none] [] h (qV Q)) :
    CALLV E mM_misses [.ref 60, .int a1] h Q := CALL_of rfl (wp_sound [(2, [1, 1, 1, 0, 0]), (81, [1, 1, 1, 1, 0])] kk_215 3 hF)
set_option maxRecDepth 100000 in
set_option maxHeartbeats 4000000 in
theorem fM_misses_2 {E : XE} {h : Mem} {Q : Mem → Prop} {x1 : Int32} {x2 : Int32} 
    (hF : ((h 60 24) ≤ x2 → Q h) ∧ (¬ (h 60 24) ≤ x2 → cnd (inb x2 800) (((h 73 (ix x2)) ≤ 0 → WP E mM_misses 2 [some (.ref 60), some (.int x1), some (.int (x2 + 1)), none, none] [] h (qV Q)) ∧ (¬ (h 73 (ix x2)) ≤ 0 → cnd (inb x2 800) ((x1 < (h 72 (ix x2)) → WP E mM_misses 2 [some (.ref 60), some (.int x1), some (.int (x2 + 1)), none, none] [] h (qV Q)) ∧ (¬ x1 < (h 72 (ix x2)) → cnd (inb x2 800) (cnd (inb x2 800) (cnd (inb (h 71 (ix x2)) 6) (cnd (inb (h 71 (ix x2)) 6) ((((upd2 (upd2 h 73 (ix x2) 0) 76 (ix (h 71 (ix x2))) (((upd2 h 73 (ix x2) 0) 76 (ix (h 71 (ix x2)))) + 1)) 60 28) < 0 → WP E mM_misses 81 [some (.ref 60), some (.int x1), some (.int x2), some (.int (h 71 (ix x2))), none] [.int 1] (upd2 (upd2 h 73 (ix x2) 0) 76 (ix (h 71 (ix x2))) (((upd2 h 73 (ix x2) 0) 76 (ix (h 71 (ix x2)))) + 1)) (qV Q)) ∧ (¬ ((upd2 (upd2 h 73 (ix x2) 0) 76 (ix (h 71 (ix x2))) (((upd2 h 73 (ix x2) 0) 76 (ix (h 71 (ix x2)))) + 1)) 60 28) < 0 → (¬ ((upd2 (upd2 h 73 (ix x2) 0) 76 (ix (h 71 (ix x2))) (((upd2 h 73 (ix x2) 0) 76 (ix (h 71 (ix x2)))) + 1)) 60 28) = x1 → WP E mM_misses 81 [some (.ref 60), some (.int x1), some (.int x2), some (.int (h 71 (ix x2))), none] [.int 0] (upd2 (upd2 h 73 (ix x2) 0) 76 (ix (h 71 (ix x2))) (((upd2 h 73 (ix x2) 0) 76 (ix (h 71 (ix x2)))) + 1)) (qV Q)) ∧ (((upd2 (upd2 h 73 (ix x2) 0) 76 (ix (h 71 (ix x2))) (((upd2 h 73 (ix x2) 0) 76 (ix (h 71 (ix x2)))) + 1)) 60 28) = x1 → (((upd2 (upd2 h 73 (ix x2) 0) 76 (ix (h 71 (ix x2))) (((upd2 h 73 (ix x2) 0) 76 (ix (h 71 (ix x2)))) + 1)) 60 29) ≤ (h 71 (ix x2)) → WP E mM_misses 81 [some (.ref 60), some (.int x1), some (.int x2), some (.int (h 71 (ix x2))), none] [.int 0] (upd2 (upd2 h 73 (ix x2) 0) 76 (ix (h 71 (ix x2))) (((upd2 h 73 (ix x2) 0) 76 (ix (h 71 (ix x2)))) + 1)) (qV Q)) ∧ (¬ ((upd2 (upd2 h 73 (ix x2) 0) 76 (ix (h 71 (ix x2))) (((upd2 h 73 (ix x2) 0) 76 (ix (h 71 (ix x2)))) + 1)) 60 29) ≤ (h 71 (ix x2)) → WP E mM_misses 81 [some (.ref 60), some (.int x1), some (.int x2), some (.int (h 71 (ix x2))), none] [.int 1] (upd2 (upd2 h 73 (ix x2) 0) 76 (ix (h 71 (ix x2))) (((upd2 h 73 (ix x2) 0) 76 (ix (h 71 (ix x2)))) + 1)) (qV Q)))))))))))))) :
    WP E mM_misses 2 [some (.ref 60), some (.int x1), some (.int x2), none, none] [] h (qV Q) := wp_sound [(2, [1, 1, 1, 0, 0]), (81, [1, 1, 1, 1, 0])] kk_215 47 hF
set_option maxRecDepth 100000 in
set_option maxHeartbeats 4000000 in
theorem fM_misses_81 {E : XE} {h : Mem} {Q : Mem → Prop} {x1 : Int32} {x2 : Int32} {x3 : Int32} {s0 : Int32} 
    (hF : (s0 = 0 → (s0 = 0 → WP E mM_misses 2 [some (.ref 60), some (.int x1), some (.int (x2 + 1)), none, none] [] (upd2 (upd2 h 60 29 (h 60 29)) 60 28 ((upd2 h 60 29 (h 60 29)) 60 28)) (qV Q)) ∧ (¬ s0 = 0 → WP E mM_misses 2 [some (.ref 60), some (.int x1), some (.int (x2 + 1)), none, none] [] (upd2 (upd2 h 60 29 (h 60 29)) 60 28 x1) (qV Q))) ∧ (¬ s0 = 0 → (s0 = 0 → WP E mM_misses 2 [some (.ref 60), some (.int x1), some (.int (x2 + 1)), none, none] [] (upd2 (upd2 h 60 29 x3) 60 28 ((upd2 h 60 29 x3) 60 28)) (qV Q)) ∧ (¬ s0 = 0 → WP E mM_misses 2 [some (.ref 60), some (.int x1), some (.int (x2 + 1)), none, none] [] (upd2 (upd2 h 60 29 x3) 60 28 x1) (qV Q)))) :
    WP E mM_misses 81 [some (.ref 60), some (.int x1), some (.int x2), some (.int x3), none] [.int s0] h (qV Q) := wp_sound [(2, [1, 1, 1, 0, 0]), (81, [1, 1, 1, 1, 0])] kk_215 16 hF
def k_216 : List XI := [(0, .aload_n 0, 1, 0, 0, 0, 0),
  (1, .getfield 40, 3, 7, 21, 0, 0),
  (4, .aload_n 0, 1, 0, 0, 0, 0),
  (5, .getfield 271, 3, 7, 24, 0, 0),
  (8, .iload_n 1, 1, 0, 0, 0, 0),
  (9, .iastore, 1, 0, 0, 0, 0),
  (10, .aload_n 0, 1, 0, 0, 0, 0),
  (11, .getfield 43, 3, 7, 22, 0, 0),
  (14, .aload_n 0, 1, 0, 0, 0, 0),
  (15, .getfield 271, 3, 7, 24, 0, 0),
  (18, .iload_n 2, 1, 0, 0, 0, 0),
  (19, .iastore, 1, 0, 0, 0, 0),
  (20, .aload_n 0, 1, 0, 0, 0, 0),
  (21, .getfield 46, 3, 7, 23, 0, 0),
  (24, .aload_n 0, 1, 0, 0, 0, 0),
  (25, .getfield 271, 3, 7, 24, 0, 0),
  (28, .aload_n 0, 1, 0, 0, 0, 0),
  (29, .getfield 9, 3, 7, 0, 0, 0),
  (32, .iconst 0, 1, 0, 0, 0, 0),
  (33, .iload_n 1, 1, 0, 0, 0, 0),
  (34, .iadd, 1, 0, 0, 0, 0),
  (35, .iaload, 1, 0, 0, 0, 0),
  (36, .iastore, 1, 0, 0, 0, 0),
  (37, .aload_n 0, 1, 0, 0, 0, 0),
  (38, .dup, 1, 0, 0, 0, 0),
  (39, .getfield 271, 3, 7, 24, 0, 0),
  (42, .iconst 1, 1, 0, 0, 1, 0),
  (43, .iadd, 1, 0, 0, 0, 0),
  (44, .putfield 271, 3, 7, 24, 0, 0),
  (47, .return_, 1, 0, 0, 0, 0)]
set_option maxRecDepth 100000 in
set_option maxHeartbeats 4000000 in
theorem kk_216 : k_216.all (entOK (mCi 216) (mB 216)) = true := by decide +kernel
set_option maxRecDepth 100000 in
set_option maxHeartbeats 4000000 in
theorem fM_comesJob {E : XE} {h : Mem} {Q : Mem → Prop} {a1 : Int32} {a2 : Int32} 
    (hF : cnd (inb (h 60 24) 800) (cnd (inb ((upd2 h 71 (ix (h 60 24)) a1) 60 24) 800) (cnd (inb (0 + a1) 73) (cnd (inb ((upd2 (upd2 h 71 (ix (h 60 24)) a1) 72 (ix ((upd2 h 71 (ix (h 60 24)) a1) 60 24)) a2) 60 24) 800) (Q (upd2 (upd2 (upd2 (upd2 h 71 (ix (h 60 24)) a1) 72 (ix ((upd2 h 71 (ix (h 60 24)) a1) 60 24)) a2) 73 (ix ((upd2 (upd2 h 71 (ix (h 60 24)) a1) 72 (ix ((upd2 h 71 (ix (h 60 24)) a1) 60 24)) a2) 60 24)) ((upd2 (upd2 h 71 (ix (h 60 24)) a1) 72 (ix ((upd2 h 71 (ix (h 60 24)) a1) 60 24)) a2) 61 (ix (0 + a1)))) 60 24 (((upd2 (upd2 (upd2 h 71 (ix (h 60 24)) a1) 72 (ix ((upd2 h 71 (ix (h 60 24)) a1) 60 24)) a2) 73 (ix ((upd2 (upd2 h 71 (ix (h 60 24)) a1) 72 (ix ((upd2 h 71 (ix (h 60 24)) a1) 60 24)) a2) 60 24)) ((upd2 (upd2 h 71 (ix (h 60 24)) a1) 72 (ix ((upd2 h 71 (ix (h 60 24)) a1) 60 24)) a2) 61 (ix (0 + a1)))) 60 24) + 1))))))) :
    CALLV E mM_comesJob [.ref 60, .int a1, .int a2] h Q := CALL_of rfl (wp_sound [] kk_216 31 hF)
def k_217_0 : List XI := [(0, .iconst 0, 1, 0, 0, 0, 0),
  (1, .istore_n 3, 1, 0, 0, 0, 0),
  (2, .aload_n 0, 1, 0, 0, 0, 0),
  (3, .getfield 9, 3, 7, 0, 0, 0),
  (6, .bipush 18, 2, 0, 0, 18, 0),
  (8, .iload_n 1, 1, 0, 0, 0, 0),
  (9, .iadd, 1, 0, 0, 0, 0),
  (10, .iaload, 1, 0, 0, 0, 0),
  (11, .iload_n 3, 1, 0, 0, 0, 0),
  (12, .aload_n 0, 1, 0, 0, 0, 0),
  (13, .iload_n 1, 1, 0, 0, 0, 0),
  (14, .invokevirtual 79, 3, 143, 1, 0, 0),
  (17, .imul, 1, 0, 0, 0, 0),
  (18, .iadd, 1, 0, 0, 0, 0),
  (19, .iload_n 2, 1, 0, 0, 0, 0),
  (20, .if_icmp .gt 128, 3, 148, 0, 0, 0),
  (23, .aload_n 0, 1, 0, 0, 0, 0),
  (24, .getfield 9, 3, 7, 0, 0, 0),
  (27, .bipush 30, 2, 0, 0, 30, 0),
  (29, .iload_n 1, 1, 0, 0, 0, 0),
  (30, .iadd, 1, 0, 0, 0, 0),
  (31, .iaload, 1, 0, 0, 0, 0),
  (32, .iconst 4, 1, 0, 0, 4, 0),
  (33, .if_icmp .ne 16, 3, 49, 0, 0, 0),
  (36, .iload_n 3, 1, 0, 0, 0, 0),
  (37, .aload_n 0, 1, 0, 0, 0, 0),
  (38, .getfield 9, 3, 7, 0, 0, 0),
  (41, .bipush 36, 2, 0, 0, 36, 0),
  (43, .iload_n 1, 1, 0, 0, 0, 0),
  (44, .iadd, 1, 0, 0, 0, 0)]
set_option maxRecDepth 100000 in
set_option maxHeartbeats 4000000 in
theorem kk_217_0 : k_217_0.all (entOK (mCi 217) (mB 217)) = true := by decide +kernel
def k_217_1 : List XI := [(45, .iaload, 1, 0, 0, 0, 0),
  (46, .if_icmp .gt 7, 3, 53, 0, 0, 0),
  (49, .iconst 1, 1, 0, 0, 1, 0),
  (50, .goto 4, 3, 54, 0, 0, 0),
  (53, .iconst 0, 1, 0, 0, 0, 0),
  (54, .istore 4, 2, 0, 0, 0, 0),
  (56, .aload_n 0, 1, 0, 0, 0, 0),
  (57, .getfield 9, 3, 7, 0, 0, 0),
  (60, .bipush 18, 2, 0, 0, 18, 0),
  (62, .iload_n 1, 1, 0, 0, 0, 0),
  (63, .iadd, 1, 0, 0, 0, 0),
  (64, .iaload, 1, 0, 0, 0, 0),
  (65, .iload_n 3, 1, 0, 0, 0, 0),
  (66, .aload_n 0, 1, 0, 0, 0, 0),
  (67, .iload_n 1, 1, 0, 0, 0, 0),
  (68, .invokevirtual 79, 3, 143, 1, 0, 0),
  (71, .imul, 1, 0, 0, 0, 0),
  (72, .iadd, 1, 0, 0, 0, 0),
  (73, .istore 5, 2, 0, 0, 0, 0),
  (75, .iload 4, 2, 0, 0, 0, 0),
  (77, .ifCond .eq 65, 3, 142, 0, 0, 0),
  (80, .iload 5, 2, 0, 0, 0, 0),
  (82, .iload_n 3, 1, 0, 0, 0, 0),
  (83, .iconst 2, 1, 0, 0, 2, 0),
  (84, .irem, 1, 0, 0, 0, 0),
  (85, .iconst 1, 1, 0, 0, 1, 0),
  (86, .if_icmp .ne 11, 3, 97, 0, 0, 0),
  (89, .aload_n 0, 1, 0, 0, 0, 0),
  (90, .iload_n 1, 1, 0, 0, 0, 0),
  (91, .invokevirtual 75, 3, 144, 1, 0, 0)]
set_option maxRecDepth 100000 in
set_option maxHeartbeats 4000000 in
theorem kk_217_1 : k_217_1.all (entOK (mCi 217) (mB 217)) = true := by decide +kernel
def k_217_2 : List XI := [(94, .goto 4, 3, 98, 0, 0, 0),
  (97, .iconst 0, 1, 0, 0, 0, 0),
  (98, .iadd, 1, 0, 0, 0, 0),
  (99, .iload_n 2, 1, 0, 0, 0, 0),
  (100, .if_icmp .ne 42, 3, 142, 0, 0, 0),
  (103, .aload_n 0, 1, 0, 0, 0, 0),
  (104, .iload_n 1, 1, 0, 0, 0, 0),
  (105, .iload 5, 2, 0, 0, 0, 0),
  (107, .aload_n 0, 1, 0, 0, 0, 0),
  (108, .iload_n 1, 1, 0, 0, 0, 0),
  (109, .invokevirtual 85, 3, 145, 1, 0, 0),
  (112, .iadd, 1, 0, 0, 0, 0),
  (113, .invokevirtual 280, 3, 216, 0, 0, 0),
  (116, .aload_n 0, 1, 0, 0, 0, 0),
  (117, .getfield 9, 3, 7, 0, 0, 0),
  (120, .bipush 30, 2, 0, 0, 30, 0),
  (122, .iload_n 1, 1, 0, 0, 0, 0),
  (123, .iadd, 1, 0, 0, 0, 0),
  (124, .iaload, 1, 0, 0, 0, 0),
  (125, .iconst 3, 1, 0, 0, 3, 0),
  (126, .if_icmp .ne 16, 3, 142, 0, 0, 0),
  (129, .aload_n 0, 1, 0, 0, 0, 0),
  (130, .iload_n 1, 1, 0, 0, 0, 0),
  (131, .iload 5, 2, 0, 0, 0, 0),
  (133, .aload_n 0, 1, 0, 0, 0, 0),
  (134, .iload_n 1, 1, 0, 0, 0, 0),
  (135, .invokevirtual 85, 3, 145, 1, 0, 0),
  (138, .iadd, 1, 0, 0, 0, 0),
  (139, .invokevirtual 280, 3, 216, 0, 0, 0),
  (142, .iinc 3 1, 3, 0, 0, 1, 0)]
set_option maxRecDepth 100000 in
set_option maxHeartbeats 4000000 in
theorem kk_217_2 : k_217_2.all (entOK (mCi 217) (mB 217)) = true := by decide +kernel
def k_217_3 : List XI := [(145, .goto (-143), 3, 2, 0, 0, 0),
  (148, .return_, 1, 0, 0, 0, 0)]
set_option maxRecDepth 100000 in
set_option maxHeartbeats 4000000 in
theorem kk_217_3 : k_217_3.all (entOK (mCi 217) (mB 217)) = true := by decide +kernel
def k_217 : List XI := k_217_0 ++ (k_217_1 ++ (k_217_2 ++ (k_217_3)))
theorem kk_217 : k_217.all (entOK (mCi 217) (mB 217)) = true := all_app kk_217_0 (all_app kk_217_1 (all_app kk_217_2 (kk_217_3)))
set_option maxRecDepth 100000 in
set_option maxHeartbeats 4000000 in
theorem fM_comeJobs {E : XE} {h : Mem} {Q : Mem → Prop} {a1 : Int32} {a2 : Int32} 
    (hF : WP E mM_comeJobs 2 [some (.ref 60), some (.int a1), some (.int a2), some (.int 0), none, none] [] h (qV Q)) :
    CALLV E mM_comeJobs [.ref 60, .int a1, .int a2] h Q := CALL_of rfl (wp_sound [(2, [1, 1, 1, 1, 0, 0]), (54, [1, 1, 1, 1, 0, 0])] kk_217 3 hF)
set_option maxRecDepth 100000 in
set_option maxHeartbeats 4000000 in
theorem fM_comeJobs_2 {E : XE} {h : Mem} {Q : Mem → Prop} {x1 : Int32} {x2 : Int32} {x3 : Int32} 
    (hF : cnd (inb (18 + x1) 73) (CALLI E mM_distance [.ref 60, .int x1] h fun v1 h1 => (x2 < ((h 61 (ix (18 + x1))) + (x3 * v1)) → Q h1) ∧ (¬ x2 < ((h 61 (ix (18 + x1))) + (x3 * v1)) → cnd (inb (30 + x1) 73) ((¬ (h1 61 (ix (30 + x1))) = 4 → WP E mM_comeJobs 54 [some (.ref 60), some (.int x1), some (.int x2), some (.int x3), none, none] [.int 1] h1 (qV Q)) ∧ ((h1 61 (ix (30 + x1))) = 4 → cnd (inb (36 + x1) 73) (((h1 61 (ix (36 + x1))) < x3 → WP E mM_comeJobs 54 [some (.ref 60), some (.int x1), some (.int x2), some (.int x3), none, none] [.int 0] h1 (qV Q)) ∧ (¬ (h1 61 (ix (36 + x1))) < x3 → WP E mM_comeJobs 54 [some (.ref 60), some (.int x1), some (.int x2), some (.int x3), none, none] [.int 1] h1 (qV Q)))))))) :
    WP E mM_comeJobs 2 [some (.ref 60), some (.int x1), some (.int x2), some (.int x3), none, none] [] h (qV Q) := wp_sound [(2, [1, 1, 1, 1, 0, 0]), (54, [1, 1, 1, 1, 0, 0])] kk_217 33 hF
set_option maxRecDepth 100000 in
set_option maxHeartbeats 4000000 in
theorem fM_comeJobs_54 {E : XE} {h : Mem} {Q : Mem → Prop} {x1 : Int32} {x2 : Int32} {x3 : Int32} {s0 : Int32} 
    (hF : cnd (inb (18 + x1) 73) (CALLI E mM_distance [.ref 60, .int x1] h fun v1 h1 => (s0 = 0 → WP E mM_comeJobs 2 [some (.ref 60), some (.int x1), some (.int x2), some (.int (x3 + 1)), none, none] [] h1 (qV Q)) ∧ (¬ s0 = 0 → (¬ (remI x3 2) = 1 → (¬ (((h 61 (ix (18 + x1))) + (x3 * v1)) + 0) = x2 → WP E mM_comeJobs 2 [some (.ref 60), some (.int x1), some (.int x2), some (.int (x3 + 1)), none, none] [] h1 (qV Q)) ∧ ((((h 61 (ix (18 + x1))) + (x3 * v1)) + 0) = x2 → CALLI E mM_limit [.ref 60, .int x1] h1 fun v2 h2 => CALLV E mM_comesJob [.ref 60, .int x1, .int (((h 61 (ix (18 + x1))) + (x3 * v1)) + v2)] h2 fun h3 => cnd (inb (30 + x1) 73) ((¬ (h3 61 (ix (30 + x1))) = 3 → WP E mM_comeJobs 2 [some (.ref 60), some (.int x1), some (.int x2), some (.int (x3 + 1)), none, none] [] h3 (qV Q)) ∧ ((h3 61 (ix (30 + x1))) = 3 → CALLI E mM_limit [.ref 60, .int x1] h3 fun v4 h4 => CALLV E mM_comesJob [.ref 60, .int x1, .int (((h 61 (ix (18 + x1))) + (x3 * v1)) + v4)] h4 fun h5 => WP E mM_comeJobs 2 [some (.ref 60), some (.int x1), some (.int x2), some (.int (x3 + 1)), none, none] [] h5 (qV Q))))) ∧ ((remI x3 2) = 1 → CALLI E mM_late [.ref 60, .int x1] h1 fun v6 h6 => (¬ (((h 61 (ix (18 + x1))) + (x3 * v1)) + v6) = x2 → WP E mM_comeJobs 2 [some (.ref 60), some (.int x1), some (.int x2), some (.int (x3 + 1)), none, none] [] h6 (qV Q)) ∧ ((((h 61 (ix (18 + x1))) + (x3 * v1)) + v6) = x2 → CALLI E mM_limit [.ref 60, .int x1] h6 fun v7 h7 => CALLV E mM_comesJob [.ref 60, .int x1, .int (((h 61 (ix (18 + x1))) + (x3 * v1)) + v7)] h7 fun h8 => cnd (inb (30 + x1) 73) ((¬ (h8 61 (ix (30 + x1))) = 3 → WP E mM_comeJobs 2 [some (.ref 60), some (.int x1), some (.int x2), some (.int (x3 + 1)), none, none] [] h8 (qV Q)) ∧ ((h8 61 (ix (30 + x1))) = 3 → CALLI E mM_limit [.ref 60, .int x1] h8 fun v9 h9 => CALLV E mM_comesJob [.ref 60, .int x1, .int (((h 61 (ix (18 + x1))) + (x3 * v1)) + v9)] h9 fun h10 => WP E mM_comeJobs 2 [some (.ref 60), some (.int x1), some (.int x2), some (.int (x3 + 1)), none, none] [] h10 (qV Q)))))))) :
    WP E mM_comeJobs 54 [some (.ref 60), some (.int x1), some (.int x2), some (.int x3), none, none] [.int s0] h (qV Q) := wp_sound [(2, [1, 1, 1, 1, 0, 0]), (54, [1, 1, 1, 1, 0, 0])] kk_217 56 hF
def k_218_0 : List XI := [(0, .iload_n 3, 1, 0, 0, 0, 0),
  (1, .iconst 3, 1, 0, 0, 3, 0),
  (2, .if_icmp .ne 54, 3, 56, 0, 0, 0),
  (5, .aload_n 0, 1, 0, 0, 0, 0),
  (6, .getfield 43, 3, 7, 22, 0, 0),
  (9, .iload_n 1, 1, 0, 0, 0, 0),
  (10, .iaload, 1, 0, 0, 0, 0),
  (11, .aload_n 0, 1, 0, 0, 0, 0),
  (12, .getfield 43, 3, 7, 22, 0, 0),
  (15, .iload_n 2, 1, 0, 0, 0, 0),
  (16, .iaload, 1, 0, 0, 0, 0),
  (17, .if_icmp .lt 33, 3, 50, 0, 0, 0),
  (20, .aload_n 0, 1, 0, 0, 0, 0),
  (21, .getfield 43, 3, 7, 22, 0, 0),
  (24, .iload_n 1, 1, 0, 0, 0, 0),
  (25, .iaload, 1, 0, 0, 0, 0),
  (26, .aload_n 0, 1, 0, 0, 0, 0),
  (27, .getfield 43, 3, 7, 22, 0, 0),
  (30, .iload_n 2, 1, 0, 0, 0, 0),
  (31, .iaload, 1, 0, 0, 0, 0),
  (32, .if_icmp .ne 22, 3, 54, 0, 0, 0),
  (35, .aload_n 0, 1, 0, 0, 0, 0),
  (36, .getfield 40, 3, 7, 21, 0, 0),
  (39, .iload_n 1, 1, 0, 0, 0, 0),
  (40, .iaload, 1, 0, 0, 0, 0),
  (41, .aload_n 0, 1, 0, 0, 0, 0),
  (42, .getfield 40, 3, 7, 21, 0, 0),
  (45, .iload_n 2, 1, 0, 0, 0, 0),
  (46, .iaload, 1, 0, 0, 0, 0),
  (47, .if_icmp .ge 7, 3, 54, 0, 0, 0)]
set_option maxRecDepth 100000 in
set_option maxHeartbeats 4000000 in
theorem kk_218_0 : k_218_0.all (entOK (mCi 218) (mB 218)) = true := by decide +kernel
def k_218_1 : List XI := [(50, .iconst 1, 1, 0, 0, 1, 0),
  (51, .goto 4, 3, 55, 0, 0, 0),
  (54, .iconst 0, 1, 0, 0, 0, 0),
  (55, .ireturn, 1, 0, 0, 0, 0),
  (56, .aload_n 0, 1, 0, 0, 0, 0),
  (57, .getfield 40, 3, 7, 21, 0, 0),
  (60, .iload_n 1, 1, 0, 0, 0, 0),
  (61, .iaload, 1, 0, 0, 0, 0),
  (62, .aload_n 0, 1, 0, 0, 0, 0),
  (63, .getfield 40, 3, 7, 21, 0, 0),
  (66, .iload_n 2, 1, 0, 0, 0, 0),
  (67, .iaload, 1, 0, 0, 0, 0),
  (68, .if_icmp .eq 27, 3, 95, 0, 0, 0),
  (71, .aload_n 0, 1, 0, 0, 0, 0),
  (72, .aload_n 0, 1, 0, 0, 0, 0),
  (73, .getfield 40, 3, 7, 21, 0, 0),
  (76, .iload_n 1, 1, 0, 0, 0, 0),
  (77, .iaload, 1, 0, 0, 0, 0),
  (78, .aload_n 0, 1, 0, 0, 0, 0),
  (79, .getfield 40, 3, 7, 21, 0, 0),
  (82, .iload_n 2, 1, 0, 0, 0, 0),
  (83, .iaload, 1, 0, 0, 0, 0),
  (84, .iload_n 3, 1, 0, 0, 0, 0),
  (85, .invokevirtual 124, 3, 154, 1, 0, 0),
  (88, .ifCond .eq 7, 3, 95, 0, 0, 0),
  (91, .iconst 1, 1, 0, 0, 1, 0),
  (92, .goto 4, 3, 96, 0, 0, 0),
  (95, .iconst 0, 1, 0, 0, 0, 0),
  (96, .ireturn, 1, 0, 0, 0, 0)]
set_option maxRecDepth 100000 in
set_option maxHeartbeats 4000000 in
theorem kk_218_1 : k_218_1.all (entOK (mCi 218) (mB 218)) = true := by decide +kernel
def k_218 : List XI := k_218_0 ++ (k_218_1)
theorem kk_218 : k_218.all (entOK (mCi 218) (mB 218)) = true := all_app kk_218_0 (kk_218_1)
set_option maxRecDepth 100000 in
set_option maxHeartbeats 4000000 in
theorem fM_goesAhead {E : XE} {h : Mem} {Q : Int32 → Mem → Prop} {a1 : Int32} {a2 : Int32} {a3 : Int32} 
    (hF : (¬ a3 = 3 → cnd (inb a1 800) (cnd (inb a2 800) (((h 71 (ix a1)) = (h 71 (ix a2)) → Q 0 h) ∧ (¬ (h 71 (ix a1)) = (h 71 (ix a2)) → cnd (inb a1 800) (cnd (inb a2 800) (CALLI E mM_isAhead [.ref 60, .int (h 71 (ix a1)), .int (h 71 (ix a2)), .int a3] h fun v1 h1 => (v1 = 0 → Q 0 h1) ∧ (¬ v1 = 0 → Q 1 h1))))))) ∧ (a3 = 3 → cnd (inb a1 800) (cnd (inb a2 800) (((h 72 (ix a1)) < (h 72 (ix a2)) → Q 1 h) ∧ (¬ (h 72 (ix a1)) < (h 72 (ix a2)) → cnd (inb a1 800) (cnd (inb a2 800) ((¬ (h 72 (ix a1)) = (h 72 (ix a2)) → Q 0 h) ∧ ((h 72 (ix a1)) = (h 72 (ix a2)) → cnd (inb a1 800) (cnd (inb a2 800) (((h 71 (ix a2)) ≤ (h 71 (ix a1)) → Q 0 h) ∧ (¬ (h 71 (ix a2)) ≤ (h 71 (ix a1)) → Q 1 h))))))))))) :
    CALLI E mM_goesAhead [.ref 60, .int a1, .int a2, .int a3] h Q := CALL_of rfl (wp_sound [] kk_218 34 hF)
def k_219_0 : List XI := [(0, .iconst (-1), 1, 0, 0, (-1), 0),
  (1, .istore_n 2, 1, 0, 0, 0, 0),
  (2, .iconst 0, 1, 0, 0, 0, 0),
  (3, .istore_n 3, 1, 0, 0, 0, 0),
  (4, .iload_n 3, 1, 0, 0, 0, 0),
  (5, .aload_n 0, 1, 0, 0, 0, 0),
  (6, .getfield 271, 3, 7, 24, 0, 0),
  (9, .if_icmp .ge 34, 3, 43, 0, 0, 0),
  (12, .aload_n 0, 1, 0, 0, 0, 0),
  (13, .getfield 46, 3, 7, 23, 0, 0),
  (16, .iload_n 3, 1, 0, 0, 0, 0),
  (17, .iaload, 1, 0, 0, 0, 0),
  (18, .ifCond .le 19, 3, 37, 0, 0, 0),
  (21, .iload_n 2, 1, 0, 0, 0, 0),
  (22, .ifCond .lt 13, 3, 35, 0, 0, 0),
  (25, .aload_n 0, 1, 0, 0, 0, 0),
  (26, .iload_n 3, 1, 0, 0, 0, 0),
  (27, .iload_n 2, 1, 0, 0, 0, 0),
  (28, .iload_n 1, 1, 0, 0, 0, 0),
  (29, .invokevirtual 284, 3, 218, 1, 0, 0),
  (32, .ifCond .eq 5, 3, 37, 0, 0, 0),
  (35, .iload_n 3, 1, 0, 0, 0, 0),
  (36, .istore_n 2, 1, 0, 0, 0, 0),
  (37, .iinc 3 1, 3, 0, 0, 1, 0),
  (40, .goto (-36), 3, 4, 0, 0, 0),
  (43, .iload_n 2, 1, 0, 0, 0, 0),
  (44, .ifCond .ge 6, 3, 50, 0, 0, 0),
  (47, .bipush (-9), 2, 0, 0, (-9), 0),
  (49, .ireturn, 1, 0, 0, 0, 0),
  (50, .aload_n 0, 1, 0, 0, 0, 0)]
set_option maxRecDepth 100000 in
set_option maxHeartbeats 4000000 in
theorem kk_219_0 : k_219_0.all (entOK (mCi 219) (mB 219)) = true := by decide +kernel
def k_219_1 : List XI := [(51, .getfield 46, 3, 7, 23, 0, 0),
  (54, .iload_n 2, 1, 0, 0, 0, 0),
  (55, .dup2, 1, 0, 0, 0, 0),
  (56, .iaload, 1, 0, 0, 0, 0),
  (57, .iconst 1, 1, 0, 0, 1, 0),
  (58, .isub, 1, 0, 0, 0, 0),
  (59, .iastore, 1, 0, 0, 0, 0),
  (60, .aload_n 0, 1, 0, 0, 0, 0),
  (61, .getfield 52, 3, 7, 26, 0, 0),
  (64, .aload_n 0, 1, 0, 0, 0, 0),
  (65, .getfield 40, 3, 7, 21, 0, 0),
  (68, .iload_n 2, 1, 0, 0, 0, 0),
  (69, .iaload, 1, 0, 0, 0, 0),
  (70, .dup2, 1, 0, 0, 0, 0),
  (71, .iaload, 1, 0, 0, 0, 0),
  (72, .aload_n 0, 1, 0, 0, 0, 0),
  (73, .getfield 46, 3, 7, 23, 0, 0),
  (76, .iload_n 2, 1, 0, 0, 0, 0),
  (77, .iaload, 1, 0, 0, 0, 0),
  (78, .ifCond .ne 7, 3, 85, 0, 0, 0),
  (81, .iconst 1, 1, 0, 0, 1, 0),
  (82, .goto 4, 3, 86, 0, 0, 0),
  (85, .iconst 0, 1, 0, 0, 0, 0),
  (86, .iadd, 1, 0, 0, 0, 0),
  (87, .iastore, 1, 0, 0, 0, 0),
  (88, .aload_n 0, 1, 0, 0, 0, 0),
  (89, .getfield 40, 3, 7, 21, 0, 0),
  (92, .iload_n 2, 1, 0, 0, 0, 0),
  (93, .iaload, 1, 0, 0, 0, 0),
  (94, .ireturn, 1, 0, 0, 0, 0)]
set_option maxRecDepth 100000 in
set_option maxHeartbeats 4000000 in
theorem kk_219_1 : k_219_1.all (entOK (mCi 219) (mB 219)) = true := by decide +kernel
def k_219 : List XI := k_219_0 ++ (k_219_1)
theorem kk_219 : k_219.all (entOK (mCi 219) (mB 219)) = true := all_app kk_219_0 (kk_219_1)
set_option maxRecDepth 100000 in
set_option maxHeartbeats 4000000 in
theorem fM_works {E : XE} {h : Mem} {Q : Int32 → Mem → Prop} {a1 : Int32} 
    (hF : WP E mM_works 4 [some (.ref 60), some (.int a1), some (.int (-1)), some (.int 0)] [] h (qI Q)) :
    CALLI E mM_works [.ref 60, .int a1] h Q := CALL_of rfl (wp_sound [(4, [1, 1, 1, 1])] kk_219 5 hF)
set_option maxRecDepth 100000 in
set_option maxHeartbeats 4000000 in
theorem fM_works_4 {E : XE} {h : Mem} {Q : Int32 → Mem → Prop} {x1 : Int32} {x2 : Int32} {x3 : Int32} 
    (hF : ((h 60 24) ≤ x3 → (0 ≤ x2 → cnd (inb x2 800) (cnd (inb x2 800) (cnd (inb x2 800) (cnd (inb ((upd2 h 73 (ix x2) ((h 73 (ix x2)) - 1)) 71 (ix x2)) 6) (cnd (inb x2 800) ((¬ ((upd2 h 73 (ix x2) ((h 73 (ix x2)) - 1)) 73 (ix x2)) = 0 → cnd (inb ((upd2 h 73 (ix x2) ((h 73 (ix x2)) - 1)) 71 (ix x2)) 6) (cnd (inb x2 800) (Q ((upd2 (upd2 h 73 (ix x2) ((h 73 (ix x2)) - 1)) 75 (ix ((upd2 h 73 (ix x2) ((h 73 (ix x2)) - 1)) 71 (ix x2))) (((upd2 h 73 (ix x2) ((h 73 (ix x2)) - 1)) 75 (ix ((upd2 h 73 (ix x2) ((h 73 (ix x2)) - 1)) 71 (ix x2)))) + 0)) 71 (ix x2)) (upd2 (upd2 h 73 (ix x2) ((h 73 (ix x2)) - 1)) 75 (ix ((upd2 h 73 (ix x2) ((h 73 (ix x2)) - 1)) 71 (ix x2))) (((upd2 h 73 (ix x2) ((h 73 (ix x2)) - 1)) 75 (ix ((upd2 h 73 (ix x2) ((h 73 (ix x2)) - 1)) 71 (ix x2)))) + 0))))) ∧ (((upd2 h 73 (ix x2) ((h 73 (ix x2)) - 1)) 73 (ix x2)) = 0 → cnd (inb ((upd2 h 73 (ix x2) ((h 73 (ix x2)) - 1)) 71 (ix x2)) 6) (cnd (inb x2 800) (Q ((upd2 (upd2 h 73 (ix x2) ((h 73 (ix x2)) - 1)) 75 (ix ((upd2 h 73 (ix x2) ((h 73 (ix x2)) - 1)) 71 (ix x2))) (((upd2 h 73 (ix x2) ((h 73 (ix x2)) - 1)) 75 (ix ((upd2 h 73 (ix x2) ((h 73 (ix x2)) - 1)) 71 (ix x2)))) + 1)) 71 (ix x2)) (upd2 (upd2 h 73 (ix x2) ((h 73 (ix x2)) - 1)) 75 (ix ((upd2 h 73 (ix x2) ((h 73 (ix x2)) - 1)) 71 (ix x2))) (((upd2 h 73 (ix x2) ((h 73 (ix x2)) - 1)) 75 (ix ((upd2 h 73 (ix x2) ((h 73 (ix x2)) - 1)) 71 (ix x2)))) + 1))))))))))) ∧ (¬ 0 ≤ x2 → Q (-9) h)) ∧ (¬ (h 60 24) ≤ x3 → cnd (inb x3 800) (((h 73 (ix x3)) ≤ 0 → WP E mM_works 4 [some (.ref 60), some (.int x1), some (.int x2), some (.int (x3 + 1))] [] h (qI Q)) ∧ (¬ (h 73 (ix x3)) ≤ 0 → (x2 < 0 → WP E mM_works 4 [some (.ref 60), some (.int x1), some (.int x3), some (.int (x3 + 1))] [] h (qI Q)) ∧ (¬ x2 < 0 → CALLI E mM_goesAhead [.ref 60, .int x3, .int x2, .int x1] h fun v1 h1 => (v1 = 0 → WP E mM_works 4 [some (.ref 60), some (.int x1), some (.int x2), some (.int (x3 + 1))] [] h1 (qI Q)) ∧ (¬ v1 = 0 → WP E mM_works 4 [some (.ref 60), some (.int x1), some (.int x3), some (.int (x3 + 1))] [] h1 (qI Q))))))) :
    WP E mM_works 4 [some (.ref 60), some (.int x1), some (.int x2), some (.int x3)] [] h (qI Q) := wp_sound [(4, [1, 1, 1, 1])] kk_219 37 hF
def k_220_0 : List XI := [(0, .aload_n 0, 1, 0, 0, 0, 0),
  (1, .iconst 0, 1, 0, 0, 0, 0),
  (2, .putfield 271, 3, 7, 24, 0, 0),
  (5, .aload_n 0, 1, 0, 0, 0, 0),
  (6, .bipush (-9), 2, 0, 0, (-9), 0),
  (8, .putfield 274, 3, 7, 28, 0, 0),
  (11, .aload_n 0, 1, 0, 0, 0, 0),
  (12, .bipush (-9), 2, 0, 0, (-9), 0),
  (14, .putfield 277, 3, 7, 29, 0, 0),
  (17, .iconst 0, 1, 0, 0, 0, 0),
  (18, .istore_n 2, 1, 0, 0, 0, 0),
  (19, .iload_n 2, 1, 0, 0, 0, 0),
  (20, .bipush 6, 2, 0, 0, 6, 0),
  (22, .if_icmp .ge 23, 3, 45, 0, 0, 0),
  (25, .aload_n 0, 1, 0, 0, 0, 0),
  (26, .getfield 52, 3, 7, 26, 0, 0),
  (29, .iload_n 2, 1, 0, 0, 0, 0),
  (30, .iconst 0, 1, 0, 0, 0, 0),
  (31, .iastore, 1, 0, 0, 0, 0),
  (32, .aload_n 0, 1, 0, 0, 0, 0),
  (33, .getfield 55, 3, 7, 27, 0, 0),
  (36, .iload_n 2, 1, 0, 0, 0, 0),
  (37, .iconst 0, 1, 0, 0, 0, 0),
  (38, .iastore, 1, 0, 0, 0, 0),
  (39, .iinc 2 1, 3, 0, 0, 1, 0),
  (42, .goto (-23), 3, 19, 0, 0, 0),
  (45, .iconst 0, 1, 0, 0, 0, 0),
  (46, .istore_n 2, 1, 0, 0, 0, 0),
  (47, .iload_n 2, 1, 0, 0, 0, 0),
  (48, .bipush 60, 2, 0, 0, 60, 0)]
set_option maxRecDepth 100000 in
set_option maxHeartbeats 4000000 in
theorem kk_220_0 : k_220_0.all (entOK (mCi 220) (mB 220)) = true := by decide +kernel
def k_220_1 : List XI := [(50, .if_icmp .ge 58, 3, 108, 0, 0, 0),
  (53, .aload_n 0, 1, 0, 0, 0, 0),
  (54, .iload_n 2, 1, 0, 0, 0, 0),
  (55, .invokevirtual 287, 3, 215, 0, 0, 0),
  (58, .iconst 0, 1, 0, 0, 0, 0),
  (59, .istore_n 3, 1, 0, 0, 0, 0),
  (60, .iload_n 3, 1, 0, 0, 0, 0),
  (61, .aload_n 0, 1, 0, 0, 0, 0),
  (62, .getfield 9, 3, 7, 0, 0, 0),
  (65, .bipush 72, 2, 0, 0, 72, 0),
  (67, .iaload, 1, 0, 0, 0, 0),
  (68, .if_icmp .ge 23, 3, 91, 0, 0, 0),
  (71, .aload_n 0, 1, 0, 0, 0, 0),
  (72, .iload_n 3, 1, 0, 0, 0, 0),
  (73, .invokevirtual 88, 3, 141, 1, 0, 0),
  (76, .ifCond .eq 9, 3, 85, 0, 0, 0),
  (79, .aload_n 0, 1, 0, 0, 0, 0),
  (80, .iload_n 3, 1, 0, 0, 0, 0),
  (81, .iload_n 2, 1, 0, 0, 0, 0),
  (82, .invokevirtual 290, 3, 217, 0, 0, 0),
  (85, .iinc 3 1, 3, 0, 0, 1, 0),
  (88, .goto (-28), 3, 60, 0, 0, 0),
  (91, .aload_n 0, 1, 0, 0, 0, 0),
  (92, .getfield 49, 3, 7, 25, 0, 0),
  (95, .iload_n 2, 1, 0, 0, 0, 0),
  (96, .aload_n 0, 1, 0, 0, 0, 0),
  (97, .iload_n 1, 1, 0, 0, 0, 0),
  (98, .invokevirtual 293, 3, 219, 1, 0, 0),
  (101, .iastore, 1, 0, 0, 0, 0),
  (102, .iinc 2 1, 3, 0, 0, 1, 0)]
set_option maxRecDepth 100000 in
set_option maxHeartbeats 4000000 in
theorem kk_220_1 : k_220_1.all (entOK (mCi 220) (mB 220)) = true := by decide +kernel
def k_220_2 : List XI := [(105, .goto (-58), 3, 47, 0, 0, 0),
  (108, .aload_n 0, 1, 0, 0, 0, 0),
  (109, .bipush 60, 2, 0, 0, 60, 0),
  (111, .invokevirtual 287, 3, 215, 0, 0, 0),
  (114, .return_, 1, 0, 0, 0, 0)]
set_option maxRecDepth 100000 in
set_option maxHeartbeats 4000000 in
theorem kk_220_2 : k_220_2.all (entOK (mCi 220) (mB 220)) = true := by decide +kernel
def k_220 : List XI := k_220_0 ++ (k_220_1 ++ (k_220_2))
theorem kk_220 : k_220.all (entOK (mCi 220) (mB 220)) = true := all_app kk_220_0 (all_app kk_220_1 (kk_220_2))
set_option maxRecDepth 100000 in
set_option maxHeartbeats 4000000 in
theorem fM_runs {E : XE} {h : Mem} {Q : Mem → Prop} {a1 : Int32} 
    (hF : WP E mM_runs 19 [some (.ref 60), some (.int a1), some (.int 0), none] [] (upd2 (upd2 (upd2 h 60 24 0) 60 28 (-9)) 60 29 (-9)) (qV Q)) :
    CALLV E mM_runs [.ref 60, .int a1] h Q := CALL_of rfl (wp_sound [(19, [1, 1, 1, 0]), (47, [1, 1, 1, 0]), (60, [1, 1, 1, 1])] kk_220 12 hF)
set_option maxRecDepth 100000 in
set_option maxHeartbeats 4000000 in
theorem fM_runs_19 {E : XE} {h : Mem} {Q : Mem → Prop} {x1 : Int32} {x2 : Int32} 
    (hF : (6 ≤ x2 → WP E mM_runs 47 [some (.ref 60), some (.int x1), some (.int 0), none] [] h (qV Q)) ∧ (¬ 6 ≤ x2 → cnd (inb x2 6) (cnd (inb x2 6) (WP E mM_runs 19 [some (.ref 60), some (.int x1), some (.int (x2 + 1)), none] [] (upd2 (upd2 h 75 (ix x2) 0) 76 (ix x2) 0) (qV Q))))) :
    WP E mM_runs 19 [some (.ref 60), some (.int x1), some (.int x2), none] [] h (qV Q) := wp_sound [(19, [1, 1, 1, 0]), (47, [1, 1, 1, 0]), (60, [1, 1, 1, 1])] kk_220 16 hF
set_option maxRecDepth 100000 in
set_option maxHeartbeats 4000000 in
theorem fM_runs_47 {E : XE} {h : Mem} {Q : Mem → Prop} {x1 : Int32} {x2 : Int32} 
    (hF : (60 ≤ x2 → CALLV E mM_misses [.ref 60, .int 60] h fun h1 => Q h1) ∧ (¬ 60 ≤ x2 → CALLV E mM_misses [.ref 60, .int x2] h fun h2 => WP E mM_runs 60 [some (.ref 60), some (.int x1), some (.int x2), some (.int 0)] [] h2 (qV Q))) :
    WP E mM_runs 47 [some (.ref 60), some (.int x1), some (.int x2), none] [] h (qV Q) := wp_sound [(19, [1, 1, 1, 0]), (47, [1, 1, 1, 0]), (60, [1, 1, 1, 1])] kk_220 9 hF
set_option maxRecDepth 100000 in
set_option maxHeartbeats 4000000 in
theorem fM_runs_60 {E : XE} {h : Mem} {Q : Mem → Prop} {x1 : Int32} {x2 : Int32} {x3 : Int32} 
    (hF : ((h 61 (ix 72)) ≤ x3 → CALLI E mM_works [.ref 60, .int x1] h fun v1 h1 => cnd (inb x2 60) (WP E mM_runs 47 [some (.ref 60), some (.int x1), some (.int (x2 + 1)), none] [] (upd2 h1 74 (ix x2) v1) (qV Q))) ∧ (¬ (h 61 (ix 72)) ≤ x3 → CALLI E mM_isOn [.ref 60, .int x3] h fun v2 h2 => (v2 = 0 → WP E mM_runs 60 [some (.ref 60), some (.int x1), some (.int x2), some (.int (x3 + 1))] [] h2 (qV Q)) ∧ (¬ v2 = 0 → CALLV E mM_comeJobs [.ref 60, .int x3, .int x2] h2 fun h3 => WP E mM_runs 60 [some (.ref 60), some (.int x1), some (.int x2), some (.int (x3 + 1))] [] h3 (qV Q)))) :
    WP E mM_runs 60 [some (.ref 60), some (.int x1), some (.int x2), some (.int x3)] [] h (qV Q) := wp_sound [(19, [1, 1, 1, 0]), (47, [1, 1, 1, 0]), (60, [1, 1, 1, 1])] kk_220 17 hF
def k_221 : List XI := [(0, .iload_n 0, 1, 0, 0, 0, 0),
  (1, .i2l, 1, 0, 0, 0, 0),
  (2, .lconst 0, 1, 0, 0, 0, 0),
  (3, .ldc2_w 246, 3, 0, 0, 0, 3),
  (6, .invokestatic 62, 3, 135, 1, 0, 0),
  (9, .ireturn, 1, 0, 0, 0, 0)]
set_option maxRecDepth 100000 in
set_option maxHeartbeats 4000000 in
theorem kk_221 : k_221.all (entOK (mCi 221) (mB 221)) = true := by decide +kernel
set_option maxRecDepth 100000 in
set_option maxHeartbeats 4000000 in
theorem fM_isPolicy {E : XE} {h : Mem} {Q : Int32 → Mem → Prop} {a1 : Int32} 
    (hF : CALLI E mM_in [.long a1.toInt64, .long 0, .long 3] h fun v1 h1 => cnd (nb v1) (Q v1 h1)) :
    CALLI E mM_isPolicy [.int a1] h Q := CALL_of rfl (wp_sound [] kk_221 7 hF)
def k_222 : List XI := [(0, .iload_n 1, 1, 0, 0, 0, 0),
  (1, .invokestatic 296, 3, 221, 1, 0, 0),
  (4, .ifCond .ne 10, 3, 14, 0, 0, 0),
  (7, .aload_n 0, 1, 0, 0, 0, 0),
  (8, .bipush (-2), 2, 0, 0, (-2), 0),
  (10, .invokevirtual 232, 3, 136, 1, 0, 0),
  (13, .ireturn, 1, 0, 0, 0, 0),
  (14, .iload_n 2, 1, 0, 0, 0, 0),
  (15, .i2l, 1, 0, 0, 0, 0),
  (16, .lconst 0, 1, 0, 0, 0, 0),
  (17, .ldc2_w 299, 3, 0, 0, 0, 59),
  (20, .invokestatic 62, 3, 135, 1, 0, 0),
  (23, .ifCond .ne 19, 3, 42, 0, 0, 0),
  (26, .aload_n 0, 1, 0, 0, 0, 0),
  (27, .iload_n 2, 1, 0, 0, 0, 0),
  (28, .ifCond .ge 8, 3, 36, 0, 0, 0),
  (31, .bipush (-4), 2, 0, 0, (-4), 0),
  (33, .goto 5, 3, 38, 0, 0, 0),
  (36, .bipush (-6), 2, 0, 0, (-6), 0),
  (38, .invokevirtual 232, 3, 136, 1, 0, 0),
  (41, .ireturn, 1, 0, 0, 0, 0),
  (42, .aload_n 0, 1, 0, 0, 0, 0),
  (43, .iload_n 1, 1, 0, 0, 0, 0),
  (44, .invokevirtual 301, 3, 220, 0, 0, 0),
  (47, .aload_n 0, 1, 0, 0, 0, 0),
  (48, .getfield 49, 3, 7, 25, 0, 0),
  (51, .iload_n 2, 1, 0, 0, 0, 0),
  (52, .iaload, 1, 0, 0, 0, 0),
  (53, .ireturn, 1, 0, 0, 0, 0)]
set_option maxRecDepth 100000 in
set_option maxHeartbeats 4000000 in
theorem kk_222 : k_222.all (entOK (mCi 222) (mB 222)) = true := by decide +kernel
set_option maxRecDepth 100000 in
set_option maxHeartbeats 4000000 in
theorem fM_run {E : XE} {h : Mem} {Q : Int32 → Mem → Prop} {a1 : Int32} {a2 : Int32} 
    (hF : CALLI E mM_isPolicy [.int a1] h fun v1 h1 => (¬ v1 = 0 → CALLI E mM_in [.long a2.toInt64, .long 0, .long 59] h1 fun v2 h2 => (¬ v2 = 0 → CALLV E mM_runs [.ref 60, .int a1] h2 fun h3 => cnd (inb a2 60) (Q (h3 74 (ix a2)) h3)) ∧ (v2 = 0 → (0 ≤ a2 → CALLI E mM_refused [.ref 60, .int (-6)] h2 fun v4 h4 => Q v4 h4) ∧ (¬ 0 ≤ a2 → CALLI E mM_refused [.ref 60, .int (-4)] h2 fun v5 h5 => Q v5 h5))) ∧ (v1 = 0 → CALLI E mM_refused [.ref 60, .int (-2)] h1 fun v6 h6 => Q v6 h6)) :
    CALLI E mM_run [.ref 60, .int a1, .int a2] h Q := CALL_of rfl (wp_sound [] kk_222 18 hF)
def k_223_0 : List XI := [(0, .iload_n 1, 1, 0, 0, 0, 0),
  (1, .invokestatic 296, 3, 221, 1, 0, 0),
  (4, .ifCond .ne 10, 3, 14, 0, 0, 0),
  (7, .aload_n 0, 1, 0, 0, 0, 0),
  (8, .bipush (-2), 2, 0, 0, (-2), 0),
  (10, .invokevirtual 232, 3, 136, 1, 0, 0),
  (13, .ireturn, 1, 0, 0, 0, 0),
  (14, .aload_n 0, 1, 0, 0, 0, 0),
  (15, .iload_n 2, 1, 0, 0, 0, 0),
  (16, .invokevirtual 212, 3, 140, 1, 0, 0),
  (19, .ifCond .ne 9, 3, 28, 0, 0, 0),
  (22, .aload_n 0, 1, 0, 0, 0, 0),
  (23, .iconst (-1), 1, 0, 0, (-1), 0),
  (24, .invokevirtual 232, 3, 136, 1, 0, 0),
  (27, .ireturn, 1, 0, 0, 0, 0),
  (28, .iload_n 3, 1, 0, 0, 0, 0),
  (29, .i2l, 1, 0, 0, 0, 0),
  (30, .lconst 0, 1, 0, 0, 0, 0),
  (31, .lconst 1, 1, 0, 0, 0, 1),
  (32, .invokestatic 62, 3, 135, 1, 0, 0),
  (35, .ifCond .ne 10, 3, 45, 0, 0, 0),
  (38, .aload_n 0, 1, 0, 0, 0, 0),
  (39, .bipush (-2), 2, 0, 0, (-2), 0),
  (41, .invokevirtual 232, 3, 136, 1, 0, 0),
  (44, .ireturn, 1, 0, 0, 0, 0),
  (45, .aload_n 0, 1, 0, 0, 0, 0),
  (46, .iload_n 1, 1, 0, 0, 0, 0),
  (47, .invokevirtual 301, 3, 220, 0, 0, 0),
  (50, .iload_n 3, 1, 0, 0, 0, 0),
  (51, .ifCond .ne 12, 3, 63, 0, 0, 0)]
set_option maxRecDepth 100000 in
set_option maxHeartbeats 4000000 in
theorem kk_223_0 : k_223_0.all (entOK (mCi 223) (mB 223)) = true := by decide +kernel
def k_223_1 : List XI := [(54, .aload_n 0, 1, 0, 0, 0, 0),
  (55, .getfield 52, 3, 7, 26, 0, 0),
  (58, .iload_n 2, 1, 0, 0, 0, 0),
  (59, .iaload, 1, 0, 0, 0, 0),
  (60, .goto 9, 3, 69, 0, 0, 0),
  (63, .aload_n 0, 1, 0, 0, 0, 0),
  (64, .getfield 55, 3, 7, 27, 0, 0),
  (67, .iload_n 2, 1, 0, 0, 0, 0),
  (68, .iaload, 1, 0, 0, 0, 0),
  (69, .ireturn, 1, 0, 0, 0, 0)]
set_option maxRecDepth 100000 in
set_option maxHeartbeats 4000000 in
theorem kk_223_1 : k_223_1.all (entOK (mCi 223) (mB 223)) = true := by decide +kernel
def k_223 : List XI := k_223_0 ++ (k_223_1)
theorem kk_223 : k_223.all (entOK (mCi 223) (mB 223)) = true := all_app kk_223_0 (kk_223_1)
set_option maxRecDepth 100000 in
set_option maxHeartbeats 4000000 in
theorem fM_jobs {E : XE} {h : Mem} {Q : Int32 → Mem → Prop} {a1 : Int32} {a2 : Int32} {a3 : Int32} 
    (hF : CALLI E mM_isPolicy [.int a1] h fun v1 h1 => (¬ v1 = 0 → CALLI E mM_isTask [.ref 60, .int a2] h1 fun v2 h2 => (¬ v2 = 0 → CALLI E mM_in [.long a3.toInt64, .long 0, .long 1] h2 fun v3 h3 => (¬ v3 = 0 → CALLV E mM_runs [.ref 60, .int a1] h3 fun h4 => (¬ a3 = 0 → cnd (inb a2 6) (Q (h4 76 (ix a2)) h4)) ∧ (a3 = 0 → cnd (inb a2 6) (Q (h4 75 (ix a2)) h4))) ∧ (v3 = 0 → CALLI E mM_refused [.ref 60, .int (-2)] h3 fun v5 h5 => Q v5 h5)) ∧ (v2 = 0 → CALLI E mM_refused [.ref 60, .int (-1)] h2 fun v6 h6 => Q v6 h6)) ∧ (v1 = 0 → CALLI E mM_refused [.ref 60, .int (-2)] h1 fun v7 h7 => Q v7 h7)) :
    CALLI E mM_jobs [.ref 60, .int a1, .int a2, .int a3] h Q := CALL_of rfl (wp_sound [] kk_223 25 hF)
def k_224 : List XI := [(0, .iload_n 1, 1, 0, 0, 0, 0),
  (1, .invokestatic 296, 3, 221, 1, 0, 0),
  (4, .ifCond .eq 13, 3, 17, 0, 0, 0),
  (7, .iload_n 2, 1, 0, 0, 0, 0),
  (8, .i2l, 1, 0, 0, 0, 0),
  (9, .lconst 0, 1, 0, 0, 0, 0),
  (10, .lconst 1, 1, 0, 0, 0, 1),
  (11, .invokestatic 62, 3, 135, 1, 0, 0),
  (14, .ifCond .ne 10, 3, 24, 0, 0, 0),
  (17, .aload_n 0, 1, 0, 0, 0, 0),
  (18, .bipush (-2), 2, 0, 0, (-2), 0),
  (20, .invokevirtual 232, 3, 136, 1, 0, 0),
  (23, .ireturn, 1, 0, 0, 0, 0),
  (24, .aload_n 0, 1, 0, 0, 0, 0),
  (25, .iload_n 1, 1, 0, 0, 0, 0),
  (26, .invokevirtual 301, 3, 220, 0, 0, 0),
  (29, .iload_n 2, 1, 0, 0, 0, 0),
  (30, .ifCond .ne 10, 3, 40, 0, 0, 0),
  (33, .aload_n 0, 1, 0, 0, 0, 0),
  (34, .getfield 274, 3, 7, 28, 0, 0),
  (37, .goto 7, 3, 44, 0, 0, 0),
  (40, .aload_n 0, 1, 0, 0, 0, 0),
  (41, .getfield 277, 3, 7, 29, 0, 0),
  (44, .ireturn, 1, 0, 0, 0, 0)]
set_option maxRecDepth 100000 in
set_option maxHeartbeats 4000000 in
theorem kk_224 : k_224.all (entOK (mCi 224) (mB 224)) = true := by decide +kernel
set_option maxRecDepth 100000 in
set_option maxHeartbeats 4000000 in
theorem fM_first {E : XE} {h : Mem} {Q : Int32 → Mem → Prop} {a1 : Int32} {a2 : Int32} 
    (hF : CALLI E mM_isPolicy [.int a1] h fun v1 h1 => (v1 = 0 → CALLI E mM_refused [.ref 60, .int (-2)] h1 fun v2 h2 => Q v2 h2) ∧ (¬ v1 = 0 → CALLI E mM_in [.long a2.toInt64, .long 0, .long 1] h1 fun v3 h3 => (¬ v3 = 0 → CALLV E mM_runs [.ref 60, .int a1] h3 fun h4 => (¬ a2 = 0 → Q (h4 60 29) h4) ∧ (a2 = 0 → Q (h4 60 28) h4)) ∧ (v3 = 0 → CALLI E mM_refused [.ref 60, .int (-2)] h3 fun v5 h5 => Q v5 h5))) :
    CALLI E mM_first [.ref 60, .int a1, .int a2] h Q := CALL_of rfl (wp_sound [] kk_224 19 hF)
def k_225_0 : List XI := [(0, .aload_n 0, 1, 0, 0, 0, 0),
  (1, .iload_n 1, 1, 0, 0, 0, 0),
  (2, .invokevirtual 212, 3, 140, 1, 0, 0),
  (5, .ifCond .ne 9, 3, 14, 0, 0, 0),
  (8, .aload_n 0, 1, 0, 0, 0, 0),
  (9, .iconst (-1), 1, 0, 0, (-1), 0),
  (10, .invokevirtual 232, 3, 136, 1, 0, 0),
  (13, .ireturn, 1, 0, 0, 0, 0),
  (14, .aload_n 0, 1, 0, 0, 0, 0),
  (15, .iload_n 1, 1, 0, 0, 0, 0),
  (16, .invokevirtual 88, 3, 141, 1, 0, 0),
  (19, .ifCond .ne 10, 3, 29, 0, 0, 0),
  (22, .aload_n 0, 1, 0, 0, 0, 0),
  (23, .bipush (-3), 2, 0, 0, (-3), 0),
  (25, .invokevirtual 232, 3, 136, 1, 0, 0),
  (28, .ireturn, 1, 0, 0, 0, 0),
  (29, .aload_n 0, 1, 0, 0, 0, 0),
  (30, .getfield 9, 3, 7, 0, 0, 0),
  (33, .iconst 0, 1, 0, 0, 0, 0),
  (34, .iload_n 1, 1, 0, 0, 0, 0),
  (35, .iadd, 1, 0, 0, 0, 0),
  (36, .iaload, 1, 0, 0, 0, 0),
  (37, .istore_n 2, 1, 0, 0, 0, 0),
  (38, .bipush (-9), 2, 0, 0, (-9), 0),
  (40, .istore_n 3, 1, 0, 0, 0, 0),
  (41, .iconst 0, 1, 0, 0, 0, 0),
  (42, .istore 4, 2, 0, 0, 0, 0),
  (44, .iload 4, 2, 0, 0, 0, 0),
  (46, .bipush 100, 2, 0, 0, 100, 0),
  (48, .if_icmp .ge 33, 3, 81, 0, 0, 0)]
set_option maxRecDepth 100000 in
set_option maxHeartbeats 4000000 in
theorem kk_225_0 : k_225_0.all (entOK (mCi 225) (mB 225)) = true := by decide +kernel
def k_225_1 : List XI := [(51, .aload_n 0, 1, 0, 0, 0, 0),
  (52, .invokevirtual 304, 3, 153, 1, 0, 0),
  (55, .ifCond .ne 26, 3, 81, 0, 0, 0),
  (58, .iload 4, 2, 0, 0, 0, 0),
  (60, .istore_n 3, 1, 0, 0, 0, 0),
  (61, .aload_n 0, 1, 0, 0, 0, 0),
  (62, .getfield 9, 3, 7, 0, 0, 0),
  (65, .iconst 0, 1, 0, 0, 0, 0),
  (66, .iload_n 1, 1, 0, 0, 0, 0),
  (67, .iadd, 1, 0, 0, 0, 0),
  (68, .iload_n 2, 1, 0, 0, 0, 0),
  (69, .iload 4, 2, 0, 0, 0, 0),
  (71, .iadd, 1, 0, 0, 0, 0),
  (72, .iconst 1, 1, 0, 0, 1, 0),
  (73, .iadd, 1, 0, 0, 0, 0),
  (74, .iastore, 1, 0, 0, 0, 0),
  (75, .iinc 4 1, 3, 0, 0, 1, 0),
  (78, .goto (-34), 3, 44, 0, 0, 0),
  (81, .aload_n 0, 1, 0, 0, 0, 0),
  (82, .getfield 9, 3, 7, 0, 0, 0),
  (85, .iconst 0, 1, 0, 0, 0, 0),
  (86, .iload_n 1, 1, 0, 0, 0, 0),
  (87, .iadd, 1, 0, 0, 0, 0),
  (88, .iload_n 2, 1, 0, 0, 0, 0),
  (89, .iastore, 1, 0, 0, 0, 0),
  (90, .iload_n 3, 1, 0, 0, 0, 0),
  (91, .ireturn, 1, 0, 0, 0, 0)]
set_option maxRecDepth 100000 in
set_option maxHeartbeats 4000000 in
theorem kk_225_1 : k_225_1.all (entOK (mCi 225) (mB 225)) = true := by decide +kernel
def k_225 : List XI := k_225_0 ++ (k_225_1)
theorem kk_225 : k_225.all (entOK (mCi 225) (mB 225)) = true := all_app kk_225_0 (kk_225_1)
set_option maxRecDepth 100000 in
set_option maxHeartbeats 4000000 in
theorem fM_slack {E : XE} {h : Mem} {Q : Int32 → Mem → Prop} {a1 : Int32} 
    (hF : CALLI E mM_isTask [.ref 60, .int a1] h fun v1 h1 => (¬ v1 = 0 → CALLI E mM_isOn [.ref 60, .int a1] h1 fun v2 h2 => (¬ v2 = 0 → cnd (inb (0 + a1) 73) (WP E mM_slack 44 [some (.ref 60), some (.int a1), some (.int (h2 61 (ix (0 + a1)))), some (.int (-9)), some (.int 0)] [] h2 (qI Q))) ∧ (v2 = 0 → CALLI E mM_refused [.ref 60, .int (-3)] h2 fun v3 h3 => Q v3 h3)) ∧ (v1 = 0 → CALLI E mM_refused [.ref 60, .int (-1)] h1 fun v4 h4 => Q v4 h4)) :
    CALLI E mM_slack [.ref 60, .int a1] h Q := CALL_of rfl (wp_sound [(44, [1, 1, 1, 1, 1])] kk_225 20 hF)
set_option maxRecDepth 100000 in
set_option maxHeartbeats 4000000 in
theorem fM_slack_44 {E : XE} {h : Mem} {Q : Int32 → Mem → Prop} {x1 : Int32} {x2 : Int32} {x3 : Int32} {x4 : Int32} 
    (hF : (100 ≤ x4 → cnd (inb (0 + x1) 73) (Q x3 (upd2 h 61 (ix (0 + x1)) x2))) ∧ (¬ 100 ≤ x4 → CALLI E mM_isMissed [.ref 60] h fun v1 h1 => (¬ v1 = 0 → cnd (inb (0 + x1) 73) (Q x3 (upd2 h1 61 (ix (0 + x1)) x2))) ∧ (v1 = 0 → cnd (inb (0 + x1) 73) (WP E mM_slack 44 [some (.ref 60), some (.int x1), some (.int x2), some (.int x4), some (.int (x4 + 1))] [] (upd2 h1 61 (ix (0 + x1)) ((x2 + x4) + 1)) (qI Q))))) :
    WP E mM_slack 44 [some (.ref 60), some (.int x1), some (.int x2), some (.int x3), some (.int x4)] [] h (qI Q) := wp_sound [(44, [1, 1, 1, 1, 1])] kk_225 22 hF
def k_226_0 : List XI := [(0, .aload_n 0, 1, 0, 0, 0, 0),
  (1, .iload_n 1, 1, 0, 0, 0, 0),
  (2, .iload_n 2, 1, 0, 0, 0, 0),
  (3, .invokevirtual 262, 3, 209, 1, 0, 0),
  (6, .istore_n 3, 1, 0, 0, 0, 0),
  (7, .iload_n 3, 1, 0, 0, 0, 0),
  (8, .ifCond .ge 5, 3, 13, 0, 0, 0),
  (11, .iload_n 3, 1, 0, 0, 0, 0),
  (12, .ireturn, 1, 0, 0, 0, 0),
  (13, .aload_n 0, 1, 0, 0, 0, 0),
  (14, .getfield 9, 3, 7, 0, 0, 0),
  (17, .iconst 0, 1, 0, 0, 0, 0),
  (18, .iload_n 2, 1, 0, 0, 0, 0),
  (19, .iadd, 1, 0, 0, 0, 0),
  (20, .iaload, 1, 0, 0, 0, 0),
  (21, .istore 4, 2, 0, 0, 0, 0),
  (23, .bipush (-9), 2, 0, 0, (-9), 0),
  (25, .istore 5, 2, 0, 0, 0, 0),
  (27, .iconst 0, 1, 0, 0, 0, 0),
  (28, .istore 6, 2, 0, 0, 0, 0),
  (30, .iload 6, 2, 0, 0, 0, 0),
  (32, .bipush 100, 2, 0, 0, 100, 0),
  (34, .if_icmp .ge 36, 3, 70, 0, 0, 0),
  (37, .aload_n 0, 1, 0, 0, 0, 0),
  (38, .iload_n 1, 1, 0, 0, 0, 0),
  (39, .invokevirtual 308, 3, 166, 1, 0, 0),
  (42, .ifCond .eq 28, 3, 70, 0, 0, 0),
  (45, .iload 6, 2, 0, 0, 0, 0),
  (47, .istore 5, 2, 0, 0, 0, 0),
  (49, .aload_n 0, 1, 0, 0, 0, 0)]
set_option maxRecDepth 100000 in
set_option maxHeartbeats 4000000 in
theorem kk_226_0 : k_226_0.all (entOK (mCi 226) (mB 226)) = true := by decide +kernel
def k_226_1 : List XI := [(50, .getfield 9, 3, 7, 0, 0, 0),
  (53, .iconst 0, 1, 0, 0, 0, 0),
  (54, .iload_n 2, 1, 0, 0, 0, 0),
  (55, .iadd, 1, 0, 0, 0, 0),
  (56, .iload 4, 2, 0, 0, 0, 0),
  (58, .iload 6, 2, 0, 0, 0, 0),
  (60, .iadd, 1, 0, 0, 0, 0),
  (61, .iconst 1, 1, 0, 0, 1, 0),
  (62, .iadd, 1, 0, 0, 0, 0),
  (63, .iastore, 1, 0, 0, 0, 0),
  (64, .iinc 6 1, 3, 0, 0, 1, 0),
  (67, .goto (-37), 3, 30, 0, 0, 0),
  (70, .aload_n 0, 1, 0, 0, 0, 0),
  (71, .getfield 9, 3, 7, 0, 0, 0),
  (74, .iconst 0, 1, 0, 0, 0, 0),
  (75, .iload_n 2, 1, 0, 0, 0, 0),
  (76, .iadd, 1, 0, 0, 0, 0),
  (77, .iload 4, 2, 0, 0, 0, 0),
  (79, .iastore, 1, 0, 0, 0, 0),
  (80, .iload 5, 2, 0, 0, 0, 0),
  (82, .ireturn, 1, 0, 0, 0, 0)]
set_option maxRecDepth 100000 in
set_option maxHeartbeats 4000000 in
theorem kk_226_1 : k_226_1.all (entOK (mCi 226) (mB 226)) = true := by decide +kernel
def k_226 : List XI := k_226_0 ++ (k_226_1)
theorem kk_226 : k_226.all (entOK (mCi 226) (mB 226)) = true := all_app kk_226_0 (kk_226_1)
set_option maxRecDepth 100000 in
set_option maxHeartbeats 4000000 in
theorem fM_slackBy {E : XE} {h : Mem} {Q : Int32 → Mem → Prop} {a1 : Int32} {a2 : Int32} 
    (hF : CALLI E mM_wrongIn [.ref 60, .int a1, .int a2] h fun v1 h1 => (0 ≤ v1 → cnd (inb (0 + a2) 73) (WP E mM_slackBy 30 [some (.ref 60), some (.int a1), some (.int a2), none, some (.int (h1 61 (ix (0 + a2)))), some (.int (-9)), some (.int 0)] [] h1 (qI Q))) ∧ (¬ 0 ≤ v1 → Q v1 h1)) :
    CALLI E mM_slackBy [.ref 60, .int a1, .int a2] h Q := CALL_of rfl (wp_sound [(30, [1, 1, 1, 0, 1, 1, 1])] kk_226 19 hF)
set_option maxRecDepth 100000 in
set_option maxHeartbeats 4000000 in
theorem fM_slackBy_30 {E : XE} {h : Mem} {Q : Int32 → Mem → Prop} {x1 : Int32} {x2 : Int32} {x4 : Int32} {x5 : Int32} {x6 : Int32} 
    (hF : (100 ≤ x6 → cnd (inb (0 + x2) 73) (Q x5 (upd2 h 61 (ix (0 + x2)) x4))) ∧ (¬ 100 ≤ x6 → CALLI E mM_doAllFit [.ref 60, .int x1] h fun v1 h1 => (v1 = 0 → cnd (inb (0 + x2) 73) (Q x5 (upd2 h1 61 (ix (0 + x2)) x4))) ∧ (¬ v1 = 0 → cnd (inb (0 + x2) 73) (WP E mM_slackBy 30 [some (.ref 60), some (.int x1), some (.int x2), none, some (.int x4), some (.int x6), some (.int (x6 + 1))] [] (upd2 h1 61 (ix (0 + x2)) ((x4 + x6) + 1)) (qI Q))))) :
    WP E mM_slackBy 30 [some (.ref 60), some (.int x1), some (.int x2), none, some (.int x4), some (.int x5), some (.int x6)] [] h (qI Q) := wp_sound [(30, [1, 1, 1, 0, 1, 1, 1])] kk_226 23 hF
def k_227 : List XI := [(0, .lload_n 0, 1, 0, 0, 0, 0),
  (1, .lstore 4, 2, 0, 0, 0, 0),
  (3, .lload_n 2, 1, 0, 0, 0, 0),
  (4, .lstore 6, 2, 0, 0, 0, 0),
  (6, .lload 6, 2, 0, 0, 0, 0),
  (8, .lconst 0, 1, 0, 0, 0, 0),
  (9, .lcmp, 1, 0, 0, 0, 0),
  (10, .ifCond .eq 21, 3, 31, 0, 0, 0),
  (13, .lload 4, 2, 0, 0, 0, 0),
  (15, .lload 6, 2, 0, 0, 0, 0),
  (17, .lrem, 1, 0, 0, 0, 0),
  (18, .lstore 8, 2, 0, 0, 0, 0),
  (20, .lload 6, 2, 0, 0, 0, 0),
  (22, .lstore 4, 2, 0, 0, 0, 0),
  (24, .lload 8, 2, 0, 0, 0, 0),
  (26, .lstore 6, 2, 0, 0, 0, 0),
  (28, .goto (-22), 3, 6, 0, 0, 0),
  (31, .lload 4, 2, 0, 0, 0, 0),
  (33, .lreturn, 1, 0, 0, 0, 0)]
set_option maxRecDepth 100000 in
set_option maxHeartbeats 4000000 in
theorem kk_227 : k_227.all (entOK (mCi 227) (mB 227)) = true := by decide +kernel
set_option maxRecDepth 100000 in
set_option maxHeartbeats 4000000 in
theorem fM_divisor {E : XE} {h : Mem} {Q : Int64 → Mem → Prop} {a1 : Int64} {a2 : Int64} 
    (hF : WP E mM_divisor 6 [none, none, none, none, some (.long a1), none, some (.long a2), none, none, none] [] h (qL Q)) :
    CALLL E mM_divisor [.long a1, .long a2] h Q := CALL_of rfl (wp_sound [(6, [0, 0, 0, 0, 1, 0, 1, 0, 0, 0])] kk_227 5 hF)
set_option maxRecDepth 100000 in
set_option maxHeartbeats 4000000 in
theorem fM_divisor_6 {E : XE} {h : Mem} {Q : Int64 → Mem → Prop} {x4 : Int64} {x6 : Int64} 
    (hF : ((lg_cmp x6 0) = 0 → Q x4 h) ∧ (¬ (lg_cmp x6 0) = 0 → cnd (nzL x6) (WP E mM_divisor 6 [none, none, none, none, some (.long x6), none, some (.long (remL x4 x6)), none, none, none] [] h (qL Q)))) :
    WP E mM_divisor 6 [none, none, none, none, some (.long x4), none, some (.long x6), none, none, none] [] h (qL Q) := wp_sound [(6, [0, 0, 0, 0, 1, 0, 1, 0, 0, 0])] kk_227 14 hF
def k_228 : List XI := [(0, .lload_n 0, 1, 0, 0, 0, 0),
  (1, .lload_n 2, 1, 0, 0, 0, 0),
  (2, .invokestatic 311, 3, 227, 2, 0, 0),
  (5, .lstore 5, 2, 0, 0, 0, 0),
  (7, .iload 4, 2, 0, 0, 0, 0),
  (9, .ifCond .ne 10, 3, 19, 0, 0, 0),
  (12, .lload_n 0, 1, 0, 0, 0, 0),
  (13, .lload 5, 2, 0, 0, 0, 0),
  (15, .ldiv, 1, 0, 0, 0, 0),
  (16, .goto 7, 3, 23, 0, 0, 0),
  (19, .lload_n 2, 1, 0, 0, 0, 0),
  (20, .lload 5, 2, 0, 0, 0, 0),
  (22, .ldiv, 1, 0, 0, 0, 0),
  (23, .lreturn, 1, 0, 0, 0, 0)]
set_option maxRecDepth 100000 in
set_option maxHeartbeats 4000000 in
theorem kk_228 : k_228.all (entOK (mCi 228) (mB 228)) = true := by decide +kernel
set_option maxRecDepth 100000 in
set_option maxHeartbeats 4000000 in
theorem fM_part {E : XE} {h : Mem} {Q : Int64 → Mem → Prop} {a1 : Int64} {a2 : Int64} {a3 : Int32} 
    (hF : CALLL E mM_divisor [.long a1, .long a2] h fun v1 h1 => (¬ a3 = 0 → cnd (nzL v1) (Q (a2 / v1) h1)) ∧ (a3 = 0 → cnd (nzL v1) (Q (a1 / v1) h1))) :
    CALLL E mM_part [.long a1, .long a2, .int a3] h Q := CALL_of rfl (wp_sound [] kk_228 12 hF)
def k_229_0 : List XI := [(0, .lconst 1, 1, 0, 0, 0, 1),
  (1, .lstore_n 1, 1, 0, 0, 0, 0),
  (2, .iconst 0, 1, 0, 0, 0, 0),
  (3, .istore_n 3, 1, 0, 0, 0, 0),
  (4, .iload_n 3, 1, 0, 0, 0, 0),
  (5, .aload_n 0, 1, 0, 0, 0, 0),
  (6, .getfield 9, 3, 7, 0, 0, 0),
  (9, .bipush 72, 2, 0, 0, 72, 0),
  (11, .iaload, 1, 0, 0, 0, 0),
  (12, .if_icmp .ge 41, 3, 53, 0, 0, 0),
  (15, .aload_n 0, 1, 0, 0, 0, 0),
  (16, .iload_n 3, 1, 0, 0, 0, 0),
  (17, .invokevirtual 88, 3, 141, 1, 0, 0),
  (20, .ifCond .eq 25, 3, 45, 0, 0, 0),
  (23, .lload_n 1, 1, 0, 0, 0, 0),
  (24, .lload_n 1, 1, 0, 0, 0, 0),
  (25, .aload_n 0, 1, 0, 0, 0, 0),
  (26, .iload_n 3, 1, 0, 0, 0, 0),
  (27, .invokevirtual 79, 3, 143, 1, 0, 0),
  (30, .i2l, 1, 0, 0, 0, 0),
  (31, .invokestatic 311, 3, 227, 2, 0, 0),
  (34, .ldiv, 1, 0, 0, 0, 0),
  (35, .aload_n 0, 1, 0, 0, 0, 0),
  (36, .iload_n 3, 1, 0, 0, 0, 0),
  (37, .invokevirtual 79, 3, 143, 1, 0, 0),
  (40, .i2l, 1, 0, 0, 0, 0),
  (41, .lmul, 1, 0, 0, 0, 0),
  (42, .goto 4, 3, 46, 0, 0, 0),
  (45, .lload_n 1, 1, 0, 0, 0, 0),
  (46, .lstore_n 1, 1, 0, 0, 0, 0)]
set_option maxRecDepth 100000 in
set_option maxHeartbeats 4000000 in
theorem kk_229_0 : k_229_0.all (entOK (mCi 229) (mB 229)) = true := by decide +kernel
def k_229_1 : List XI := [(47, .iinc 3 1, 3, 0, 0, 1, 0),
  (50, .goto (-46), 3, 4, 0, 0, 0),
  (53, .lload_n 1, 1, 0, 0, 0, 0),
  (54, .lreturn, 1, 0, 0, 0, 0)]
set_option maxRecDepth 100000 in
set_option maxHeartbeats 4000000 in
theorem kk_229_1 : k_229_1.all (entOK (mCi 229) (mB 229)) = true := by decide +kernel
def k_229 : List XI := k_229_0 ++ (k_229_1)
theorem kk_229 : k_229.all (entOK (mCi 229) (mB 229)) = true := all_app kk_229_0 (kk_229_1)
set_option maxRecDepth 100000 in
set_option maxHeartbeats 4000000 in
theorem fM_multipleAll {E : XE} {h : Mem} {Q : Int64 → Mem → Prop}  
    (hF : WP E mM_multipleAll 4 [some (.ref 60), some (.long 1), none, some (.int 0)] [] h (qL Q)) :
    CALLL E mM_multipleAll [.ref 60] h Q := CALL_of rfl (wp_sound [(4, [1, 1, 0, 1])] kk_229 5 hF)
set_option maxRecDepth 100000 in
set_option maxHeartbeats 4000000 in
theorem fM_multipleAll_4 {E : XE} {h : Mem} {Q : Int64 → Mem → Prop} {x1 : Int64} {x3 : Int32} 
    (hF : ((h 61 (ix 72)) ≤ x3 → Q x1 h) ∧ (¬ (h 61 (ix 72)) ≤ x3 → CALLI E mM_isOn [.ref 60, .int x3] h fun v1 h1 => (v1 = 0 → WP E mM_multipleAll 4 [some (.ref 60), some (.long x1), none, some (.int (x3 + 1))] [] h1 (qL Q)) ∧ (¬ v1 = 0 → CALLI E mM_distance [.ref 60, .int x3] h1 fun v2 h2 => CALLL E mM_divisor [.long x1, .long v2.toInt64] h2 fun v3 h3 => cnd (nzL v3) (CALLI E mM_distance [.ref 60, .int x3] h3 fun v4 h4 => WP E mM_multipleAll 4 [some (.ref 60), some (.long ((x1 / v3) * v4.toInt64)), none, some (.int (x3 + 1))] [] h4 (qL Q))))) :
    WP E mM_multipleAll 4 [some (.ref 60), some (.long x1), none, some (.int x3)] [] h (qL Q) := wp_sound [(4, [1, 1, 0, 1])] kk_229 28 hF
def k_230_0 : List XI := [(0, .iload_n 1, 1, 0, 0, 0, 0),
  (1, .i2l, 1, 0, 0, 0, 0),
  (2, .lconst 0, 1, 0, 0, 0, 0),
  (3, .lconst 1, 1, 0, 0, 0, 1),
  (4, .invokestatic 62, 3, 135, 1, 0, 0),
  (7, .ifCond .ne 15, 3, 22, 0, 0, 0),
  (10, .ldc2_w 315, 3, 0, 0, 0, 4000000000000000000),
  (13, .aload_n 0, 1, 0, 0, 0, 0),
  (14, .bipush (-2), 2, 0, 0, (-2), 0),
  (16, .invokevirtual 232, 3, 136, 1, 0, 0),
  (19, .i2l, 1, 0, 0, 0, 0),
  (20, .lsub, 1, 0, 0, 0, 0),
  (21, .lreturn, 1, 0, 0, 0, 0),
  (22, .aload_n 0, 1, 0, 0, 0, 0),
  (23, .invokevirtual 317, 3, 229, 2, 0, 0),
  (26, .lstore_n 2, 1, 0, 0, 0, 0),
  (27, .lconst 0, 1, 0, 0, 0, 0),
  (28, .lstore 4, 2, 0, 0, 0, 0),
  (30, .iconst 0, 1, 0, 0, 0, 0),
  (31, .istore 6, 2, 0, 0, 0, 0),
  (33, .iload 6, 2, 0, 0, 0, 0),
  (35, .aload_n 0, 1, 0, 0, 0, 0),
  (36, .getfield 9, 3, 7, 0, 0, 0),
  (39, .bipush 72, 2, 0, 0, 72, 0),
  (41, .iaload, 1, 0, 0, 0, 0),
  (42, .if_icmp .ge 47, 3, 89, 0, 0, 0),
  (45, .lload 4, 2, 0, 0, 0, 0),
  (47, .aload_n 0, 1, 0, 0, 0, 0),
  (48, .iload 6, 2, 0, 0, 0, 0),
  (50, .invokevirtual 88, 3, 141, 1, 0, 0)]
set_option maxRecDepth 100000 in
set_option maxHeartbeats 4000000 in
theorem kk_230_0 : k_230_0.all (entOK (mCi 230) (mB 230)) = true := by decide +kernel
def k_230_1 : List XI := [(53, .ifCond .eq 26, 3, 79, 0, 0, 0),
  (56, .lload_n 2, 1, 0, 0, 0, 0),
  (57, .aload_n 0, 1, 0, 0, 0, 0),
  (58, .iload 6, 2, 0, 0, 0, 0),
  (60, .invokevirtual 79, 3, 143, 1, 0, 0),
  (63, .i2l, 1, 0, 0, 0, 0),
  (64, .ldiv, 1, 0, 0, 0, 0),
  (65, .aload_n 0, 1, 0, 0, 0, 0),
  (66, .getfield 9, 3, 7, 0, 0, 0),
  (69, .iconst 0, 1, 0, 0, 0, 0),
  (70, .iload 6, 2, 0, 0, 0, 0),
  (72, .iadd, 1, 0, 0, 0, 0),
  (73, .iaload, 1, 0, 0, 0, 0),
  (74, .i2l, 1, 0, 0, 0, 0),
  (75, .lmul, 1, 0, 0, 0, 0),
  (76, .goto 4, 3, 80, 0, 0, 0),
  (79, .lconst 0, 1, 0, 0, 0, 0),
  (80, .ladd, 1, 0, 0, 0, 0),
  (81, .lstore 4, 2, 0, 0, 0, 0),
  (83, .iinc 6 1, 3, 0, 0, 1, 0),
  (86, .goto (-53), 3, 33, 0, 0, 0),
  (89, .lload 4, 2, 0, 0, 0, 0),
  (91, .lload_n 2, 1, 0, 0, 0, 0),
  (92, .iload_n 1, 1, 0, 0, 0, 0),
  (93, .invokestatic 321, 3, 228, 2, 0, 0),
  (96, .lreturn, 1, 0, 0, 0, 0)]
set_option maxRecDepth 100000 in
set_option maxHeartbeats 4000000 in
theorem kk_230_1 : k_230_1.all (entOK (mCi 230) (mB 230)) = true := by decide +kernel
def k_230 : List XI := k_230_0 ++ (k_230_1)
theorem kk_230 : k_230.all (entOK (mCi 230) (mB 230)) = true := all_app kk_230_0 (kk_230_1)
set_option maxRecDepth 100000 in
set_option maxHeartbeats 4000000 in
theorem fM_load {E : XE} {h : Mem} {Q : Int64 → Mem → Prop} {a1 : Int32} 
    (hF : CALLI E mM_in [.long a1.toInt64, .long 0, .long 1] h fun v1 h1 => (¬ v1 = 0 → CALLL E mM_multipleAll [.ref 60] h1 fun v2 h2 => WP E mM_load 33 [some (.ref 60), some (.int a1), some (.long v2), none, some (.long 0), none, some (.int 0)] [] h2 (qL Q)) ∧ (v1 = 0 → CALLI E mM_refused [.ref 60, .int (-2)] h1 fun v3 h3 => Q (4000000000000000000 - v3.toInt64) h3)) :
    CALLL E mM_load [.ref 60, .int a1] h Q := CALL_of rfl (wp_sound [(33, [1, 1, 1, 0, 1, 0, 1])] kk_230 14 hF)
set_option maxRecDepth 100000 in
set_option maxHeartbeats 4000000 in
theorem fM_load_33 {E : XE} {h : Mem} {Q : Int64 → Mem → Prop} {x1 : Int32} {x2 : Int64} {x4 : Int64} {x6 : Int32} 
    (hF : ((h 61 (ix 72)) ≤ x6 → CALLL E mM_part [.long x4, .long x2, .int x1] h fun v1 h1 => Q v1 h1) ∧ (¬ (h 61 (ix 72)) ≤ x6 → CALLI E mM_isOn [.ref 60, .int x6] h fun v2 h2 => (v2 = 0 → WP E mM_load 33 [some (.ref 60), some (.int x1), some (.long x2), none, some (.long (x4 + 0)), none, some (.int (x6 + 1))] [] h2 (qL Q)) ∧ (¬ v2 = 0 → CALLI E mM_distance [.ref 60, .int x6] h2 fun v3 h3 => cnd (nzL v3.toInt64) (cnd (inb (0 + x6) 73) (WP E mM_load 33 [some (.ref 60), some (.int x1), some (.long x2), none, some (.long (x4 + ((x2 / v3.toInt64) * ((h3 61 (ix (0 + x6))).toInt64)))), none, some (.int (x6 + 1))] [] h3 (qL Q)))))) :
    WP E mM_load 33 [some (.ref 60), some (.int x1), some (.long x2), none, some (.long x4), none, some (.int x6)] [] h (qL Q) := wp_sound [(33, [1, 1, 1, 0, 1, 0, 1])] kk_230 31 hF
def k_231 : List XI := [(0, .aload_n 0, 1, 0, 0, 0, 0),
  (1, .invokevirtual 317, 3, 229, 2, 0, 0),
  (4, .lstore_n 1, 1, 0, 0, 0, 0),
  (5, .lload_n 1, 1, 0, 0, 0, 0),
  (6, .ldc2_w 325, 3, 0, 0, 0, 2147483647),
  (9, .lcmp, 1, 0, 0, 0, 0),
  (10, .ifCond .le 8, 3, 18, 0, 0, 0),
  (13, .bipush (-9), 2, 0, 0, (-9), 0),
  (15, .goto 5, 3, 20, 0, 0, 0),
  (18, .lload_n 1, 1, 0, 0, 0, 0),
  (19, .l2i, 1, 0, 0, 0, 0),
  (20, .ireturn, 1, 0, 0, 0, 0)]
set_option maxRecDepth 100000 in
set_option maxHeartbeats 4000000 in
theorem kk_231 : k_231.all (entOK (mCi 231) (mB 231)) = true := by decide +kernel
set_option maxRecDepth 100000 in
set_option maxHeartbeats 4000000 in
theorem fM_anew {E : XE} {h : Mem} {Q : Int32 → Mem → Prop}  
    (hF : CALLL E mM_multipleAll [.ref 60] h fun v1 h1 => ((lg_cmp v1 2147483647) ≤ 0 → Q v1.toInt32 h1) ∧ (¬ (lg_cmp v1 2147483647) ≤ 0 → Q (-9) h1)) :
    CALLI E mM_anew [.ref 60] h Q := CALL_of rfl (wp_sound [] kk_231 11 hF)
def k_232_0 : List XI := [(0, .iload_n 1, 1, 0, 0, 0, 0),
  (1, .i2l, 1, 0, 0, 0, 0),
  (2, .ldc2_w 202, 3, 0, 0, 0, 2),
  (5, .ldc2_w 200, 3, 0, 0, 0, 20),
  (8, .invokestatic 62, 3, 135, 1, 0, 0),
  (11, .ifCond .ne 25, 3, 36, 0, 0, 0),
  (14, .ldc2_w 315, 3, 0, 0, 0, 4000000000000000000),
  (17, .aload_n 0, 1, 0, 0, 0, 0),
  (18, .iload_n 1, 1, 0, 0, 0, 0),
  (19, .iconst 2, 1, 0, 0, 2, 0),
  (20, .if_icmp .ge 8, 3, 28, 0, 0, 0),
  (23, .bipush (-4), 2, 0, 0, (-4), 0),
  (25, .goto 5, 3, 30, 0, 0, 0),
  (28, .bipush (-6), 2, 0, 0, (-6), 0),
  (30, .invokevirtual 232, 3, 136, 1, 0, 0),
  (33, .i2l, 1, 0, 0, 0, 0),
  (34, .lsub, 1, 0, 0, 0, 0),
  (35, .lreturn, 1, 0, 0, 0, 0),
  (36, .iload_n 2, 1, 0, 0, 0, 0),
  (37, .i2l, 1, 0, 0, 0, 0),
  (38, .lconst 0, 1, 0, 0, 0, 0),
  (39, .lconst 1, 1, 0, 0, 0, 1),
  (40, .invokestatic 62, 3, 135, 1, 0, 0),
  (43, .ifCond .ne 15, 3, 58, 0, 0, 0),
  (46, .ldc2_w 315, 3, 0, 0, 0, 4000000000000000000),
  (49, .aload_n 0, 1, 0, 0, 0, 0),
  (50, .bipush (-2), 2, 0, 0, (-2), 0),
  (52, .invokevirtual 232, 3, 136, 1, 0, 0),
  (55, .i2l, 1, 0, 0, 0, 0),
  (56, .lsub, 1, 0, 0, 0, 0)]
set_option maxRecDepth 100000 in
set_option maxHeartbeats 4000000 in
theorem kk_232_0 : k_232_0.all (entOK (mCi 232) (mB 232)) = true := by decide +kernel
def k_232_1 : List XI := [(57, .lreturn, 1, 0, 0, 0, 0),
  (58, .aload_n 0, 1, 0, 0, 0, 0),
  (59, .invokevirtual 221, 3, 138, 0, 0, 0),
  (62, .aload_n 0, 1, 0, 0, 0, 0),
  (63, .invokevirtual 146, 3, 157, 1, 0, 0),
  (66, .bipush 31, 2, 0, 0, 31, 0),
  (68, .iand, 1, 0, 0, 0, 0),
  (69, .istore_n 3, 1, 0, 0, 0, 0),
  (70, .lconst 0, 1, 0, 0, 0, 0),
  (71, .lstore 4, 2, 0, 0, 0, 0),
  (73, .lconst 1, 1, 0, 0, 0, 1),
  (74, .lstore 6, 2, 0, 0, 0, 0),
  (76, .iconst 0, 1, 0, 0, 0, 0),
  (77, .istore 8, 2, 0, 0, 0, 0),
  (79, .iload 8, 2, 0, 0, 0, 0),
  (81, .iconst 5, 1, 0, 0, 5, 0),
  (82, .if_icmp .ge 29, 3, 111, 0, 0, 0),
  (85, .lload 6, 2, 0, 0, 0, 0),
  (87, .iload_n 3, 1, 0, 0, 0, 0),
  (88, .iload 8, 2, 0, 0, 0, 0),
  (90, .invokestatic 135, 3, 142, 1, 0, 0),
  (93, .ifCond .eq 8, 3, 101, 0, 0, 0),
  (96, .iload_n 1, 1, 0, 0, 0, 0),
  (97, .i2l, 1, 0, 0, 0, 0),
  (98, .goto 4, 3, 102, 0, 0, 0),
  (101, .lconst 1, 1, 0, 0, 0, 1),
  (102, .lmul, 1, 0, 0, 0, 0),
  (103, .lstore 6, 2, 0, 0, 0, 0),
  (105, .iinc 8 1, 3, 0, 0, 1, 0),
  (108, .goto (-29), 3, 79, 0, 0, 0)]
set_option maxRecDepth 100000 in
set_option maxHeartbeats 4000000 in
theorem kk_232_1 : k_232_1.all (entOK (mCi 232) (mB 232)) = true := by decide +kernel
def k_232_2 : List XI := [(111, .iconst 0, 1, 0, 0, 0, 0),
  (112, .istore 8, 2, 0, 0, 0, 0),
  (114, .iload 8, 2, 0, 0, 0, 0),
  (116, .bipush 32, 2, 0, 0, 32, 0),
  (118, .if_icmp .ge 110, 3, 228, 0, 0, 0),
  (121, .iload 8, 2, 0, 0, 0, 0),
  (123, .iload_n 3, 1, 0, 0, 0, 0),
  (124, .iconst (-1), 1, 0, 0, (-1), 0),
  (125, .ixor, 1, 0, 0, 0, 0),
  (126, .iand, 1, 0, 0, 0, 0),
  (127, .ifCond .ne 95, 3, 222, 0, 0, 0),
  (130, .lconst 1, 1, 0, 0, 0, 1),
  (131, .lstore 9, 2, 0, 0, 0, 0),
  (133, .iconst 0, 1, 0, 0, 0, 0),
  (134, .istore 11, 2, 0, 0, 0, 0),
  (136, .iload 11, 2, 0, 0, 0, 0),
  (138, .iconst 5, 1, 0, 0, 5, 0),
  (139, .if_icmp .ge 65, 3, 204, 0, 0, 0),
  (142, .lload 9, 2, 0, 0, 0, 0),
  (144, .iload_n 3, 1, 0, 0, 0, 0),
  (145, .iload 8, 2, 0, 0, 0, 0),
  (147, .iconst (-1), 1, 0, 0, (-1), 0),
  (148, .ixor, 1, 0, 0, 0, 0),
  (149, .iand, 1, 0, 0, 0, 0),
  (150, .iload 11, 2, 0, 0, 0, 0),
  (152, .invokestatic 135, 3, 142, 1, 0, 0),
  (155, .ifCond .eq 10, 3, 165, 0, 0, 0),
  (158, .iload_n 1, 1, 0, 0, 0, 0),
  (159, .iconst 1, 1, 0, 0, 1, 0),
  (160, .isub, 1, 0, 0, 0, 0)]
set_option maxRecDepth 100000 in
set_option maxHeartbeats 4000000 in
theorem kk_232_2 : k_232_2.all (entOK (mCi 232) (mB 232)) = true := by decide +kernel
def k_232_3 : List XI := [(161, .i2l, 1, 0, 0, 0, 0),
  (162, .goto 4, 3, 166, 0, 0, 0),
  (165, .lconst 1, 1, 0, 0, 0, 1),
  (166, .lmul, 1, 0, 0, 0, 0),
  (167, .lstore 9, 2, 0, 0, 0, 0),
  (169, .aload_n 0, 1, 0, 0, 0, 0),
  (170, .getfield 9, 3, 7, 0, 0, 0),
  (173, .bipush 42, 2, 0, 0, 42, 0),
  (175, .iload 11, 2, 0, 0, 0, 0),
  (177, .iadd, 1, 0, 0, 0, 0),
  (178, .iload_n 3, 1, 0, 0, 0, 0),
  (179, .iload 8, 2, 0, 0, 0, 0),
  (181, .iconst (-1), 1, 0, 0, (-1), 0),
  (182, .ixor, 1, 0, 0, 0, 0),
  (183, .iand, 1, 0, 0, 0, 0),
  (184, .iload 11, 2, 0, 0, 0, 0),
  (186, .invokestatic 135, 3, 142, 1, 0, 0),
  (189, .ifCond .eq 7, 3, 196, 0, 0, 0),
  (192, .iconst 1, 1, 0, 0, 1, 0),
  (193, .goto 4, 3, 197, 0, 0, 0),
  (196, .iconst 0, 1, 0, 0, 0, 0),
  (197, .iastore, 1, 0, 0, 0, 0),
  (198, .iinc 11 1, 3, 0, 0, 1, 0),
  (201, .goto (-65), 3, 136, 0, 0, 0),
  (204, .lload 4, 2, 0, 0, 0, 0),
  (206, .aload_n 0, 1, 0, 0, 0, 0),
  (207, .invokevirtual 304, 3, 153, 1, 0, 0),
  (210, .ifCond .eq 7, 3, 217, 0, 0, 0),
  (213, .lconst 0, 1, 0, 0, 0, 0),
  (214, .goto 5, 3, 219, 0, 0, 0)]
set_option maxRecDepth 100000 in
set_option maxHeartbeats 4000000 in
theorem kk_232_3 : k_232_3.all (entOK (mCi 232) (mB 232)) = true := by decide +kernel
def k_232_4 : List XI := [(217, .lload 9, 2, 0, 0, 0, 0),
  (219, .ladd, 1, 0, 0, 0, 0),
  (220, .lstore 4, 2, 0, 0, 0, 0),
  (222, .iinc 8 1, 3, 0, 0, 1, 0),
  (225, .goto (-111), 3, 114, 0, 0, 0),
  (228, .aload_n 0, 1, 0, 0, 0, 0),
  (229, .invokevirtual 227, 3, 139, 0, 0, 0),
  (232, .lload 4, 2, 0, 0, 0, 0),
  (234, .lload 6, 2, 0, 0, 0, 0),
  (236, .iload_n 2, 1, 0, 0, 0, 0),
  (237, .invokestatic 321, 3, 228, 2, 0, 0),
  (240, .lreturn, 1, 0, 0, 0, 0)]
set_option maxRecDepth 100000 in
set_option maxHeartbeats 4000000 in
theorem kk_232_4 : k_232_4.all (entOK (mCi 232) (mB 232)) = true := by decide +kernel
def k_232 : List XI := k_232_0 ++ (k_232_1 ++ (k_232_2 ++ (k_232_3 ++ (k_232_4))))
theorem kk_232 : k_232.all (entOK (mCi 232) (mB 232)) = true := all_app kk_232_0 (all_app kk_232_1 (all_app kk_232_2 (all_app kk_232_3 (kk_232_4))))
set_option maxRecDepth 100000 in
set_option maxHeartbeats 4000000 in
theorem fM_missing {E : XE} {h : Mem} {Q : Int64 → Mem → Prop} {a1 : Int32} {a2 : Int32} 
    (hF : CALLI E mM_in [.long a1.toInt64, .long 2, .long 20] h fun v1 h1 => (¬ v1 = 0 → CALLI E mM_in [.long a2.toInt64, .long 0, .long 1] h1 fun v2 h2 => (¬ v2 = 0 → CALLV E mM_minds [.ref 60] h2 fun h3 => CALLI E mM_onSet [.ref 60] h3 fun v4 h4 => WP E mM_missing 79 [some (.ref 60), some (.int a1), some (.int a2), some (.int (v4 &&& 31)), some (.long 0), none, some (.long 1), none, some (.int 0), none, none, none] [] h4 (qL Q)) ∧ (v2 = 0 → CALLI E mM_refused [.ref 60, .int (-2)] h2 fun v5 h5 => Q (4000000000000000000 - v5.toInt64) h5)) ∧ (v1 = 0 → (2 ≤ a1 → CALLI E mM_refused [.ref 60, .int (-6)] h1 fun v6 h6 => Q (4000000000000000000 - v6.toInt64) h6) ∧ (¬ 2 ≤ a1 → CALLI E mM_refused [.ref 60, .int (-4)] h1 fun v7 h7 => Q (4000000000000000000 - v7.toInt64) h7))) :
    CALLL E mM_missing [.ref 60, .int a1, .int a2] h Q := CALL_of rfl (wp_sound [(79, [1, 1, 1, 1, 1, 0, 1, 0, 1, 0, 0, 0]), (114, [1, 1, 1, 1, 1, 0, 1, 0, 1, 0, 0, 0]), (136, [1, 1, 1, 1, 1, 0, 1, 0, 1, 1, 0, 1])] kk_232 26 hF)
set_option maxRecDepth 100000 in
set_option maxHeartbeats 4000000 in
theorem fM_missing_79 {E : XE} {h : Mem} {Q : Int64 → Mem → Prop} {x1 : Int32} {x2 : Int32} {x3 : Int32} {x4 : Int64} {x6 : Int64} {x8 : Int32} 
    (hF : (5 ≤ x8 → WP E mM_missing 114 [some (.ref 60), some (.int x1), some (.int x2), some (.int x3), some (.long x4), none, some (.long x6), none, some (.int 0), none, none, none] [] h (qL Q)) ∧ (¬ 5 ≤ x8 → CALLI E mM_has [.int x3, .int x8] h fun v1 h1 => (v1 = 0 → WP E mM_missing 79 [some (.ref 60), some (.int x1), some (.int x2), some (.int x3), some (.long x4), none, some (.long (x6 * 1)), none, some (.int (x8 + 1)), none, none, none] [] h1 (qL Q)) ∧ (¬ v1 = 0 → WP E mM_missing 79 [some (.ref 60), some (.int x1), some (.int x2), some (.int x3), some (.long x4), none, some (.long (x6 * x1.toInt64)), none, some (.int (x8 + 1)), none, none, none] [] h1 (qL Q)))) :
    WP E mM_missing 79 [some (.ref 60), some (.int x1), some (.int x2), some (.int x3), some (.long x4), none, some (.long x6), none, some (.int x8), none, none, none] [] h (qL Q) := wp_sound [(79, [1, 1, 1, 1, 1, 0, 1, 0, 1, 0, 0, 0]), (114, [1, 1, 1, 1, 1, 0, 1, 0, 1, 0, 0, 0]), (136, [1, 1, 1, 1, 1, 0, 1, 0, 1, 1, 0, 1])] kk_232 16 hF
set_option maxRecDepth 100000 in
set_option maxHeartbeats 4000000 in
theorem fM_missing_114 {E : XE} {h : Mem} {Q : Int64 → Mem → Prop} {x1 : Int32} {x2 : Int32} {x3 : Int32} {x4 : Int64} {x6 : Int64} {x8 : Int32} 
    (hF : (32 ≤ x8 → CALLV E mM_forgets [.ref 60] h fun h1 => CALLL E mM_part [.long x4, .long x6, .int x2] h1 fun v2 h2 => Q v2 h2) ∧ (¬ 32 ≤ x8 → (¬ (x8 &&& (x3 ^^^ (-1))) = 0 → WP E mM_missing 114 [some (.ref 60), some (.int x1), some (.int x2), some (.int x3), some (.long x4), none, some (.long x6), none, some (.int (x8 + 1)), none, none, none] [] h (qL Q)) ∧ ((x8 &&& (x3 ^^^ (-1))) = 0 → WP E mM_missing 136 [some (.ref 60), some (.int x1), some (.int x2), some (.int x3), some (.long x4), none, some (.long x6), none, some (.int x8), some (.long 1), none, some (.int 0)] [] h (qL Q)))) :
    WP E mM_missing 114 [some (.ref 60), some (.int x1), some (.int x2), some (.int x3), some (.long x4), none, some (.long x6), none, some (.int x8), none, none, none] [] h (qL Q) := wp_sound [(79, [1, 1, 1, 1, 1, 0, 1, 0, 1, 0, 0, 0]), (114, [1, 1, 1, 1, 1, 0, 1, 0, 1, 0, 0, 0]), (136, [1, 1, 1, 1, 1, 0, 1, 0, 1, 1, 0, 1])] kk_232 14 hF
set_option maxRecDepth 100000 in
set_option maxHeartbeats 4000000 in
theorem fM_missing_136 {E : XE} {h : Mem} {Q : Int64 → Mem → Prop} {x1 : Int32} {x2 : Int32} {x3 : Int32} {x4 : Int64} {x6 : Int64} {x8 : Int32} {x9 : Int64} {x11 : Int32} 
    (hF : (5 ≤ x11 → CALLI E mM_isMissed [.ref 60] h fun v1 h1 => (v1 = 0 → WP E mM_missing 114 [some (.ref 60), some (.int x1), some (.int x2), some (.int x3), some (.long (x4 + x9)), none, some (.long x6), none, some (.int (x8 + 1)), none, none, none] [] h1 (qL Q)) ∧ (¬ v1 = 0 → WP E mM_missing 114 [some (.ref 60), some (.int x1), some (.int x2), some (.int x3), some (.long (x4 + 0)), none, some (.long x6), none, some (.int (x8 + 1)), none, none, none] [] h1 (qL Q))) ∧ (¬ 5 ≤ x11 → CALLI E mM_has [.int (x3 &&& (x8 ^^^ (-1))), .int x11] h fun v2 h2 => (v2 = 0 → CALLI E mM_has [.int (x3 &&& (x8 ^^^ (-1))), .int x11] h2 fun v3 h3 => (v3 = 0 → cnd (inb (42 + x11) 73) (WP E mM_missing 136 [some (.ref 60), some (.int x1), some (.int x2), some (.int x3), some (.long x4), none, some (.long x6), none, some (.int x8), some (.long (x9 * 1)), none, some (.int (x11 + 1))] [] (upd2 h3 61 (ix (42 + x11)) 0) (qL Q))) ∧ (¬ v3 = 0 → cnd (inb (42 + x11) 73) (WP E mM_missing 136 [some (.ref 60), some (.int x1), some (.int x2), some (.int x3), some (.long x4), none, some (.long x6), none, some (.int x8), some (.long (x9 * 1)), none, some (.int (x11 + 1))] [] (upd2 h3 61 (ix (42 + x11)) 1) (qL Q)))) ∧ (¬ v2 = 0 → CALLI E mM_has [.int (x3 &&& (x8 ^^^ (-1))), .int x11] h2 fun v4 h4 => (v4 = 0 → cnd (inb (42 + x11) 73) (WP E mM_missing 136 [some (.ref 60), some (.int x1), some (.int x2), some (.int x3), some (.long x4), none, some (.long x6), none, some (.int x8), some (.long (x9 * ((x1 - 1).toInt64))), none, some (.int (x11 + 1))] [] (upd2 h4 61 (ix (42 + x11)) 0) (qL Q))) ∧ (¬ v4 = 0 → cnd (inb (42 + x11) 73) (WP E mM_missing 136 [some (.ref 60), some (.int x1), some (.int x2), some (.int x3), some (.long x4), none, some (.long x6), none, some (.int x8), some (.long (x9 * ((x1 - 1).toInt64))), none, some (.int (x11 + 1))] [] (upd2 h4 61 (ix (42 + x11)) 1) (qL Q)))))) :
    WP E mM_missing 136 [some (.ref 60), some (.int x1), some (.int x2), some (.int x3), some (.long x4), none, some (.long x6), none, some (.int x8), some (.long x9), none, some (.int x11)] [] h (qL Q) := wp_sound [(79, [1, 1, 1, 1, 1, 0, 1, 0, 1, 0, 0, 0]), (114, [1, 1, 1, 1, 1, 0, 1, 0, 1, 0, 0, 0]), (136, [1, 1, 1, 1, 1, 0, 1, 0, 1, 1, 0, 1])] kk_232 38 hF
def k_233_0 : List XI := [(0, .aload_n 0, 1, 0, 0, 0, 0),
  (1, .invokevirtual 118, 3, 152, 0, 0, 0),
  (4, .aload_n 0, 1, 0, 0, 0, 0),
  (5, .getfield 327, 3, 7, 6, 0, 0),
  (8, .aload_n 0, 1, 0, 0, 0, 0),
  (9, .getfield 105, 3, 7, 10, 0, 0),
  (12, .if_icmp .gt 7, 3, 19, 0, 0, 0),
  (15, .iconst 1, 1, 0, 0, 1, 0),
  (16, .goto 4, 3, 20, 0, 0, 0),
  (19, .iconst 0, 1, 0, 0, 0, 0),
  (20, .istore_n 1, 1, 0, 0, 0, 0),
  (21, .iconst 0, 1, 0, 0, 0, 0),
  (22, .istore_n 2, 1, 0, 0, 0, 0),
  (23, .iload_n 2, 1, 0, 0, 0, 0),
  (24, .aload_n 0, 1, 0, 0, 0, 0),
  (25, .getfield 327, 3, 7, 6, 0, 0),
  (28, .if_icmp .ge 34, 3, 62, 0, 0, 0),
  (31, .iload_n 1, 1, 0, 0, 0, 0),
  (32, .ifCond .eq 30, 3, 62, 0, 0, 0),
  (35, .aload_n 0, 1, 0, 0, 0, 0),
  (36, .getfield 28, 3, 7, 9, 0, 0),
  (39, .iload_n 2, 1, 0, 0, 0, 0),
  (40, .iaload, 1, 0, 0, 0, 0),
  (41, .aload_n 0, 1, 0, 0, 0, 0),
  (42, .getfield 22, 3, 7, 5, 0, 0),
  (45, .iload_n 2, 1, 0, 0, 0, 0),
  (46, .iaload, 1, 0, 0, 0, 0),
  (47, .if_icmp .ne 7, 3, 54, 0, 0, 0),
  (50, .iconst 1, 1, 0, 0, 1, 0),
  (51, .goto 4, 3, 55, 0, 0, 0)]
set_option maxRecDepth 100000 in
set_option maxHeartbeats 4000000 in
theorem kk_233_0 : k_233_0.all (entOK (mCi 233) (mB 233)) = true := by decide +kernel
def k_233_1 : List XI := [(54, .iconst 0, 1, 0, 0, 0, 0),
  (55, .istore_n 1, 1, 0, 0, 0, 0),
  (56, .iinc 2 1, 3, 0, 0, 1, 0),
  (59, .goto (-36), 3, 23, 0, 0, 0),
  (62, .iload_n 1, 1, 0, 0, 0, 0),
  (63, .ireturn, 1, 0, 0, 0, 0)]
set_option maxRecDepth 100000 in
set_option maxHeartbeats 4000000 in
theorem kk_233_1 : k_233_1.all (entOK (mCi 233) (mB 233)) = true := by decide +kernel
def k_233 : List XI := k_233_0 ++ (k_233_1)
theorem kk_233 : k_233.all (entOK (mCi 233) (mB 233)) = true := all_app kk_233_0 (kk_233_1)
set_option maxRecDepth 100000 in
set_option maxHeartbeats 4000000 in
theorem fM_beginsSo {E : XE} {h : Mem} {Q : Int32 → Mem → Prop}  
    (hF : CALLV E mM_findsPoints [.ref 60] h fun h1 => ((h1 60 10) < (h1 60 6) → WP E mM_beginsSo 23 [some (.ref 60), some (.int 0), some (.int 0)] [] h1 (qI Q)) ∧ (¬ (h1 60 10) < (h1 60 6) → WP E mM_beginsSo 23 [some (.ref 60), some (.int 1), some (.int 0)] [] h1 (qI Q))) :
    CALLI E mM_beginsSo [.ref 60] h Q := CALL_of rfl (wp_sound [(23, [1, 1, 1])] kk_233 13 hF)
set_option maxRecDepth 100000 in
set_option maxHeartbeats 4000000 in
theorem fM_beginsSo_23 {E : XE} {h : Mem} {Q : Int32 → Mem → Prop} {x1 : Int32} {x2 : Int32} 
    (hF : ((h 60 6) ≤ x2 → cnd (nb x1) (Q x1 h)) ∧ (¬ (h 60 6) ≤ x2 → (x1 = 0 → cnd (nb x1) (Q x1 h)) ∧ (¬ x1 = 0 → cnd (inb x2 600) (cnd (inb x2 8) ((¬ (h 67 (ix x2)) = (h 65 (ix x2)) → WP E mM_beginsSo 23 [some (.ref 60), some (.int 0), some (.int (x2 + 1))] [] h (qI Q)) ∧ ((h 67 (ix x2)) = (h 65 (ix x2)) → WP E mM_beginsSo 23 [some (.ref 60), some (.int 1), some (.int (x2 + 1))] [] h (qI Q))))))) :
    WP E mM_beginsSo 23 [some (.ref 60), some (.int x1), some (.int x2)] [] h (qI Q) := wp_sound [(23, [1, 1, 1])] kk_233 21 hF
def k_234_0 : List XI := [(0, .aload_n 0, 1, 0, 0, 0, 0),
  (1, .iload_n 1, 1, 0, 0, 0, 0),
  (2, .invokevirtual 212, 3, 140, 1, 0, 0),
  (5, .ifCond .ne 9, 3, 14, 0, 0, 0),
  (8, .aload_n 0, 1, 0, 0, 0, 0),
  (9, .iconst (-1), 1, 0, 0, (-1), 0),
  (10, .invokevirtual 232, 3, 136, 1, 0, 0),
  (13, .ireturn, 1, 0, 0, 0, 0),
  (14, .iload_n 2, 1, 0, 0, 0, 0),
  (15, .i2l, 1, 0, 0, 0, 0),
  (16, .lconst 0, 1, 0, 0, 0, 0),
  (17, .lconst 1, 1, 0, 0, 0, 1),
  (18, .invokestatic 62, 3, 135, 1, 0, 0),
  (21, .ifCond .ne 10, 3, 31, 0, 0, 0),
  (24, .aload_n 0, 1, 0, 0, 0, 0),
  (25, .bipush (-2), 2, 0, 0, (-2), 0),
  (27, .invokevirtual 232, 3, 136, 1, 0, 0),
  (30, .ireturn, 1, 0, 0, 0, 0),
  (31, .iload_n 2, 1, 0, 0, 0, 0),
  (32, .ifCond .ne 8, 3, 40, 0, 0, 0),
  (35, .bipush 30, 2, 0, 0, 30, 0),
  (37, .goto 5, 3, 42, 0, 0, 0),
  (40, .bipush 36, 2, 0, 0, 36, 0),
  (42, .iload_n 1, 1, 0, 0, 0, 0),
  (43, .iadd, 1, 0, 0, 0, 0),
  (44, .istore_n 3, 1, 0, 0, 0, 0),
  (45, .aload_n 0, 1, 0, 0, 0, 0),
  (46, .getfield 9, 3, 7, 0, 0, 0),
  (49, .iload_n 3, 1, 0, 0, 0, 0),
  (50, .iaload, 1, 0, 0, 0, 0)]
set_option maxRecDepth 100000 in
set_option maxHeartbeats 4000000 in
theorem kk_234_0 : k_234_0.all (entOK (mCi 234) (mB 234)) = true := by decide +kernel
def k_234_1 : List XI := [(51, .istore 4, 2, 0, 0, 0, 0),
  (53, .iconst 0, 1, 0, 0, 0, 0),
  (54, .istore 5, 2, 0, 0, 0, 0),
  (56, .iconst 0, 1, 0, 0, 0, 0),
  (57, .istore 6, 2, 0, 0, 0, 0),
  (59, .iload 6, 2, 0, 0, 0, 0),
  (61, .iload_n 2, 1, 0, 0, 0, 0),
  (62, .ifCond .ne 8, 3, 70, 0, 0, 0),
  (65, .bipush 6, 2, 0, 0, 6, 0),
  (67, .goto 5, 3, 72, 0, 0, 0),
  (70, .bipush 10, 2, 0, 0, 10, 0),
  (72, .if_icmp .ge 37, 3, 109, 0, 0, 0),
  (75, .aload_n 0, 1, 0, 0, 0, 0),
  (76, .getfield 9, 3, 7, 0, 0, 0),
  (79, .iload_n 3, 1, 0, 0, 0, 0),
  (80, .iload 6, 2, 0, 0, 0, 0),
  (82, .iastore, 1, 0, 0, 0, 0),
  (83, .iload 5, 2, 0, 0, 0, 0),
  (85, .aload_n 0, 1, 0, 0, 0, 0),
  (86, .invokevirtual 330, 3, 233, 1, 0, 0),
  (89, .ifCond .eq 10, 3, 99, 0, 0, 0),
  (92, .iconst 1, 1, 0, 0, 1, 0),
  (93, .iload 6, 2, 0, 0, 0, 0),
  (95, .ishl, 1, 0, 0, 0, 0),
  (96, .goto 4, 3, 100, 0, 0, 0),
  (99, .iconst 0, 1, 0, 0, 0, 0),
  (100, .ior, 1, 0, 0, 0, 0),
  (101, .istore 5, 2, 0, 0, 0, 0),
  (103, .iinc 6 1, 3, 0, 0, 1, 0),
  (106, .goto (-47), 3, 59, 0, 0, 0)]
set_option maxRecDepth 100000 in
set_option maxHeartbeats 4000000 in
theorem kk_234_1 : k_234_1.all (entOK (mCi 234) (mB 234)) = true := by decide +kernel
def k_234_2 : List XI := [(109, .aload_n 0, 1, 0, 0, 0, 0),
  (110, .getfield 9, 3, 7, 0, 0, 0),
  (113, .iload_n 3, 1, 0, 0, 0, 0),
  (114, .iload 4, 2, 0, 0, 0, 0),
  (116, .iastore, 1, 0, 0, 0, 0),
  (117, .iload 5, 2, 0, 0, 0, 0),
  (119, .ireturn, 1, 0, 0, 0, 0)]
set_option maxRecDepth 100000 in
set_option maxHeartbeats 4000000 in
theorem kk_234_2 : k_234_2.all (entOK (mCi 234) (mB 234)) = true := by decide +kernel
def k_234 : List XI := k_234_0 ++ (k_234_1 ++ (k_234_2))
theorem kk_234 : k_234.all (entOK (mCi 234) (mB 234)) = true := all_app kk_234_0 (all_app kk_234_1 (kk_234_2))
set_option maxRecDepth 100000 in
set_option maxHeartbeats 4000000 in
theorem fM_whatIs {E : XE} {h : Mem} {Q : Int32 → Mem → Prop} {a1 : Int32} {a2 : Int32} 
    (hF : CALLI E mM_isTask [.ref 60, .int a1] h fun v1 h1 => (¬ v1 = 0 → CALLI E mM_in [.long a2.toInt64, .long 0, .long 1] h1 fun v2 h2 => (¬ v2 = 0 → (¬ a2 = 0 → cnd (inb (36 + a1) 73) (WP E mM_whatIs 59 [some (.ref 60), none, some (.int a2), some (.int (36 + a1)), some (.int (h2 61 (ix (36 + a1)))), some (.int 0), some (.int 0)] [] h2 (qI Q))) ∧ (a2 = 0 → cnd (inb (30 + a1) 73) (WP E mM_whatIs 59 [some (.ref 60), none, some (.int a2), some (.int (30 + a1)), some (.int (h2 61 (ix (30 + a1)))), some (.int 0), some (.int 0)] [] h2 (qI Q)))) ∧ (v2 = 0 → CALLI E mM_refused [.ref 60, .int (-2)] h2 fun v3 h3 => Q v3 h3)) ∧ (v1 = 0 → CALLI E mM_refused [.ref 60, .int (-1)] h1 fun v4 h4 => Q v4 h4)) :
    CALLI E mM_whatIs [.ref 60, .int a1, .int a2] h Q := CALL_of rfl (wp_sound [(59, [1, 0, 1, 1, 1, 1, 1])] kk_234 27 hF)
set_option maxRecDepth 100000 in
set_option maxHeartbeats 4000000 in
theorem fM_whatIs_59 {E : XE} {h : Mem} {Q : Int32 → Mem → Prop} {x2 : Int32} {x3 : Int32} {x4 : Int32} {x5 : Int32} {x6 : Int32} 
    (hF : (¬ x2 = 0 → (10 ≤ x6 → cnd (inb x3 73) (Q x5 (upd2 h 61 (ix x3) x4))) ∧ (¬ 10 ≤ x6 → cnd (inb x3 73) (CALLI E mM_beginsSo [.ref 60] (upd2 h 61 (ix x3) x6) fun v1 h1 => (v1 = 0 → WP E mM_whatIs 59 [some (.ref 60), none, some (.int x2), some (.int x3), some (.int x4), some (.int (x5 ||| 0)), some (.int (x6 + 1))] [] h1 (qI Q)) ∧ (¬ v1 = 0 → WP E mM_whatIs 59 [some (.ref 60), none, some (.int x2), some (.int x3), some (.int x4), some (.int (x5 ||| (shl 1 x6))), some (.int (x6 + 1))] [] h1 (qI Q))))) ∧ (x2 = 0 → (6 ≤ x6 → cnd (inb x3 73) (Q x5 (upd2 h 61 (ix x3) x4))) ∧ (¬ 6 ≤ x6 → cnd (inb x3 73) (CALLI E mM_beginsSo [.ref 60] (upd2 h 61 (ix x3) x6) fun v2 h2 => (v2 = 0 → WP E mM_whatIs 59 [some (.ref 60), none, some (.int x2), some (.int x3), some (.int x4), some (.int (x5 ||| 0)), some (.int (x6 + 1))] [] h2 (qI Q)) ∧ (¬ v2 = 0 → WP E mM_whatIs 59 [some (.ref 60), none, some (.int x2), some (.int x3), some (.int x4), some (.int (x5 ||| (shl 1 x6))), some (.int (x6 + 1))] [] h2 (qI Q)))))) :
    WP E mM_whatIs 59 [some (.ref 60), none, some (.int x2), some (.int x3), some (.int x4), some (.int x5), some (.int x6)] [] h (qI Q) := wp_sound [(59, [1, 0, 1, 1, 1, 1, 1])] kk_234 24 hF
def k_235_0 : List XI := [(0, .iload_n 1, 1, 0, 0, 0, 0),
  (1, .i2l, 1, 0, 0, 0, 0),
  (2, .lconst 0, 1, 0, 0, 0, 0),
  (3, .ldc2_w 333, 3, 0, 0, 0, 99),
  (6, .invokestatic 62, 3, 135, 1, 0, 0),
  (9, .ifCond .ne 19, 3, 28, 0, 0, 0),
  (12, .aload_n 0, 1, 0, 0, 0, 0),
  (13, .iload_n 1, 1, 0, 0, 0, 0),
  (14, .ifCond .ge 8, 3, 22, 0, 0, 0),
  (17, .bipush (-4), 2, 0, 0, (-4), 0),
  (19, .goto 5, 3, 24, 0, 0, 0),
  (22, .bipush (-6), 2, 0, 0, (-6), 0),
  (24, .invokevirtual 232, 3, 136, 1, 0, 0),
  (27, .ireturn, 1, 0, 0, 0, 0),
  (28, .aload_n 0, 1, 0, 0, 0, 0),
  (29, .getfield 327, 3, 7, 6, 0, 0),
  (32, .bipush 8, 2, 0, 0, 8, 0),
  (34, .if_icmp .ne 10, 3, 44, 0, 0, 0),
  (37, .aload_n 0, 1, 0, 0, 0, 0),
  (38, .bipush (-6), 2, 0, 0, (-6), 0),
  (40, .invokevirtual 232, 3, 136, 1, 0, 0),
  (43, .ireturn, 1, 0, 0, 0, 0),
  (44, .aload_n 0, 1, 0, 0, 0, 0),
  (45, .getfield 22, 3, 7, 5, 0, 0),
  (48, .aload_n 0, 1, 0, 0, 0, 0),
  (49, .getfield 327, 3, 7, 6, 0, 0),
  (52, .iload_n 1, 1, 0, 0, 0, 0),
  (53, .iastore, 1, 0, 0, 0, 0),
  (54, .aload_n 0, 1, 0, 0, 0, 0),
  (55, .dup, 1, 0, 0, 0, 0)]
set_option maxRecDepth 100000 in
set_option maxHeartbeats 4000000 in
theorem kk_235_0 : k_235_0.all (entOK (mCi 235) (mB 235)) = true := by decide +kernel
def k_235_1 : List XI := [(56, .getfield 327, 3, 7, 6, 0, 0),
  (59, .iconst 1, 1, 0, 0, 1, 0),
  (60, .iadd, 1, 0, 0, 0, 0),
  (61, .putfield 327, 3, 7, 6, 0, 0),
  (64, .aload_n 0, 1, 0, 0, 0, 0),
  (65, .getfield 327, 3, 7, 6, 0, 0),
  (68, .ireturn, 1, 0, 0, 0, 0)]
set_option maxRecDepth 100000 in
set_option maxHeartbeats 4000000 in
theorem kk_235_1 : k_235_1.all (entOK (mCi 235) (mB 235)) = true := by decide +kernel
def k_235 : List XI := k_235_0 ++ (k_235_1)
theorem kk_235 : k_235.all (entOK (mCi 235) (mB 235)) = true := all_app kk_235_0 (kk_235_1)
set_option maxRecDepth 100000 in
set_option maxHeartbeats 4000000 in
theorem fM_row {E : XE} {h : Mem} {Q : Int32 → Mem → Prop} {a1 : Int32} 
    (hF : CALLI E mM_in [.long a1.toInt64, .long 0, .long 99] h fun v1 h1 => (¬ v1 = 0 → (¬ (h1 60 6) = 8 → cnd (inb (h1 60 6) 8) (Q ((upd2 (upd2 h1 65 (ix (h1 60 6)) a1) 60 6 (((upd2 h1 65 (ix (h1 60 6)) a1) 60 6) + 1)) 60 6) (upd2 (upd2 h1 65 (ix (h1 60 6)) a1) 60 6 (((upd2 h1 65 (ix (h1 60 6)) a1) 60 6) + 1)))) ∧ ((h1 60 6) = 8 → CALLI E mM_refused [.ref 60, .int (-6)] h1 fun v2 h2 => Q v2 h2)) ∧ (v1 = 0 → (0 ≤ a1 → CALLI E mM_refused [.ref 60, .int (-6)] h1 fun v3 h3 => Q v3 h3) ∧ (¬ 0 ≤ a1 → CALLI E mM_refused [.ref 60, .int (-4)] h1 fun v4 h4 => Q v4 h4))) :
    CALLI E mM_row [.ref 60, .int a1] h Q := CALL_of rfl (wp_sound [] kk_235 26 hF)
def k_236_0 : List XI := [(0, .iconst 0, 1, 0, 0, 0, 0),
  (1, .istore_n 2, 1, 0, 0, 0, 0),
  (2, .iload_n 2, 1, 0, 0, 0, 0),
  (3, .aload_n 0, 1, 0, 0, 0, 0),
  (4, .getfield 327, 3, 7, 6, 0, 0),
  (7, .if_icmp .lt 14, 3, 21, 0, 0, 0),
  (10, .iload_n 2, 1, 0, 0, 0, 0),
  (11, .aload_n 0, 1, 0, 0, 0, 0),
  (12, .getfield 9, 3, 7, 0, 0, 0),
  (15, .bipush 72, 2, 0, 0, 72, 0),
  (17, .iaload, 1, 0, 0, 0, 0),
  (18, .if_icmp .ge 65, 3, 83, 0, 0, 0),
  (21, .iload_n 2, 1, 0, 0, 0, 0),
  (22, .aload_n 0, 1, 0, 0, 0, 0),
  (23, .getfield 327, 3, 7, 6, 0, 0),
  (26, .if_icmp .ge 14, 3, 40, 0, 0, 0),
  (29, .iload_n 2, 1, 0, 0, 0, 0),
  (30, .aload_n 0, 1, 0, 0, 0, 0),
  (31, .getfield 9, 3, 7, 0, 0, 0),
  (34, .bipush 72, 2, 0, 0, 72, 0),
  (36, .iaload, 1, 0, 0, 0, 0),
  (37, .if_icmp .lt 5, 3, 42, 0, 0, 0),
  (40, .iload_n 2, 1, 0, 0, 0, 0),
  (41, .ireturn, 1, 0, 0, 0, 0),
  (42, .aload_n 0, 1, 0, 0, 0, 0),
  (43, .iload_n 2, 1, 0, 0, 0, 0),
  (44, .invokevirtual 88, 3, 141, 1, 0, 0),
  (47, .ifCond .eq 12, 3, 59, 0, 0, 0),
  (50, .aload_n 0, 1, 0, 0, 0, 0),
  (51, .iload_n 2, 1, 0, 0, 0, 0)]
set_option maxRecDepth 100000 in
set_option maxHeartbeats 4000000 in
theorem kk_236_0 : k_236_0.all (entOK (mCi 236) (mB 236)) = true := by decide +kernel
def k_236_1 : List XI := [(52, .iload_n 1, 1, 0, 0, 0, 0),
  (53, .invokevirtual 265, 3, 163, 1, 0, 0),
  (56, .goto 4, 3, 60, 0, 0, 0),
  (59, .iconst 0, 1, 0, 0, 0, 0),
  (60, .istore_n 3, 1, 0, 0, 0, 0),
  (61, .aload_n 0, 1, 0, 0, 0, 0),
  (62, .getfield 22, 3, 7, 5, 0, 0),
  (65, .iload_n 2, 1, 0, 0, 0, 0),
  (66, .iaload, 1, 0, 0, 0, 0),
  (67, .iconst 0, 1, 0, 0, 0, 0),
  (68, .iload_n 3, 1, 0, 0, 0, 0),
  (69, .invokestatic 66, 3, 998, 0, 0, 0),
  (72, .if_icmp .eq 5, 3, 77, 0, 0, 0),
  (75, .iload_n 2, 1, 0, 0, 0, 0),
  (76, .ireturn, 1, 0, 0, 0, 0),
  (77, .iinc 2 1, 3, 0, 0, 1, 0),
  (80, .goto (-78), 3, 2, 0, 0, 0),
  (83, .bipush (-9), 2, 0, 0, (-9), 0),
  (85, .ireturn, 1, 0, 0, 0, 0)]
set_option maxRecDepth 100000 in
set_option maxHeartbeats 4000000 in
theorem kk_236_1 : k_236_1.all (entOK (mCi 236) (mB 236)) = true := by decide +kernel
def k_236 : List XI := k_236_0 ++ (k_236_1)
theorem kk_236 : k_236.all (entOK (mCi 236) (mB 236)) = true := all_app kk_236_0 (kk_236_1)
set_option maxRecDepth 100000 in
set_option maxHeartbeats 4000000 in
theorem fM_judged {E : XE} {h : Mem} {Q : Int32 → Mem → Prop} {a1 : Int32} 
    (hF : WP E mM_judged 2 [some (.ref 60), some (.int a1), some (.int 0), none] [] h (qI Q)) :
    CALLI E mM_judged [.ref 60, .int a1] h Q := CALL_of rfl (wp_sound [(2, [1, 1, 1, 0]), (21, [1, 1, 1, 0])] kk_236 3 hF)
set_option maxRecDepth 100000 in
set_option maxHeartbeats 4000000 in
theorem fM_judged_2 {E : XE} {h : Mem} {Q : Int32 → Mem → Prop} {x1 : Int32} {x2 : Int32} 
    (hF : (x2 < (h 60 6) → WP E mM_judged 21 [some (.ref 60), some (.int x1), some (.int x2), none] [] h (qI Q)) ∧ (¬ x2 < (h 60 6) → ((h 61 (ix 72)) ≤ x2 → Q (-9) h) ∧ (¬ (h 61 (ix 72)) ≤ x2 → WP E mM_judged 21 [some (.ref 60), some (.int x1), some (.int x2), none] [] h (qI Q)))) :
    WP E mM_judged 2 [some (.ref 60), some (.int x1), some (.int x2), none] [] h (qI Q) := wp_sound [(2, [1, 1, 1, 0]), (21, [1, 1, 1, 0])] kk_236 13 hF
set_option maxRecDepth 100000 in
set_option maxHeartbeats 4000000 in
theorem fM_judged_21 {E : XE} {h : Mem} {Q : Int32 → Mem → Prop} {x1 : Int32} {x2 : Int32} 
    (hF : ((h 60 6) ≤ x2 → Q x2 h) ∧ (¬ (h 60 6) ≤ x2 → (x2 < (h 61 (ix 72)) → CALLI E mM_isOn [.ref 60, .int x2] h fun v1 h1 => (v1 = 0 → cnd (inb x2 8) (((h1 65 (ix x2)) = (imax 0 0) → WP E mM_judged 2 [some (.ref 60), some (.int x1), some (.int (x2 + 1)), none] [] h1 (qI Q)) ∧ (¬ (h1 65 (ix x2)) = (imax 0 0) → Q x2 h1))) ∧ (¬ v1 = 0 → CALLI E mM_responseOf [.ref 60, .int x2, .int x1] h1 fun v2 h2 => cnd (inb x2 8) (((h2 65 (ix x2)) = (imax 0 v2) → WP E mM_judged 2 [some (.ref 60), some (.int x1), some (.int (x2 + 1)), none] [] h2 (qI Q)) ∧ (¬ (h2 65 (ix x2)) = (imax 0 v2) → Q x2 h2)))) ∧ (¬ x2 < (h 61 (ix 72)) → Q x2 h))) :
    WP E mM_judged 21 [some (.ref 60), some (.int x1), some (.int x2), none] [] h (qI Q) := wp_sound [(2, [1, 1, 1, 0]), (21, [1, 1, 1, 0])] kk_236 31 hF
def k_237 : List XI := [(0, .iload_n 1, 1, 0, 0, 0, 0),
  (1, .invokestatic 256, 3, 206, 1, 0, 0),
  (4, .ifCond .ne 10, 3, 14, 0, 0, 0),
  (7, .aload_n 0, 1, 0, 0, 0, 0),
  (8, .bipush (-2), 2, 0, 0, (-2), 0),
  (10, .invokevirtual 232, 3, 136, 1, 0, 0),
  (13, .ireturn, 1, 0, 0, 0, 0),
  (14, .aload_n 0, 1, 0, 0, 0, 0),
  (15, .iload_n 1, 1, 0, 0, 0, 0),
  (16, .invokevirtual 335, 3, 236, 1, 0, 0),
  (19, .istore_n 2, 1, 0, 0, 0, 0),
  (20, .aload_n 0, 1, 0, 0, 0, 0),
  (21, .iconst 0, 1, 0, 0, 0, 0),
  (22, .putfield 327, 3, 7, 6, 0, 0),
  (25, .iload_n 2, 1, 0, 0, 0, 0),
  (26, .ireturn, 1, 0, 0, 0, 0)]
set_option maxRecDepth 100000 in
set_option maxHeartbeats 4000000 in
theorem kk_237 : k_237.all (entOK (mCi 237) (mB 237)) = true := by decide +kernel
set_option maxRecDepth 100000 in
set_option maxHeartbeats 4000000 in
theorem fM_judge {E : XE} {h : Mem} {Q : Int32 → Mem → Prop} {a1 : Int32} 
    (hF : CALLI E mM_isOrder [.int a1] h fun v1 h1 => (¬ v1 = 0 → CALLI E mM_judged [.ref 60, .int a1] h1 fun v2 h2 => Q v2 (upd2 h2 60 6 0)) ∧ (v1 = 0 → CALLI E mM_refused [.ref 60, .int (-2)] h1 fun v3 h3 => Q v3 h3)) :
    CALLI E mM_judge [.ref 60, .int a1] h Q := CALL_of rfl (wp_sound [] kk_237 13 hF)
def k_238 : List XI := [(0, .aload_n 0, 1, 0, 0, 0, 0),
  (1, .getfield 327, 3, 7, 6, 0, 0),
  (4, .istore_n 1, 1, 0, 0, 0, 0),
  (5, .aload_n 0, 1, 0, 0, 0, 0),
  (6, .iconst 0, 1, 0, 0, 0, 0),
  (7, .putfield 327, 3, 7, 6, 0, 0),
  (10, .iload_n 1, 1, 0, 0, 0, 0),
  (11, .ireturn, 1, 0, 0, 0, 0)]
set_option maxRecDepth 100000 in
set_option maxHeartbeats 4000000 in
theorem kk_238 : k_238.all (entOK (mCi 238) (mB 238)) = true := by decide +kernel
set_option maxRecDepth 100000 in
set_option maxHeartbeats 4000000 in
theorem fM_clear {E : XE} {h : Mem} {Q : Int32 → Mem → Prop}  
    (hF : Q (h 60 6) (upd2 h 60 6 0)) :
    CALLI E mM_clear [.ref 60] h Q := CALL_of rfl (wp_sound [] kk_238 9 hF)
def k_239 : List XI := [(0, .aload_n 0, 1, 0, 0, 0, 0),
  (1, .aload_n 0, 1, 0, 0, 0, 0),
  (2, .getfield 338, 3, 7, 30, 0, 0),
  (5, .ldc_w 341, 3, 0, 0, 1664525, 0),
  (8, .imul, 1, 0, 0, 0, 0),
  (9, .ldc_w 342, 3, 0, 0, 1013904223, 0),
  (12, .iadd, 1, 0, 0, 0, 0),
  (13, .putfield 338, 3, 7, 30, 0, 0),
  (16, .aload_n 0, 1, 0, 0, 0, 0),
  (17, .getfield 338, 3, 7, 30, 0, 0),
  (20, .ldc_w 343, 3, 0, 0, 2147483647, 0),
  (23, .iand, 1, 0, 0, 0, 0),
  (24, .sipush 256, 3, 0, 0, 256, 0),
  (27, .idiv, 1, 0, 0, 0, 0),
  (28, .iload_n 1, 1, 0, 0, 0, 0),
  (29, .irem, 1, 0, 0, 0, 0),
  (30, .ireturn, 1, 0, 0, 0, 0)]
set_option maxRecDepth 100000 in
set_option maxHeartbeats 4000000 in
theorem kk_239 : k_239.all (entOK (mCi 239) (mB 239)) = true := by decide +kernel
set_option maxRecDepth 100000 in
set_option maxHeartbeats 4000000 in
theorem fM_draw {E : XE} {h : Mem} {Q : Int32 → Mem → Prop} {a1 : Int32} 
    (hF : cnd (nz a1) (Q (remI ((((upd2 h 60 30 (((h 60 30) * 1664525) + 1013904223)) 60 30) &&& 2147483647) / 256) a1) (upd2 h 60 30 (((h 60 30) * 1664525) + 1013904223)))) :
    CALLI E mM_draw [.ref 60, .int a1] h Q := CALL_of rfl (wp_sound [] kk_239 18 hF)
def k_240_0 : List XI := [(0, .iload_n 1, 1, 0, 0, 0, 0),
  (1, .i2l, 1, 0, 0, 0, 0),
  (2, .lconst 1, 1, 0, 0, 0, 1),
  (3, .ldc2_w 200, 3, 0, 0, 0, 20),
  (6, .invokestatic 62, 3, 135, 1, 0, 0),
  (9, .ifCond .ne 20, 3, 29, 0, 0, 0),
  (12, .aload_n 0, 1, 0, 0, 0, 0),
  (13, .iload_n 1, 1, 0, 0, 0, 0),
  (14, .iconst 1, 1, 0, 0, 1, 0),
  (15, .if_icmp .ge 8, 3, 23, 0, 0, 0),
  (18, .bipush (-4), 2, 0, 0, (-4), 0),
  (20, .goto 5, 3, 25, 0, 0, 0),
  (23, .bipush (-6), 2, 0, 0, (-6), 0),
  (25, .invokevirtual 232, 3, 136, 1, 0, 0),
  (28, .ireturn, 1, 0, 0, 0, 0),
  (29, .iload_n 3, 1, 0, 0, 0, 0),
  (30, .i2l, 1, 0, 0, 0, 0),
  (31, .lconst 0, 1, 0, 0, 0, 0),
  (32, .lconst 1, 1, 0, 0, 0, 1),
  (33, .invokestatic 62, 3, 135, 1, 0, 0),
  (36, .ifCond .ne 10, 3, 46, 0, 0, 0),
  (39, .aload_n 0, 1, 0, 0, 0, 0),
  (40, .bipush (-2), 2, 0, 0, (-2), 0),
  (42, .invokevirtual 232, 3, 136, 1, 0, 0),
  (45, .ireturn, 1, 0, 0, 0, 0),
  (46, .aload_n 0, 1, 0, 0, 0, 0),
  (47, .iload_n 2, 1, 0, 0, 0, 0),
  (48, .putfield 338, 3, 7, 30, 0, 0),
  (51, .aload_n 0, 1, 0, 0, 0, 0),
  (52, .invokevirtual 221, 3, 138, 0, 0, 0)]
set_option maxRecDepth 100000 in
set_option maxHeartbeats 4000000 in
theorem kk_240_0 : k_240_0.all (entOK (mCi 240) (mB 240)) = true := by decide +kernel
def k_240_1 : List XI := [(55, .iconst 0, 1, 0, 0, 0, 0),
  (56, .istore 4, 2, 0, 0, 0, 0),
  (58, .iconst 0, 1, 0, 0, 0, 0),
  (59, .istore 5, 2, 0, 0, 0, 0),
  (61, .iload 5, 2, 0, 0, 0, 0),
  (63, .iload_n 1, 1, 0, 0, 0, 0),
  (64, .if_icmp .ge 88, 3, 152, 0, 0, 0),
  (67, .iconst 0, 1, 0, 0, 0, 0),
  (68, .istore 6, 2, 0, 0, 0, 0),
  (70, .iload 6, 2, 0, 0, 0, 0),
  (72, .aload_n 0, 1, 0, 0, 0, 0),
  (73, .getfield 9, 3, 7, 0, 0, 0),
  (76, .bipush 72, 2, 0, 0, 72, 0),
  (78, .iaload, 1, 0, 0, 0, 0),
  (79, .if_icmp .ge 26, 3, 105, 0, 0, 0),
  (82, .aload_n 0, 1, 0, 0, 0, 0),
  (83, .getfield 9, 3, 7, 0, 0, 0),
  (86, .iconst 0, 1, 0, 0, 0, 0),
  (87, .iload 6, 2, 0, 0, 0, 0),
  (89, .iadd, 1, 0, 0, 0, 0),
  (90, .iconst 1, 1, 0, 0, 1, 0),
  (91, .aload_n 0, 1, 0, 0, 0, 0),
  (92, .bipush 9, 2, 0, 0, 9, 0),
  (94, .invokevirtual 344, 3, 239, 1, 0, 0),
  (97, .iadd, 1, 0, 0, 0, 0),
  (98, .iastore, 1, 0, 0, 0, 0),
  (99, .iinc 6 1, 3, 0, 0, 1, 0),
  (102, .goto (-32), 3, 70, 0, 0, 0),
  (105, .iload_n 3, 1, 0, 0, 0, 0),
  (106, .ifCond .ne 18, 3, 124, 0, 0, 0)]
set_option maxRecDepth 100000 in
set_option maxHeartbeats 4000000 in
theorem kk_240_1 : k_240_1.all (entOK (mCi 240) (mB 240)) = true := by decide +kernel
def k_240_2 : List XI := [(109, .aload_n 0, 1, 0, 0, 0, 0),
  (110, .invokevirtual 304, 3, 153, 1, 0, 0),
  (113, .ifCond .ne 7, 3, 120, 0, 0, 0),
  (116, .iconst 1, 1, 0, 0, 1, 0),
  (117, .goto 12, 3, 129, 0, 0, 0),
  (120, .iconst 0, 1, 0, 0, 0, 0),
  (121, .goto 8, 3, 129, 0, 0, 0),
  (124, .aload_n 0, 1, 0, 0, 0, 0),
  (125, .iconst 1, 1, 0, 0, 1, 0),
  (126, .invokevirtual 308, 3, 166, 1, 0, 0),
  (129, .istore 6, 2, 0, 0, 0, 0),
  (131, .iload 4, 2, 0, 0, 0, 0),
  (133, .iload 6, 2, 0, 0, 0, 0),
  (135, .ifCond .eq 7, 3, 142, 0, 0, 0),
  (138, .iconst 1, 1, 0, 0, 1, 0),
  (139, .goto 4, 3, 143, 0, 0, 0),
  (142, .iconst 0, 1, 0, 0, 0, 0),
  (143, .iadd, 1, 0, 0, 0, 0),
  (144, .istore 4, 2, 0, 0, 0, 0),
  (146, .iinc 5 1, 3, 0, 0, 1, 0),
  (149, .goto (-88), 3, 61, 0, 0, 0),
  (152, .aload_n 0, 1, 0, 0, 0, 0),
  (153, .invokevirtual 227, 3, 139, 0, 0, 0),
  (156, .iload 4, 2, 0, 0, 0, 0),
  (158, .ireturn, 1, 0, 0, 0, 0)]
set_option maxRecDepth 100000 in
set_option maxHeartbeats 4000000 in
theorem kk_240_2 : k_240_2.all (entOK (mCi 240) (mB 240)) = true := by decide +kernel
def k_240 : List XI := k_240_0 ++ (k_240_1 ++ (k_240_2))
theorem kk_240 : k_240.all (entOK (mCi 240) (mB 240)) = true := all_app kk_240_0 (all_app kk_240_1 (kk_240_2))
set_option maxRecDepth 100000 in
set_option maxHeartbeats 4000000 in
theorem fM_lots {E : XE} {h : Mem} {Q : Int32 → Mem → Prop} {a1 : Int32} {a2 : Int32} {a3 : Int32} 
    (hF : CALLI E mM_in [.long a1.toInt64, .long 1, .long 20] h fun v1 h1 => (¬ v1 = 0 → CALLI E mM_in [.long a3.toInt64, .long 0, .long 1] h1 fun v2 h2 => (¬ v2 = 0 → CALLV E mM_minds [.ref 60] (upd2 h2 60 30 a2) fun h3 => WP E mM_lots 61 [some (.ref 60), some (.int a1), none, some (.int a3), some (.int 0), some (.int 0), none] [] h3 (qI Q)) ∧ (v2 = 0 → CALLI E mM_refused [.ref 60, .int (-2)] h2 fun v4 h4 => Q v4 h4)) ∧ (v1 = 0 → (1 ≤ a1 → CALLI E mM_refused [.ref 60, .int (-6)] h1 fun v5 h5 => Q v5 h5) ∧ (¬ 1 ≤ a1 → CALLI E mM_refused [.ref 60, .int (-4)] h1 fun v6 h6 => Q v6 h6))) :
    CALLI E mM_lots [.ref 60, .int a1, .int a2, .int a3] h Q := CALL_of rfl (wp_sound [(61, [1, 1, 0, 1, 1, 1, 0]), (70, [1, 1, 0, 1, 1, 1, 1])] kk_240 22 hF)
set_option maxRecDepth 100000 in
set_option maxHeartbeats 4000000 in
theorem fM_lots_61 {E : XE} {h : Mem} {Q : Int32 → Mem → Prop} {x1 : Int32} {x3 : Int32} {x4 : Int32} {x5 : Int32} 
    (hF : (x1 ≤ x5 → CALLV E mM_forgets [.ref 60] h fun h1 => Q x4 h1) ∧ (¬ x1 ≤ x5 → WP E mM_lots 70 [some (.ref 60), some (.int x1), none, some (.int x3), some (.int x4), some (.int x5), some (.int 0)] [] h (qI Q))) :
    WP E mM_lots 61 [some (.ref 60), some (.int x1), none, some (.int x3), some (.int x4), some (.int x5), none] [] h (qI Q) := wp_sound [(61, [1, 1, 0, 1, 1, 1, 0]), (70, [1, 1, 0, 1, 1, 1, 1])] kk_240 8 hF
set_option maxRecDepth 100000 in
set_option maxHeartbeats 4000000 in
theorem fM_lots_70 {E : XE} {h : Mem} {Q : Int32 → Mem → Prop} {x1 : Int32} {x3 : Int32} {x4 : Int32} {x5 : Int32} {x6 : Int32} 
    (hF : ((h 61 (ix 72)) ≤ x6 → (¬ x3 = 0 → CALLI E mM_doAllFit [.ref 60, .int 1] h fun v1 h1 => (v1 = 0 → WP E mM_lots 61 [some (.ref 60), some (.int x1), none, some (.int x3), some (.int (x4 + 0)), some (.int (x5 + 1)), none] [] h1 (qI Q)) ∧ (¬ v1 = 0 → WP E mM_lots 61 [some (.ref 60), some (.int x1), none, some (.int x3), some (.int (x4 + 1)), some (.int (x5 + 1)), none] [] h1 (qI Q))) ∧ (x3 = 0 → CALLI E mM_isMissed [.ref 60] h fun v2 h2 => (¬ v2 = 0 → (((0 : Int32) = 0 : Prop) → WP E mM_lots 61 [some (.ref 60), some (.int x1), none, some (.int x3), some (.int (x4 + 0)), some (.int (x5 + 1)), none] [] h2 (qI Q)) ∧ ((¬ (0 : Int32) = 0 : Prop) → WP E mM_lots 61 [some (.ref 60), some (.int x1), none, some (.int x3), some (.int (x4 + 1)), some (.int (x5 + 1)), none] [] h2 (qI Q))) ∧ (v2 = 0 → (((1 : Int32) = 0 : Prop) → WP E mM_lots 61 [some (.ref 60), some (.int x1), none, some (.int x3), some (.int (x4 + 0)), some (.int (x5 + 1)), none] [] h2 (qI Q)) ∧ ((¬ (1 : Int32) = 0 : Prop) → WP E mM_lots 61 [some (.ref 60), some (.int x1), none, some (.int x3), some (.int (x4 + 1)), some (.int (x5 + 1)), none] [] h2 (qI Q))))) ∧ (¬ (h 61 (ix 72)) ≤ x6 → CALLI E mM_draw [.ref 60, .int 9] h fun v3 h3 => cnd (inb (0 + x6) 73) (WP E mM_lots 70 [some (.ref 60), some (.int x1), none, some (.int x3), some (.int x4), some (.int x5), some (.int (x6 + 1))] [] (upd2 h3 61 (ix (0 + x6)) (1 + v3)) (qI Q)))) :
    WP E mM_lots 70 [some (.ref 60), some (.int x1), none, some (.int x3), some (.int x4), some (.int x5), some (.int x6)] [] h (qI Q) := wp_sound [(61, [1, 1, 0, 1, 1, 1, 0]), (70, [1, 1, 0, 1, 1, 1, 1])] kk_240 24 hF
def k_241 : List XI := [(0, .aload_n 0, 1, 0, 0, 0, 0),
  (1, .iconst 1, 1, 0, 0, 1, 0),
  (2, .putfield 347, 3, 7, 3, 1, 0),
  (5, .aload_n 0, 1, 0, 0, 0, 0),
  (6, .getfield 9, 3, 7, 0, 0, 0),
  (9, .aload_n 0, 1, 0, 0, 0, 0),
  (10, .getfield 13, 3, 7, 1, 0, 0),
  (13, .invokestatic 58, 3, 137, 0, 0, 0),
  (16, .aload_n 0, 1, 0, 0, 0, 0),
  (17, .getfield 9, 3, 7, 0, 0, 0),
  (20, .bipush 72, 2, 0, 0, 72, 0),
  (22, .iaload, 1, 0, 0, 0, 0),
  (23, .ireturn, 1, 0, 0, 0, 0)]
set_option maxRecDepth 100000 in
set_option maxHeartbeats 4000000 in
theorem kk_241 : k_241.all (entOK (mCi 241) (mB 241)) = true := by decide +kernel
set_option maxRecDepth 100000 in
set_option maxHeartbeats 4000000 in
theorem fM_image {E : XE} {h : Mem} {Q : Int32 → Mem → Prop}  
    (hF : CALLV E mM_copies [.ref 61, .ref 62] (upd2 h 60 3 1) fun h1 => Q (h1 61 (ix 72)) h1) :
    CALLI E mM_image [.ref 60] h Q := CALL_of rfl (wp_sound [] kk_241 14 hF)
def k_242 : List XI := [(0, .aload_n 0, 1, 0, 0, 0, 0),
  (1, .getfield 347, 3, 7, 3, 0, 0),
  (4, .ifCond .ne 10, 3, 14, 0, 0, 0),
  (7, .aload_n 0, 1, 0, 0, 0, 0),
  (8, .bipush (-3), 2, 0, 0, (-3), 0),
  (10, .invokevirtual 232, 3, 136, 1, 0, 0),
  (13, .ireturn, 1, 0, 0, 0, 0),
  (14, .aload_n 0, 1, 0, 0, 0, 0),
  (15, .getfield 13, 3, 7, 1, 0, 0),
  (18, .aload_n 0, 1, 0, 0, 0, 0),
  (19, .getfield 9, 3, 7, 0, 0, 0),
  (22, .invokestatic 58, 3, 137, 0, 0, 0),
  (25, .aload_n 0, 1, 0, 0, 0, 0),
  (26, .getfield 9, 3, 7, 0, 0, 0),
  (29, .bipush 72, 2, 0, 0, 72, 0),
  (31, .iaload, 1, 0, 0, 0, 0),
  (32, .ireturn, 1, 0, 0, 0, 0)]
set_option maxRecDepth 100000 in
set_option maxHeartbeats 4000000 in
theorem kk_242 : k_242.all (entOK (mCi 242) (mB 242)) = true := by decide +kernel
set_option maxRecDepth 100000 in
set_option maxHeartbeats 4000000 in
theorem fM_on {E : XE} {h : Mem} {Q : Int32 → Mem → Prop}  
    (hF : (¬ (h 60 3) = 0 → CALLV E mM_copies [.ref 62, .ref 61] h fun h1 => Q (h1 61 (ix 72)) h1) ∧ ((h 60 3) = 0 → CALLI E mM_refused [.ref 60, .int (-3)] h fun v2 h2 => Q v2 h2)) :
    CALLI E mM_on [.ref 60] h Q := CALL_of rfl (wp_sound [] kk_242 14 hF)
def k_243 : List XI := [(0, .iconst 0, 1, 0, 0, 0, 0),
  (1, .istore_n 1, 1, 0, 0, 0, 0),
  (2, .iconst 0, 1, 0, 0, 0, 0),
  (3, .istore_n 2, 1, 0, 0, 0, 0),
  (4, .iload_n 2, 1, 0, 0, 0, 0),
  (5, .aload_n 0, 1, 0, 0, 0, 0),
  (6, .getfield 9, 3, 7, 0, 0, 0),
  (9, .bipush 72, 2, 0, 0, 72, 0),
  (11, .iaload, 1, 0, 0, 0, 0),
  (12, .if_icmp .ge 32, 3, 44, 0, 0, 0),
  (15, .iload_n 1, 1, 0, 0, 0, 0),
  (16, .aload_n 0, 1, 0, 0, 0, 0),
  (17, .iload_n 2, 1, 0, 0, 0, 0),
  (18, .invokevirtual 88, 3, 141, 1, 0, 0),
  (21, .ifCond .eq 14, 3, 35, 0, 0, 0),
  (24, .aload_n 0, 1, 0, 0, 0, 0),
  (25, .getfield 9, 3, 7, 0, 0, 0),
  (28, .iconst 0, 1, 0, 0, 0, 0),
  (29, .iload_n 2, 1, 0, 0, 0, 0),
  (30, .iadd, 1, 0, 0, 0, 0),
  (31, .iaload, 1, 0, 0, 0, 0),
  (32, .goto 4, 3, 36, 0, 0, 0),
  (35, .iconst 0, 1, 0, 0, 0, 0),
  (36, .iadd, 1, 0, 0, 0, 0),
  (37, .istore_n 1, 1, 0, 0, 0, 0),
  (38, .iinc 2 1, 3, 0, 0, 1, 0),
  (41, .goto (-37), 3, 4, 0, 0, 0),
  (44, .iload_n 1, 1, 0, 0, 0, 0),
  (45, .ireturn, 1, 0, 0, 0, 0)]
set_option maxRecDepth 100000 in
set_option maxHeartbeats 4000000 in
theorem kk_243 : k_243.all (entOK (mCi 243) (mB 243)) = true := by decide +kernel
set_option maxRecDepth 100000 in
set_option maxHeartbeats 4000000 in
theorem fM_costAll {E : XE} {h : Mem} {Q : Int32 → Mem → Prop}  
    (hF : WP E mM_costAll 4 [some (.ref 60), some (.int 0), some (.int 0)] [] h (qI Q)) :
    CALLI E mM_costAll [.ref 60] h Q := CALL_of rfl (wp_sound [(4, [1, 1, 1])] kk_243 5 hF)
set_option maxRecDepth 100000 in
set_option maxHeartbeats 4000000 in
theorem fM_costAll_4 {E : XE} {h : Mem} {Q : Int32 → Mem → Prop} {x1 : Int32} {x2 : Int32} 
    (hF : ((h 61 (ix 72)) ≤ x2 → Q x1 h) ∧ (¬ (h 61 (ix 72)) ≤ x2 → CALLI E mM_isOn [.ref 60, .int x2] h fun v1 h1 => (v1 = 0 → WP E mM_costAll 4 [some (.ref 60), some (.int (x1 + 0)), some (.int (x2 + 1))] [] h1 (qI Q)) ∧ (¬ v1 = 0 → cnd (inb (0 + x2) 73) (WP E mM_costAll 4 [some (.ref 60), some (.int (x1 + (h1 61 (ix (0 + x2))))), some (.int (x2 + 1))] [] h1 (qI Q))))) :
    WP E mM_costAll 4 [some (.ref 60), some (.int x1), some (.int x2)] [] h (qI Q) := wp_sound [(4, [1, 1, 1])] kk_243 23 hF
def k_244_0 : List XI := [(0, .iload_n 1, 1, 0, 0, 0, 0),
  (1, .tableswitch 63 0 4 #[35, 43, 48, 53, 58], 35, 0, 0, 0, 0),
  (36, .aload_n 0, 1, 0, 0, 0, 0),
  (37, .getfield 9, 3, 7, 0, 0, 0),
  (40, .bipush 72, 2, 0, 0, 72, 0),
  (42, .iaload, 1, 0, 0, 0, 0),
  (43, .ireturn, 1, 0, 0, 0, 0),
  (44, .aload_n 0, 1, 0, 0, 0, 0),
  (45, .invokevirtual 146, 3, 157, 1, 0, 0),
  (48, .ireturn, 1, 0, 0, 0, 0),
  (49, .aload_n 0, 1, 0, 0, 0, 0),
  (50, .invokevirtual 350, 3, 243, 1, 0, 0),
  (53, .ireturn, 1, 0, 0, 0, 0),
  (54, .aload_n 0, 1, 0, 0, 0, 0),
  (55, .getfield 327, 3, 7, 6, 0, 0),
  (58, .ireturn, 1, 0, 0, 0, 0),
  (59, .aload_n 0, 1, 0, 0, 0, 0),
  (60, .getfield 167, 3, 7, 8, 0, 0),
  (63, .ireturn, 1, 0, 0, 0, 0),
  (64, .iload_n 1, 1, 0, 0, 0, 0),
  (65, .i2l, 1, 0, 0, 0, 0),
  (66, .ldc2_w 353, 3, 0, 0, 0, 11),
  (69, .ldc2_w 355, 3, 0, 0, 0, 16),
  (72, .invokestatic 62, 3, 135, 1, 0, 0),
  (75, .ifCond .eq 15, 3, 90, 0, 0, 0),
  (78, .aload_n 0, 1, 0, 0, 0, 0),
  (79, .getfield 19, 3, 7, 4, 0, 0),
  (82, .iload_n 1, 1, 0, 0, 0, 0),
  (83, .bipush 10, 2, 0, 0, 10, 0),
  (85, .isub, 1, 0, 0, 0, 0)]
set_option maxRecDepth 100000 in
set_option maxHeartbeats 4000000 in
theorem kk_244_0 : k_244_0.all (entOK (mCi 244) (mB 244)) = true := by decide +kernel
def k_244_1 : List XI := [(86, .iaload, 1, 0, 0, 0, 0),
  (87, .goto 5, 3, 92, 0, 0, 0),
  (90, .bipush (-9), 2, 0, 0, (-9), 0),
  (92, .ireturn, 1, 0, 0, 0, 0)]
set_option maxRecDepth 100000 in
set_option maxHeartbeats 4000000 in
theorem kk_244_1 : k_244_1.all (entOK (mCi 244) (mB 244)) = true := by decide +kernel
def k_244 : List XI := k_244_0 ++ (k_244_1)
theorem kk_244 : k_244.all (entOK (mCi 244) (mB 244)) = true := all_app kk_244_0 (kk_244_1)
set_option maxRecDepth 100000 in
set_option maxHeartbeats 4000000 in
theorem fM_count {E : XE} {h : Mem} {Q : Int32 → Mem → Prop} {a1 : Int32} 
    (hF : (a1 = Int32.ofInt 0 → Q (h 61 (ix 72)) h) ∧ (¬ a1 = Int32.ofInt 0 → (a1 = Int32.ofInt 1 → CALLI E mM_onSet [.ref 60] h fun v3 h3 => Q v3 h3) ∧ (¬ a1 = Int32.ofInt 1 → (a1 = Int32.ofInt 2 → CALLI E mM_costAll [.ref 60] h fun v2 h2 => Q v2 h2) ∧ (¬ a1 = Int32.ofInt 2 → (a1 = Int32.ofInt 3 → Q (h 60 6) h) ∧ (¬ a1 = Int32.ofInt 3 → (a1 = Int32.ofInt 4 → Q (h 60 8) h) ∧ (¬ a1 = Int32.ofInt 4 → CALLI E mM_in [.long a1.toInt64, .long 11, .long 16] h fun v1 h1 => (v1 = 0 → Q (-9) h1) ∧ (¬ v1 = 0 → cnd (inb (a1 - 10) 7) (Q (h1 64 (ix (a1 - 10))) h1)))))))) :
    CALLI E mM_count [.ref 60, .int a1] h Q := CALL_of rfl (wp_sound [] kk_244 17 hF)
def k_246 : List XI := []
def k_247 : List XI := []
def k_248 : List XI := []
