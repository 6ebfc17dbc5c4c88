def k_74 : List XI := [(0, .iload_n 1, 1, 0, 0, 0, 0),
  (1, .iconst 0, 1, 0, 0, 0, 0),
  (2, .sipush 255, 3, 0, 0, 255, 0),
  (5, .invokestatic 75, 3, 117, 1, 0, 0),
  (8, .istore_n 2, 1, 0, 0, 0, 0),
  (9, .iload_n 2, 1, 0, 0, 0, 0),
  (10, .ifCond .ne 16, 3, 26, 0, 0, 0),
  (13, .aload_n 0, 1, 0, 0, 0, 0),
  (14, .getfield 57, 3, 6, 8, 0, 0),
  (17, .invokevirtual 79, 3, 61, 1, 0, 0),
  (20, .ifCond .eq 6, 3, 26, 0, 0, 0),
  (23, .bipush (-6), 2, 0, 0, (-6), 0),
  (25, .istore_n 2, 1, 0, 0, 0, 0),
  (26, .iload_n 2, 1, 0, 0, 0, 0),
  (27, .ifCond .eq 11, 3, 38, 0, 0, 0),
  (30, .aload_n 0, 1, 0, 0, 0, 0),
  (31, .iload_n 2, 1, 0, 0, 0, 0),
  (32, .invokevirtual 83, 3, 114, 1, 0, 0),
  (35, .goto 11, 3, 46, 0, 0, 0),
  (38, .aload_n 0, 1, 0, 0, 0, 0),
  (39, .getfield 57, 3, 6, 8, 0, 0),
  (42, .iload_n 1, 1, 0, 0, 0, 0),
  (43, .invokevirtual 87, 3, 62, 1, 0, 0),
  (46, .ireturn, 1, 0, 0, 0, 0)]
set_option maxRecDepth 100000 in
set_option maxHeartbeats 4000000 in
theorem kk_74 : k_74.all (entOK (mCi 74) (mB 74)) = true := by decide +kernel
set_option maxRecDepth 100000 in
set_option maxHeartbeats 4000000 in
theorem fC_letter {E : XE} {h : Mem} {Q : Int32 → Mem → Prop} {a1 : Int32} 
    (hF : CALLI E mC_outside [.int a1, .int 0, .int 255] h fun v1 h1 => (¬ v1 = 0 → (v1 = 0 → CALLI E mTE_append [.ref 55, .int a1] h1 fun v2 h2 => Q v2 h2) ∧ (¬ v1 = 0 → CALLI E mC_refuse [.ref 0, .int v1] h1 fun v3 h3 => Q v3 h3)) ∧ (v1 = 0 → CALLI E mTE_isFull [.ref 55] h1 fun v4 h4 => (v4 = 0 → (v1 = 0 → CALLI E mTE_append [.ref 55, .int a1] h4 fun v5 h5 => Q v5 h5) ∧ (¬ v1 = 0 → CALLI E mC_refuse [.ref 0, .int v1] h4 fun v6 h6 => Q v6 h6)) ∧ (¬ v4 = 0 → (((-6 : Int32) = 0 : Prop) → CALLI E mTE_append [.ref 55, .int a1] h4 fun v7 h7 => Q v7 h7) ∧ ((¬ (-6 : Int32) = 0 : Prop) → CALLI E mC_refuse [.ref 0, .int (-6)] h4 fun v8 h8 => Q v8 h8)))) :
    CALLI E mC_letter [.ref 0, .int a1] h Q := CALL_of rfl (wp_sound [] kk_74 21 hF)
def k_75 : List XI := [(0, .aload_n 0, 1, 0, 0, 0, 0),
  (1, .getfield 16, 3, 6, 1, 0, 0),
  (4, .aload_n 0, 1, 0, 0, 0, 0),
  (5, .getfield 10, 3, 6, 0, 0, 0),
  (8, .invokevirtual 90, 3, 2, 0, 0, 0),
  (11, .aload_n 0, 1, 0, 0, 0, 0),
  (12, .getfield 57, 3, 6, 8, 0, 0),
  (15, .aload_n 0, 1, 0, 0, 0, 0),
  (16, .getfield 16, 3, 6, 1, 0, 0),
  (19, .invokevirtual 94, 3, 63, 1, 0, 0),
  (22, .istore_n 1, 1, 0, 0, 0, 0),
  (23, .iload_n 1, 1, 0, 0, 0, 0),
  (24, .ifCond .le 14, 3, 38, 0, 0, 0),
  (27, .aload_n 0, 1, 0, 0, 0, 0),
  (28, .getfield 10, 3, 6, 0, 0, 0),
  (31, .aload_n 0, 1, 0, 0, 0, 0),
  (32, .getfield 16, 3, 6, 1, 0, 0),
  (35, .invokevirtual 90, 3, 2, 0, 0, 0),
  (38, .iload_n 1, 1, 0, 0, 0, 0),
  (39, .ireturn, 1, 0, 0, 0, 0)]
set_option maxRecDepth 100000 in
set_option maxHeartbeats 4000000 in
theorem kk_75 : k_75.all (entOK (mCi 75) (mB 75)) = true := by decide +kernel
set_option maxRecDepth 100000 in
set_option maxHeartbeats 4000000 in
theorem fC_tells {E : XE} {h : Mem} {Q : Int32 → Mem → Prop}  
    (hF : CALLV E mD_copyFrom [.ref 15, .ref 1] h fun h1 => CALLI E mTE_tellTo [.ref 55, .ref 15] h1 fun v2 h2 => (v2 ≤ 0 → Q v2 h2) ∧ (¬ v2 ≤ 0 → CALLV E mD_copyFrom [.ref 1, .ref 15] h2 fun h3 => Q v2 h3)) :
    CALLI E mC_tells [.ref 0] h Q := CALL_of rfl (wp_sound [] kk_75 21 hF)
def k_76_0 : List XI := [(0, .iload_n 1, 1, 0, 0, 0, 0),
  (1, .iconst 1, 1, 0, 0, 1, 0),
  (2, .if_icmp .lt 13, 3, 15, 0, 0, 0),
  (5, .iload_n 2, 1, 0, 0, 0, 0),
  (6, .iconst 2, 1, 0, 0, 2, 0),
  (7, .if_icmp .lt 8, 3, 15, 0, 0, 0),
  (10, .iload_n 3, 1, 0, 0, 0, 0),
  (11, .iconst 1, 1, 0, 0, 1, 0),
  (12, .if_icmp .ge 10, 3, 22, 0, 0, 0),
  (15, .aload_n 0, 1, 0, 0, 0, 0),
  (16, .bipush (-4), 2, 0, 0, (-4), 0),
  (18, .invokevirtual 83, 3, 114, 1, 0, 0),
  (21, .ireturn, 1, 0, 0, 0, 0),
  (22, .iload_n 1, 1, 0, 0, 0, 0),
  (23, .iload_n 2, 1, 0, 0, 0, 0),
  (24, .iload_n 3, 1, 0, 0, 0, 0),
  (25, .invokestatic 98, 3, 1, 1, 0, 0),
  (28, .ifCond .eq 13, 3, 41, 0, 0, 0),
  (31, .aload_n 0, 1, 0, 0, 0, 0),
  (32, .getfield 10, 3, 6, 0, 0, 0),
  (35, .invokevirtual 102, 3, 3, 1, 0, 0),
  (38, .ifCond .eq 10, 3, 48, 0, 0, 0),
  (41, .aload_n 0, 1, 0, 0, 0, 0),
  (42, .bipush (-6), 2, 0, 0, (-6), 0),
  (44, .invokevirtual 83, 3, 114, 1, 0, 0),
  (47, .ireturn, 1, 0, 0, 0, 0),
  (48, .aload_n 0, 1, 0, 0, 0, 0),
  (49, .getfield 10, 3, 6, 0, 0, 0),
  (52, .iload_n 1, 1, 0, 0, 0, 0),
  (53, .iload_n 2, 1, 0, 0, 0, 0)]
set_option maxRecDepth 100000 in
set_option maxHeartbeats 4000000 in
theorem kk_76_0 : k_76_0.all (entOK (mCi 76) (mB 76)) = true := by decide +kernel
def k_76_1 : List XI := [(54, .iload_n 3, 1, 0, 0, 0, 0),
  (55, .invokevirtual 103, 3, 6, 1, 0, 0),
  (58, .ireturn, 1, 0, 0, 0, 0)]
set_option maxRecDepth 100000 in
set_option maxHeartbeats 4000000 in
theorem kk_76_1 : k_76_1.all (entOK (mCi 76) (mB 76)) = true := by decide +kernel
def k_76 : List XI := k_76_0 ++ (k_76_1)
theorem kk_76 : k_76.all (entOK (mCi 76) (mB 76)) = true := all_app kk_76_0 (kk_76_1)
set_option maxRecDepth 100000 in
set_option maxHeartbeats 4000000 in
theorem fC_tasks {E : XE} {h : Mem} {Q : Int32 → Mem → Prop} {a1 : Int32} {a2 : Int32} {a3 : Int32} 
    (hF : (a1 < 1 → CALLI E mC_refuse [.ref 0, .int (-4)] h fun v1 h1 => Q v1 h1) ∧ (¬ a1 < 1 → (a2 < 2 → CALLI E mC_refuse [.ref 0, .int (-4)] h fun v2 h2 => Q v2 h2) ∧ (¬ a2 < 2 → (1 ≤ a3 → CALLI E mD_canBe [.int a1, .int a2, .int a3] h fun v3 h3 => (v3 = 0 → CALLI E mC_refuse [.ref 0, .int (-6)] h3 fun v4 h4 => Q v4 h4) ∧ (¬ v3 = 0 → CALLI E mD_isFull [.ref 1] h3 fun v5 h5 => (v5 = 0 → CALLI E mD_add [.ref 1, .int a1, .int a2, .int a3] h5 fun v6 h6 => Q v6 h6) ∧ (¬ v5 = 0 → CALLI E mC_refuse [.ref 0, .int (-6)] h5 fun v7 h7 => Q v7 h7))) ∧ (¬ 1 ≤ a3 → CALLI E mC_refuse [.ref 0, .int (-4)] h fun v8 h8 => Q v8 h8)))) :
    CALLI E mC_tasks [.ref 0, .int a1, .int a2, .int a3] h Q := CALL_of rfl (wp_sound [] kk_76 26 hF)
def k_77 : List XI := [(0, .aload_n 0, 1, 0, 0, 0, 0),
  (1, .iload_n 1, 1, 0, 0, 0, 0),
  (2, .invokevirtual 106, 3, 120, 1, 0, 0),
  (5, .istore_n 2, 1, 0, 0, 0, 0),
  (6, .iload_n 2, 1, 0, 0, 0, 0),
  (7, .ifCond .eq 9, 3, 16, 0, 0, 0),
  (10, .aload_n 0, 1, 0, 0, 0, 0),
  (11, .iload_n 2, 1, 0, 0, 0, 0),
  (12, .invokevirtual 83, 3, 114, 1, 0, 0),
  (15, .ireturn, 1, 0, 0, 0, 0),
  (16, .aload_n 0, 1, 0, 0, 0, 0),
  (17, .getfield 10, 3, 6, 0, 0, 0),
  (20, .iload_n 1, 1, 0, 0, 0, 0),
  (21, .invokevirtual 109, 3, 7, 0, 0, 0),
  (24, .aload_n 0, 1, 0, 0, 0, 0),
  (25, .getfield 10, 3, 6, 0, 0, 0),
  (28, .iload_n 1, 1, 0, 0, 0, 0),
  (29, .invokevirtual 113, 3, 5, 1, 0, 0),
  (32, .ifCond .eq 7, 3, 39, 0, 0, 0),
  (35, .iconst 1, 1, 0, 0, 1, 0),
  (36, .goto 4, 3, 40, 0, 0, 0),
  (39, .iconst 0, 1, 0, 0, 0, 0),
  (40, .ireturn, 1, 0, 0, 0, 0)]
set_option maxRecDepth 100000 in
set_option maxHeartbeats 4000000 in
theorem kk_77 : k_77.all (entOK (mCi 77) (mB 77)) = true := by decide +kernel
set_option maxRecDepth 100000 in
set_option maxHeartbeats 4000000 in
theorem fC_turns {E : XE} {h : Mem} {Q : Int32 → Mem → Prop} {a1 : Int32} 
    (hF : CALLI E mC_missingTask [.ref 0, .int a1] h fun v1 h1 => (v1 = 0 → CALLV E mD_toggle [.ref 1, .int a1] h1 fun h2 => CALLI E mD_isOn [.ref 1, .int a1] h2 fun v3 h3 => (v3 = 0 → Q 0 h3) ∧ (¬ v3 = 0 → Q 1 h3)) ∧ (¬ v1 = 0 → CALLI E mC_refuse [.ref 0, .int v1] h1 fun v4 h4 => Q v4 h4)) :
    CALLI E mC_turns [.ref 0, .int a1] h Q := CALL_of rfl (wp_sound [] kk_77 19 hF)
def k_78 : List XI := [(0, .aload_n 0, 1, 0, 0, 0, 0),
  (1, .iload_n 1, 1, 0, 0, 0, 0),
  (2, .invokevirtual 106, 3, 120, 1, 0, 0),
  (5, .iload_n 2, 1, 0, 0, 0, 0),
  (6, .iconst 0, 1, 0, 0, 0, 0),
  (7, .bipush 59, 2, 0, 0, 59, 0),
  (9, .invokestatic 75, 3, 117, 1, 0, 0),
  (12, .invokestatic 117, 3, 116, 1, 0, 0),
  (15, .istore_n 3, 1, 0, 0, 0, 0),
  (16, .iload_n 3, 1, 0, 0, 0, 0),
  (17, .ifCond .eq 11, 3, 28, 0, 0, 0),
  (20, .aload_n 0, 1, 0, 0, 0, 0),
  (21, .iload_n 3, 1, 0, 0, 0, 0),
  (22, .invokevirtual 83, 3, 114, 1, 0, 0),
  (25, .goto 15, 3, 40, 0, 0, 0),
  (28, .aload_n 0, 1, 0, 0, 0, 0),
  (29, .getfield 10, 3, 6, 0, 0, 0),
  (32, .getfield 121, 3, 0, 5, 0, 0),
  (35, .iload_n 1, 1, 0, 0, 0, 0),
  (36, .iload_n 2, 1, 0, 0, 0, 0),
  (37, .invokestatic 124, 3, 123, 1, 0, 0),
  (40, .ireturn, 1, 0, 0, 0, 0)]
set_option maxRecDepth 100000 in
set_option maxHeartbeats 4000000 in
theorem kk_78 : k_78.all (entOK (mCi 78) (mB 78)) = true := by decide +kernel
set_option maxRecDepth 100000 in
set_option maxHeartbeats 4000000 in
theorem fC_offset {E : XE} {h : Mem} {Q : Int32 → Mem → Prop} {a1 : Int32} {a2 : Int32} 
    (hF : CALLI E mC_missingTask [.ref 0, .int a1] h fun v1 h1 => CALLI E mC_outside [.int a2, .int 0, .int 59] h1 fun v2 h2 => CALLI E mC_firstOf [.int v1, .int v2] h2 fun v3 h3 => (v3 = 0 → CALLI E mC_exchange [.ref 5, .int a1, .int a2] h3 fun v4 h4 => Q v4 h4) ∧ (¬ v3 = 0 → CALLI E mC_refuse [.ref 0, .int v3] h3 fun v5 h5 => Q v5 h5)) :
    CALLI E mC_offset [.ref 0, .int a1, .int a2] h Q := CALL_of rfl (wp_sound [] kk_78 19 hF)
def k_79 : List XI := [(0, .aload_n 0, 1, 0, 0, 0, 0),
  (1, .iload_n 1, 1, 0, 0, 0, 0),
  (2, .invokevirtual 106, 3, 120, 1, 0, 0),
  (5, .iload_n 2, 1, 0, 0, 0, 0),
  (6, .iconst 0, 1, 0, 0, 0, 0),
  (7, .bipush 9, 2, 0, 0, 9, 0),
  (9, .invokestatic 75, 3, 117, 1, 0, 0),
  (12, .invokestatic 117, 3, 116, 1, 0, 0),
  (15, .istore_n 3, 1, 0, 0, 0, 0),
  (16, .iload_n 3, 1, 0, 0, 0, 0),
  (17, .ifCond .eq 11, 3, 28, 0, 0, 0),
  (20, .aload_n 0, 1, 0, 0, 0, 0),
  (21, .iload_n 3, 1, 0, 0, 0, 0),
  (22, .invokevirtual 83, 3, 114, 1, 0, 0),
  (25, .goto 15, 3, 40, 0, 0, 0),
  (28, .aload_n 0, 1, 0, 0, 0, 0),
  (29, .getfield 10, 3, 6, 0, 0, 0),
  (32, .getfield 128, 3, 0, 6, 0, 0),
  (35, .iload_n 1, 1, 0, 0, 0, 0),
  (36, .iload_n 2, 1, 0, 0, 0, 0),
  (37, .invokestatic 124, 3, 123, 1, 0, 0),
  (40, .ireturn, 1, 0, 0, 0, 0)]
set_option maxRecDepth 100000 in
set_option maxHeartbeats 4000000 in
theorem kk_79 : k_79.all (entOK (mCi 79) (mB 79)) = true := by decide +kernel
set_option maxRecDepth 100000 in
set_option maxHeartbeats 4000000 in
theorem fC_rank {E : XE} {h : Mem} {Q : Int32 → Mem → Prop} {a1 : Int32} {a2 : Int32} 
    (hF : CALLI E mC_missingTask [.ref 0, .int a1] h fun v1 h1 => CALLI E mC_outside [.int a2, .int 0, .int 9] h1 fun v2 h2 => CALLI E mC_firstOf [.int v1, .int v2] h2 fun v3 h3 => (v3 = 0 → CALLI E mC_exchange [.ref 6, .int a1, .int a2] h3 fun v4 h4 => Q v4 h4) ∧ (¬ v3 = 0 → CALLI E mC_refuse [.ref 0, .int v3] h3 fun v5 h5 => Q v5 h5)) :
    CALLI E mC_rank [.ref 0, .int a1, .int a2] h Q := CALL_of rfl (wp_sound [] kk_79 19 hF)
def k_80 : List XI := [(0, .aload_n 0, 1, 0, 0, 0, 0),
  (1, .iload_n 1, 1, 0, 0, 0, 0),
  (2, .invokevirtual 106, 3, 120, 1, 0, 0),
  (5, .iload_n 2, 1, 0, 0, 0, 0),
  (6, .iconst 1, 1, 0, 0, 1, 0),
  (7, .bipush 20, 2, 0, 0, 20, 0),
  (9, .invokestatic 75, 3, 117, 1, 0, 0),
  (12, .invokestatic 117, 3, 116, 1, 0, 0),
  (15, .istore_n 3, 1, 0, 0, 0, 0),
  (16, .iload_n 3, 1, 0, 0, 0, 0),
  (17, .ifCond .eq 11, 3, 28, 0, 0, 0),
  (20, .aload_n 0, 1, 0, 0, 0, 0),
  (21, .iload_n 3, 1, 0, 0, 0, 0),
  (22, .invokevirtual 83, 3, 114, 1, 0, 0),
  (25, .goto 15, 3, 40, 0, 0, 0),
  (28, .aload_n 0, 1, 0, 0, 0, 0),
  (29, .getfield 10, 3, 6, 0, 0, 0),
  (32, .getfield 131, 3, 0, 2, 0, 0),
  (35, .iload_n 1, 1, 0, 0, 0, 0),
  (36, .iload_n 2, 1, 0, 0, 0, 0),
  (37, .invokestatic 124, 3, 123, 1, 0, 0),
  (40, .ireturn, 1, 0, 0, 0, 0)]
set_option maxRecDepth 100000 in
set_option maxHeartbeats 4000000 in
theorem kk_80 : k_80.all (entOK (mCi 80) (mB 80)) = true := by decide +kernel
set_option maxRecDepth 100000 in
set_option maxHeartbeats 4000000 in
theorem fC_cost {E : XE} {h : Mem} {Q : Int32 → Mem → Prop} {a1 : Int32} {a2 : Int32} 
    (hF : CALLI E mC_missingTask [.ref 0, .int a1] h fun v1 h1 => CALLI E mC_outside [.int a2, .int 1, .int 20] h1 fun v2 h2 => CALLI E mC_firstOf [.int v1, .int v2] h2 fun v3 h3 => (v3 = 0 → CALLI E mC_exchange [.ref 2, .int a1, .int a2] h3 fun v4 h4 => Q v4 h4) ∧ (¬ v3 = 0 → CALLI E mC_refuse [.ref 0, .int v3] h3 fun v5 h5 => Q v5 h5)) :
    CALLI E mC_cost [.ref 0, .int a1, .int a2] h Q := CALL_of rfl (wp_sound [] kk_80 19 hF)
def k_81_0 : List XI := [(0, .aload_n 0, 1, 0, 0, 0, 0),
  (1, .iload_n 1, 1, 0, 0, 0, 0),
  (2, .invokevirtual 106, 3, 120, 1, 0, 0),
  (5, .iload_n 2, 1, 0, 0, 0, 0),
  (6, .bipush 6, 2, 0, 0, 6, 0),
  (8, .invokestatic 134, 3, 118, 1, 0, 0),
  (11, .invokestatic 117, 3, 116, 1, 0, 0),
  (14, .istore 4, 2, 0, 0, 0, 0),
  (16, .iload 4, 2, 0, 0, 0, 0),
  (18, .iload_n 3, 1, 0, 0, 0, 0),
  (19, .iconst 0, 1, 0, 0, 0, 0),
  (20, .bipush 9, 2, 0, 0, 9, 0),
  (22, .invokestatic 75, 3, 117, 1, 0, 0),
  (25, .invokestatic 117, 3, 116, 1, 0, 0),
  (28, .istore 4, 2, 0, 0, 0, 0),
  (30, .iload 4, 2, 0, 0, 0, 0),
  (32, .ifCond .eq 10, 3, 42, 0, 0, 0),
  (35, .aload_n 0, 1, 0, 0, 0, 0),
  (36, .iload 4, 2, 0, 0, 0, 0),
  (38, .invokevirtual 83, 3, 114, 1, 0, 0),
  (41, .ireturn, 1, 0, 0, 0, 0),
  (42, .bipush 10, 2, 0, 0, 10, 0),
  (44, .aload_n 0, 1, 0, 0, 0, 0),
  (45, .getfield 10, 3, 6, 0, 0, 0),
  (48, .getfield 137, 3, 0, 7, 0, 0),
  (51, .iload_n 1, 1, 0, 0, 0, 0),
  (52, .iaload, 1, 0, 0, 0, 0),
  (53, .imul, 1, 0, 0, 0, 0),
  (54, .aload_n 0, 1, 0, 0, 0, 0),
  (55, .getfield 10, 3, 6, 0, 0, 0)]
set_option maxRecDepth 100000 in
set_option maxHeartbeats 4000000 in
theorem kk_81_0 : k_81_0.all (entOK (mCi 81) (mB 81)) = true := by decide +kernel
def k_81_1 : List XI := [(58, .getfield 140, 3, 0, 8, 0, 0),
  (61, .iload_n 1, 1, 0, 0, 0, 0),
  (62, .iaload, 1, 0, 0, 0, 0),
  (63, .iadd, 1, 0, 0, 0, 0),
  (64, .istore 5, 2, 0, 0, 0, 0),
  (66, .aload_n 0, 1, 0, 0, 0, 0),
  (67, .getfield 10, 3, 6, 0, 0, 0),
  (70, .iload_n 1, 1, 0, 0, 0, 0),
  (71, .iload_n 2, 1, 0, 0, 0, 0),
  (72, .iload_n 3, 1, 0, 0, 0, 0),
  (73, .invokevirtual 143, 3, 9, 0, 0, 0),
  (76, .iload 5, 2, 0, 0, 0, 0),
  (78, .ireturn, 1, 0, 0, 0, 0)]
set_option maxRecDepth 100000 in
set_option maxHeartbeats 4000000 in
theorem kk_81_1 : k_81_1.all (entOK (mCi 81) (mB 81)) = true := by decide +kernel
def k_81 : List XI := k_81_0 ++ (k_81_1)
theorem kk_81 : k_81.all (entOK (mCi 81) (mB 81)) = true := all_app kk_81_0 (kk_81_1)
set_option maxRecDepth 100000 in
set_option maxHeartbeats 4000000 in
theorem fC_kind {E : XE} {h : Mem} {Q : Int32 → Mem → Prop} {a1 : Int32} {a2 : Int32} {a3 : Int32} 
    (hF : CALLI E mC_missingTask [.ref 0, .int a1] h fun v1 h1 => CALLI E mC_otherThan [.int a2, .int 6] h1 fun v2 h2 => CALLI E mC_firstOf [.int v1, .int v2] h2 fun v3 h3 => CALLI E mC_outside [.int a3, .int 0, .int 9] h3 fun v4 h4 => CALLI E mC_firstOf [.int v3, .int v4] h4 fun v5 h5 => (v5 = 0 → cnd (inb a1 6) (cnd (inb a1 6) (CALLV E mD_setKind [.ref 1, .int a1, .int a2, .int a3] h5 fun h6 => Q ((10 * (h5 7 (ix a1))) + (h5 8 (ix a1))) h6))) ∧ (¬ v5 = 0 → CALLI E mC_refuse [.ref 0, .int v5] h5 fun v7 h7 => Q v7 h7)) :
    CALLI E mC_kind [.ref 0, .int a1, .int a2, .int a3] h Q := CALL_of rfl (wp_sound [] kk_81 40 hF)
def k_82_0 : List XI := [(0, .aload_n 0, 1, 0, 0, 0, 0),
  (1, .iload_n 1, 1, 0, 0, 0, 0),
  (2, .invokevirtual 106, 3, 120, 1, 0, 0),
  (5, .iload_n 2, 1, 0, 0, 0, 0),
  (6, .invokestatic 147, 3, 119, 1, 0, 0),
  (9, .invokestatic 117, 3, 116, 1, 0, 0),
  (12, .istore 4, 2, 0, 0, 0, 0),
  (14, .iload 4, 2, 0, 0, 0, 0),
  (16, .iload_n 3, 1, 0, 0, 0, 0),
  (17, .iconst 0, 1, 0, 0, 0, 0),
  (18, .bipush 9, 2, 0, 0, 9, 0),
  (20, .invokestatic 75, 3, 117, 1, 0, 0),
  (23, .invokestatic 117, 3, 116, 1, 0, 0),
  (26, .istore 4, 2, 0, 0, 0, 0),
  (28, .iload 4, 2, 0, 0, 0, 0),
  (30, .ifCond .eq 12, 3, 42, 0, 0, 0),
  (33, .aload_n 0, 1, 0, 0, 0, 0),
  (34, .iload 4, 2, 0, 0, 0, 0),
  (36, .invokevirtual 83, 3, 114, 1, 0, 0),
  (39, .goto 19, 3, 58, 0, 0, 0),
  (42, .aload_n 0, 1, 0, 0, 0, 0),
  (43, .getfield 10, 3, 6, 0, 0, 0),
  (46, .getfield 150, 3, 0, 9, 0, 0),
  (49, .iload_n 1, 1, 0, 0, 0, 0),
  (50, .iconst 4, 1, 0, 0, 4, 0),
  (51, .imul, 1, 0, 0, 0, 0),
  (52, .iload_n 2, 1, 0, 0, 0, 0),
  (53, .iadd, 1, 0, 0, 0, 0),
  (54, .iload_n 3, 1, 0, 0, 0, 0),
  (55, .invokestatic 124, 3, 123, 1, 0, 0)]
set_option maxRecDepth 100000 in
set_option maxHeartbeats 4000000 in
theorem kk_82_0 : k_82_0.all (entOK (mCi 82) (mB 82)) = true := by decide +kernel
def k_82_1 : List XI := [(58, .ireturn, 1, 0, 0, 0, 0)]
set_option maxRecDepth 100000 in
set_option maxHeartbeats 4000000 in
theorem kk_82_1 : k_82_1.all (entOK (mCi 82) (mB 82)) = true := by decide +kernel
def k_82 : List XI := k_82_0 ++ (k_82_1)
theorem kk_82 : k_82.all (entOK (mCi 82) (mB 82)) = true := all_app kk_82_0 (kk_82_1)
set_option maxRecDepth 100000 in
set_option maxHeartbeats 4000000 in
theorem fC_holds {E : XE} {h : Mem} {Q : Int32 → Mem → Prop} {a1 : Int32} {a2 : Int32} {a3 : Int32} 
    (hF : CALLI E mC_missingTask [.ref 0, .int a1] h fun v1 h1 => CALLI E mC_missingLock [.int a2] h1 fun v2 h2 => CALLI E mC_firstOf [.int v1, .int v2] h2 fun v3 h3 => CALLI E mC_outside [.int a3, .int 0, .int 9] h3 fun v4 h4 => CALLI E mC_firstOf [.int v3, .int v4] h4 fun v5 h5 => (v5 = 0 → CALLI E mC_exchange [.ref 9, .int ((a1 * 4) + a2), .int a3] h5 fun v6 h6 => Q v6 h6) ∧ (¬ v5 = 0 → CALLI E mC_refuse [.ref 0, .int v5] h5 fun v7 h7 => Q v7 h7)) :
    CALLI E mC_holds [.ref 0, .int a1, .int a2, .int a3] h Q := CALL_of rfl (wp_sound [] kk_82 28 hF)
def k_83 : List XI := [(0, .aload_n 0, 1, 0, 0, 0, 0),
  (1, .iload_n 1, 1, 0, 0, 0, 0),
  (2, .invokevirtual 106, 3, 120, 1, 0, 0),
  (5, .iload_n 2, 1, 0, 0, 0, 0),
  (6, .bipush 11, 2, 0, 0, 11, 0),
  (8, .invokestatic 134, 3, 118, 1, 0, 0),
  (11, .invokestatic 117, 3, 116, 1, 0, 0),
  (14, .istore_n 3, 1, 0, 0, 0, 0),
  (15, .iload_n 3, 1, 0, 0, 0, 0),
  (16, .ifCond .eq 11, 3, 27, 0, 0, 0),
  (19, .aload_n 0, 1, 0, 0, 0, 0),
  (20, .iload_n 3, 1, 0, 0, 0, 0),
  (21, .invokevirtual 83, 3, 114, 1, 0, 0),
  (24, .goto 12, 3, 36, 0, 0, 0),
  (27, .aload_n 0, 1, 0, 0, 0, 0),
  (28, .getfield 10, 3, 6, 0, 0, 0),
  (31, .iload_n 1, 1, 0, 0, 0, 0),
  (32, .iload_n 2, 1, 0, 0, 0, 0),
  (33, .invokevirtual 153, 3, 8, 1, 0, 0),
  (36, .ireturn, 1, 0, 0, 0, 0)]
set_option maxRecDepth 100000 in
set_option maxHeartbeats 4000000 in
theorem kk_83 : k_83.all (entOK (mCi 83) (mB 83)) = true := by decide +kernel
set_option maxRecDepth 100000 in
set_option maxHeartbeats 4000000 in
theorem fC_task {E : XE} {h : Mem} {Q : Int32 → Mem → Prop} {a1 : Int32} {a2 : Int32} 
    (hF : CALLI E mC_missingTask [.ref 0, .int a1] h fun v1 h1 => CALLI E mC_otherThan [.int a2, .int 11] h1 fun v2 h2 => CALLI E mC_firstOf [.int v1, .int v2] h2 fun v3 h3 => (v3 = 0 → CALLI E mD_trait [.ref 1, .int a1, .int a2] h3 fun v4 h4 => Q v4 h4) ∧ (¬ v3 = 0 → CALLI E mC_refuse [.ref 0, .int v3] h3 fun v5 h5 => Q v5 h5)) :
    CALLI E mC_task [.ref 0, .int a1, .int a2] h Q := CALL_of rfl (wp_sound [] kk_83 17 hF)
def k_84 : List XI := [(0, .aload_n 0, 1, 0, 0, 0, 0),
  (1, .iload_n 1, 1, 0, 0, 0, 0),
  (2, .invokevirtual 106, 3, 120, 1, 0, 0),
  (5, .iload_n 2, 1, 0, 0, 0, 0),
  (6, .iconst 0, 1, 0, 0, 0, 0),
  (7, .sipush 600, 3, 0, 0, 600, 0),
  (10, .invokestatic 75, 3, 117, 1, 0, 0),
  (13, .invokestatic 117, 3, 116, 1, 0, 0),
  (16, .istore_n 3, 1, 0, 0, 0, 0),
  (17, .iload_n 3, 1, 0, 0, 0, 0),
  (18, .ifCond .eq 11, 3, 29, 0, 0, 0),
  (21, .aload_n 0, 1, 0, 0, 0, 0),
  (22, .iload_n 3, 1, 0, 0, 0, 0),
  (23, .invokevirtual 83, 3, 114, 1, 0, 0),
  (26, .goto 12, 3, 38, 0, 0, 0),
  (29, .aload_n 0, 1, 0, 0, 0, 0),
  (30, .getfield 10, 3, 6, 0, 0, 0),
  (33, .iload_n 1, 1, 0, 0, 0, 0),
  (34, .iload_n 2, 1, 0, 0, 0, 0),
  (35, .invokevirtual 156, 3, 10, 1, 0, 0),
  (38, .ireturn, 1, 0, 0, 0, 0)]
set_option maxRecDepth 100000 in
set_option maxHeartbeats 4000000 in
theorem kk_84 : k_84.all (entOK (mCi 84) (mB 84)) = true := by decide +kernel
set_option maxRecDepth 100000 in
set_option maxHeartbeats 4000000 in
theorem fC_asked {E : XE} {h : Mem} {Q : Int32 → Mem → Prop} {a1 : Int32} {a2 : Int32} 
    (hF : CALLI E mC_missingTask [.ref 0, .int a1] h fun v1 h1 => CALLI E mC_outside [.int a2, .int 0, .int 600] h1 fun v2 h2 => CALLI E mC_firstOf [.int v1, .int v2] h2 fun v3 h3 => (v3 = 0 → CALLI E mD_askedWithin [.ref 1, .int a1, .int a2] h3 fun v4 h4 => Q v4 h4) ∧ (¬ v3 = 0 → CALLI E mC_refuse [.ref 0, .int v3] h3 fun v5 h5 => Q v5 h5)) :
    CALLI E mC_asked [.ref 0, .int a1, .int a2] h Q := CALL_of rfl (wp_sound [] kk_84 18 hF)
def k_85 : List XI := [(0, .aload_n 0, 1, 0, 0, 0, 0),
  (1, .iload_n 1, 1, 0, 0, 0, 0),
  (2, .invokevirtual 106, 3, 120, 1, 0, 0),
  (5, .iload_n 2, 1, 0, 0, 0, 0),
  (6, .iconst 0, 1, 0, 0, 0, 0),
  (7, .sipush 600, 3, 0, 0, 600, 0),
  (10, .invokestatic 75, 3, 117, 1, 0, 0),
  (13, .invokestatic 117, 3, 116, 1, 0, 0),
  (16, .istore_n 3, 1, 0, 0, 0, 0),
  (17, .iload_n 3, 1, 0, 0, 0, 0),
  (18, .ifCond .eq 11, 3, 29, 0, 0, 0),
  (21, .aload_n 0, 1, 0, 0, 0, 0),
  (22, .iload_n 3, 1, 0, 0, 0, 0),
  (23, .invokevirtual 83, 3, 114, 1, 0, 0),
  (26, .goto 12, 3, 38, 0, 0, 0),
  (29, .aload_n 0, 1, 0, 0, 0, 0),
  (30, .getfield 10, 3, 6, 0, 0, 0),
  (33, .iload_n 1, 1, 0, 0, 0, 0),
  (34, .iload_n 2, 1, 0, 0, 0, 0),
  (35, .invokevirtual 159, 3, 11, 1, 0, 0),
  (38, .ireturn, 1, 0, 0, 0, 0)]
set_option maxRecDepth 100000 in
set_option maxHeartbeats 4000000 in
theorem kk_85 : k_85.all (entOK (mCi 85) (mB 85)) = true := by decide +kernel
set_option maxRecDepth 100000 in
set_option maxHeartbeats 4000000 in
theorem fC_owed {E : XE} {h : Mem} {Q : Int32 → Mem → Prop} {a1 : Int32} {a2 : Int32} 
    (hF : CALLI E mC_missingTask [.ref 0, .int a1] h fun v1 h1 => CALLI E mC_outside [.int a2, .int 0, .int 600] h1 fun v2 h2 => CALLI E mC_firstOf [.int v1, .int v2] h2 fun v3 h3 => (v3 = 0 → CALLI E mD_owedWithin [.ref 1, .int a1, .int a2] h3 fun v4 h4 => Q v4 h4) ∧ (¬ v3 = 0 → CALLI E mC_refuse [.ref 0, .int v3] h3 fun v5 h5 => Q v5 h5)) :
    CALLI E mC_owed [.ref 0, .int a1, .int a2] h Q := CALL_of rfl (wp_sound [] kk_85 18 hF)
def k_86 : List XI := [(0, .iload_n 1, 1, 0, 0, 0, 0),
  (1, .iconst 0, 1, 0, 0, 0, 0),
  (2, .sipush 600, 3, 0, 0, 600, 0),
  (5, .invokestatic 75, 3, 117, 1, 0, 0),
  (8, .istore_n 2, 1, 0, 0, 0, 0),
  (9, .iload_n 2, 1, 0, 0, 0, 0),
  (10, .ifCond .eq 11, 3, 21, 0, 0, 0),
  (13, .aload_n 0, 1, 0, 0, 0, 0),
  (14, .iload_n 2, 1, 0, 0, 0, 0),
  (15, .invokevirtual 83, 3, 114, 1, 0, 0),
  (18, .goto 11, 3, 29, 0, 0, 0),
  (21, .aload_n 0, 1, 0, 0, 0, 0),
  (22, .getfield 10, 3, 6, 0, 0, 0),
  (25, .iload_n 1, 1, 0, 0, 0, 0),
  (26, .invokevirtual 162, 3, 12, 1, 0, 0),
  (29, .ireturn, 1, 0, 0, 0, 0)]
set_option maxRecDepth 100000 in
set_option maxHeartbeats 4000000 in
theorem kk_86 : k_86.all (entOK (mCi 86) (mB 86)) = true := by decide +kernel
set_option maxRecDepth 100000 in
set_option maxHeartbeats 4000000 in
theorem fC_demand {E : XE} {h : Mem} {Q : Int32 → Mem → Prop} {a1 : Int32} 
    (hF : CALLI E mC_outside [.int a1, .int 0, .int 600] h fun v1 h1 => (v1 = 0 → CALLI E mD_demandWithin [.ref 1, .int a1] h1 fun v2 h2 => Q v2 h2) ∧ (¬ v1 = 0 → CALLI E mC_refuse [.ref 0, .int v1] h1 fun v3 h3 => Q v3 h3)) :
    CALLI E mC_demand [.ref 0, .int a1] h Q := CALL_of rfl (wp_sound [] kk_86 13 hF)
def k_87 : List XI := [(0, .aload_n 0, 1, 0, 0, 0, 0),
  (1, .getfield 29, 3, 6, 4, 0, 0),
  (4, .aload_n 0, 1, 0, 0, 0, 0),
  (5, .getfield 10, 3, 6, 0, 0, 0),
  (8, .invokevirtual 165, 3, 20, 1, 0, 0),
  (11, .ireturn, 1, 0, 0, 0, 0)]
set_option maxRecDepth 100000 in
set_option maxHeartbeats 4000000 in
theorem kk_87 : k_87.all (entOK (mCi 87) (mB 87)) = true := by decide +kernel
set_option maxRecDepth 100000 in
set_option maxHeartbeats 4000000 in
theorem fC_busy {E : XE} {h : Mem} {Q : Int32 → Mem → Prop}  
    (hF : CALLI E mPW_busyTime [.ref 43, .ref 1] h fun v1 h1 => Q v1 h1) :
    CALLI E mC_busy [.ref 0] h Q := CALL_of rfl (wp_sound [] kk_87 7 hF)
def k_88 : List XI := [(0, .iload_n 1, 1, 0, 0, 0, 0),
  (1, .iconst (-1), 1, 0, 0, (-1), 0),
  (2, .if_icmp .ge 10, 3, 12, 0, 0, 0),
  (5, .aload_n 0, 1, 0, 0, 0, 0),
  (6, .bipush (-4), 2, 0, 0, (-4), 0),
  (8, .invokevirtual 83, 3, 114, 1, 0, 0),
  (11, .ireturn, 1, 0, 0, 0, 0),
  (12, .iload_n 1, 1, 0, 0, 0, 0),
  (13, .ifCond .ge 17, 3, 30, 0, 0, 0),
  (16, .aload_n 0, 1, 0, 0, 0, 0),
  (17, .getfield 29, 3, 6, 4, 0, 0),
  (20, .aload_n 0, 1, 0, 0, 0, 0),
  (21, .getfield 10, 3, 6, 0, 0, 0),
  (24, .invokevirtual 168, 3, 22, 1, 0, 0),
  (27, .goto 15, 3, 42, 0, 0, 0),
  (30, .aload_n 0, 1, 0, 0, 0, 0),
  (31, .getfield 29, 3, 6, 4, 0, 0),
  (34, .aload_n 0, 1, 0, 0, 0, 0),
  (35, .getfield 10, 3, 6, 0, 0, 0),
  (38, .iload_n 1, 1, 0, 0, 0, 0),
  (39, .invokevirtual 171, 3, 23, 1, 0, 0),
  (42, .ireturn, 1, 0, 0, 0, 0)]
set_option maxRecDepth 100000 in
set_option maxHeartbeats 4000000 in
theorem kk_88 : k_88.all (entOK (mCi 88) (mB 88)) = true := by decide +kernel
set_option maxRecDepth 100000 in
set_option maxHeartbeats 4000000 in
theorem fC_point {E : XE} {h : Mem} {Q : Int32 → Mem → Prop} {a1 : Int32} 
    (hF : ((-1) ≤ a1 → (0 ≤ a1 → CALLI E mPW_pointAt [.ref 43, .ref 1, .int a1] h fun v1 h1 => Q v1 h1) ∧ (¬ 0 ≤ a1 → CALLI E mPW_countPoints [.ref 43, .ref 1] h fun v2 h2 => Q v2 h2)) ∧ (¬ (-1) ≤ a1 → CALLI E mC_refuse [.ref 0, .int (-4)] h fun v3 h3 => Q v3 h3)) :
    CALLI E mC_point [.ref 0, .int a1] h Q := CALL_of rfl (wp_sound [] kk_88 13 hF)
def k_89 : List XI := [(0, .aload_n 0, 1, 0, 0, 0, 0),
  (1, .getfield 29, 3, 6, 4, 0, 0),
  (4, .aload_n 0, 1, 0, 0, 0, 0),
  (5, .getfield 10, 3, 6, 0, 0, 0),
  (8, .invokevirtual 175, 3, 24, 1, 0, 0),
  (11, .ireturn, 1, 0, 0, 0, 0)]
set_option maxRecDepth 100000 in
set_option maxHeartbeats 4000000 in
theorem kk_89 : k_89.all (entOK (mCi 89) (mB 89)) = true := by decide +kernel
set_option maxRecDepth 100000 in
set_option maxHeartbeats 4000000 in
theorem fC_miss {E : XE} {h : Mem} {Q : Int32 → Mem → Prop}  
    (hF : CALLI E mPW_missTime [.ref 43, .ref 1] h fun v1 h1 => Q v1 h1) :
    CALLI E mC_miss [.ref 0] h Q := CALL_of rfl (wp_sound [] kk_89 7 hF)
def k_90 : List XI := [(0, .aload_n 0, 1, 0, 0, 0, 0),
  (1, .getfield 29, 3, 6, 4, 0, 0),
  (4, .aload_n 0, 1, 0, 0, 0, 0),
  (5, .getfield 10, 3, 6, 0, 0, 0),
  (8, .invokevirtual 178, 3, 25, 1, 0, 0),
  (11, .ireturn, 1, 0, 0, 0, 0)]
set_option maxRecDepth 100000 in
set_option maxHeartbeats 4000000 in
theorem kk_90 : k_90.all (entOK (mCi 90) (mB 90)) = true := by decide +kernel
set_option maxRecDepth 100000 in
set_option maxHeartbeats 4000000 in
theorem fC_spare {E : XE} {h : Mem} {Q : Int32 → Mem → Prop}  
    (hF : CALLI E mPW_leastSpare [.ref 43, .ref 1] h fun v1 h1 => Q v1 h1) :
    CALLI E mC_spare [.ref 0] h Q := CALL_of rfl (wp_sound [] kk_90 7 hF)
def k_91 : List XI := [(0, .iload_n 1, 1, 0, 0, 0, 0),
  (1, .iconst 3, 1, 0, 0, 3, 0),
  (2, .invokestatic 134, 3, 118, 1, 0, 0),
  (5, .iload_n 2, 1, 0, 0, 0, 0),
  (6, .iconst 0, 1, 0, 0, 0, 0),
  (7, .ldc 181, 2, 0, 0, 2147483647, 0),
  (9, .invokestatic 75, 3, 117, 1, 0, 0),
  (12, .invokestatic 117, 3, 116, 1, 0, 0),
  (15, .istore_n 3, 1, 0, 0, 0, 0),
  (16, .iload_n 3, 1, 0, 0, 0, 0),
  (17, .ifCond .eq 11, 3, 28, 0, 0, 0),
  (20, .aload_n 0, 1, 0, 0, 0, 0),
  (21, .iload_n 3, 1, 0, 0, 0, 0),
  (22, .invokevirtual 83, 3, 114, 1, 0, 0),
  (25, .goto 12, 3, 37, 0, 0, 0),
  (28, .aload_n 0, 1, 0, 0, 0, 0),
  (29, .getfield 10, 3, 6, 0, 0, 0),
  (32, .iload_n 1, 1, 0, 0, 0, 0),
  (33, .iload_n 2, 1, 0, 0, 0, 0),
  (34, .invokestatic 182, 3, 32, 1, 0, 0),
  (37, .ireturn, 1, 0, 0, 0, 0)]
set_option maxRecDepth 100000 in
set_option maxHeartbeats 4000000 in
theorem kk_91 : k_91.all (entOK (mCi 91) (mB 91)) = true := by decide +kernel
set_option maxRecDepth 100000 in
set_option maxHeartbeats 4000000 in
theorem fC_order {E : XE} {h : Mem} {Q : Int32 → Mem → Prop} {a1 : Int32} {a2 : Int32} 
    (hF : CALLI E mC_otherThan [.int a1, .int 3] h fun v1 h1 => CALLI E mC_outside [.int a2, .int 0, .int 2147483647] h1 fun v2 h2 => CALLI E mC_firstOf [.int v1, .int v2] h2 fun v3 h3 => (v3 = 0 → CALLI E mRS_taskAt [.ref 1, .int a1, .int a2] h3 fun v4 h4 => Q v4 h4) ∧ (¬ v3 = 0 → CALLI E mC_refuse [.ref 0, .int v3] h3 fun v5 h5 => Q v5 h5)) :
    CALLI E mC_order [.ref 0, .int a1, .int a2] h Q := CALL_of rfl (wp_sound [] kk_91 18 hF)
def k_92 : List XI := [(0, .iload_n 1, 1, 0, 0, 0, 0),
  (1, .iconst 3, 1, 0, 0, 3, 0),
  (2, .invokestatic 134, 3, 118, 1, 0, 0),
  (5, .iload_n 2, 1, 0, 0, 0, 0),
  (6, .invokestatic 147, 3, 119, 1, 0, 0),
  (9, .invokestatic 117, 3, 116, 1, 0, 0),
  (12, .istore_n 3, 1, 0, 0, 0, 0),
  (13, .iload_n 3, 1, 0, 0, 0, 0),
  (14, .ifCond .eq 11, 3, 25, 0, 0, 0),
  (17, .aload_n 0, 1, 0, 0, 0, 0),
  (18, .iload_n 3, 1, 0, 0, 0, 0),
  (19, .invokevirtual 83, 3, 114, 1, 0, 0),
  (22, .goto 12, 3, 34, 0, 0, 0),
  (25, .aload_n 0, 1, 0, 0, 0, 0),
  (26, .getfield 10, 3, 6, 0, 0, 0),
  (29, .iload_n 1, 1, 0, 0, 0, 0),
  (30, .iload_n 2, 1, 0, 0, 0, 0),
  (31, .invokestatic 186, 3, 33, 1, 0, 0),
  (34, .ireturn, 1, 0, 0, 0, 0)]
set_option maxRecDepth 100000 in
set_option maxHeartbeats 4000000 in
theorem kk_92 : k_92.all (entOK (mCi 92) (mB 92)) = true := by decide +kernel
set_option maxRecDepth 100000 in
set_option maxHeartbeats 4000000 in
theorem fC_ceiling {E : XE} {h : Mem} {Q : Int32 → Mem → Prop} {a1 : Int32} {a2 : Int32} 
    (hF : CALLI E mC_otherThan [.int a1, .int 3] h fun v1 h1 => CALLI E mC_missingLock [.int a2] h1 fun v2 h2 => CALLI E mC_firstOf [.int v1, .int v2] h2 fun v3 h3 => (v3 = 0 → CALLI E mRS_ceilingOf [.ref 1, .int a1, .int a2] h3 fun v4 h4 => Q v4 h4) ∧ (¬ v3 = 0 → CALLI E mC_refuse [.ref 0, .int v3] h3 fun v5 h5 => Q v5 h5)) :
    CALLI E mC_ceiling [.ref 0, .int a1, .int a2] h Q := CALL_of rfl (wp_sound [] kk_92 16 hF)
def k_93 : List XI := [(0, .aload_n 0, 1, 0, 0, 0, 0),
  (1, .iload_n 1, 1, 0, 0, 0, 0),
  (2, .iload_n 2, 1, 0, 0, 0, 0),
  (3, .invokevirtual 189, 3, 122, 1, 0, 0),
  (6, .istore_n 3, 1, 0, 0, 0, 0),
  (7, .iload_n 3, 1, 0, 0, 0, 0),
  (8, .ifCond .eq 11, 3, 19, 0, 0, 0),
  (11, .aload_n 0, 1, 0, 0, 0, 0),
  (12, .iload_n 3, 1, 0, 0, 0, 0),
  (13, .invokevirtual 83, 3, 114, 1, 0, 0),
  (16, .goto 12, 3, 28, 0, 0, 0),
  (19, .aload_n 0, 1, 0, 0, 0, 0),
  (20, .getfield 10, 3, 6, 0, 0, 0),
  (23, .iload_n 1, 1, 0, 0, 0, 0),
  (24, .iload_n 2, 1, 0, 0, 0, 0),
  (25, .invokestatic 192, 3, 34, 1, 0, 0),
  (28, .ireturn, 1, 0, 0, 0, 0)]
set_option maxRecDepth 100000 in
set_option maxHeartbeats 4000000 in
theorem kk_93 : k_93.all (entOK (mCi 93) (mB 93)) = true := by decide +kernel
set_option maxRecDepth 100000 in
set_option maxHeartbeats 4000000 in
theorem fC_blocking {E : XE} {h : Mem} {Q : Int32 → Mem → Prop} {a1 : Int32} {a2 : Int32} 
    (hF : CALLI E mC_notInOrder [.ref 0, .int a1, .int a2] h fun v1 h1 => (v1 = 0 → CALLI E mRS_blockingBy [.ref 1, .int a1, .int a2] h1 fun v2 h2 => Q v2 h2) ∧ (¬ v1 = 0 → CALLI E mC_refuse [.ref 0, .int v1] h1 fun v3 h3 => Q v3 h3)) :
    CALLI E mC_blocking [.ref 0, .int a1, .int a2] h Q := CALL_of rfl (wp_sound [] kk_93 14 hF)
def k_94 : List XI := [(0, .aload_n 0, 1, 0, 0, 0, 0),
  (1, .iload_n 1, 1, 0, 0, 0, 0),
  (2, .iload_n 2, 1, 0, 0, 0, 0),
  (3, .invokevirtual 189, 3, 122, 1, 0, 0),
  (6, .istore_n 3, 1, 0, 0, 0, 0),
  (7, .iload_n 3, 1, 0, 0, 0, 0),
  (8, .ifCond .eq 11, 3, 19, 0, 0, 0),
  (11, .aload_n 0, 1, 0, 0, 0, 0),
  (12, .iload_n 3, 1, 0, 0, 0, 0),
  (13, .invokevirtual 83, 3, 114, 1, 0, 0),
  (16, .goto 16, 3, 32, 0, 0, 0),
  (19, .aload_n 0, 1, 0, 0, 0, 0),
  (20, .getfield 36, 3, 6, 5, 0, 0),
  (23, .aload_n 0, 1, 0, 0, 0, 0),
  (24, .getfield 10, 3, 6, 0, 0, 0),
  (27, .iload_n 1, 1, 0, 0, 0, 0),
  (28, .iload_n 2, 1, 0, 0, 0, 0),
  (29, .invokevirtual 195, 3, 37, 1, 0, 0),
  (32, .ireturn, 1, 0, 0, 0, 0)]
set_option maxRecDepth 100000 in
set_option maxHeartbeats 4000000 in
theorem kk_94 : k_94.all (entOK (mCi 94) (mB 94)) = true := by decide +kernel
set_option maxRecDepth 100000 in
set_option maxHeartbeats 4000000 in
theorem fC_response {E : XE} {h : Mem} {Q : Int32 → Mem → Prop} {a1 : Int32} {a2 : Int32} 
    (hF : CALLI E mC_notInOrder [.ref 0, .int a1, .int a2] h fun v1 h1 => (v1 = 0 → CALLI E mRS_settleBy [.ref 44, .ref 1, .int a1, .int a2] h1 fun v2 h2 => Q v2 h2) ∧ (¬ v1 = 0 → CALLI E mC_refuse [.ref 0, .int v1] h1 fun v3 h3 => Q v3 h3)) :
    CALLI E mC_response [.ref 0, .int a1, .int a2] h Q := CALL_of rfl (wp_sound [] kk_94 16 hF)
def k_95 : List XI := [(0, .aload_n 0, 1, 0, 0, 0, 0),
  (1, .iload_n 1, 1, 0, 0, 0, 0),
  (2, .iload_n 2, 1, 0, 0, 0, 0),
  (3, .invokevirtual 189, 3, 122, 1, 0, 0),
  (6, .istore_n 3, 1, 0, 0, 0, 0),
  (7, .iload_n 3, 1, 0, 0, 0, 0),
  (8, .ifCond .eq 9, 3, 17, 0, 0, 0),
  (11, .aload_n 0, 1, 0, 0, 0, 0),
  (12, .iload_n 3, 1, 0, 0, 0, 0),
  (13, .invokevirtual 83, 3, 114, 1, 0, 0),
  (16, .ireturn, 1, 0, 0, 0, 0),
  (17, .aload_n 0, 1, 0, 0, 0, 0),
  (18, .getfield 36, 3, 6, 5, 0, 0),
  (21, .aload_n 0, 1, 0, 0, 0, 0),
  (22, .getfield 10, 3, 6, 0, 0, 0),
  (25, .iload_n 1, 1, 0, 0, 0, 0),
  (26, .iload_n 2, 1, 0, 0, 0, 0),
  (27, .invokevirtual 195, 3, 37, 1, 0, 0),
  (30, .bipush (-9), 2, 0, 0, (-9), 0),
  (32, .if_icmp .ne 8, 3, 40, 0, 0, 0),
  (35, .bipush (-9), 2, 0, 0, (-9), 0),
  (37, .goto 10, 3, 47, 0, 0, 0),
  (40, .aload_n 0, 1, 0, 0, 0, 0),
  (41, .getfield 36, 3, 6, 5, 0, 0),
  (44, .invokevirtual 198, 3, 27, 1, 0, 0),
  (47, .ireturn, 1, 0, 0, 0, 0)]
set_option maxRecDepth 100000 in
set_option maxHeartbeats 4000000 in
theorem kk_95 : k_95.all (entOK (mCi 95) (mB 95)) = true := by decide +kernel
set_option maxRecDepth 100000 in
set_option maxHeartbeats 4000000 in
theorem fC_rounds {E : XE} {h : Mem} {Q : Int32 → Mem → Prop} {a1 : Int32} {a2 : Int32} 
    (hF : CALLI E mC_notInOrder [.ref 0, .int a1, .int a2] h fun v1 h1 => (v1 = 0 → CALLI E mRS_settleBy [.ref 44, .ref 1, .int a1, .int a2] h1 fun v2 h2 => (¬ v2 = (-9) → CALLI E mRS_roundsTaken [.ref 44] h2 fun v3 h3 => Q v3 h3) ∧ (v2 = (-9) → Q (-9) h2)) ∧ (¬ v1 = 0 → CALLI E mC_refuse [.ref 0, .int v1] h1 fun v4 h4 => Q v4 h4)) :
    CALLI E mC_rounds [.ref 0, .int a1, .int a2] h Q := CALL_of rfl (wp_sound [] kk_95 21 hF)
def k_96 : List XI := [(0, .iload_n 1, 1, 0, 0, 0, 0),
  (1, .iconst 3, 1, 0, 0, 3, 0),
  (2, .invokestatic 134, 3, 118, 1, 0, 0),
  (5, .istore_n 2, 1, 0, 0, 0, 0),
  (6, .iload_n 2, 1, 0, 0, 0, 0),
  (7, .ifCond .eq 11, 3, 18, 0, 0, 0),
  (10, .aload_n 0, 1, 0, 0, 0, 0),
  (11, .iload_n 2, 1, 0, 0, 0, 0),
  (12, .invokevirtual 83, 3, 114, 1, 0, 0),
  (15, .goto 15, 3, 30, 0, 0, 0),
  (18, .aload_n 0, 1, 0, 0, 0, 0),
  (19, .getfield 36, 3, 6, 5, 0, 0),
  (22, .aload_n 0, 1, 0, 0, 0, 0),
  (23, .getfield 10, 3, 6, 0, 0, 0),
  (26, .iload_n 1, 1, 0, 0, 0, 0),
  (27, .invokevirtual 202, 3, 40, 1, 0, 0),
  (30, .ireturn, 1, 0, 0, 0, 0)]
set_option maxRecDepth 100000 in
set_option maxHeartbeats 4000000 in
theorem kk_96 : k_96.all (entOK (mCi 96) (mB 96)) = true := by decide +kernel
set_option maxRecDepth 100000 in
set_option maxHeartbeats 4000000 in
theorem fC_fits {E : XE} {h : Mem} {Q : Int32 → Mem → Prop} {a1 : Int32} 
    (hF : CALLI E mC_otherThan [.int a1, .int 3] h fun v1 h1 => (v1 = 0 → CALLI E mRS_fitting [.ref 44, .ref 1, .int a1] h1 fun v2 h2 => Q v2 h2) ∧ (¬ v1 = 0 → CALLI E mC_refuse [.ref 0, .int v1] h1 fun v3 h3 => Q v3 h3)) :
    CALLI E mC_fits [.ref 0, .int a1] h Q := CALL_of rfl (wp_sound [] kk_96 14 hF)
def k_97 : List XI := [(0, .iload_n 1, 1, 0, 0, 0, 0),
  (1, .ifCond .ge 10, 3, 11, 0, 0, 0),
  (4, .aload_n 0, 1, 0, 0, 0, 0),
  (5, .bipush (-4), 2, 0, 0, (-4), 0),
  (7, .invokevirtual 83, 3, 114, 1, 0, 0),
  (10, .ireturn, 1, 0, 0, 0, 0),
  (11, .aload_n 0, 1, 0, 0, 0, 0),
  (12, .getfield 43, 3, 6, 6, 0, 0),
  (15, .aload_n 0, 1, 0, 0, 0, 0),
  (16, .getfield 10, 3, 6, 0, 0, 0),
  (19, .invokevirtual 205, 3, 42, 0, 0, 0),
  (22, .aload_n 0, 1, 0, 0, 0, 0),
  (23, .getfield 43, 3, 6, 6, 0, 0),
  (26, .aload_n 0, 1, 0, 0, 0, 0),
  (27, .getfield 10, 3, 6, 0, 0, 0),
  (30, .iload_n 1, 1, 0, 0, 0, 0),
  (31, .invokevirtual 208, 3, 41, 1, 0, 0),
  (34, .ireturn, 1, 0, 0, 0, 0)]
set_option maxRecDepth 100000 in
set_option maxHeartbeats 4000000 in
theorem kk_97 : k_97.all (entOK (mCi 97) (mB 97)) = true := by decide +kernel
set_option maxRecDepth 100000 in
set_option maxHeartbeats 4000000 in
theorem fC_lawful {E : XE} {h : Mem} {Q : Int32 → Mem → Prop} {a1 : Int32} 
    (hF : (0 ≤ a1 → CALLV E mLO_look [.ref 45, .ref 1] h fun h1 => CALLI E mLO_taskAt [.ref 45, .ref 1, .int a1] h1 fun v2 h2 => Q v2 h2) ∧ (¬ 0 ≤ a1 → CALLI E mC_refuse [.ref 0, .int (-4)] h fun v3 h3 => Q v3 h3)) :
    CALLI E mC_lawful [.ref 0, .int a1] h Q := CALL_of rfl (wp_sound [] kk_97 15 hF)
def k_98 : List XI := [(0, .iload_n 1, 1, 0, 0, 0, 0),
  (1, .iconst 4, 1, 0, 0, 4, 0),
  (2, .invokestatic 134, 3, 118, 1, 0, 0),
  (5, .iload_n 2, 1, 0, 0, 0, 0),
  (6, .iconst 0, 1, 0, 0, 0, 0),
  (7, .bipush 59, 2, 0, 0, 59, 0),
  (9, .invokestatic 75, 3, 117, 1, 0, 0),
  (12, .invokestatic 117, 3, 116, 1, 0, 0),
  (15, .istore_n 3, 1, 0, 0, 0, 0),
  (16, .iload_n 3, 1, 0, 0, 0, 0),
  (17, .ifCond .eq 9, 3, 26, 0, 0, 0),
  (20, .aload_n 0, 1, 0, 0, 0, 0),
  (21, .iload_n 3, 1, 0, 0, 0, 0),
  (22, .invokevirtual 83, 3, 114, 1, 0, 0),
  (25, .ireturn, 1, 0, 0, 0, 0),
  (26, .aload_n 0, 1, 0, 0, 0, 0),
  (27, .getfield 50, 3, 6, 7, 0, 0),
  (30, .aload_n 0, 1, 0, 0, 0, 0),
  (31, .getfield 10, 3, 6, 0, 0, 0),
  (34, .iload_n 1, 1, 0, 0, 0, 0),
  (35, .invokevirtual 210, 3, 49, 0, 0, 0),
  (38, .aload_n 0, 1, 0, 0, 0, 0),
  (39, .getfield 50, 3, 6, 7, 0, 0),
  (42, .iload_n 2, 1, 0, 0, 0, 0),
  (43, .invokevirtual 214, 3, 44, 1, 0, 0),
  (46, .ireturn, 1, 0, 0, 0, 0)]
set_option maxRecDepth 100000 in
set_option maxHeartbeats 4000000 in
theorem kk_98 : k_98.all (entOK (mCi 98) (mB 98)) = true := by decide +kernel
set_option maxRecDepth 100000 in
set_option maxHeartbeats 4000000 in
theorem fC_run {E : XE} {h : Mem} {Q : Int32 → Mem → Prop} {a1 : Int32} {a2 : Int32} 
    (hF : CALLI E mC_otherThan [.int a1, .int 4] h fun v1 h1 => CALLI E mC_outside [.int a2, .int 0, .int 59] h1 fun v2 h2 => CALLI E mC_firstOf [.int v1, .int v2] h2 fun v3 h3 => (v3 = 0 → CALLV E mTI_play [.ref 48, .ref 1, .int a1] h3 fun h4 => CALLI E mTI_workedAt [.ref 48, .int a2] h4 fun v5 h5 => Q v5 h5) ∧ (¬ v3 = 0 → CALLI E mC_refuse [.ref 0, .int v3] h3 fun v6 h6 => Q v6 h6)) :
    CALLI E mC_run [.ref 0, .int a1, .int a2] h Q := CALL_of rfl (wp_sound [] kk_98 23 hF)
def k_99_0 : List XI := [(0, .iload_n 1, 1, 0, 0, 0, 0),
  (1, .iconst 4, 1, 0, 0, 4, 0),
  (2, .invokestatic 134, 3, 118, 1, 0, 0),
  (5, .aload_n 0, 1, 0, 0, 0, 0),
  (6, .iload_n 2, 1, 0, 0, 0, 0),
  (7, .invokevirtual 106, 3, 120, 1, 0, 0),
  (10, .invokestatic 117, 3, 116, 1, 0, 0),
  (13, .istore 4, 2, 0, 0, 0, 0),
  (15, .iload 4, 2, 0, 0, 0, 0),
  (17, .iload_n 3, 1, 0, 0, 0, 0),
  (18, .iconst 2, 1, 0, 0, 2, 0),
  (19, .invokestatic 134, 3, 118, 1, 0, 0),
  (22, .invokestatic 117, 3, 116, 1, 0, 0),
  (25, .istore 4, 2, 0, 0, 0, 0),
  (27, .iload 4, 2, 0, 0, 0, 0),
  (29, .ifCond .eq 10, 3, 39, 0, 0, 0),
  (32, .aload_n 0, 1, 0, 0, 0, 0),
  (33, .iload 4, 2, 0, 0, 0, 0),
  (35, .invokevirtual 83, 3, 114, 1, 0, 0),
  (38, .ireturn, 1, 0, 0, 0, 0),
  (39, .aload_n 0, 1, 0, 0, 0, 0),
  (40, .getfield 50, 3, 6, 7, 0, 0),
  (43, .aload_n 0, 1, 0, 0, 0, 0),
  (44, .getfield 10, 3, 6, 0, 0, 0),
  (47, .iload_n 1, 1, 0, 0, 0, 0),
  (48, .invokevirtual 210, 3, 49, 0, 0, 0),
  (51, .iload_n 3, 1, 0, 0, 0, 0),
  (52, .ifCond .ne 14, 3, 66, 0, 0, 0),
  (55, .aload_n 0, 1, 0, 0, 0, 0),
  (56, .getfield 50, 3, 6, 7, 0, 0)]
set_option maxRecDepth 100000 in
set_option maxHeartbeats 4000000 in
theorem kk_99_0 : k_99_0.all (entOK (mCi 99) (mB 99)) = true := by decide +kernel
def k_99_1 : List XI := [(59, .iload_n 2, 1, 0, 0, 0, 0),
  (60, .invokevirtual 217, 3, 45, 1, 0, 0),
  (63, .goto 11, 3, 74, 0, 0, 0),
  (66, .aload_n 0, 1, 0, 0, 0, 0),
  (67, .getfield 50, 3, 6, 7, 0, 0),
  (70, .iload_n 2, 1, 0, 0, 0, 0),
  (71, .invokevirtual 220, 3, 46, 1, 0, 0),
  (74, .ireturn, 1, 0, 0, 0, 0)]
set_option maxRecDepth 100000 in
set_option maxHeartbeats 4000000 in
theorem kk_99_1 : k_99_1.all (entOK (mCi 99) (mB 99)) = true := by decide +kernel
def k_99 : List XI := k_99_0 ++ (k_99_1)
theorem kk_99 : k_99.all (entOK (mCi 99) (mB 99)) = true := all_app kk_99_0 (kk_99_1)
set_option maxRecDepth 100000 in
set_option maxHeartbeats 4000000 in
theorem fC_jobs {E : XE} {h : Mem} {Q : Int32 → Mem → Prop} {a1 : Int32} {a2 : Int32} {a3 : Int32} 
    (hF : CALLI E mC_otherThan [.int a1, .int 4] h fun v1 h1 => CALLI E mC_missingTask [.ref 0, .int a2] h1 fun v2 h2 => CALLI E mC_firstOf [.int v1, .int v2] h2 fun v3 h3 => CALLI E mC_otherThan [.int a3, .int 2] h3 fun v4 h4 => CALLI E mC_firstOf [.int v3, .int v4] h4 fun v5 h5 => (v5 = 0 → CALLV E mTI_play [.ref 48, .ref 1, .int a1] h5 fun h6 => (¬ a3 = 0 → CALLI E mTI_missedOf [.ref 48, .int a2] h6 fun v7 h7 => Q v7 h7) ∧ (a3 = 0 → CALLI E mTI_doneOf [.ref 48, .int a2] h6 fun v8 h8 => Q v8 h8)) ∧ (¬ v5 = 0 → CALLI E mC_refuse [.ref 0, .int v5] h5 fun v9 h9 => Q v9 h9)) :
    CALLI E mC_jobs [.ref 0, .int a1, .int a2, .int a3] h Q := CALL_of rfl (wp_sound [] kk_99 31 hF)
def k_100 : List XI := [(0, .iload_n 1, 1, 0, 0, 0, 0),
  (1, .iconst 4, 1, 0, 0, 4, 0),
  (2, .invokestatic 134, 3, 118, 1, 0, 0),
  (5, .iload_n 2, 1, 0, 0, 0, 0),
  (6, .iconst 2, 1, 0, 0, 2, 0),
  (7, .invokestatic 134, 3, 118, 1, 0, 0),
  (10, .invokestatic 117, 3, 116, 1, 0, 0),
  (13, .istore_n 3, 1, 0, 0, 0, 0),
  (14, .iload_n 3, 1, 0, 0, 0, 0),
  (15, .ifCond .eq 9, 3, 24, 0, 0, 0),
  (18, .aload_n 0, 1, 0, 0, 0, 0),
  (19, .iload_n 3, 1, 0, 0, 0, 0),
  (20, .invokevirtual 83, 3, 114, 1, 0, 0),
  (23, .ireturn, 1, 0, 0, 0, 0),
  (24, .aload_n 0, 1, 0, 0, 0, 0),
  (25, .getfield 50, 3, 6, 7, 0, 0),
  (28, .aload_n 0, 1, 0, 0, 0, 0),
  (29, .getfield 10, 3, 6, 0, 0, 0),
  (32, .iload_n 1, 1, 0, 0, 0, 0),
  (33, .invokevirtual 210, 3, 49, 0, 0, 0),
  (36, .iload_n 2, 1, 0, 0, 0, 0),
  (37, .ifCond .ne 13, 3, 50, 0, 0, 0),
  (40, .aload_n 0, 1, 0, 0, 0, 0),
  (41, .getfield 50, 3, 6, 7, 0, 0),
  (44, .invokevirtual 223, 3, 47, 1, 0, 0),
  (47, .goto 10, 3, 57, 0, 0, 0),
  (50, .aload_n 0, 1, 0, 0, 0, 0),
  (51, .getfield 50, 3, 6, 7, 0, 0),
  (54, .invokevirtual 226, 3, 48, 1, 0, 0),
  (57, .ireturn, 1, 0, 0, 0, 0)]
set_option maxRecDepth 100000 in
set_option maxHeartbeats 4000000 in
theorem kk_100 : k_100.all (entOK (mCi 100) (mB 100)) = true := by decide +kernel
set_option maxRecDepth 100000 in
set_option maxHeartbeats 4000000 in
theorem fC_first {E : XE} {h : Mem} {Q : Int32 → Mem → Prop} {a1 : Int32} {a2 : Int32} 
    (hF : CALLI E mC_otherThan [.int a1, .int 4] h fun v1 h1 => CALLI E mC_otherThan [.int a2, .int 2] h1 fun v2 h2 => CALLI E mC_firstOf [.int v1, .int v2] h2 fun v3 h3 => (v3 = 0 → CALLV E mTI_play [.ref 48, .ref 1, .int a1] h3 fun h4 => (¬ a2 = 0 → CALLI E mTI_firstMissTask [.ref 48] h4 fun v5 h5 => Q v5 h5) ∧ (a2 = 0 → CALLI E mTI_firstMissTime [.ref 48] h4 fun v6 h6 => Q v6 h6)) ∧ (¬ v3 = 0 → CALLI E mC_refuse [.ref 0, .int v3] h3 fun v7 h7 => Q v7 h7)) :
    CALLI E mC_first [.ref 0, .int a1, .int a2] h Q := CALL_of rfl (wp_sound [] kk_100 24 hF)
def k_101 : List XI := [(0, .aload_n 0, 1, 0, 0, 0, 0),
  (1, .iload_n 1, 1, 0, 0, 0, 0),
  (2, .invokevirtual 106, 3, 120, 1, 0, 0),
  (5, .aload_n 0, 1, 0, 0, 0, 0),
  (6, .iload_n 1, 1, 0, 0, 0, 0),
  (7, .invokevirtual 229, 3, 121, 1, 0, 0),
  (10, .invokestatic 117, 3, 116, 1, 0, 0),
  (13, .istore_n 2, 1, 0, 0, 0, 0),
  (14, .iload_n 2, 1, 0, 0, 0, 0),
  (15, .ifCond .eq 11, 3, 26, 0, 0, 0),
  (18, .aload_n 0, 1, 0, 0, 0, 0),
  (19, .iload_n 2, 1, 0, 0, 0, 0),
  (20, .invokevirtual 83, 3, 114, 1, 0, 0),
  (23, .goto 9, 3, 32, 0, 0, 0),
  (26, .aload_n 0, 1, 0, 0, 0, 0),
  (27, .iconst 3, 1, 0, 0, 3, 0),
  (28, .iload_n 1, 1, 0, 0, 0, 0),
  (29, .invokevirtual 232, 3, 126, 1, 0, 0),
  (32, .ireturn, 1, 0, 0, 0, 0)]
set_option maxRecDepth 100000 in
set_option maxHeartbeats 4000000 in
theorem kk_101 : k_101.all (entOK (mCi 101) (mB 101)) = true := by decide +kernel
set_option maxRecDepth 100000 in
set_option maxHeartbeats 4000000 in
theorem fC_slack {E : XE} {h : Mem} {Q : Int32 → Mem → Prop} {a1 : Int32} 
    (hF : CALLI E mC_missingTask [.ref 0, .int a1] h fun v1 h1 => CALLI E mC_turnedOff [.ref 0, .int a1] h1 fun v2 h2 => CALLI E mC_firstOf [.int v1, .int v2] h2 fun v3 h3 => (v3 = 0 → CALLI E mC_mostMore [.ref 0, .int 3, .int a1] h3 fun v4 h4 => Q v4 h4) ∧ (¬ v3 = 0 → CALLI E mC_refuse [.ref 0, .int v3] h3 fun v5 h5 => Q v5 h5)) :
    CALLI E mC_slack [.ref 0, .int a1] h Q := CALL_of rfl (wp_sound [] kk_101 16 hF)
def k_102 : List XI := [(0, .aload_n 0, 1, 0, 0, 0, 0),
  (1, .iload_n 1, 1, 0, 0, 0, 0),
  (2, .iload_n 2, 1, 0, 0, 0, 0),
  (3, .invokevirtual 189, 3, 122, 1, 0, 0),
  (6, .istore_n 3, 1, 0, 0, 0, 0),
  (7, .iload_n 3, 1, 0, 0, 0, 0),
  (8, .ifCond .eq 11, 3, 19, 0, 0, 0),
  (11, .aload_n 0, 1, 0, 0, 0, 0),
  (12, .iload_n 3, 1, 0, 0, 0, 0),
  (13, .invokevirtual 83, 3, 114, 1, 0, 0),
  (16, .goto 9, 3, 25, 0, 0, 0),
  (19, .aload_n 0, 1, 0, 0, 0, 0),
  (20, .iload_n 1, 1, 0, 0, 0, 0),
  (21, .iload_n 2, 1, 0, 0, 0, 0),
  (22, .invokevirtual 232, 3, 126, 1, 0, 0),
  (25, .ireturn, 1, 0, 0, 0, 0)]
set_option maxRecDepth 100000 in
set_option maxHeartbeats 4000000 in
theorem kk_102 : k_102.all (entOK (mCi 102) (mB 102)) = true := by decide +kernel
set_option maxRecDepth 100000 in
set_option maxHeartbeats 4000000 in
theorem fC_slackBy {E : XE} {h : Mem} {Q : Int32 → Mem → Prop} {a1 : Int32} {a2 : Int32} 
    (hF : CALLI E mC_notInOrder [.ref 0, .int a1, .int a2] h fun v1 h1 => (v1 = 0 → CALLI E mC_mostMore [.ref 0, .int a1, .int a2] h1 fun v2 h2 => Q v2 h2) ∧ (¬ v1 = 0 → CALLI E mC_refuse [.ref 0, .int v1] h1 fun v3 h3 => Q v3 h3)) :
    CALLI E mC_slackBy [.ref 0, .int a1, .int a2] h Q := CALL_of rfl (wp_sound [] kk_102 13 hF)
def k_103 : List XI := [(0, .iload_n 1, 1, 0, 0, 0, 0),
  (1, .iconst 2, 1, 0, 0, 2, 0),
  (2, .invokestatic 134, 3, 118, 1, 0, 0),
  (5, .istore_n 2, 1, 0, 0, 0, 0),
  (6, .iload_n 2, 1, 0, 0, 0, 0),
  (7, .ifCond .eq 9, 3, 16, 0, 0, 0),
  (10, .aload_n 0, 1, 0, 0, 0, 0),
  (11, .iload_n 2, 1, 0, 0, 0, 0),
  (12, .invokevirtual 235, 3, 115, 2, 0, 0),
  (15, .lreturn, 1, 0, 0, 0, 0),
  (16, .aload_n 0, 1, 0, 0, 0, 0),
  (17, .getfield 10, 3, 6, 0, 0, 0),
  (20, .invokevirtual 239, 3, 15, 2, 0, 0),
  (23, .lstore_n 3, 1, 0, 0, 0, 0),
  (24, .aload_n 0, 1, 0, 0, 0, 0),
  (25, .getfield 10, 3, 6, 0, 0, 0),
  (28, .lload_n 3, 1, 0, 0, 0, 0),
  (29, .invokevirtual 243, 3, 16, 2, 0, 0),
  (32, .lload_n 3, 1, 0, 0, 0, 0),
  (33, .iload_n 1, 1, 0, 0, 0, 0),
  (34, .invokestatic 247, 3, 124, 2, 0, 0),
  (37, .lreturn, 1, 0, 0, 0, 0)]
set_option maxRecDepth 100000 in
set_option maxHeartbeats 4000000 in
theorem kk_103 : k_103.all (entOK (mCi 103) (mB 103)) = true := by decide +kernel
set_option maxRecDepth 100000 in
set_option maxHeartbeats 4000000 in
theorem fC_load {E : XE} {h : Mem} {Q : Int64 → Mem → Prop} {a1 : Int32} 
    (hF : CALLI E mC_otherThan [.int a1, .int 2] h fun v1 h1 => (v1 = 0 → CALLL E mD_commonDistance [.ref 1] h1 fun v2 h2 => CALLL E mD_workWithin [.ref 1, .long v2] h2 fun v3 h3 => CALLL E mC_partOf [.long v3, .long v2, .int a1] h3 fun v4 h4 => Q v4 h4) ∧ (¬ v1 = 0 → CALLL E mC_refuseLong [.ref 0, .int v1] h1 fun v5 h5 => Q v5 h5)) :
    CALLL E mC_load [.ref 0, .int a1] h Q := CALL_of rfl (wp_sound [] kk_103 19 hF)
def k_104 : List XI := [(0, .aload_n 0, 1, 0, 0, 0, 0),
  (1, .getfield 10, 3, 6, 0, 0, 0),
  (4, .invokevirtual 239, 3, 15, 2, 0, 0),
  (7, .lstore_n 1, 1, 0, 0, 0, 0),
  (8, .lload_n 1, 1, 0, 0, 0, 0),
  (9, .ldc2_w 251, 3, 0, 0, 0, 2147483647),
  (12, .lcmp, 1, 0, 0, 0, 0),
  (13, .ifCond .le 8, 3, 21, 0, 0, 0),
  (16, .bipush (-9), 2, 0, 0, (-9), 0),
  (18, .goto 5, 3, 23, 0, 0, 0),
  (21, .lload_n 1, 1, 0, 0, 0, 0),
  (22, .l2i, 1, 0, 0, 0, 0),
  (23, .ireturn, 1, 0, 0, 0, 0)]
set_option maxRecDepth 100000 in
set_option maxHeartbeats 4000000 in
theorem kk_104 : k_104.all (entOK (mCi 104) (mB 104)) = true := by decide +kernel
set_option maxRecDepth 100000 in
set_option maxHeartbeats 4000000 in
theorem fC_anew {E : XE} {h : Mem} {Q : Int32 → Mem → Prop}  
    (hF : CALLL E mD_commonDistance [.ref 1] h fun v1 h1 => ((lg_cmp v1 2147483647) ≤ 0 → Q v1.toInt32 h1) ∧ (¬ (lg_cmp v1 2147483647) ≤ 0 → Q (-9) h1)) :
    CALLI E mC_anew [.ref 0] h Q := CALL_of rfl (wp_sound [] kk_104 12 hF)
def k_105_0 : List XI := [(0, .iload_n 1, 1, 0, 0, 0, 0),
  (1, .iconst 2, 1, 0, 0, 2, 0),
  (2, .bipush 20, 2, 0, 0, 20, 0),
  (4, .invokestatic 75, 3, 117, 1, 0, 0),
  (7, .iload_n 2, 1, 0, 0, 0, 0),
  (8, .iconst 2, 1, 0, 0, 2, 0),
  (9, .invokestatic 134, 3, 118, 1, 0, 0),
  (12, .invokestatic 117, 3, 116, 1, 0, 0),
  (15, .istore_n 3, 1, 0, 0, 0, 0),
  (16, .iload_n 3, 1, 0, 0, 0, 0),
  (17, .ifCond .eq 9, 3, 26, 0, 0, 0),
  (20, .aload_n 0, 1, 0, 0, 0, 0),
  (21, .iload_n 3, 1, 0, 0, 0, 0),
  (22, .invokevirtual 235, 3, 115, 2, 0, 0),
  (25, .lreturn, 1, 0, 0, 0, 0),
  (26, .aload_n 0, 1, 0, 0, 0, 0),
  (27, .getfield 10, 3, 6, 0, 0, 0),
  (30, .getfield 253, 3, 0, 1, 0, 0),
  (33, .bipush 31, 2, 0, 0, 31, 0),
  (35, .iand, 1, 0, 0, 0, 0),
  (36, .istore 4, 2, 0, 0, 0, 0),
  (38, .aload_n 0, 1, 0, 0, 0, 0),
  (39, .iload 4, 2, 0, 0, 0, 0),
  (41, .iload_n 1, 1, 0, 0, 0, 0),
  (42, .invokevirtual 256, 3, 127, 2, 0, 0),
  (45, .iload_n 1, 1, 0, 0, 0, 0),
  (46, .iload 4, 2, 0, 0, 0, 0),
  (48, .invokestatic 260, 3, 245, 1, 0, 0),
  (51, .invokestatic 265, 3, 128, 2, 0, 0),
  (54, .iload_n 2, 1, 0, 0, 0, 0)]
set_option maxRecDepth 100000 in
set_option maxHeartbeats 4000000 in
theorem kk_105_0 : k_105_0.all (entOK (mCi 105) (mB 105)) = true := by decide +kernel
def k_105_1 : List XI := [(55, .invokestatic 247, 3, 124, 2, 0, 0),
  (58, .lreturn, 1, 0, 0, 0, 0)]
set_option maxRecDepth 100000 in
set_option maxHeartbeats 4000000 in
theorem kk_105_1 : k_105_1.all (entOK (mCi 105) (mB 105)) = true := by decide +kernel
def k_105 : List XI := k_105_0 ++ (k_105_1)
theorem kk_105 : k_105.all (entOK (mCi 105) (mB 105)) = true := all_app kk_105_0 (kk_105_1)
set_option maxRecDepth 100000 in
set_option maxHeartbeats 4000000 in
theorem fC_missing {E : XE} {h : Mem} {Q : Int64 → Mem → Prop} {a1 : Int32} {a2 : Int32} 
    (hF : CALLI E mC_outside [.int a1, .int 2, .int 20] h fun v1 h1 => CALLI E mC_otherThan [.int a2, .int 2] h1 fun v2 h2 => CALLI E mC_firstOf [.int v1, .int v2] h2 fun v3 h3 => (v3 = 0 → CALLL E mC_waysWithoutMiss [.ref 0, .int ((h3 1 1) &&& 31), .int a1] h3 fun v4 h4 => CALLI E mJ_bitCount [.int ((h3 1 1) &&& 31)] h4 fun v5 h5 => CALLL E mC_power [.int a1, .int v5] h5 fun v6 h6 => CALLL E mC_partOf [.long v4, .long v6, .int a2] h6 fun v7 h7 => Q v7 h7) ∧ (¬ v3 = 0 → CALLL E mC_refuseLong [.ref 0, .int v3] h3 fun v8 h8 => Q v8 h8)) :
    CALLL E mC_missing [.ref 0, .int a1, .int a2] h Q := CALL_of rfl (wp_sound [] kk_105 29 hF)
def k_106 : List XI := [(0, .aload_n 0, 1, 0, 0, 0, 0),
  (1, .iload_n 1, 1, 0, 0, 0, 0),
  (2, .invokevirtual 106, 3, 120, 1, 0, 0),
  (5, .iload_n 2, 1, 0, 0, 0, 0),
  (6, .iconst 2, 1, 0, 0, 2, 0),
  (7, .invokestatic 134, 3, 118, 1, 0, 0),
  (10, .invokestatic 117, 3, 116, 1, 0, 0),
  (13, .istore_n 3, 1, 0, 0, 0, 0),
  (14, .iload_n 3, 1, 0, 0, 0, 0),
  (15, .ifCond .eq 9, 3, 24, 0, 0, 0),
  (18, .aload_n 0, 1, 0, 0, 0, 0),
  (19, .iload_n 3, 1, 0, 0, 0, 0),
  (20, .invokevirtual 83, 3, 114, 1, 0, 0),
  (23, .ireturn, 1, 0, 0, 0, 0),
  (24, .iload_n 2, 1, 0, 0, 0, 0),
  (25, .ifCond .ne 11, 3, 36, 0, 0, 0),
  (28, .aload_n 0, 1, 0, 0, 0, 0),
  (29, .iload_n 1, 1, 0, 0, 0, 0),
  (30, .invokevirtual 268, 3, 129, 1, 0, 0),
  (33, .goto 8, 3, 41, 0, 0, 0),
  (36, .aload_n 0, 1, 0, 0, 0, 0),
  (37, .iload_n 1, 1, 0, 0, 0, 0),
  (38, .invokevirtual 271, 3, 130, 1, 0, 0),
  (41, .ireturn, 1, 0, 0, 0, 0)]
set_option maxRecDepth 100000 in
set_option maxHeartbeats 4000000 in
theorem kk_106 : k_106.all (entOK (mCi 106) (mB 106)) = true := by decide +kernel
set_option maxRecDepth 100000 in
set_option maxHeartbeats 4000000 in
theorem fC_whatIs {E : XE} {h : Mem} {Q : Int32 → Mem → Prop} {a1 : Int32} {a2 : Int32} 
    (hF : CALLI E mC_missingTask [.ref 0, .int a1] h fun v1 h1 => CALLI E mC_otherThan [.int a2, .int 2] h1 fun v2 h2 => CALLI E mC_firstOf [.int v1, .int v2] h2 fun v3 h3 => (v3 = 0 → (¬ a2 = 0 → CALLI E mC_figuresByRow [.ref 0, .int a1] h3 fun v4 h4 => Q v4 h4) ∧ (a2 = 0 → CALLI E mC_kindsByRow [.ref 0, .int a1] h3 fun v5 h5 => Q v5 h5)) ∧ (¬ v3 = 0 → CALLI E mC_refuse [.ref 0, .int v3] h3 fun v6 h6 => Q v6 h6)) :
    CALLI E mC_whatIs [.ref 0, .int a1, .int a2] h Q := CALL_of rfl (wp_sound [] kk_106 18 hF)
def k_107_0 : List XI := [(0, .iload_n 1, 1, 0, 0, 0, 0),
  (1, .iconst 0, 1, 0, 0, 0, 0),
  (2, .bipush 99, 2, 0, 0, 99, 0),
  (4, .invokestatic 75, 3, 117, 1, 0, 0),
  (7, .istore_n 2, 1, 0, 0, 0, 0),
  (8, .iload_n 2, 1, 0, 0, 0, 0),
  (9, .ifCond .ne 15, 3, 24, 0, 0, 0),
  (12, .aload_n 0, 1, 0, 0, 0, 0),
  (13, .getfield 65, 3, 6, 10, 0, 0),
  (16, .bipush 8, 2, 0, 0, 8, 0),
  (18, .if_icmp .lt 6, 3, 24, 0, 0, 0),
  (21, .bipush (-6), 2, 0, 0, (-6), 0),
  (23, .istore_n 2, 1, 0, 0, 0, 0),
  (24, .iload_n 2, 1, 0, 0, 0, 0),
  (25, .ifCond .eq 9, 3, 34, 0, 0, 0),
  (28, .aload_n 0, 1, 0, 0, 0, 0),
  (29, .iload_n 2, 1, 0, 0, 0, 0),
  (30, .invokevirtual 83, 3, 114, 1, 0, 0),
  (33, .ireturn, 1, 0, 0, 0, 0),
  (34, .aload_n 0, 1, 0, 0, 0, 0),
  (35, .getfield 61, 3, 6, 9, 0, 0),
  (38, .aload_n 0, 1, 0, 0, 0, 0),
  (39, .getfield 65, 3, 6, 10, 0, 0),
  (42, .iload_n 1, 1, 0, 0, 0, 0),
  (43, .iastore, 1, 0, 0, 0, 0),
  (44, .aload_n 0, 1, 0, 0, 0, 0),
  (45, .dup, 1, 0, 0, 0, 0),
  (46, .getfield 65, 3, 6, 10, 0, 0),
  (49, .iconst 1, 1, 0, 0, 1, 0),
  (50, .iadd, 1, 0, 0, 0, 0)]
set_option maxRecDepth 100000 in
set_option maxHeartbeats 4000000 in
theorem kk_107_0 : k_107_0.all (entOK (mCi 107) (mB 107)) = true := by decide +kernel
def k_107_1 : List XI := [(51, .putfield 65, 3, 6, 10, 0, 0),
  (54, .aload_n 0, 1, 0, 0, 0, 0),
  (55, .getfield 65, 3, 6, 10, 0, 0),
  (58, .ireturn, 1, 0, 0, 0, 0)]
set_option maxRecDepth 100000 in
set_option maxHeartbeats 4000000 in
theorem kk_107_1 : k_107_1.all (entOK (mCi 107) (mB 107)) = true := by decide +kernel
def k_107 : List XI := k_107_0 ++ (k_107_1)
theorem kk_107 : k_107.all (entOK (mCi 107) (mB 107)) = true := all_app kk_107_0 (kk_107_1)
set_option maxRecDepth 100000 in
set_option maxHeartbeats 4000000 in
theorem fC_row {E : XE} {h : Mem} {Q : Int32 → Mem → Prop} {a1 : Int32} 
    (hF : CALLI E mC_outside [.int a1, .int 0, .int 99] h fun v1 h1 => (¬ v1 = 0 → (v1 = 0 → cnd (inb (h1 0 10) 8) (Q ((upd2 (upd2 h1 58 (ix (h1 0 10)) a1) 0 10 (((upd2 h1 58 (ix (h1 0 10)) a1) 0 10) + 1)) 0 10) (upd2 (upd2 h1 58 (ix (h1 0 10)) a1) 0 10 (((upd2 h1 58 (ix (h1 0 10)) a1) 0 10) + 1)))) ∧ (¬ v1 = 0 → CALLI E mC_refuse [.ref 0, .int v1] h1 fun v2 h2 => Q v2 h2)) ∧ (v1 = 0 → ((h1 0 10) < 8 → (v1 = 0 → cnd (inb (h1 0 10) 8) (Q ((upd2 (upd2 h1 58 (ix (h1 0 10)) a1) 0 10 (((upd2 h1 58 (ix (h1 0 10)) a1) 0 10) + 1)) 0 10) (upd2 (upd2 h1 58 (ix (h1 0 10)) a1) 0 10 (((upd2 h1 58 (ix (h1 0 10)) a1) 0 10) + 1)))) ∧ (¬ v1 = 0 → CALLI E mC_refuse [.ref 0, .int v1] h1 fun v3 h3 => Q v3 h3)) ∧ (¬ (h1 0 10) < 8 → (((-6 : Int32) = 0 : Prop) → cnd (inb (h1 0 10) 8) (Q ((upd2 (upd2 h1 58 (ix (h1 0 10)) a1) 0 10 (((upd2 h1 58 (ix (h1 0 10)) a1) 0 10) + 1)) 0 10) (upd2 (upd2 h1 58 (ix (h1 0 10)) a1) 0 10 (((upd2 h1 58 (ix (h1 0 10)) a1) 0 10) + 1)))) ∧ ((¬ (-6 : Int32) = 0 : Prop) → CALLI E mC_refuse [.ref 0, .int (-6)] h1 fun v4 h4 => Q v4 h4)))) :
    CALLI E mC_row [.ref 0, .int a1] h Q := CALL_of rfl (wp_sound [] kk_107 31 hF)
def k_108 : List XI := [(0, .iload_n 1, 1, 0, 0, 0, 0),
  (1, .iconst 3, 1, 0, 0, 3, 0),
  (2, .invokestatic 134, 3, 118, 1, 0, 0),
  (5, .istore_n 2, 1, 0, 0, 0, 0),
  (6, .iload_n 2, 1, 0, 0, 0, 0),
  (7, .ifCond .eq 9, 3, 16, 0, 0, 0),
  (10, .aload_n 0, 1, 0, 0, 0, 0),
  (11, .iload_n 2, 1, 0, 0, 0, 0),
  (12, .invokevirtual 83, 3, 114, 1, 0, 0),
  (15, .ireturn, 1, 0, 0, 0, 0),
  (16, .aload_n 0, 1, 0, 0, 0, 0),
  (17, .iload_n 1, 1, 0, 0, 0, 0),
  (18, .invokevirtual 274, 3, 131, 1, 0, 0),
  (21, .istore_n 3, 1, 0, 0, 0, 0),
  (22, .aload_n 0, 1, 0, 0, 0, 0),
  (23, .iconst 0, 1, 0, 0, 0, 0),
  (24, .putfield 65, 3, 6, 10, 0, 0),
  (27, .iload_n 3, 1, 0, 0, 0, 0),
  (28, .ireturn, 1, 0, 0, 0, 0)]
set_option maxRecDepth 100000 in
set_option maxHeartbeats 4000000 in
theorem kk_108 : k_108.all (entOK (mCi 108) (mB 108)) = true := by decide +kernel
set_option maxRecDepth 100000 in
set_option maxHeartbeats 4000000 in
theorem fC_judge {E : XE} {h : Mem} {Q : Int32 → Mem → Prop} {a1 : Int32} 
    (hF : CALLI E mC_otherThan [.int a1, .int 3] h fun v1 h1 => (v1 = 0 → CALLI E mC_firstWrongInRow [.ref 0, .int a1] h1 fun v2 h2 => Q v2 (upd2 h2 0 10 0)) ∧ (¬ v1 = 0 → CALLI E mC_refuse [.ref 0, .int v1] h1 fun v3 h3 => Q v3 h3)) :
    CALLI E mC_judge [.ref 0, .int a1] h Q := CALL_of rfl (wp_sound [] kk_108 16 hF)
def k_109 : List XI := [(0, .aload_n 0, 1, 0, 0, 0, 0),
  (1, .getfield 65, 3, 6, 10, 0, 0),
  (4, .istore_n 1, 1, 0, 0, 0, 0),
  (5, .aload_n 0, 1, 0, 0, 0, 0),
  (6, .iconst 0, 1, 0, 0, 0, 0),
  (7, .putfield 65, 3, 6, 10, 0, 0),
  (10, .iload_n 1, 1, 0, 0, 0, 0),
  (11, .ireturn, 1, 0, 0, 0, 0)]
set_option maxRecDepth 100000 in
set_option maxHeartbeats 4000000 in
theorem kk_109 : k_109.all (entOK (mCi 109) (mB 109)) = true := by decide +kernel
set_option maxRecDepth 100000 in
set_option maxHeartbeats 4000000 in
theorem fC_clear {E : XE} {h : Mem} {Q : Int32 → Mem → Prop}  
    (hF : Q (h 0 10) (upd2 h 0 10 0)) :
    CALLI E mC_clear [.ref 0] h Q := CALL_of rfl (wp_sound [] kk_109 9 hF)
def k_110_0 : List XI := [(0, .iload_n 1, 1, 0, 0, 0, 0),
  (1, .iconst 1, 1, 0, 0, 1, 0),
  (2, .bipush 20, 2, 0, 0, 20, 0),
  (4, .invokestatic 75, 3, 117, 1, 0, 0),
  (7, .iload_n 3, 1, 0, 0, 0, 0),
  (8, .iconst 2, 1, 0, 0, 2, 0),
  (9, .invokestatic 134, 3, 118, 1, 0, 0),
  (12, .invokestatic 117, 3, 116, 1, 0, 0),
  (15, .istore 4, 2, 0, 0, 0, 0),
  (17, .iload 4, 2, 0, 0, 0, 0),
  (19, .ifCond .eq 10, 3, 29, 0, 0, 0),
  (22, .aload_n 0, 1, 0, 0, 0, 0),
  (23, .iload 4, 2, 0, 0, 0, 0),
  (25, .invokevirtual 83, 3, 114, 1, 0, 0),
  (28, .ireturn, 1, 0, 0, 0, 0),
  (29, .aload_n 0, 1, 0, 0, 0, 0),
  (30, .getfield 16, 3, 6, 1, 0, 0),
  (33, .aload_n 0, 1, 0, 0, 0, 0),
  (34, .getfield 10, 3, 6, 0, 0, 0),
  (37, .invokevirtual 90, 3, 2, 0, 0, 0),
  (40, .aload_n 0, 1, 0, 0, 0, 0),
  (41, .iload_n 2, 1, 0, 0, 0, 0),
  (42, .putfield 72, 3, 6, 12, 0, 0),
  (45, .iconst 0, 1, 0, 0, 0, 0),
  (46, .istore 5, 2, 0, 0, 0, 0),
  (48, .iconst 0, 1, 0, 0, 0, 0),
  (49, .istore 6, 2, 0, 0, 0, 0),
  (51, .iload 6, 2, 0, 0, 0, 0),
  (53, .iload_n 1, 1, 0, 0, 0, 0),
  (54, .if_icmp .ge 32, 3, 86, 0, 0, 0)]
set_option maxRecDepth 100000 in
set_option maxHeartbeats 4000000 in
theorem kk_110_0 : k_110_0.all (entOK (mCi 110) (mB 110)) = true := by decide +kernel
def k_110_1 : List XI := [(57, .aload_n 0, 1, 0, 0, 0, 0),
  (58, .invokevirtual 277, 3, 133, 0, 0, 0),
  (61, .aload_n 0, 1, 0, 0, 0, 0),
  (62, .iload_n 3, 1, 0, 0, 0, 0),
  (63, .ifCond .ne 7, 3, 70, 0, 0, 0),
  (66, .iconst 3, 1, 0, 0, 3, 0),
  (67, .goto 4, 3, 71, 0, 0, 0),
  (70, .iconst 1, 1, 0, 0, 1, 0),
  (71, .invokevirtual 280, 3, 125, 1, 0, 0),
  (74, .ifCond .eq 6, 3, 80, 0, 0, 0),
  (77, .iinc 5 1, 3, 0, 0, 1, 0),
  (80, .iinc 6 1, 3, 0, 0, 1, 0),
  (83, .goto (-32), 3, 51, 0, 0, 0),
  (86, .iload 5, 2, 0, 0, 0, 0),
  (88, .ireturn, 1, 0, 0, 0, 0)]
set_option maxRecDepth 100000 in
set_option maxHeartbeats 4000000 in
theorem kk_110_1 : k_110_1.all (entOK (mCi 110) (mB 110)) = true := by decide +kernel
def k_110 : List XI := k_110_0 ++ (k_110_1)
theorem kk_110 : k_110.all (entOK (mCi 110) (mB 110)) = true := all_app kk_110_0 (kk_110_1)
set_option maxRecDepth 100000 in
set_option maxHeartbeats 4000000 in
theorem fC_lots {E : XE} {h : Mem} {Q : Int32 → Mem → Prop} {a1 : Int32} {a2 : Int32} {a3 : Int32} 
    (hF : CALLI E mC_outside [.int a1, .int 1, .int 20] h fun v1 h1 => CALLI E mC_otherThan [.int a3, .int 2] h1 fun v2 h2 => CALLI E mC_firstOf [.int v1, .int v2] h2 fun v3 h3 => (v3 = 0 → CALLV E mD_copyFrom [.ref 15, .ref 1] h3 fun h4 => WP E mC_lots 51 [some (.ref 0), some (.int a1), none, some (.int a3), none, some (.int 0), some (.int 0)] [] (upd2 h4 0 12 a2) (qI Q)) ∧ (¬ v3 = 0 → CALLI E mC_refuse [.ref 0, .int v3] h3 fun v5 h5 => Q v5 h5)) :
    CALLI E mC_lots [.ref 0, .int a1, .int a2, .int a3] h Q := CALL_of rfl (wp_sound [(51, [1, 1, 0, 1, 0, 1, 1])] kk_110 24 hF)
set_option maxRecDepth 100000 in
set_option maxHeartbeats 4000000 in
theorem fC_lots_51 {E : XE} {h : Mem} {Q : Int32 → Mem → Prop} {x1 : Int32} {x3 : Int32} {x5 : Int32} {x6 : Int32} 
    (hF : (x1 ≤ x6 → Q x5 h) ∧ (¬ x1 ≤ x6 → CALLV E mC_drawCosts [.ref 0] h fun h1 => (¬ x3 = 0 → CALLI E mC_isTrialGood [.ref 0, .int 1] h1 fun v2 h2 => (v2 = 0 → WP E mC_lots 51 [some (.ref 0), some (.int x1), none, some (.int x3), none, some (.int x5), some (.int (x6 + 1))] [] h2 (qI Q)) ∧ (¬ v2 = 0 → WP E mC_lots 51 [some (.ref 0), some (.int x1), none, some (.int x3), none, some (.int (x5 + 1)), some (.int (x6 + 1))] [] h2 (qI Q))) ∧ (x3 = 0 → CALLI E mC_isTrialGood [.ref 0, .int 3] h1 fun v3 h3 => (v3 = 0 → WP E mC_lots 51 [some (.ref 0), some (.int x1), none, some (.int x3), none, some (.int x5), some (.int (x6 + 1))] [] h3 (qI Q)) ∧ (¬ v3 = 0 → WP E mC_lots 51 [some (.ref 0), some (.int x1), none, some (.int x3), none, some (.int (x5 + 1)), some (.int (x6 + 1))] [] h3 (qI Q))))) :
    WP E mC_lots 51 [some (.ref 0), some (.int x1), none, some (.int x3), none, some (.int x5), some (.int x6)] [] h (qI Q) := wp_sound [(51, [1, 1, 0, 1, 0, 1, 1])] kk_110 16 hF
def k_111 : List XI := [(0, .aload_n 0, 1, 0, 0, 0, 0),
  (1, .getfield 19, 3, 6, 2, 0, 0),
  (4, .aload_n 0, 1, 0, 0, 0, 0),
  (5, .getfield 10, 3, 6, 0, 0, 0),
  (8, .invokevirtual 90, 3, 2, 0, 0, 0),
  (11, .aload_n 0, 1, 0, 0, 0, 0),
  (12, .iconst 1, 1, 0, 0, 1, 0),
  (13, .putfield 22, 3, 6, 3, 1, 0),
  (16, .aload_n 0, 1, 0, 0, 0, 0),
  (17, .getfield 19, 3, 6, 2, 0, 0),
  (20, .getfield 283, 3, 0, 0, 0, 0),
  (23, .ireturn, 1, 0, 0, 0, 0)]
set_option maxRecDepth 100000 in
set_option maxHeartbeats 4000000 in
theorem kk_111 : k_111.all (entOK (mCi 111) (mB 111)) = true := by decide +kernel
set_option maxRecDepth 100000 in
set_option maxHeartbeats 4000000 in
theorem fC_image {E : XE} {h : Mem} {Q : Int32 → Mem → Prop}  
    (hF : CALLV E mD_copyFrom [.ref 29, .ref 1] h fun h1 => Q ((upd2 h1 0 3 1) 29 0) (upd2 h1 0 3 1)) :
    CALLI E mC_image [.ref 0] h Q := CALL_of rfl (wp_sound [] kk_111 13 hF)
def k_112 : List XI := [(0, .aload_n 0, 1, 0, 0, 0, 0),
  (1, .getfield 22, 3, 6, 3, 0, 0),
  (4, .ifCond .ne 10, 3, 14, 0, 0, 0),
  (7, .aload_n 0, 1, 0, 0, 0, 0),
  (8, .bipush (-3), 2, 0, 0, (-3), 0),
  (10, .invokevirtual 83, 3, 114, 1, 0, 0),
  (13, .ireturn, 1, 0, 0, 0, 0),
  (14, .aload_n 0, 1, 0, 0, 0, 0),
  (15, .getfield 10, 3, 6, 0, 0, 0),
  (18, .aload_n 0, 1, 0, 0, 0, 0),
  (19, .getfield 19, 3, 6, 2, 0, 0),
  (22, .invokevirtual 90, 3, 2, 0, 0, 0),
  (25, .aload_n 0, 1, 0, 0, 0, 0),
  (26, .getfield 10, 3, 6, 0, 0, 0),
  (29, .getfield 283, 3, 0, 0, 0, 0),
  (32, .ireturn, 1, 0, 0, 0, 0)]
set_option maxRecDepth 100000 in
set_option maxHeartbeats 4000000 in
theorem kk_112 : k_112.all (entOK (mCi 112) (mB 112)) = true := by decide +kernel
set_option maxRecDepth 100000 in
set_option maxHeartbeats 4000000 in
theorem fC_on {E : XE} {h : Mem} {Q : Int32 → Mem → Prop}  
    (hF : (¬ (h 0 3) = 0 → CALLV E mD_copyFrom [.ref 1, .ref 29] h fun h1 => Q (h1 1 0) h1) ∧ ((h 0 3) = 0 → CALLI E mC_refuse [.ref 0, .int (-3)] h fun v2 h2 => Q v2 h2)) :
    CALLI E mC_on [.ref 0] h Q := CALL_of rfl (wp_sound [] kk_112 13 hF)
def k_113_0 : List XI := [(0, .iload_n 1, 1, 0, 0, 0, 0),
  (1, .tableswitch 72 0 4 #[35, 43, 51, 59, 64], 35, 0, 0, 0, 0),
  (36, .aload_n 0, 1, 0, 0, 0, 0),
  (37, .getfield 10, 3, 6, 0, 0, 0),
  (40, .getfield 283, 3, 0, 0, 0, 0),
  (43, .ireturn, 1, 0, 0, 0, 0),
  (44, .aload_n 0, 1, 0, 0, 0, 0),
  (45, .getfield 10, 3, 6, 0, 0, 0),
  (48, .getfield 253, 3, 0, 1, 0, 0),
  (51, .ireturn, 1, 0, 0, 0, 0),
  (52, .aload_n 0, 1, 0, 0, 0, 0),
  (53, .getfield 10, 3, 6, 0, 0, 0),
  (56, .invokevirtual 286, 3, 14, 1, 0, 0),
  (59, .ireturn, 1, 0, 0, 0, 0),
  (60, .aload_n 0, 1, 0, 0, 0, 0),
  (61, .getfield 65, 3, 6, 10, 0, 0),
  (64, .ireturn, 1, 0, 0, 0, 0),
  (65, .aload_n 0, 1, 0, 0, 0, 0),
  (66, .getfield 57, 3, 6, 8, 0, 0),
  (69, .invokevirtual 289, 3, 60, 1, 0, 0),
  (72, .ireturn, 1, 0, 0, 0, 0),
  (73, .iload_n 1, 1, 0, 0, 0, 0),
  (74, .bipush 11, 2, 0, 0, 11, 0),
  (76, .if_icmp .lt 21, 3, 97, 0, 0, 0),
  (79, .iload_n 1, 1, 0, 0, 0, 0),
  (80, .bipush 16, 2, 0, 0, 16, 0),
  (82, .if_icmp .gt 15, 3, 97, 0, 0, 0),
  (85, .aload_n 0, 1, 0, 0, 0, 0),
  (86, .getfield 69, 3, 6, 11, 0, 0),
  (89, .iload_n 1, 1, 0, 0, 0, 0)]
set_option maxRecDepth 100000 in
set_option maxHeartbeats 4000000 in
theorem kk_113_0 : k_113_0.all (entOK (mCi 113) (mB 113)) = true := by decide +kernel
def k_113_1 : List XI := [(90, .bipush 10, 2, 0, 0, 10, 0),
  (92, .isub, 1, 0, 0, 0, 0),
  (93, .iaload, 1, 0, 0, 0, 0),
  (94, .goto 5, 3, 99, 0, 0, 0),
  (97, .bipush (-9), 2, 0, 0, (-9), 0),
  (99, .ireturn, 1, 0, 0, 0, 0)]
set_option maxRecDepth 100000 in
set_option maxHeartbeats 4000000 in
theorem kk_113_1 : k_113_1.all (entOK (mCi 113) (mB 113)) = true := by decide +kernel
def k_113 : List XI := k_113_0 ++ (k_113_1)
theorem kk_113 : k_113.all (entOK (mCi 113) (mB 113)) = true := all_app kk_113_0 (kk_113_1)
set_option maxRecDepth 100000 in
set_option maxHeartbeats 4000000 in
theorem fC_count {E : XE} {h : Mem} {Q : Int32 → Mem → Prop} {a1 : Int32} 
    (hF : (a1 = Int32.ofInt 0 → Q (h 1 0) h) ∧ (¬ a1 = Int32.ofInt 0 → (a1 = Int32.ofInt 1 → Q (h 1 1) h) ∧ (¬ a1 = Int32.ofInt 1 → (a1 = Int32.ofInt 2 → CALLI E mD_costTogether [.ref 1] h fun v2 h2 => Q v2 h2) ∧ (¬ a1 = Int32.ofInt 2 → (a1 = Int32.ofInt 3 → Q (h 0 10) h) ∧ (¬ a1 = Int32.ofInt 3 → (a1 = Int32.ofInt 4 → CALLI E mTE_size [.ref 55] h fun v1 h1 => Q v1 h1) ∧ (¬ a1 = Int32.ofInt 4 → (a1 < 11 → Q (-9) h) ∧ (¬ a1 < 11 → (16 < a1 → Q (-9) h) ∧ (¬ 16 < a1 → cnd (inb (a1 - 10) 7) (Q (h 59 (ix (a1 - 10))) h))))))))) :
    CALLI E mC_count [.ref 0, .int a1] h Q := CALL_of rfl (wp_sound [] kk_113 17 hF)
def k_114 : List XI := [(0, .iload_n 1, 1, 0, 0, 0, 0),
  (1, .ineg, 1, 0, 0, 0, 0),
  (2, .ifCond .le 24, 3, 26, 0, 0, 0),
  (5, .iload_n 1, 1, 0, 0, 0, 0),
  (6, .ineg, 1, 0, 0, 0, 0),
  (7, .aload_n 0, 1, 0, 0, 0, 0),
  (8, .getfield 69, 3, 6, 11, 0, 0),
  (11, .arraylength, 1, 0, 0, 0, 0),
  (12, .if_icmp .ge 14, 3, 26, 0, 0, 0),
  (15, .aload_n 0, 1, 0, 0, 0, 0),
  (16, .getfield 69, 3, 6, 11, 0, 0),
  (19, .iload_n 1, 1, 0, 0, 0, 0),
  (20, .ineg, 1, 0, 0, 0, 0),
  (21, .dup2, 1, 0, 0, 0, 0),
  (22, .iaload, 1, 0, 0, 0, 0),
  (23, .iconst 1, 1, 0, 0, 1, 0),
  (24, .iadd, 1, 0, 0, 0, 0),
  (25, .iastore, 1, 0, 0, 0, 0),
  (26, .iload_n 1, 1, 0, 0, 0, 0),
  (27, .ireturn, 1, 0, 0, 0, 0)]
set_option maxRecDepth 100000 in
set_option maxHeartbeats 4000000 in
theorem kk_114 : k_114.all (entOK (mCi 114) (mB 114)) = true := by decide +kernel
set_option maxRecDepth 100000 in
set_option maxHeartbeats 4000000 in
theorem fC_refuse {E : XE} {h : Mem} {Q : Int32 → Mem → Prop} {a1 : Int32} 
    (hF : ((-a1) ≤ 0 → Q a1 h) ∧ (¬ (-a1) ≤ 0 → ((nI 7) ≤ (-a1) → Q a1 h) ∧ (¬ (nI 7) ≤ (-a1) → cnd (inb (-a1) 7) (cnd (inb (-a1) 7) (Q a1 (upd2 h 59 (ix (-a1)) ((h 59 (ix (-a1))) + 1))))))) :
    CALLI E mC_refuse [.ref 0, .int a1] h Q := CALL_of rfl (wp_sound [] kk_114 21 hF)
def k_115 : List XI := [(0, .ldc2_w 292, 3, 0, 0, 0, 4000000000000000000),
  (3, .aload_n 0, 1, 0, 0, 0, 0),
  (4, .iload_n 1, 1, 0, 0, 0, 0),
  (5, .invokevirtual 83, 3, 114, 1, 0, 0),
  (8, .i2l, 1, 0, 0, 0, 0),
  (9, .lsub, 1, 0, 0, 0, 0),
  (10, .lreturn, 1, 0, 0, 0, 0)]
set_option maxRecDepth 100000 in
set_option maxHeartbeats 4000000 in
theorem kk_115 : k_115.all (entOK (mCi 115) (mB 115)) = true := by decide +kernel
set_option maxRecDepth 100000 in
set_option maxHeartbeats 4000000 in
theorem fC_refuseLong {E : XE} {h : Mem} {Q : Int64 → Mem → Prop} {a1 : Int32} 
    (hF : CALLI E mC_refuse [.ref 0, .int a1] h fun v1 h1 => Q (4000000000000000000 - v1.toInt64) h1) :
    CALLL E mC_refuseLong [.ref 0, .int a1] h Q := CALL_of rfl (wp_sound [] kk_115 8 hF)
def k_116 : List XI := [(0, .iload_n 0, 1, 0, 0, 0, 0),
  (1, .ifCond .eq 7, 3, 8, 0, 0, 0),
  (4, .iload_n 0, 1, 0, 0, 0, 0),
  (5, .goto 4, 3, 9, 0, 0, 0),
  (8, .iload_n 1, 1, 0, 0, 0, 0),
  (9, .ireturn, 1, 0, 0, 0, 0)]
set_option maxRecDepth 100000 in
set_option maxHeartbeats 4000000 in
theorem kk_116 : k_116.all (entOK (mCi 116) (mB 116)) = true := by decide +kernel
set_option maxRecDepth 100000 in
set_option maxHeartbeats 4000000 in
theorem fC_firstOf {E : XE} {h : Mem} {Q : Int32 → Mem → Prop} {a1 : Int32} {a2 : Int32} 
    (hF : (a1 = 0 → Q a2 h) ∧ (¬ a1 = 0 → Q a1 h)) :
    CALLI E mC_firstOf [.int a1, .int a2] h Q := CALL_of rfl (wp_sound [] kk_116 6 hF)
def k_117 : List XI := [(0, .iload_n 0, 1, 0, 0, 0, 0),
  (1, .iload_n 1, 1, 0, 0, 0, 0),
  (2, .if_icmp .ge 6, 3, 8, 0, 0, 0),
  (5, .bipush (-4), 2, 0, 0, (-4), 0),
  (7, .ireturn, 1, 0, 0, 0, 0),
  (8, .iload_n 0, 1, 0, 0, 0, 0),
  (9, .iload_n 2, 1, 0, 0, 0, 0),
  (10, .if_icmp .le 8, 3, 18, 0, 0, 0),
  (13, .bipush (-6), 2, 0, 0, (-6), 0),
  (15, .goto 4, 3, 19, 0, 0, 0),
  (18, .iconst 0, 1, 0, 0, 0, 0),
  (19, .ireturn, 1, 0, 0, 0, 0)]
set_option maxRecDepth 100000 in
set_option maxHeartbeats 4000000 in
theorem kk_117 : k_117.all (entOK (mCi 117) (mB 117)) = true := by decide +kernel
set_option maxRecDepth 100000 in
set_option maxHeartbeats 4000000 in
theorem fC_outside {E : XE} {h : Mem} {Q : Int32 → Mem → Prop} {a1 : Int32} {a2 : Int32} {a3 : Int32} 
    (hF : (a2 ≤ a1 → (a1 ≤ a3 → Q 0 h) ∧ (¬ a1 ≤ a3 → Q (-6) h)) ∧ (¬ a2 ≤ a1 → Q (-4) h)) :
    CALLI E mC_outside [.int a1, .int a2, .int a3] h Q := CALL_of rfl (wp_sound [] kk_117 10 hF)
def k_118 : List XI := [(0, .iload_n 0, 1, 0, 0, 0, 0),
  (1, .ifCond .lt 12, 3, 13, 0, 0, 0),
  (4, .iload_n 0, 1, 0, 0, 0, 0),
  (5, .iload_n 1, 1, 0, 0, 0, 0),
  (6, .if_icmp .ge 7, 3, 13, 0, 0, 0),
  (9, .iconst 0, 1, 0, 0, 0, 0),
  (10, .goto 5, 3, 15, 0, 0, 0),
  (13, .bipush (-2), 2, 0, 0, (-2), 0),
  (15, .ireturn, 1, 0, 0, 0, 0)]
set_option maxRecDepth 100000 in
set_option maxHeartbeats 4000000 in
theorem kk_118 : k_118.all (entOK (mCi 118) (mB 118)) = true := by decide +kernel
set_option maxRecDepth 100000 in
set_option maxHeartbeats 4000000 in
theorem fC_otherThan {E : XE} {h : Mem} {Q : Int32 → Mem → Prop} {a1 : Int32} {a2 : Int32} 
    (hF : (a1 < 0 → Q (-2) h) ∧ (¬ a1 < 0 → (a2 ≤ a1 → Q (-2) h) ∧ (¬ a2 ≤ a1 → Q 0 h))) :
    CALLI E mC_otherThan [.int a1, .int a2] h Q := CALL_of rfl (wp_sound [] kk_118 9 hF)
def k_119 : List XI := [(0, .iload_n 0, 1, 0, 0, 0, 0),
  (1, .ifCond .lt 12, 3, 13, 0, 0, 0),
  (4, .iload_n 0, 1, 0, 0, 0, 0),
  (5, .iconst 4, 1, 0, 0, 4, 0),
  (6, .if_icmp .ge 7, 3, 13, 0, 0, 0),
  (9, .iconst 0, 1, 0, 0, 0, 0),
  (10, .goto 4, 3, 14, 0, 0, 0),
  (13, .iconst (-1), 1, 0, 0, (-1), 0),
  (14, .ireturn, 1, 0, 0, 0, 0)]
set_option maxRecDepth 100000 in
set_option maxHeartbeats 4000000 in
theorem kk_119 : k_119.all (entOK (mCi 119) (mB 119)) = true := by decide +kernel
set_option maxRecDepth 100000 in
set_option maxHeartbeats 4000000 in
theorem fC_missingLock {E : XE} {h : Mem} {Q : Int32 → Mem → Prop} {a1 : Int32} 
    (hF : (a1 < 0 → Q (-1) h) ∧ (¬ a1 < 0 → (4 ≤ a1 → Q (-1) h) ∧ (¬ 4 ≤ a1 → Q 0 h))) :
    CALLI E mC_missingLock [.int a1] h Q := CALL_of rfl (wp_sound [] kk_119 9 hF)
def k_120 : List XI := [(0, .aload_n 0, 1, 0, 0, 0, 0),
  (1, .getfield 10, 3, 6, 0, 0, 0),
  (4, .iload_n 1, 1, 0, 0, 0, 0),
  (5, .invokevirtual 294, 3, 4, 1, 0, 0),
  (8, .ifCond .eq 7, 3, 15, 0, 0, 0),
  (11, .iconst 0, 1, 0, 0, 0, 0),
  (12, .goto 4, 3, 16, 0, 0, 0),
  (15, .iconst (-1), 1, 0, 0, (-1), 0),
  (16, .ireturn, 1, 0, 0, 0, 0)]
set_option maxRecDepth 100000 in
set_option maxHeartbeats 4000000 in
theorem kk_120 : k_120.all (entOK (mCi 120) (mB 120)) = true := by decide +kernel
set_option maxRecDepth 100000 in
set_option maxHeartbeats 4000000 in
theorem fC_missingTask {E : XE} {h : Mem} {Q : Int32 → Mem → Prop} {a1 : Int32} 
    (hF : CALLI E mD_has [.ref 1, .int a1] h fun v1 h1 => (v1 = 0 → Q (-1) h1) ∧ (¬ v1 = 0 → Q 0 h1)) :
    CALLI E mC_missingTask [.ref 0, .int a1] h Q := CALL_of rfl (wp_sound [] kk_120 9 hF)
def k_121 : List XI := [(0, .aload_n 0, 1, 0, 0, 0, 0),
  (1, .getfield 10, 3, 6, 0, 0, 0),
  (4, .iload_n 1, 1, 0, 0, 0, 0),
  (5, .invokevirtual 113, 3, 5, 1, 0, 0),
  (8, .ifCond .eq 7, 3, 15, 0, 0, 0),
  (11, .iconst 0, 1, 0, 0, 0, 0),
  (12, .goto 5, 3, 17, 0, 0, 0),
  (15, .bipush (-3), 2, 0, 0, (-3), 0),
  (17, .ireturn, 1, 0, 0, 0, 0)]
set_option maxRecDepth 100000 in
set_option maxHeartbeats 4000000 in
theorem kk_121 : k_121.all (entOK (mCi 121) (mB 121)) = true := by decide +kernel
set_option maxRecDepth 100000 in
set_option maxHeartbeats 4000000 in
theorem fC_turnedOff {E : XE} {h : Mem} {Q : Int32 → Mem → Prop} {a1 : Int32} 
    (hF : CALLI E mD_isOn [.ref 1, .int a1] h fun v1 h1 => (v1 = 0 → Q (-3) h1) ∧ (¬ v1 = 0 → Q 0 h1)) :
    CALLI E mC_turnedOff [.ref 0, .int a1] h Q := CALL_of rfl (wp_sound [] kk_121 9 hF)
def k_122 : List XI := [(0, .iload_n 1, 1, 0, 0, 0, 0),
  (1, .iconst 3, 1, 0, 0, 3, 0),
  (2, .invokestatic 134, 3, 118, 1, 0, 0),
  (5, .aload_n 0, 1, 0, 0, 0, 0),
  (6, .iload_n 2, 1, 0, 0, 0, 0),
  (7, .invokevirtual 106, 3, 120, 1, 0, 0),
  (10, .invokestatic 117, 3, 116, 1, 0, 0),
  (13, .aload_n 0, 1, 0, 0, 0, 0),
  (14, .iload_n 2, 1, 0, 0, 0, 0),
  (15, .invokevirtual 229, 3, 121, 1, 0, 0),
  (18, .invokestatic 117, 3, 116, 1, 0, 0),
  (21, .ireturn, 1, 0, 0, 0, 0)]
set_option maxRecDepth 100000 in
set_option maxHeartbeats 4000000 in
theorem kk_122 : k_122.all (entOK (mCi 122) (mB 122)) = true := by decide +kernel
set_option maxRecDepth 100000 in
set_option maxHeartbeats 4000000 in
theorem fC_notInOrder {E : XE} {h : Mem} {Q : Int32 → Mem → Prop} {a1 : Int32} {a2 : Int32} 
    (hF : CALLI E mC_otherThan [.int a1, .int 3] h fun v1 h1 => CALLI E mC_missingTask [.ref 0, .int a2] h1 fun v2 h2 => CALLI E mC_firstOf [.int v1, .int v2] h2 fun v3 h3 => CALLI E mC_turnedOff [.ref 0, .int a2] h3 fun v4 h4 => CALLI E mC_firstOf [.int v3, .int v4] h4 fun v5 h5 => Q v5 h5) :
    CALLI E mC_notInOrder [.ref 0, .int a1, .int a2] h Q := CALL_of rfl (wp_sound [] kk_122 13 hF)
def k_123 : List XI := [(0, .iload_n 1, 1, 0, 0, 0, 0),
  (1, .ifCond .lt 9, 3, 10, 0, 0, 0),
  (4, .iload_n 1, 1, 0, 0, 0, 0),
  (5, .aload_n 0, 1, 0, 0, 0, 0),
  (6, .arraylength, 1, 0, 0, 0, 0),
  (7, .if_icmp .lt 5, 3, 12, 0, 0, 0),
  (10, .iconst 0, 1, 0, 0, 0, 0),
  (11, .ireturn, 1, 0, 0, 0, 0),
  (12, .aload_n 0, 1, 0, 0, 0, 0),
  (13, .iload_n 1, 1, 0, 0, 0, 0),
  (14, .iaload, 1, 0, 0, 0, 0),
  (15, .istore_n 3, 1, 0, 0, 0, 0),
  (16, .aload_n 0, 1, 0, 0, 0, 0),
  (17, .iload_n 1, 1, 0, 0, 0, 0),
  (18, .iload_n 2, 1, 0, 0, 0, 0),
  (19, .iastore, 1, 0, 0, 0, 0),
  (20, .iload_n 3, 1, 0, 0, 0, 0),
  (21, .ireturn, 1, 0, 0, 0, 0)]
set_option maxRecDepth 100000 in
set_option maxHeartbeats 4000000 in
theorem kk_123 : k_123.all (entOK (mCi 123) (mB 123)) = true := by decide +kernel
set_option maxRecDepth 100000 in
set_option maxHeartbeats 4000000 in
theorem fC_exchange {E : XE} {h : Mem} {Q : Int32 → Mem → Prop} {a1 : Nat} {a2 : Int32} {a3 : Int32} (ha1 : a1 = 2 ∨ a1 = 5 ∨ a1 = 6 ∨ a1 = 9)
    (hF : (a2 < 0 → Q 0 h) ∧ (¬ a2 < 0 → shN a1 0 fun n1 => (a2 < (nI n1) → shN a1 0 fun n2 => cnd (inb a2 n2) (shN a1 0 fun n3 => cnd (inb a2 n3) (Q (h a1 (ix a2)) (upd2 h a1 (ix a2) a3)))) ∧ (¬ a2 < (nI n1) → Q 0 h))) :
    CALLI E mC_exchange [.ref a1, .int a2, .int a3] h Q := by
  rcases ha1 with rfl | rfl | rfl | rfl
  all_goals exact CALL_of rfl (wp_sound [] kk_123 17 hF)
def k_124 : List XI := [(0, .lload_n 0, 1, 0, 0, 0, 0),
  (1, .lload_n 2, 1, 0, 0, 0, 0),
  (2, .invokestatic 297, 3, 17, 2, 0, 0),
  (5, .lstore 5, 2, 0, 0, 0, 0),
  (7, .iload 4, 2, 0, 0, 0, 0),
  (9, .ifCond .ne 7, 3, 16, 0, 0, 0),
  (12, .lload_n 0, 1, 0, 0, 0, 0),
  (13, .goto 4, 3, 17, 0, 0, 0),
  (16, .lload_n 2, 1, 0, 0, 0, 0),
  (17, .lstore 7, 2, 0, 0, 0, 0),
  (19, .lload 5, 2, 0, 0, 0, 0),
  (21, .lconst 0, 1, 0, 0, 0, 0),
  (22, .lcmp, 1, 0, 0, 0, 0),
  (23, .ifCond .le 11, 3, 34, 0, 0, 0),
  (26, .lload 7, 2, 0, 0, 0, 0),
  (28, .lload 5, 2, 0, 0, 0, 0),
  (30, .ldiv, 1, 0, 0, 0, 0),
  (31, .goto 5, 3, 36, 0, 0, 0),
  (34, .lload 7, 2, 0, 0, 0, 0),
  (36, .lreturn, 1, 0, 0, 0, 0)]
set_option maxRecDepth 100000 in
set_option maxHeartbeats 4000000 in
theorem kk_124 : k_124.all (entOK (mCi 124) (mB 124)) = true := by decide +kernel
set_option maxRecDepth 100000 in
set_option maxHeartbeats 4000000 in
theorem fC_partOf {E : XE} {h : Mem} {Q : Int64 → Mem → Prop} {a1 : Int64} {a2 : Int64} {a3 : Int32} 
    (hF : CALLL E mNU_commonDivisor [.long a1, .long a2] h fun v1 h1 => (¬ a3 = 0 → ((lg_cmp v1 0) ≤ 0 → Q a2 h1) ∧ (¬ (lg_cmp v1 0) ≤ 0 → cnd (nzL v1) (Q (a2 / v1) h1))) ∧ (a3 = 0 → ((lg_cmp v1 0) ≤ 0 → Q a1 h1) ∧ (¬ (lg_cmp v1 0) ≤ 0 → cnd (nzL v1) (Q (a1 / v1) h1)))) :
    CALLL E mC_partOf [.long a1, .long a2, .int a3] h Q := CALL_of rfl (wp_sound [] kk_124 19 hF)
def k_125 : List XI := [(0, .iload_n 1, 1, 0, 0, 0, 0),
  (1, .iconst 3, 1, 0, 0, 3, 0),
  (2, .if_icmp .ne 25, 3, 27, 0, 0, 0),
  (5, .aload_n 0, 1, 0, 0, 0, 0),
  (6, .getfield 29, 3, 6, 4, 0, 0),
  (9, .aload_n 0, 1, 0, 0, 0, 0),
  (10, .getfield 16, 3, 6, 1, 0, 0),
  (13, .invokevirtual 175, 3, 24, 1, 0, 0),
  (16, .bipush (-9), 2, 0, 0, (-9), 0),
  (18, .if_icmp .ne 7, 3, 25, 0, 0, 0),
  (21, .iconst 1, 1, 0, 0, 1, 0),
  (22, .goto 4, 3, 26, 0, 0, 0),
  (25, .iconst 0, 1, 0, 0, 0, 0),
  (26, .ireturn, 1, 0, 0, 0, 0),
  (27, .aload_n 0, 1, 0, 0, 0, 0),
  (28, .getfield 36, 3, 6, 5, 0, 0),
  (31, .aload_n 0, 1, 0, 0, 0, 0),
  (32, .getfield 16, 3, 6, 1, 0, 0),
  (35, .iload_n 1, 1, 0, 0, 0, 0),
  (36, .invokevirtual 202, 3, 40, 1, 0, 0),
  (39, .aload_n 0, 1, 0, 0, 0, 0),
  (40, .getfield 16, 3, 6, 1, 0, 0),
  (43, .getfield 253, 3, 0, 1, 0, 0),
  (46, .if_icmp .ne 7, 3, 53, 0, 0, 0),
  (49, .iconst 1, 1, 0, 0, 1, 0),
  (50, .goto 4, 3, 54, 0, 0, 0),
  (53, .iconst 0, 1, 0, 0, 0, 0),
  (54, .ireturn, 1, 0, 0, 0, 0)]
set_option maxRecDepth 100000 in
set_option maxHeartbeats 4000000 in
theorem kk_125 : k_125.all (entOK (mCi 125) (mB 125)) = true := by decide +kernel
set_option maxRecDepth 100000 in
set_option maxHeartbeats 4000000 in
theorem fC_isTrialGood {E : XE} {h : Mem} {Q : Int32 → Mem → Prop} {a1 : Int32} 
    (hF : (¬ a1 = 3 → CALLI E mRS_fitting [.ref 44, .ref 15, .int a1] h fun v1 h1 => (¬ v1 = (h1 15 1) → Q 0 h1) ∧ (v1 = (h1 15 1) → Q 1 h1)) ∧ (a1 = 3 → CALLI E mPW_missTime [.ref 43, .ref 15] h fun v2 h2 => (¬ v2 = (-9) → Q 0 h2) ∧ (v2 = (-9) → Q 1 h2))) :
    CALLI E mC_isTrialGood [.ref 0, .int a1] h Q := CALL_of rfl (wp_sound [] kk_125 17 hF)
def k_126_0 : List XI := [(0, .aload_n 0, 1, 0, 0, 0, 0),
  (1, .getfield 16, 3, 6, 1, 0, 0),
  (4, .aload_n 0, 1, 0, 0, 0, 0),
  (5, .getfield 10, 3, 6, 0, 0, 0),
  (8, .invokevirtual 90, 3, 2, 0, 0, 0),
  (11, .bipush (-9), 2, 0, 0, (-9), 0),
  (13, .istore_n 3, 1, 0, 0, 0, 0),
  (14, .iconst 0, 1, 0, 0, 0, 0),
  (15, .istore 4, 2, 0, 0, 0, 0),
  (17, .bipush 99, 2, 0, 0, 99, 0),
  (19, .istore 5, 2, 0, 0, 0, 0),
  (21, .iconst 0, 1, 0, 0, 0, 0),
  (22, .istore 6, 2, 0, 0, 0, 0),
  (24, .iload 6, 2, 0, 0, 0, 0),
  (26, .bipush 99, 2, 0, 0, 99, 0),
  (28, .if_icmp .gt 72, 3, 100, 0, 0, 0),
  (31, .iload 4, 2, 0, 0, 0, 0),
  (33, .iload 5, 2, 0, 0, 0, 0),
  (35, .if_icmp .gt 65, 3, 100, 0, 0, 0),
  (38, .iload 4, 2, 0, 0, 0, 0),
  (40, .iload 5, 2, 0, 0, 0, 0),
  (42, .iadd, 1, 0, 0, 0, 0),
  (43, .iconst 2, 1, 0, 0, 2, 0),
  (44, .idiv, 1, 0, 0, 0, 0),
  (45, .istore 7, 2, 0, 0, 0, 0),
  (47, .aload_n 0, 1, 0, 0, 0, 0),
  (48, .getfield 16, 3, 6, 1, 0, 0),
  (51, .getfield 131, 3, 0, 2, 0, 0),
  (54, .iload_n 2, 1, 0, 0, 0, 0),
  (55, .aload_n 0, 1, 0, 0, 0, 0)]
set_option maxRecDepth 100000 in
set_option maxHeartbeats 4000000 in
theorem kk_126_0 : k_126_0.all (entOK (mCi 126) (mB 126)) = true := by decide +kernel
def k_126_1 : List XI := [(56, .getfield 10, 3, 6, 0, 0, 0),
  (59, .getfield 131, 3, 0, 2, 0, 0),
  (62, .iload_n 2, 1, 0, 0, 0, 0),
  (63, .iaload, 1, 0, 0, 0, 0),
  (64, .iload 7, 2, 0, 0, 0, 0),
  (66, .iadd, 1, 0, 0, 0, 0),
  (67, .iastore, 1, 0, 0, 0, 0),
  (68, .aload_n 0, 1, 0, 0, 0, 0),
  (69, .iload_n 1, 1, 0, 0, 0, 0),
  (70, .invokevirtual 280, 3, 125, 1, 0, 0),
  (73, .ifCond .eq 15, 3, 88, 0, 0, 0),
  (76, .iload 7, 2, 0, 0, 0, 0),
  (78, .istore_n 3, 1, 0, 0, 0, 0),
  (79, .iload 7, 2, 0, 0, 0, 0),
  (81, .iconst 1, 1, 0, 0, 1, 0),
  (82, .iadd, 1, 0, 0, 0, 0),
  (83, .istore 4, 2, 0, 0, 0, 0),
  (85, .goto 9, 3, 94, 0, 0, 0),
  (88, .iload 7, 2, 0, 0, 0, 0),
  (90, .iconst 1, 1, 0, 0, 1, 0),
  (91, .isub, 1, 0, 0, 0, 0),
  (92, .istore 5, 2, 0, 0, 0, 0),
  (94, .iinc 6 1, 3, 0, 0, 1, 0),
  (97, .goto (-73), 3, 24, 0, 0, 0),
  (100, .iload_n 3, 1, 0, 0, 0, 0),
  (101, .ireturn, 1, 0, 0, 0, 0)]
set_option maxRecDepth 100000 in
set_option maxHeartbeats 4000000 in
theorem kk_126_1 : k_126_1.all (entOK (mCi 126) (mB 126)) = true := by decide +kernel
def k_126 : List XI := k_126_0 ++ (k_126_1)
theorem kk_126 : k_126.all (entOK (mCi 126) (mB 126)) = true := all_app kk_126_0 (kk_126_1)
set_option maxRecDepth 100000 in
set_option maxHeartbeats 4000000 in
theorem fC_mostMore {E : XE} {h : Mem} {Q : Int32 → Mem → Prop} {a1 : Int32} {a2 : Int32} 
    (hF : CALLV E mD_copyFrom [.ref 15, .ref 1] h fun h1 => WP E mC_mostMore 24 [some (.ref 0), some (.int a1), some (.int a2), some (.int (-9)), some (.int 0), some (.int 99), some (.int 0), none] [] h1 (qI Q)) :
    CALLI E mC_mostMore [.ref 0, .int a1, .int a2] h Q := CALL_of rfl (wp_sound [(24, [1, 1, 1, 1, 1, 1, 1, 0])] kk_126 14 hF)
set_option maxRecDepth 100000 in
set_option maxHeartbeats 4000000 in
theorem fC_mostMore_24 {E : XE} {h : Mem} {Q : Int32 → Mem → Prop} {x1 : Int32} {x2 : Int32} {x3 : Int32} {x4 : Int32} {x5 : Int32} {x6 : Int32} 
    (hF : (99 < x6 → Q x3 h) ∧ (¬ 99 < x6 → (x5 < x4 → Q x3 h) ∧ (¬ x5 < x4 → cnd (inb x2 6) (cnd (inb x2 6) (CALLI E mC_isTrialGood [.ref 0, .int x1] (upd2 h 16 (ix x2) ((h 2 (ix x2)) + ((x4 + x5) / 2))) fun v1 h1 => (v1 = 0 → WP E mC_mostMore 24 [some (.ref 0), some (.int x1), some (.int x2), some (.int x3), some (.int x4), some (.int (((x4 + x5) / 2) - 1)), some (.int (x6 + 1)), none] [] h1 (qI Q)) ∧ (¬ v1 = 0 → WP E mC_mostMore 24 [some (.ref 0), some (.int x1), some (.int x2), some (.int ((x4 + x5) / 2)), some (.int (((x4 + x5) / 2) + 1)), some (.int x5), some (.int (x6 + 1)), none] [] h1 (qI Q))))))) :
    WP E mC_mostMore 24 [some (.ref 0), some (.int x1), some (.int x2), some (.int x3), some (.int x4), some (.int x5), some (.int x6), none] [] h (qI Q) := wp_sound [(24, [1, 1, 1, 1, 1, 1, 1, 0])] kk_126 38 hF
def k_127_0 : List XI := [(0, .aload_n 0, 1, 0, 0, 0, 0),
  (1, .getfield 16, 3, 6, 1, 0, 0),
  (4, .aload_n 0, 1, 0, 0, 0, 0),
  (5, .getfield 10, 3, 6, 0, 0, 0),
  (8, .invokevirtual 90, 3, 2, 0, 0, 0),
  (11, .aload_n 0, 1, 0, 0, 0, 0),
  (12, .getfield 10, 3, 6, 0, 0, 0),
  (15, .getfield 253, 3, 0, 1, 0, 0),
  (18, .iload_n 1, 1, 0, 0, 0, 0),
  (19, .iconst (-1), 1, 0, 0, (-1), 0),
  (20, .ixor, 1, 0, 0, 0, 0),
  (21, .iand, 1, 0, 0, 0, 0),
  (22, .istore_n 3, 1, 0, 0, 0, 0),
  (23, .lconst 0, 1, 0, 0, 0, 0),
  (24, .lstore 4, 2, 0, 0, 0, 0),
  (26, .iconst 0, 1, 0, 0, 0, 0),
  (27, .istore 6, 2, 0, 0, 0, 0),
  (29, .iload 6, 2, 0, 0, 0, 0),
  (31, .iload_n 1, 1, 0, 0, 0, 0),
  (32, .if_icmp .gt 64, 3, 96, 0, 0, 0),
  (35, .iload 6, 2, 0, 0, 0, 0),
  (37, .iload_n 1, 1, 0, 0, 0, 0),
  (38, .iconst (-1), 1, 0, 0, (-1), 0),
  (39, .ixor, 1, 0, 0, 0, 0),
  (40, .iand, 1, 0, 0, 0, 0),
  (41, .ifCond .eq 6, 3, 47, 0, 0, 0),
  (44, .goto 46, 3, 90, 0, 0, 0),
  (47, .aload_n 0, 1, 0, 0, 0, 0),
  (48, .getfield 16, 3, 6, 1, 0, 0),
  (51, .iload_n 3, 1, 0, 0, 0, 0)]
set_option maxRecDepth 100000 in
set_option maxHeartbeats 4000000 in
theorem kk_127_0 : k_127_0.all (entOK (mCi 127) (mB 127)) = true := by decide +kernel
def k_127_1 : List XI := [(52, .iload 6, 2, 0, 0, 0, 0),
  (54, .ior, 1, 0, 0, 0, 0),
  (55, .putfield 253, 3, 0, 1, 0, 0),
  (58, .aload_n 0, 1, 0, 0, 0, 0),
  (59, .getfield 29, 3, 6, 4, 0, 0),
  (62, .aload_n 0, 1, 0, 0, 0, 0),
  (63, .getfield 16, 3, 6, 1, 0, 0),
  (66, .invokevirtual 175, 3, 24, 1, 0, 0),
  (69, .bipush (-9), 2, 0, 0, (-9), 0),
  (71, .if_icmp .ne 19, 3, 90, 0, 0, 0),
  (74, .lload 4, 2, 0, 0, 0, 0),
  (76, .iload_n 2, 1, 0, 0, 0, 0),
  (77, .iconst 1, 1, 0, 0, 1, 0),
  (78, .isub, 1, 0, 0, 0, 0),
  (79, .iload 6, 2, 0, 0, 0, 0),
  (81, .invokestatic 260, 3, 245, 1, 0, 0),
  (84, .invokestatic 265, 3, 128, 2, 0, 0),
  (87, .ladd, 1, 0, 0, 0, 0),
  (88, .lstore 4, 2, 0, 0, 0, 0),
  (90, .iinc 6 1, 3, 0, 0, 1, 0),
  (93, .goto (-64), 3, 29, 0, 0, 0),
  (96, .lload 4, 2, 0, 0, 0, 0),
  (98, .lreturn, 1, 0, 0, 0, 0)]
set_option maxRecDepth 100000 in
set_option maxHeartbeats 4000000 in
theorem kk_127_1 : k_127_1.all (entOK (mCi 127) (mB 127)) = true := by decide +kernel
def k_127 : List XI := k_127_0 ++ (k_127_1)
theorem kk_127 : k_127.all (entOK (mCi 127) (mB 127)) = true := all_app kk_127_0 (kk_127_1)
set_option maxRecDepth 100000 in
set_option maxHeartbeats 4000000 in
theorem fC_waysWithoutMiss {E : XE} {h : Mem} {Q : Int64 → Mem → Prop} {a1 : Int32} {a2 : Int32} 
    (hF : CALLV E mD_copyFrom [.ref 15, .ref 1] h fun h1 => WP E mC_waysWithoutMiss 29 [some (.ref 0), some (.int a1), some (.int a2), some (.int ((h1 1 1) &&& (a1 ^^^ (-1)))), some (.long 0), none, some (.int 0)] [] h1 (qL Q)) :
    CALLL E mC_waysWithoutMiss [.ref 0, .int a1, .int a2] h Q := CALL_of rfl (wp_sound [(29, [1, 1, 1, 1, 1, 0, 1])] kk_127 18 hF)
set_option maxRecDepth 100000 in
set_option maxHeartbeats 4000000 in
theorem fC_waysWithoutMiss_29 {E : XE} {h : Mem} {Q : Int64 → Mem → Prop} {x1 : Int32} {x2 : Int32} {x3 : Int32} {x4 : Int64} {x6 : Int32} 
    (hF : (x1 < x6 → Q x4 h) ∧ (¬ x1 < x6 → ((x6 &&& (x1 ^^^ (-1))) = 0 → CALLI E mPW_missTime [.ref 43, .ref 15] (upd2 h 15 1 (x3 ||| x6)) fun v1 h1 => (¬ v1 = (-9) → WP E mC_waysWithoutMiss 29 [some (.ref 0), some (.int x1), some (.int x2), some (.int x3), some (.long x4), none, some (.int (x6 + 1))] [] h1 (qL Q)) ∧ (v1 = (-9) → CALLI E mJ_bitCount [.int x6] h1 fun v2 h2 => CALLL E mC_power [.int (x2 - 1), .int v2] h2 fun v3 h3 => WP E mC_waysWithoutMiss 29 [some (.ref 0), some (.int x1), some (.int x2), some (.int x3), some (.long (x4 + v3)), none, some (.int (x6 + 1))] [] h3 (qL Q))) ∧ (¬ (x6 &&& (x1 ^^^ (-1))) = 0 → WP E mC_waysWithoutMiss 29 [some (.ref 0), some (.int x1), some (.int x2), some (.int x3), some (.long x4), none, some (.int (x6 + 1))] [] h (qL Q)))) :
    WP E mC_waysWithoutMiss 29 [some (.ref 0), some (.int x1), some (.int x2), some (.int x3), some (.long x4), none, some (.int x6)] [] h (qL Q) := wp_sound [(29, [1, 1, 1, 1, 1, 0, 1])] kk_127 34 hF
def k_128 : List XI := [(0, .lconst 1, 1, 0, 0, 0, 1),
  (1, .lstore_n 2, 1, 0, 0, 0, 0),
  (2, .iconst 0, 1, 0, 0, 0, 0),
  (3, .istore 4, 2, 0, 0, 0, 0),
  (5, .iload 4, 2, 0, 0, 0, 0),
  (7, .iload_n 1, 1, 0, 0, 0, 0),
  (8, .if_icmp .ge 14, 3, 22, 0, 0, 0),
  (11, .lload_n 2, 1, 0, 0, 0, 0),
  (12, .iload_n 0, 1, 0, 0, 0, 0),
  (13, .i2l, 1, 0, 0, 0, 0),
  (14, .lmul, 1, 0, 0, 0, 0),
  (15, .lstore_n 2, 1, 0, 0, 0, 0),
  (16, .iinc 4 1, 3, 0, 0, 1, 0),
  (19, .goto (-14), 3, 5, 0, 0, 0),
  (22, .lload_n 2, 1, 0, 0, 0, 0),
  (23, .lreturn, 1, 0, 0, 0, 0)]
set_option maxRecDepth 100000 in
set_option maxHeartbeats 4000000 in
theorem kk_128 : k_128.all (entOK (mCi 128) (mB 128)) = true := by decide +kernel
set_option maxRecDepth 100000 in
set_option maxHeartbeats 4000000 in
theorem fC_power {E : XE} {h : Mem} {Q : Int64 → Mem → Prop} {a1 : Int32} {a2 : Int32} 
    (hF : WP E mC_power 5 [some (.int a1), some (.int a2), some (.long 1), none, some (.int 0)] [] h (qL Q)) :
    CALLL E mC_power [.int a1, .int a2] h Q := CALL_of rfl (wp_sound [(5, [1, 1, 1, 0, 1])] kk_128 5 hF)
set_option maxRecDepth 100000 in
set_option maxHeartbeats 4000000 in
theorem fC_power_5 {E : XE} {h : Mem} {Q : Int64 → Mem → Prop} {x0 : Int32} {x1 : Int32} {x2 : Int64} {x4 : Int32} 
    (hF : (x1 ≤ x4 → Q x2 h) ∧ (¬ x1 ≤ x4 → WP E mC_power 5 [some (.int x0), some (.int x1), some (.long (x2 * x0.toInt64)), none, some (.int (x4 + 1))] [] h (qL Q))) :
    WP E mC_power 5 [some (.int x0), some (.int x1), some (.long x2), none, some (.int x4)] [] h (qL Q) := wp_sound [(5, [1, 1, 1, 0, 1])] kk_128 11 hF
def k_129_0 : List XI := [(0, .aload_n 0, 1, 0, 0, 0, 0),
  (1, .getfield 16, 3, 6, 1, 0, 0),
  (4, .aload_n 0, 1, 0, 0, 0, 0),
  (5, .getfield 10, 3, 6, 0, 0, 0),
  (8, .invokevirtual 90, 3, 2, 0, 0, 0),
  (11, .iconst 0, 1, 0, 0, 0, 0),
  (12, .istore_n 2, 1, 0, 0, 0, 0),
  (13, .iconst 0, 1, 0, 0, 0, 0),
  (14, .istore_n 3, 1, 0, 0, 0, 0),
  (15, .iload_n 3, 1, 0, 0, 0, 0),
  (16, .bipush 6, 2, 0, 0, 6, 0),
  (18, .if_icmp .ge 55, 3, 73, 0, 0, 0),
  (21, .aload_n 0, 1, 0, 0, 0, 0),
  (22, .getfield 16, 3, 6, 1, 0, 0),
  (25, .iload_n 1, 1, 0, 0, 0, 0),
  (26, .iload_n 3, 1, 0, 0, 0, 0),
  (27, .aload_n 0, 1, 0, 0, 0, 0),
  (28, .getfield 10, 3, 6, 0, 0, 0),
  (31, .getfield 140, 3, 0, 8, 0, 0),
  (34, .iload_n 1, 1, 0, 0, 0, 0),
  (35, .iaload, 1, 0, 0, 0, 0),
  (36, .invokevirtual 143, 3, 9, 0, 0, 0),
  (39, .aload_n 0, 1, 0, 0, 0, 0),
  (40, .getfield 29, 3, 6, 4, 0, 0),
  (43, .aload_n 0, 1, 0, 0, 0, 0),
  (44, .getfield 16, 3, 6, 1, 0, 0),
  (47, .aload_n 0, 1, 0, 0, 0, 0),
  (48, .getfield 61, 3, 6, 9, 0, 0),
  (51, .aload_n 0, 1, 0, 0, 0, 0),
  (52, .getfield 65, 3, 6, 10, 0, 0)]
set_option maxRecDepth 100000 in
set_option maxHeartbeats 4000000 in
theorem kk_129_0 : k_129_0.all (entOK (mCi 129) (mB 129)) = true := by decide +kernel
def k_129_1 : List XI := [(55, .invokevirtual 303, 3, 26, 1, 0, 0),
  (58, .ifCond .eq 9, 3, 67, 0, 0, 0),
  (61, .iload_n 2, 1, 0, 0, 0, 0),
  (62, .iconst 1, 1, 0, 0, 1, 0),
  (63, .iload_n 3, 1, 0, 0, 0, 0),
  (64, .ishl, 1, 0, 0, 0, 0),
  (65, .ior, 1, 0, 0, 0, 0),
  (66, .istore_n 2, 1, 0, 0, 0, 0),
  (67, .iinc 3 1, 3, 0, 0, 1, 0),
  (70, .goto (-55), 3, 15, 0, 0, 0),
  (73, .iload_n 2, 1, 0, 0, 0, 0),
  (74, .ireturn, 1, 0, 0, 0, 0)]
set_option maxRecDepth 100000 in
set_option maxHeartbeats 4000000 in
theorem kk_129_1 : k_129_1.all (entOK (mCi 129) (mB 129)) = true := by decide +kernel
def k_129 : List XI := k_129_0 ++ (k_129_1)
theorem kk_129 : k_129.all (entOK (mCi 129) (mB 129)) = true := all_app kk_129_0 (kk_129_1)
set_option maxRecDepth 100000 in
set_option maxHeartbeats 4000000 in
theorem fC_kindsByRow {E : XE} {h : Mem} {Q : Int32 → Mem → Prop} {a1 : Int32} 
    (hF : CALLV E mD_copyFrom [.ref 15, .ref 1] h fun h1 => WP E mC_kindsByRow 15 [some (.ref 0), some (.int a1), some (.int 0), some (.int 0)] [] h1 (qI Q)) :
    CALLI E mC_kindsByRow [.ref 0, .int a1] h Q := CALL_of rfl (wp_sound [(15, [1, 1, 1, 1])] kk_129 10 hF)
set_option maxRecDepth 100000 in
set_option maxHeartbeats 4000000 in
theorem fC_kindsByRow_15 {E : XE} {h : Mem} {Q : Int32 → Mem → Prop} {x1 : Int32} {x2 : Int32} {x3 : Int32} 
    (hF : (6 ≤ x3 → Q x2 h) ∧ (¬ 6 ≤ x3 → cnd (inb x1 6) (CALLV E mD_setKind [.ref 15, .int x1, .int x3, .int (h 8 (ix x1))] h fun h1 => CALLI E mPW_beginsWith [.ref 43, .ref 15, .ref 58, .int (h1 0 10)] h1 fun v2 h2 => (v2 = 0 → WP E mC_kindsByRow 15 [some (.ref 0), some (.int x1), some (.int x2), some (.int (x3 + 1))] [] h2 (qI Q)) ∧ (¬ v2 = 0 → WP E mC_kindsByRow 15 [some (.ref 0), some (.int x1), some (.int (x2 ||| (shl 1 x3))), some (.int (x3 + 1))] [] h2 (qI Q))))) :
    WP E mC_kindsByRow 15 [some (.ref 0), some (.int x1), some (.int x2), some (.int x3)] [] h (qI Q) := wp_sound [(15, [1, 1, 1, 1])] kk_129 32 hF
def k_130_0 : List XI := [(0, .aload_n 0, 1, 0, 0, 0, 0),
  (1, .getfield 16, 3, 6, 1, 0, 0),
  (4, .aload_n 0, 1, 0, 0, 0, 0),
  (5, .getfield 10, 3, 6, 0, 0, 0),
  (8, .invokevirtual 90, 3, 2, 0, 0, 0),
  (11, .iconst 0, 1, 0, 0, 0, 0),
  (12, .istore_n 2, 1, 0, 0, 0, 0),
  (13, .iconst 0, 1, 0, 0, 0, 0),
  (14, .istore_n 3, 1, 0, 0, 0, 0),
  (15, .iload_n 3, 1, 0, 0, 0, 0),
  (16, .bipush 9, 2, 0, 0, 9, 0),
  (18, .if_icmp .gt 55, 3, 73, 0, 0, 0),
  (21, .aload_n 0, 1, 0, 0, 0, 0),
  (22, .getfield 16, 3, 6, 1, 0, 0),
  (25, .iload_n 1, 1, 0, 0, 0, 0),
  (26, .aload_n 0, 1, 0, 0, 0, 0),
  (27, .getfield 10, 3, 6, 0, 0, 0),
  (30, .getfield 137, 3, 0, 7, 0, 0),
  (33, .iload_n 1, 1, 0, 0, 0, 0),
  (34, .iaload, 1, 0, 0, 0, 0),
  (35, .iload_n 3, 1, 0, 0, 0, 0),
  (36, .invokevirtual 143, 3, 9, 0, 0, 0),
  (39, .aload_n 0, 1, 0, 0, 0, 0),
  (40, .getfield 29, 3, 6, 4, 0, 0),
  (43, .aload_n 0, 1, 0, 0, 0, 0),
  (44, .getfield 16, 3, 6, 1, 0, 0),
  (47, .aload_n 0, 1, 0, 0, 0, 0),
  (48, .getfield 61, 3, 6, 9, 0, 0),
  (51, .aload_n 0, 1, 0, 0, 0, 0),
  (52, .getfield 65, 3, 6, 10, 0, 0)]
set_option maxRecDepth 100000 in
set_option maxHeartbeats 4000000 in
theorem kk_130_0 : k_130_0.all (entOK (mCi 130) (mB 130)) = true := by decide +kernel
def k_130_1 : List XI := [(55, .invokevirtual 303, 3, 26, 1, 0, 0),
  (58, .ifCond .eq 9, 3, 67, 0, 0, 0),
  (61, .iload_n 2, 1, 0, 0, 0, 0),
  (62, .iconst 1, 1, 0, 0, 1, 0),
  (63, .iload_n 3, 1, 0, 0, 0, 0),
  (64, .ishl, 1, 0, 0, 0, 0),
  (65, .ior, 1, 0, 0, 0, 0),
  (66, .istore_n 2, 1, 0, 0, 0, 0),
  (67, .iinc 3 1, 3, 0, 0, 1, 0),
  (70, .goto (-55), 3, 15, 0, 0, 0),
  (73, .iload_n 2, 1, 0, 0, 0, 0),
  (74, .ireturn, 1, 0, 0, 0, 0)]
set_option maxRecDepth 100000 in
set_option maxHeartbeats 4000000 in
theorem kk_130_1 : k_130_1.all (entOK (mCi 130) (mB 130)) = true := by decide +kernel
def k_130 : List XI := k_130_0 ++ (k_130_1)
theorem kk_130 : k_130.all (entOK (mCi 130) (mB 130)) = true := all_app kk_130_0 (kk_130_1)
set_option maxRecDepth 100000 in
set_option maxHeartbeats 4000000 in
theorem fC_figuresByRow {E : XE} {h : Mem} {Q : Int32 → Mem → Prop} {a1 : Int32} 
    (hF : CALLV E mD_copyFrom [.ref 15, .ref 1] h fun h1 => WP E mC_figuresByRow 15 [some (.ref 0), some (.int a1), some (.int 0), some (.int 0)] [] h1 (qI Q)) :
    CALLI E mC_figuresByRow [.ref 0, .int a1] h Q := CALL_of rfl (wp_sound [(15, [1, 1, 1, 1])] kk_130 10 hF)
set_option maxRecDepth 100000 in
set_option maxHeartbeats 4000000 in
theorem fC_figuresByRow_15 {E : XE} {h : Mem} {Q : Int32 → Mem → Prop} {x1 : Int32} {x2 : Int32} {x3 : Int32} 
    (hF : (9 < x3 → Q x2 h) ∧ (¬ 9 < x3 → cnd (inb x1 6) (CALLV E mD_setKind [.ref 15, .int x1, .int (h 7 (ix x1)), .int x3] h fun h1 => CALLI E mPW_beginsWith [.ref 43, .ref 15, .ref 58, .int (h1 0 10)] h1 fun v2 h2 => (v2 = 0 → WP E mC_figuresByRow 15 [some (.ref 0), some (.int x1), some (.int x2), some (.int (x3 + 1))] [] h2 (qI Q)) ∧ (¬ v2 = 0 → WP E mC_figuresByRow 15 [some (.ref 0), some (.int x1), some (.int (x2 ||| (shl 1 x3))), some (.int (x3 + 1))] [] h2 (qI Q))))) :
    WP E mC_figuresByRow 15 [some (.ref 0), some (.int x1), some (.int x2), some (.int x3)] [] h (qI Q) := wp_sound [(15, [1, 1, 1, 1])] kk_130 32 hF
def k_131_0 : List XI := [(0, .aload_n 0, 1, 0, 0, 0, 0),
  (1, .getfield 65, 3, 6, 10, 0, 0),
  (4, .aload_n 0, 1, 0, 0, 0, 0),
  (5, .getfield 10, 3, 6, 0, 0, 0),
  (8, .getfield 283, 3, 0, 0, 0, 0),
  (11, .invokestatic 307, 3, 998, 0, 0, 0),
  (14, .istore_n 2, 1, 0, 0, 0, 0),
  (15, .iconst 0, 1, 0, 0, 0, 0),
  (16, .istore_n 3, 1, 0, 0, 0, 0),
  (17, .iload_n 3, 1, 0, 0, 0, 0),
  (18, .iload_n 2, 1, 0, 0, 0, 0),
  (19, .if_icmp .ge 45, 3, 64, 0, 0, 0),
  (22, .iload_n 3, 1, 0, 0, 0, 0),
  (23, .aload_n 0, 1, 0, 0, 0, 0),
  (24, .getfield 65, 3, 6, 10, 0, 0),
  (27, .if_icmp .ge 29, 3, 56, 0, 0, 0),
  (30, .iload_n 3, 1, 0, 0, 0, 0),
  (31, .aload_n 0, 1, 0, 0, 0, 0),
  (32, .getfield 10, 3, 6, 0, 0, 0),
  (35, .getfield 283, 3, 0, 0, 0, 0),
  (38, .if_icmp .ge 18, 3, 56, 0, 0, 0),
  (41, .aload_n 0, 1, 0, 0, 0, 0),
  (42, .getfield 61, 3, 6, 9, 0, 0),
  (45, .iload_n 3, 1, 0, 0, 0, 0),
  (46, .iaload, 1, 0, 0, 0, 0),
  (47, .aload_n 0, 1, 0, 0, 0, 0),
  (48, .iload_n 1, 1, 0, 0, 0, 0),
  (49, .iload_n 3, 1, 0, 0, 0, 0),
  (50, .invokevirtual 312, 3, 132, 1, 0, 0),
  (53, .if_icmp .eq 5, 3, 58, 0, 0, 0)]
set_option maxRecDepth 100000 in
set_option maxHeartbeats 4000000 in
theorem kk_131_0 : k_131_0.all (entOK (mCi 131) (mB 131)) = true := by decide +kernel
def k_131_1 : List XI := [(56, .iload_n 3, 1, 0, 0, 0, 0),
  (57, .ireturn, 1, 0, 0, 0, 0),
  (58, .iinc 3 1, 3, 0, 0, 1, 0),
  (61, .goto (-44), 3, 17, 0, 0, 0),
  (64, .bipush (-9), 2, 0, 0, (-9), 0),
  (66, .ireturn, 1, 0, 0, 0, 0)]
set_option maxRecDepth 100000 in
set_option maxHeartbeats 4000000 in
theorem kk_131_1 : k_131_1.all (entOK (mCi 131) (mB 131)) = true := by decide +kernel
def k_131 : List XI := k_131_0 ++ (k_131_1)
theorem kk_131 : k_131.all (entOK (mCi 131) (mB 131)) = true := all_app kk_131_0 (kk_131_1)
set_option maxRecDepth 100000 in
set_option maxHeartbeats 4000000 in
theorem fC_firstWrongInRow {E : XE} {h : Mem} {Q : Int32 → Mem → Prop} {a1 : Int32} 
    (hF : WP E mC_firstWrongInRow 17 [some (.ref 0), some (.int a1), some (.int (imax (h 0 10) (h 1 0))), some (.int 0)] [] h (qI Q)) :
    CALLI E mC_firstWrongInRow [.ref 0, .int a1] h Q := CALL_of rfl (wp_sound [(17, [1, 1, 1, 1])] kk_131 10 hF)
set_option maxRecDepth 100000 in
set_option maxHeartbeats 4000000 in
theorem fC_firstWrongInRow_17 {E : XE} {h : Mem} {Q : Int32 → Mem → Prop} {x1 : Int32} {x2 : Int32} {x3 : Int32} 
    (hF : (x2 ≤ x3 → Q (-9) h) ∧ (¬ x2 ≤ x3 → ((h 0 10) ≤ x3 → Q x3 h) ∧ (¬ (h 0 10) ≤ x3 → ((h 1 0) ≤ x3 → Q x3 h) ∧ (¬ (h 1 0) ≤ x3 → cnd (inb x3 8) (CALLI E mC_dueInRow [.ref 0, .int x1, .int x3] h fun v1 h1 => ((h 58 (ix x3)) = v1 → WP E mC_firstWrongInRow 17 [some (.ref 0), some (.int x1), some (.int x2), some (.int (x3 + 1))] [] h1 (qI Q)) ∧ (¬ (h 58 (ix x3)) = v1 → Q x3 h1)))))) :
    WP E mC_firstWrongInRow 17 [some (.ref 0), some (.int x1), some (.int x2), some (.int x3)] [] h (qI Q) := wp_sound [(17, [1, 1, 1, 1])] kk_131 24 hF
def k_132 : List XI := [(0, .aload_n 0, 1, 0, 0, 0, 0),
  (1, .getfield 10, 3, 6, 0, 0, 0),
  (4, .iload_n 2, 1, 0, 0, 0, 0),
  (5, .invokevirtual 113, 3, 5, 1, 0, 0),
  (8, .ifCond .ne 5, 3, 13, 0, 0, 0),
  (11, .iconst 0, 1, 0, 0, 0, 0),
  (12, .ireturn, 1, 0, 0, 0, 0),
  (13, .aload_n 0, 1, 0, 0, 0, 0),
  (14, .getfield 36, 3, 6, 5, 0, 0),
  (17, .aload_n 0, 1, 0, 0, 0, 0),
  (18, .getfield 10, 3, 6, 0, 0, 0),
  (21, .iload_n 1, 1, 0, 0, 0, 0),
  (22, .iload_n 2, 1, 0, 0, 0, 0),
  (23, .invokevirtual 195, 3, 37, 1, 0, 0),
  (26, .istore_n 3, 1, 0, 0, 0, 0),
  (27, .iload_n 3, 1, 0, 0, 0, 0),
  (28, .bipush (-9), 2, 0, 0, (-9), 0),
  (30, .if_icmp .ne 7, 3, 37, 0, 0, 0),
  (33, .iconst 0, 1, 0, 0, 0, 0),
  (34, .goto 4, 3, 38, 0, 0, 0),
  (37, .iload_n 3, 1, 0, 0, 0, 0),
  (38, .ireturn, 1, 0, 0, 0, 0)]
set_option maxRecDepth 100000 in
set_option maxHeartbeats 4000000 in
theorem kk_132 : k_132.all (entOK (mCi 132) (mB 132)) = true := by decide +kernel
set_option maxRecDepth 100000 in
set_option maxHeartbeats 4000000 in
theorem fC_dueInRow {E : XE} {h : Mem} {Q : Int32 → Mem → Prop} {a1 : Int32} {a2 : Int32} 
    (hF : CALLI E mD_isOn [.ref 1, .int a2] h fun v1 h1 => (¬ v1 = 0 → CALLI E mRS_settleBy [.ref 44, .ref 1, .int a1, .int a2] h1 fun v2 h2 => (¬ v2 = (-9) → Q v2 h2) ∧ (v2 = (-9) → Q 0 h2)) ∧ (v1 = 0 → Q 0 h1)) :
    CALLI E mC_dueInRow [.ref 0, .int a1, .int a2] h Q := CALL_of rfl (wp_sound [] kk_132 20 hF)
def k_133 : List XI := [(0, .iconst 0, 1, 0, 0, 0, 0),
  (1, .istore_n 1, 1, 0, 0, 0, 0),
  (2, .iload_n 1, 1, 0, 0, 0, 0),
  (3, .aload_n 0, 1, 0, 0, 0, 0),
  (4, .getfield 16, 3, 6, 1, 0, 0),
  (7, .getfield 283, 3, 0, 0, 0, 0),
  (10, .if_icmp .ge 26, 3, 36, 0, 0, 0),
  (13, .aload_n 0, 1, 0, 0, 0, 0),
  (14, .getfield 16, 3, 6, 1, 0, 0),
  (17, .getfield 131, 3, 0, 2, 0, 0),
  (20, .iload_n 1, 1, 0, 0, 0, 0),
  (21, .iconst 1, 1, 0, 0, 1, 0),
  (22, .aload_n 0, 1, 0, 0, 0, 0),
  (23, .bipush 9, 2, 0, 0, 9, 0),
  (25, .invokevirtual 315, 3, 134, 1, 0, 0),
  (28, .iadd, 1, 0, 0, 0, 0),
  (29, .iastore, 1, 0, 0, 0, 0),
  (30, .iinc 1 1, 3, 0, 0, 1, 0),
  (33, .goto (-31), 3, 2, 0, 0, 0),
  (36, .return_, 1, 0, 0, 0, 0)]
set_option maxRecDepth 100000 in
set_option maxHeartbeats 4000000 in
theorem kk_133 : k_133.all (entOK (mCi 133) (mB 133)) = true := by decide +kernel
set_option maxRecDepth 100000 in
set_option maxHeartbeats 4000000 in
theorem fC_drawCosts {E : XE} {h : Mem} {Q : Mem → Prop}  
    (hF : WP E mC_drawCosts 2 [some (.ref 0), some (.int 0)] [] h (qV Q)) :
    CALLV E mC_drawCosts [.ref 0] h Q := CALL_of rfl (wp_sound [(2, [1, 1])] kk_133 3 hF)
set_option maxRecDepth 100000 in
set_option maxHeartbeats 4000000 in
theorem fC_drawCosts_2 {E : XE} {h : Mem} {Q : Mem → Prop} {x1 : Int32} 
    (hF : ((h 15 0) ≤ x1 → Q h) ∧ (¬ (h 15 0) ≤ x1 → CALLI E mC_draw [.ref 0, .int 9] h fun v1 h1 => cnd (inb x1 6) (WP E mC_drawCosts 2 [some (.ref 0), some (.int (x1 + 1))] [] (upd2 h1 16 (ix x1) (1 + v1)) (qV Q)))) :
    WP E mC_drawCosts 2 [some (.ref 0), some (.int x1)] [] h (qV Q) := wp_sound [(2, [1, 1])] kk_133 18 hF
def k_134 : List XI := [(0, .aload_n 0, 1, 0, 0, 0, 0),
  (1, .aload_n 0, 1, 0, 0, 0, 0),
  (2, .getfield 72, 3, 6, 12, 0, 0),
  (5, .ldc_w 318, 3, 0, 0, 1664525, 0),
  (8, .imul, 1, 0, 0, 0, 0),
  (9, .ldc_w 319, 3, 0, 0, 1013904223, 0),
  (12, .iadd, 1, 0, 0, 0, 0),
  (13, .putfield 72, 3, 6, 12, 0, 0),
  (16, .iload_n 1, 1, 0, 0, 0, 0),
  (17, .ifCond .le 19, 3, 36, 0, 0, 0),
  (20, .aload_n 0, 1, 0, 0, 0, 0),
  (21, .getfield 72, 3, 6, 12, 0, 0),
  (24, .ldc 181, 2, 0, 0, 2147483647, 0),
  (26, .iand, 1, 0, 0, 0, 0),
  (27, .sipush 256, 3, 0, 0, 256, 0),
  (30, .idiv, 1, 0, 0, 0, 0),
  (31, .iload_n 1, 1, 0, 0, 0, 0),
  (32, .irem, 1, 0, 0, 0, 0),
  (33, .goto 4, 3, 37, 0, 0, 0),
  (36, .iconst 0, 1, 0, 0, 0, 0),
  (37, .ireturn, 1, 0, 0, 0, 0)]
set_option maxRecDepth 100000 in
set_option maxHeartbeats 4000000 in
theorem kk_134 : k_134.all (entOK (mCi 134) (mB 134)) = true := by decide +kernel
set_option maxRecDepth 100000 in
set_option maxHeartbeats 4000000 in
theorem fC_draw {E : XE} {h : Mem} {Q : Int32 → Mem → Prop} {a1 : Int32} 
    (hF : (a1 ≤ 0 → Q 0 (upd2 h 0 12 (((h 0 12) * 1664525) + 1013904223))) ∧ (¬ a1 ≤ 0 → cnd (nz a1) (Q (remI ((((upd2 h 0 12 (((h 0 12) * 1664525) + 1013904223)) 0 12) &&& 2147483647) / 256) a1) (upd2 h 0 12 (((h 0 12) * 1664525) + 1013904223))))) :
    CALLI E mC_draw [.ref 0, .int a1] h Q := CALL_of rfl (wp_sound [] kk_134 21 hF)
