def k_44 : List XI := [(0, .iload_n 1, 1, 0, 0, 0, 0),
  (1, .ifCond .lt 18, 3, 19, 0, 0, 0),
  (4, .iload_n 1, 1, 0, 0, 0, 0),
  (5, .bipush 60, 2, 0, 0, 60, 0),
  (7, .if_icmp .ge 12, 3, 19, 0, 0, 0),
  (10, .aload_n 0, 1, 0, 0, 0, 0),
  (11, .getfield 9, 3, 5, 0, 0, 0),
  (14, .iload_n 1, 1, 0, 0, 0, 0),
  (15, .iaload, 1, 0, 0, 0, 0),
  (16, .goto 5, 3, 21, 0, 0, 0),
  (19, .bipush (-9), 2, 0, 0, (-9), 0),
  (21, .ireturn, 1, 0, 0, 0, 0)]
set_option maxRecDepth 100000 in
set_option maxHeartbeats 4000000 in
theorem kk_44 : k_44.all (entOK (mCi 44) (mB 44)) = true := by decide +kernel
set_option maxRecDepth 100000 in
set_option maxHeartbeats 4000000 in
theorem fTI_workedAt {E : XE} {h : Mem} {Q : Int32 → Mem → Prop} {a1 : Int32} 
    (hF : (a1 < 0 → Q (-9) h) ∧ (¬ a1 < 0 → (60 ≤ a1 → Q (-9) h) ∧ (¬ 60 ≤ a1 → cnd (inb a1 60) (Q (h 49 (ix a1)) h)))) :
    CALLI E mTI_workedAt [.ref 48, .int a1] h Q := CALL_of rfl (wp_sound [] kk_44 12 hF)
def k_45 : List XI := [(0, .aload_n 0, 1, 0, 0, 0, 0),
  (1, .getfield 15, 3, 5, 1, 0, 0),
  (4, .iload_n 1, 1, 0, 0, 0, 0),
  (5, .iaload, 1, 0, 0, 0, 0),
  (6, .ireturn, 1, 0, 0, 0, 0)]
set_option maxRecDepth 100000 in
set_option maxHeartbeats 4000000 in
theorem kk_45 : k_45.all (entOK (mCi 45) (mB 45)) = true := by decide +kernel
set_option maxRecDepth 100000 in
set_option maxHeartbeats 4000000 in
theorem fTI_doneOf {E : XE} {h : Mem} {Q : Int32 → Mem → Prop} {a1 : Int32} 
    (hF : cnd (inb a1 6) (Q (h 50 (ix a1)) h)) :
    CALLI E mTI_doneOf [.ref 48, .int a1] h Q := CALL_of rfl (wp_sound [] kk_45 6 hF)
def k_46 : List XI := [(0, .aload_n 0, 1, 0, 0, 0, 0),
  (1, .getfield 18, 3, 5, 2, 0, 0),
  (4, .iload_n 1, 1, 0, 0, 0, 0),
  (5, .iaload, 1, 0, 0, 0, 0),
  (6, .ireturn, 1, 0, 0, 0, 0)]
set_option maxRecDepth 100000 in
set_option maxHeartbeats 4000000 in
theorem kk_46 : k_46.all (entOK (mCi 46) (mB 46)) = true := by decide +kernel
set_option maxRecDepth 100000 in
set_option maxHeartbeats 4000000 in
theorem fTI_missedOf {E : XE} {h : Mem} {Q : Int32 → Mem → Prop} {a1 : Int32} 
    (hF : cnd (inb a1 6) (Q (h 51 (ix a1)) h)) :
    CALLI E mTI_missedOf [.ref 48, .int a1] h Q := CALL_of rfl (wp_sound [] kk_46 6 hF)
def k_47 : List XI := [(0, .aload_n 0, 1, 0, 0, 0, 0),
  (1, .getfield 21, 3, 5, 3, 0, 0),
  (4, .ireturn, 1, 0, 0, 0, 0)]
set_option maxRecDepth 100000 in
set_option maxHeartbeats 4000000 in
theorem kk_47 : k_47.all (entOK (mCi 47) (mB 47)) = true := by decide +kernel
set_option maxRecDepth 100000 in
set_option maxHeartbeats 4000000 in
theorem fTI_firstMissTime {E : XE} {h : Mem} {Q : Int32 → Mem → Prop}  
    (hF : Q (h 48 3) h) :
    CALLI E mTI_firstMissTime [.ref 48] h Q := CALL_of rfl (wp_sound [] kk_47 4 hF)
def k_48 : List XI := [(0, .aload_n 0, 1, 0, 0, 0, 0),
  (1, .getfield 25, 3, 5, 4, 0, 0),
  (4, .ireturn, 1, 0, 0, 0, 0)]
set_option maxRecDepth 100000 in
set_option maxHeartbeats 4000000 in
theorem kk_48 : k_48.all (entOK (mCi 48) (mB 48)) = true := by decide +kernel
set_option maxRecDepth 100000 in
set_option maxHeartbeats 4000000 in
theorem fTI_firstMissTask {E : XE} {h : Mem} {Q : Int32 → Mem → Prop}  
    (hF : Q (h 48 4) h) :
    CALLI E mTI_firstMissTask [.ref 48] h Q := CALL_of rfl (wp_sound [] kk_48 4 hF)
def k_49_0 : List XI := [(0, .aload_n 0, 1, 0, 0, 0, 0),
  (1, .invokevirtual 40, 3, 50, 0, 0, 0),
  (4, .iconst 0, 1, 0, 0, 0, 0),
  (5, .istore_n 3, 1, 0, 0, 0, 0),
  (6, .iload_n 3, 1, 0, 0, 0, 0),
  (7, .bipush 60, 2, 0, 0, 60, 0),
  (9, .if_icmp .ge 61, 3, 70, 0, 0, 0),
  (12, .aload_n 0, 1, 0, 0, 0, 0),
  (13, .iload_n 3, 1, 0, 0, 0, 0),
  (14, .invokevirtual 43, 3, 51, 0, 0, 0),
  (17, .iconst 0, 1, 0, 0, 0, 0),
  (18, .istore 4, 2, 0, 0, 0, 0),
  (20, .iload 4, 2, 0, 0, 0, 0),
  (22, .aload_n 1, 1, 0, 0, 0, 0),
  (23, .getfield 47, 3, 0, 0, 0, 0),
  (26, .if_icmp .ge 26, 3, 52, 0, 0, 0),
  (29, .aload_n 1, 1, 0, 0, 0, 0),
  (30, .iload 4, 2, 0, 0, 0, 0),
  (32, .invokevirtual 52, 3, 5, 1, 0, 0),
  (35, .ifCond .eq 11, 3, 46, 0, 0, 0),
  (38, .aload_n 0, 1, 0, 0, 0, 0),
  (39, .aload_n 1, 1, 0, 0, 0, 0),
  (40, .iload 4, 2, 0, 0, 0, 0),
  (42, .iload_n 3, 1, 0, 0, 0, 0),
  (43, .invokevirtual 56, 3, 54, 0, 0, 0),
  (46, .iinc 4 1, 3, 0, 0, 1, 0),
  (49, .goto (-29), 3, 20, 0, 0, 0),
  (52, .aload_n 0, 1, 0, 0, 0, 0),
  (53, .getfield 9, 3, 5, 0, 0, 0),
  (56, .iload_n 3, 1, 0, 0, 0, 0)]
set_option maxRecDepth 100000 in
set_option maxHeartbeats 4000000 in
theorem kk_49_0 : k_49_0.all (entOK (mCi 49) (mB 49)) = true := by decide +kernel
def k_49_1 : List XI := [(57, .aload_n 0, 1, 0, 0, 0, 0),
  (58, .aload_n 1, 1, 0, 0, 0, 0),
  (59, .iload_n 2, 1, 0, 0, 0, 0),
  (60, .invokevirtual 60, 3, 57, 1, 0, 0),
  (63, .iastore, 1, 0, 0, 0, 0),
  (64, .iinc 3 1, 3, 0, 0, 1, 0),
  (67, .goto (-61), 3, 6, 0, 0, 0),
  (70, .aload_n 0, 1, 0, 0, 0, 0),
  (71, .bipush 60, 2, 0, 0, 60, 0),
  (73, .invokevirtual 43, 3, 51, 0, 0, 0),
  (76, .return_, 1, 0, 0, 0, 0)]
set_option maxRecDepth 100000 in
set_option maxHeartbeats 4000000 in
theorem kk_49_1 : k_49_1.all (entOK (mCi 49) (mB 49)) = true := by decide +kernel
def k_49 : List XI := k_49_0 ++ (k_49_1)
theorem kk_49 : k_49.all (entOK (mCi 49) (mB 49)) = true := all_app kk_49_0 (kk_49_1)
set_option maxRecDepth 100000 in
set_option maxHeartbeats 4000000 in
theorem fTI_play {E : XE} {h : Mem} {Q : Mem → Prop} {p : Nat} {a2 : Int32} (hp : p = 1 ∨ p = 15 ∨ p = 29)
    (hF : CALLV E mTI_forget [.ref 48] h fun h1 => WP E mTI_play 6 [some (.ref 48), some (.ref p), some (.int a2), some (.int 0), none] [] h1 (qV Q)) :
    CALLV E mTI_play [.ref 48, .ref p, .int a2] h Q := by
  rcases hp with rfl | rfl | rfl
  all_goals exact CALL_of rfl (wp_sound [(6, [1, 1, 1, 1, 0]), (20, [1, 1, 1, 1, 1])] kk_49 5 hF)
set_option maxRecDepth 100000 in
set_option maxHeartbeats 4000000 in
theorem fTI_play_6 {E : XE} {h : Mem} {Q : Mem → Prop} {p : Nat} {x2 : Int32} {x3 : Int32} (hp : p = 1 ∨ p = 15 ∨ p = 29)
    (hF : (60 ≤ x3 → CALLV E mTI_dropMissed [.ref 48, .int 60] h fun h1 => Q h1) ∧ (¬ 60 ≤ x3 → CALLV E mTI_dropMissed [.ref 48, .int x3] h fun h2 => WP E mTI_play 20 [some (.ref 48), some (.ref p), some (.int x2), some (.int x3), some (.int 0)] [] h2 (qV Q))) :
    WP E mTI_play 6 [some (.ref 48), some (.ref p), some (.int x2), some (.int x3), none] [] h (qV Q) := by
  rcases hp with rfl | rfl | rfl
  all_goals exact wp_sound [(6, [1, 1, 1, 1, 0]), (20, [1, 1, 1, 1, 1])] kk_49 9 hF
set_option maxRecDepth 100000 in
set_option maxHeartbeats 4000000 in
theorem fTI_play_20 {E : XE} {h : Mem} {Q : Mem → Prop} {p : Nat} {x2 : Int32} {x3 : Int32} {x4 : Int32} (hp : p = 1 ∨ p = 15 ∨ p = 29)
    (hF : ((h p 0) ≤ x4 → CALLI E mTI_workOne [.ref 48, .ref p, .int x2] h fun v1 h1 => cnd (inb x3 60) (WP E mTI_play 6 [some (.ref 48), some (.ref p), some (.int x2), some (.int (x3 + 1)), none] [] (upd2 h1 49 (ix x3) v1) (qV Q))) ∧ (¬ (h p 0) ≤ x4 → CALLI E mD_isOn [.ref p, .int x4] h fun v2 h2 => (v2 = 0 → WP E mTI_play 20 [some (.ref 48), some (.ref p), some (.int x2), some (.int x3), some (.int (x4 + 1))] [] h2 (qV Q)) ∧ (¬ v2 = 0 → CALLV E mTI_letCome [.ref 48, .ref p, .int x4, .int x3] h2 fun h3 => WP E mTI_play 20 [some (.ref 48), some (.ref p), some (.int x2), some (.int x3), some (.int (x4 + 1))] [] h3 (qV Q)))) :
    WP E mTI_play 20 [some (.ref 48), some (.ref p), some (.int x2), some (.int x3), some (.int x4)] [] h (qV Q) := by
  rcases hp with rfl | rfl | rfl
  all_goals exact wp_sound [(6, [1, 1, 1, 1, 0]), (20, [1, 1, 1, 1, 1])] kk_49 16 hF
def k_50 : List XI := [(0, .aload_n 0, 1, 0, 0, 0, 0),
  (1, .iconst 0, 1, 0, 0, 0, 0),
  (2, .putfield 37, 3, 5, 8, 0, 0),
  (5, .aload_n 0, 1, 0, 0, 0, 0),
  (6, .bipush (-9), 2, 0, 0, (-9), 0),
  (8, .putfield 21, 3, 5, 3, 0, 0),
  (11, .aload_n 0, 1, 0, 0, 0, 0),
  (12, .bipush (-9), 2, 0, 0, (-9), 0),
  (14, .putfield 25, 3, 5, 4, 0, 0),
  (17, .iconst 0, 1, 0, 0, 0, 0),
  (18, .istore_n 1, 1, 0, 0, 0, 0),
  (19, .iload_n 1, 1, 0, 0, 0, 0),
  (20, .bipush 6, 2, 0, 0, 6, 0),
  (22, .if_icmp .ge 23, 3, 45, 0, 0, 0),
  (25, .aload_n 0, 1, 0, 0, 0, 0),
  (26, .getfield 15, 3, 5, 1, 0, 0),
  (29, .iload_n 1, 1, 0, 0, 0, 0),
  (30, .iconst 0, 1, 0, 0, 0, 0),
  (31, .iastore, 1, 0, 0, 0, 0),
  (32, .aload_n 0, 1, 0, 0, 0, 0),
  (33, .getfield 18, 3, 5, 2, 0, 0),
  (36, .iload_n 1, 1, 0, 0, 0, 0),
  (37, .iconst 0, 1, 0, 0, 0, 0),
  (38, .iastore, 1, 0, 0, 0, 0),
  (39, .iinc 1 1, 3, 0, 0, 1, 0),
  (42, .goto (-23), 3, 19, 0, 0, 0),
  (45, .return_, 1, 0, 0, 0, 0)]
set_option maxRecDepth 100000 in
set_option maxHeartbeats 4000000 in
theorem kk_50 : k_50.all (entOK (mCi 50) (mB 50)) = true := by decide +kernel
set_option maxRecDepth 100000 in
set_option maxHeartbeats 4000000 in
theorem fTI_forget {E : XE} {h : Mem} {Q : Mem → Prop}  
    (hF : WP E mTI_forget 19 [some (.ref 48), some (.int 0)] [] (upd2 (upd2 (upd2 h 48 8 0) 48 3 (-9)) 48 4 (-9)) (qV Q)) :
    CALLV E mTI_forget [.ref 48] h Q := CALL_of rfl (wp_sound [(19, [1, 1])] kk_50 12 hF)
set_option maxRecDepth 100000 in
set_option maxHeartbeats 4000000 in
theorem fTI_forget_19 {E : XE} {h : Mem} {Q : Mem → Prop} {x1 : Int32} 
    (hF : (6 ≤ x1 → Q h) ∧ (¬ 6 ≤ x1 → cnd (inb x1 6) (cnd (inb x1 6) (WP E mTI_forget 19 [some (.ref 48), some (.int (x1 + 1))] [] (upd2 (upd2 h 50 (ix x1) 0) 51 (ix x1) 0) (qV Q))))) :
    WP E mTI_forget 19 [some (.ref 48), some (.int x1)] [] h (qV Q) := wp_sound [(19, [1, 1])] kk_50 16 hF
def k_51_0 : List XI := [(0, .iconst 0, 1, 0, 0, 0, 0),
  (1, .istore_n 2, 1, 0, 0, 0, 0),
  (2, .iconst 0, 1, 0, 0, 0, 0),
  (3, .istore_n 3, 1, 0, 0, 0, 0),
  (4, .iload_n 3, 1, 0, 0, 0, 0),
  (5, .aload_n 0, 1, 0, 0, 0, 0),
  (6, .getfield 37, 3, 5, 8, 0, 0),
  (9, .if_icmp .ge 42, 3, 51, 0, 0, 0),
  (12, .aload_n 0, 1, 0, 0, 0, 0),
  (13, .getfield 31, 3, 5, 6, 0, 0),
  (16, .iload_n 3, 1, 0, 0, 0, 0),
  (17, .iaload, 1, 0, 0, 0, 0),
  (18, .iload_n 1, 1, 0, 0, 0, 0),
  (19, .if_icmp .gt 17, 3, 36, 0, 0, 0),
  (22, .aload_n 0, 1, 0, 0, 0, 0),
  (23, .aload_n 0, 1, 0, 0, 0, 0),
  (24, .getfield 28, 3, 5, 5, 0, 0),
  (27, .iload_n 3, 1, 0, 0, 0, 0),
  (28, .iaload, 1, 0, 0, 0, 0),
  (29, .iload_n 1, 1, 0, 0, 0, 0),
  (30, .invokevirtual 64, 3, 53, 0, 0, 0),
  (33, .goto 12, 3, 45, 0, 0, 0),
  (36, .aload_n 0, 1, 0, 0, 0, 0),
  (37, .iload_n 3, 1, 0, 0, 0, 0),
  (38, .iload_n 2, 1, 0, 0, 0, 0),
  (39, .invokevirtual 68, 3, 52, 0, 0, 0),
  (42, .iinc 2 1, 3, 0, 0, 1, 0),
  (45, .iinc 3 1, 3, 0, 0, 1, 0),
  (48, .goto (-44), 3, 4, 0, 0, 0),
  (51, .aload_n 0, 1, 0, 0, 0, 0)]
set_option maxRecDepth 100000 in
set_option maxHeartbeats 4000000 in
theorem kk_51_0 : k_51_0.all (entOK (mCi 51) (mB 51)) = true := by decide +kernel
def k_51_1 : List XI := [(52, .iload_n 2, 1, 0, 0, 0, 0),
  (53, .putfield 37, 3, 5, 8, 0, 0),
  (56, .return_, 1, 0, 0, 0, 0)]
set_option maxRecDepth 100000 in
set_option maxHeartbeats 4000000 in
theorem kk_51_1 : k_51_1.all (entOK (mCi 51) (mB 51)) = true := by decide +kernel
def k_51 : List XI := k_51_0 ++ (k_51_1)
theorem kk_51 : k_51.all (entOK (mCi 51) (mB 51)) = true := all_app kk_51_0 (kk_51_1)
set_option maxRecDepth 100000 in
set_option maxHeartbeats 4000000 in
theorem fTI_dropMissed {E : XE} {h : Mem} {Q : Mem → Prop} {a1 : Int32} 
    (hF : WP E mTI_dropMissed 4 [some (.ref 48), some (.int a1), some (.int 0), some (.int 0)] [] h (qV Q)) :
    CALLV E mTI_dropMissed [.ref 48, .int a1] h Q := CALL_of rfl (wp_sound [(4, [1, 1, 1, 1])] kk_51 5 hF)
set_option maxRecDepth 100000 in
set_option maxHeartbeats 4000000 in
theorem fTI_dropMissed_4 {E : XE} {h : Mem} {Q : Mem → Prop} {x1 : Int32} {x2 : Int32} {x3 : Int32} 
    (hF : ((h 48 8) ≤ x3 → Q (upd2 h 48 8 x2)) ∧ (¬ (h 48 8) ≤ x3 → cnd (inb x3 360) ((x1 < (h 53 (ix x3)) → CALLV E mTI_moveJob [.ref 48, .int x3, .int x2] h fun h1 => WP E mTI_dropMissed 4 [some (.ref 48), some (.int x1), some (.int (x2 + 1)), some (.int (x3 + 1))] [] h1 (qV Q)) ∧ (¬ x1 < (h 53 (ix x3)) → cnd (inb x3 360) (CALLV E mTI_noteMiss [.ref 48, .int (h 52 (ix x3)), .int x1] h fun h2 => WP E mTI_dropMissed 4 [some (.ref 48), some (.int x1), some (.int x2), some (.int (x3 + 1))] [] h2 (qV Q)))))) :
    WP E mTI_dropMissed 4 [some (.ref 48), some (.int x1), some (.int x2), some (.int x3)] [] h (qV Q) := wp_sound [(4, [1, 1, 1, 1])] kk_51 21 hF
def k_52 : List XI := [(0, .aload_n 0, 1, 0, 0, 0, 0),
  (1, .getfield 28, 3, 5, 5, 0, 0),
  (4, .iload_n 2, 1, 0, 0, 0, 0),
  (5, .aload_n 0, 1, 0, 0, 0, 0),
  (6, .getfield 28, 3, 5, 5, 0, 0),
  (9, .iload_n 1, 1, 0, 0, 0, 0),
  (10, .iaload, 1, 0, 0, 0, 0),
  (11, .iastore, 1, 0, 0, 0, 0),
  (12, .aload_n 0, 1, 0, 0, 0, 0),
  (13, .getfield 31, 3, 5, 6, 0, 0),
  (16, .iload_n 2, 1, 0, 0, 0, 0),
  (17, .aload_n 0, 1, 0, 0, 0, 0),
  (18, .getfield 31, 3, 5, 6, 0, 0),
  (21, .iload_n 1, 1, 0, 0, 0, 0),
  (22, .iaload, 1, 0, 0, 0, 0),
  (23, .iastore, 1, 0, 0, 0, 0),
  (24, .aload_n 0, 1, 0, 0, 0, 0),
  (25, .getfield 34, 3, 5, 7, 0, 0),
  (28, .iload_n 2, 1, 0, 0, 0, 0),
  (29, .aload_n 0, 1, 0, 0, 0, 0),
  (30, .getfield 34, 3, 5, 7, 0, 0),
  (33, .iload_n 1, 1, 0, 0, 0, 0),
  (34, .iaload, 1, 0, 0, 0, 0),
  (35, .iastore, 1, 0, 0, 0, 0),
  (36, .return_, 1, 0, 0, 0, 0)]
set_option maxRecDepth 100000 in
set_option maxHeartbeats 4000000 in
theorem kk_52 : k_52.all (entOK (mCi 52) (mB 52)) = true := by decide +kernel
set_option maxRecDepth 100000 in
set_option maxHeartbeats 4000000 in
theorem fTI_moveJob {E : XE} {h : Mem} {Q : Mem → Prop} {a1 : Int32} {a2 : Int32} 
    (hF : cnd (inb a1 360) (cnd (inb a2 360) (cnd (inb a1 360) (cnd (inb a2 360) (cnd (inb a1 360) (cnd (inb a2 360) (Q (upd2 (upd2 (upd2 h 52 (ix a2) (h 52 (ix a1))) 53 (ix a2) ((upd2 h 52 (ix a2) (h 52 (ix a1))) 53 (ix a1))) 54 (ix a2) ((upd2 (upd2 h 52 (ix a2) (h 52 (ix a1))) 53 (ix a2) ((upd2 h 52 (ix a2) (h 52 (ix a1))) 53 (ix a1))) 54 (ix a1)))))))))) :
    CALLV E mTI_moveJob [.ref 48, .int a1, .int a2] h Q := CALL_of rfl (wp_sound [] kk_52 26 hF)
def k_53 : List XI := [(0, .aload_n 0, 1, 0, 0, 0, 0),
  (1, .getfield 18, 3, 5, 2, 0, 0),
  (4, .iload_n 1, 1, 0, 0, 0, 0),
  (5, .dup2, 1, 0, 0, 0, 0),
  (6, .iaload, 1, 0, 0, 0, 0),
  (7, .iconst 1, 1, 0, 0, 1, 0),
  (8, .iadd, 1, 0, 0, 0, 0),
  (9, .iastore, 1, 0, 0, 0, 0),
  (10, .aload_n 0, 1, 0, 0, 0, 0),
  (11, .getfield 21, 3, 5, 3, 0, 0),
  (14, .bipush (-9), 2, 0, 0, (-9), 0),
  (16, .if_icmp .eq 19, 3, 35, 0, 0, 0),
  (19, .aload_n 0, 1, 0, 0, 0, 0),
  (20, .getfield 21, 3, 5, 3, 0, 0),
  (23, .iload_n 2, 1, 0, 0, 0, 0),
  (24, .if_icmp .ne 21, 3, 45, 0, 0, 0),
  (27, .iload_n 1, 1, 0, 0, 0, 0),
  (28, .aload_n 0, 1, 0, 0, 0, 0),
  (29, .getfield 25, 3, 5, 4, 0, 0),
  (32, .if_icmp .ge 13, 3, 45, 0, 0, 0),
  (35, .aload_n 0, 1, 0, 0, 0, 0),
  (36, .iload_n 2, 1, 0, 0, 0, 0),
  (37, .putfield 21, 3, 5, 3, 0, 0),
  (40, .aload_n 0, 1, 0, 0, 0, 0),
  (41, .iload_n 1, 1, 0, 0, 0, 0),
  (42, .putfield 25, 3, 5, 4, 0, 0),
  (45, .return_, 1, 0, 0, 0, 0)]
set_option maxRecDepth 100000 in
set_option maxHeartbeats 4000000 in
theorem kk_53 : k_53.all (entOK (mCi 53) (mB 53)) = true := by decide +kernel
set_option maxRecDepth 100000 in
set_option maxHeartbeats 4000000 in
theorem fTI_noteMiss {E : XE} {h : Mem} {Q : Mem → Prop} {a1 : Int32} {a2 : Int32} 
    (hF : cnd (inb a1 6) (cnd (inb a1 6) ((((upd2 h 51 (ix a1) ((h 51 (ix a1)) + 1)) 48 3) = (-9) → Q (upd2 (upd2 (upd2 h 51 (ix a1) ((h 51 (ix a1)) + 1)) 48 3 a2) 48 4 a1)) ∧ (¬ ((upd2 h 51 (ix a1) ((h 51 (ix a1)) + 1)) 48 3) = (-9) → (¬ ((upd2 h 51 (ix a1) ((h 51 (ix a1)) + 1)) 48 3) = a2 → Q (upd2 h 51 (ix a1) ((h 51 (ix a1)) + 1))) ∧ (((upd2 h 51 (ix a1) ((h 51 (ix a1)) + 1)) 48 3) = a2 → (((upd2 h 51 (ix a1) ((h 51 (ix a1)) + 1)) 48 4) ≤ a1 → Q (upd2 h 51 (ix a1) ((h 51 (ix a1)) + 1))) ∧ (¬ ((upd2 h 51 (ix a1) ((h 51 (ix a1)) + 1)) 48 4) ≤ a1 → Q (upd2 (upd2 (upd2 h 51 (ix a1) ((h 51 (ix a1)) + 1)) 48 3 a2) 48 4 a1))))))) :
    CALLV E mTI_noteMiss [.ref 48, .int a1, .int a2] h Q := CALL_of rfl (wp_sound [] kk_53 28 hF)
def k_54 : List XI := [(0, .iload_n 3, 1, 0, 0, 0, 0),
  (1, .aload_n 1, 1, 0, 0, 0, 0),
  (2, .getfield 71, 3, 0, 5, 0, 0),
  (5, .iload_n 2, 1, 0, 0, 0, 0),
  (6, .iaload, 1, 0, 0, 0, 0),
  (7, .isub, 1, 0, 0, 0, 0),
  (8, .istore 4, 2, 0, 0, 0, 0),
  (10, .aload_n 0, 1, 0, 0, 0, 0),
  (11, .aload_n 1, 1, 0, 0, 0, 0),
  (12, .iload_n 2, 1, 0, 0, 0, 0),
  (13, .iload 4, 2, 0, 0, 0, 0),
  (15, .aload_n 1, 1, 0, 0, 0, 0),
  (16, .getfield 74, 3, 0, 11, 0, 0),
  (19, .iload_n 2, 1, 0, 0, 0, 0),
  (20, .iaload, 1, 0, 0, 0, 0),
  (21, .isub, 1, 0, 0, 0, 0),
  (22, .iconst 1, 1, 0, 0, 1, 0),
  (23, .invokevirtual 77, 3, 55, 0, 0, 0),
  (26, .aload_n 0, 1, 0, 0, 0, 0),
  (27, .aload_n 1, 1, 0, 0, 0, 0),
  (28, .iload_n 2, 1, 0, 0, 0, 0),
  (29, .iload 4, 2, 0, 0, 0, 0),
  (31, .iconst 0, 1, 0, 0, 0, 0),
  (32, .invokevirtual 77, 3, 55, 0, 0, 0),
  (35, .return_, 1, 0, 0, 0, 0)]
set_option maxRecDepth 100000 in
set_option maxHeartbeats 4000000 in
theorem kk_54 : k_54.all (entOK (mCi 54) (mB 54)) = true := by decide +kernel
set_option maxRecDepth 100000 in
set_option maxHeartbeats 4000000 in
theorem fTI_letCome {E : XE} {h : Mem} {Q : Mem → Prop} {p : Nat} {a2 : Int32} {a3 : Int32} (hp : p = 1 ∨ p = 15 ∨ p = 29)
    (hF : cnd (inb a2 6) (cnd (inb a2 6) (CALLV E mTI_comeIfSo [.ref 48, .ref p, .int a2, .int ((a3 - (h (p + 4) (ix a2))) - (h (p + 10) (ix a2))), .int 1] h fun h1 => CALLV E mTI_comeIfSo [.ref 48, .ref p, .int a2, .int (a3 - (h (p + 4) (ix a2))), .int 0] h1 fun h2 => Q h2))) :
    CALLV E mTI_letCome [.ref 48, .ref p, .int a2, .int a3] h Q := by
  rcases hp with rfl | rfl | rfl
  all_goals exact CALL_of rfl (wp_sound [] kk_54 26 hF)
def k_55_0 : List XI := [(0, .aload_n 1, 1, 0, 0, 0, 0),
  (1, .getfield 81, 3, 0, 10, 0, 0),
  (4, .iload_n 2, 1, 0, 0, 0, 0),
  (5, .iaload, 1, 0, 0, 0, 0),
  (6, .istore 5, 2, 0, 0, 0, 0),
  (8, .iload_n 3, 1, 0, 0, 0, 0),
  (9, .ifCond .lt 15, 3, 24, 0, 0, 0),
  (12, .iload 5, 2, 0, 0, 0, 0),
  (14, .ifCond .le 10, 3, 24, 0, 0, 0),
  (17, .iload_n 3, 1, 0, 0, 0, 0),
  (18, .iload 5, 2, 0, 0, 0, 0),
  (20, .irem, 1, 0, 0, 0, 0),
  (21, .ifCond .eq 4, 3, 25, 0, 0, 0),
  (24, .return_, 1, 0, 0, 0, 0),
  (25, .iload_n 3, 1, 0, 0, 0, 0),
  (26, .iload 5, 2, 0, 0, 0, 0),
  (28, .idiv, 1, 0, 0, 0, 0),
  (29, .istore 6, 2, 0, 0, 0, 0),
  (31, .iload 6, 2, 0, 0, 0, 0),
  (33, .iconst 2, 1, 0, 0, 2, 0),
  (34, .irem, 1, 0, 0, 0, 0),
  (35, .iload 4, 2, 0, 0, 0, 0),
  (37, .if_icmp .eq 4, 3, 41, 0, 0, 0),
  (40, .return_, 1, 0, 0, 0, 0),
  (41, .aload_n 1, 1, 0, 0, 0, 0),
  (42, .getfield 84, 3, 0, 7, 0, 0),
  (45, .iload_n 2, 1, 0, 0, 0, 0),
  (46, .iaload, 1, 0, 0, 0, 0),
  (47, .iconst 4, 1, 0, 0, 4, 0),
  (48, .if_icmp .ne 15, 3, 63, 0, 0, 0)]
set_option maxRecDepth 100000 in
set_option maxHeartbeats 4000000 in
theorem kk_55_0 : k_55_0.all (entOK (mCi 55) (mB 55)) = true := by decide +kernel
def k_55_1 : List XI := [(51, .iload 6, 2, 0, 0, 0, 0),
  (53, .aload_n 1, 1, 0, 0, 0, 0),
  (54, .getfield 87, 3, 0, 8, 0, 0),
  (57, .iload_n 2, 1, 0, 0, 0, 0),
  (58, .iaload, 1, 0, 0, 0, 0),
  (59, .if_icmp .le 4, 3, 63, 0, 0, 0),
  (62, .return_, 1, 0, 0, 0, 0),
  (63, .aload_n 1, 1, 0, 0, 0, 0),
  (64, .getfield 71, 3, 0, 5, 0, 0),
  (67, .iload_n 2, 1, 0, 0, 0, 0),
  (68, .iaload, 1, 0, 0, 0, 0),
  (69, .iload_n 3, 1, 0, 0, 0, 0),
  (70, .iadd, 1, 0, 0, 0, 0),
  (71, .aload_n 1, 1, 0, 0, 0, 0),
  (72, .getfield 90, 3, 0, 12, 0, 0),
  (75, .iload_n 2, 1, 0, 0, 0, 0),
  (76, .iaload, 1, 0, 0, 0, 0),
  (77, .iadd, 1, 0, 0, 0, 0),
  (78, .istore 7, 2, 0, 0, 0, 0),
  (80, .aload_n 0, 1, 0, 0, 0, 0),
  (81, .iload_n 2, 1, 0, 0, 0, 0),
  (82, .iload 7, 2, 0, 0, 0, 0),
  (84, .aload_n 1, 1, 0, 0, 0, 0),
  (85, .getfield 93, 3, 0, 2, 0, 0),
  (88, .iload_n 2, 1, 0, 0, 0, 0),
  (89, .iaload, 1, 0, 0, 0, 0),
  (90, .invokevirtual 96, 3, 56, 0, 0, 0),
  (93, .aload_n 1, 1, 0, 0, 0, 0),
  (94, .getfield 84, 3, 0, 7, 0, 0),
  (97, .iload_n 2, 1, 0, 0, 0, 0)]
set_option maxRecDepth 100000 in
set_option maxHeartbeats 4000000 in
theorem kk_55_1 : k_55_1.all (entOK (mCi 55) (mB 55)) = true := by decide +kernel
def k_55_2 : List XI := [(98, .iaload, 1, 0, 0, 0, 0),
  (99, .iconst 3, 1, 0, 0, 3, 0),
  (100, .if_icmp .ne 16, 3, 116, 0, 0, 0),
  (103, .aload_n 0, 1, 0, 0, 0, 0),
  (104, .iload_n 2, 1, 0, 0, 0, 0),
  (105, .iload 7, 2, 0, 0, 0, 0),
  (107, .aload_n 1, 1, 0, 0, 0, 0),
  (108, .getfield 93, 3, 0, 2, 0, 0),
  (111, .iload_n 2, 1, 0, 0, 0, 0),
  (112, .iaload, 1, 0, 0, 0, 0),
  (113, .invokevirtual 96, 3, 56, 0, 0, 0),
  (116, .return_, 1, 0, 0, 0, 0)]
set_option maxRecDepth 100000 in
set_option maxHeartbeats 4000000 in
theorem kk_55_2 : k_55_2.all (entOK (mCi 55) (mB 55)) = true := by decide +kernel
def k_55 : List XI := k_55_0 ++ (k_55_1 ++ (k_55_2))
theorem kk_55 : k_55.all (entOK (mCi 55) (mB 55)) = true := all_app kk_55_0 (all_app kk_55_1 (kk_55_2))
set_option maxRecDepth 100000 in
set_option maxHeartbeats 4000000 in
theorem fTI_comeIfSo {E : XE} {h : Mem} {Q : Mem → Prop} {p : Nat} {a2 : Int32} {a3 : Int32} {a4 : Int32} (hp : p = 1 ∨ p = 15 ∨ p = 29)
    (hF : cnd (inb a2 6) ((a3 < 0 → Q h) ∧ (¬ a3 < 0 → ((h (p + 9) (ix a2)) ≤ 0 → Q h) ∧ (¬ (h (p + 9) (ix a2)) ≤ 0 → cnd (nz (h (p + 9) (ix a2))) (((remI a3 (h (p + 9) (ix a2))) = 0 → cnd (nz (h (p + 9) (ix a2))) (((remI (a3 / (h (p + 9) (ix a2))) 2) = a4 → cnd (inb a2 6) ((¬ (h (p + 6) (ix a2)) = 4 → WP E mTI_comeIfSo 63 [some (.ref 48), some (.ref p), some (.int a2), some (.int a3), none, none, none, none] [] h (qV Q)) ∧ ((h (p + 6) (ix a2)) = 4 → cnd (inb a2 6) (((a3 / (h (p + 9) (ix a2))) ≤ (h (p + 7) (ix a2)) → WP E mTI_comeIfSo 63 [some (.ref 48), some (.ref p), some (.int a2), some (.int a3), none, none, none, none] [] h (qV Q)) ∧ (¬ (a3 / (h (p + 9) (ix a2))) ≤ (h (p + 7) (ix a2)) → Q h))))) ∧ (¬ (remI (a3 / (h (p + 9) (ix a2))) 2) = a4 → Q h))) ∧ (¬ (remI a3 (h (p + 9) (ix a2))) = 0 → Q h)))))) :
    CALLV E mTI_comeIfSo [.ref 48, .ref p, .int a2, .int a3, .int a4] h Q := by
  rcases hp with rfl | rfl | rfl
  all_goals exact CALL_of rfl (wp_sound [(63, [1, 1, 1, 1, 0, 0, 0, 0])] kk_55 36 hF)
set_option maxRecDepth 100000 in
set_option maxHeartbeats 4000000 in
theorem fTI_comeIfSo_63 {E : XE} {h : Mem} {Q : Mem → Prop} {p : Nat} {x2 : Int32} {x3 : Int32} (hp : p = 1 ∨ p = 15 ∨ p = 29)
    (hF : cnd (inb x2 6) (cnd (inb x2 6) (cnd (inb x2 6) (CALLV E mTI_addJob [.ref 48, .int x2, .int (((h (p + 4) (ix x2)) + x3) + (h (p + 11) (ix x2))), .int (h (p + 1) (ix x2))] h fun h1 => cnd (inb x2 6) ((¬ (h1 (p + 6) (ix x2)) = 3 → Q h1) ∧ ((h1 (p + 6) (ix x2)) = 3 → cnd (inb x2 6) (CALLV E mTI_addJob [.ref 48, .int x2, .int (((h (p + 4) (ix x2)) + x3) + (h (p + 11) (ix x2))), .int (h1 (p + 1) (ix x2))] h1 fun h2 => Q h2))))))) :
    WP E mTI_comeIfSo 63 [some (.ref 48), some (.ref p), some (.int x2), some (.int x3), none, none, none, none] [] h (qV Q) := by
  rcases hp with rfl | rfl | rfl
  all_goals exact wp_sound [(63, [1, 1, 1, 1, 0, 0, 0, 0])] kk_55 36 hF
def k_56 : List XI := [(0, .aload_n 0, 1, 0, 0, 0, 0),
  (1, .getfield 37, 3, 5, 8, 0, 0),
  (4, .sipush 360, 3, 0, 0, 360, 0),
  (7, .if_icmp .ge 43, 3, 50, 0, 0, 0),
  (10, .aload_n 0, 1, 0, 0, 0, 0),
  (11, .getfield 28, 3, 5, 5, 0, 0),
  (14, .aload_n 0, 1, 0, 0, 0, 0),
  (15, .getfield 37, 3, 5, 8, 0, 0),
  (18, .iload_n 1, 1, 0, 0, 0, 0),
  (19, .iastore, 1, 0, 0, 0, 0),
  (20, .aload_n 0, 1, 0, 0, 0, 0),
  (21, .getfield 31, 3, 5, 6, 0, 0),
  (24, .aload_n 0, 1, 0, 0, 0, 0),
  (25, .getfield 37, 3, 5, 8, 0, 0),
  (28, .iload_n 2, 1, 0, 0, 0, 0),
  (29, .iastore, 1, 0, 0, 0, 0),
  (30, .aload_n 0, 1, 0, 0, 0, 0),
  (31, .getfield 34, 3, 5, 7, 0, 0),
  (34, .aload_n 0, 1, 0, 0, 0, 0),
  (35, .getfield 37, 3, 5, 8, 0, 0),
  (38, .iload_n 3, 1, 0, 0, 0, 0),
  (39, .iastore, 1, 0, 0, 0, 0),
  (40, .aload_n 0, 1, 0, 0, 0, 0),
  (41, .dup, 1, 0, 0, 0, 0),
  (42, .getfield 37, 3, 5, 8, 0, 0),
  (45, .iconst 1, 1, 0, 0, 1, 0),
  (46, .iadd, 1, 0, 0, 0, 0),
  (47, .putfield 37, 3, 5, 8, 0, 0),
  (50, .return_, 1, 0, 0, 0, 0)]
set_option maxRecDepth 100000 in
set_option maxHeartbeats 4000000 in
theorem kk_56 : k_56.all (entOK (mCi 56) (mB 56)) = true := by decide +kernel
set_option maxRecDepth 100000 in
set_option maxHeartbeats 4000000 in
theorem fTI_addJob {E : XE} {h : Mem} {Q : Mem → Prop} {a1 : Int32} {a2 : Int32} {a3 : Int32} 
    (hF : (360 ≤ (h 48 8) → Q h) ∧ (¬ 360 ≤ (h 48 8) → cnd (inb (h 48 8) 360) (cnd (inb ((upd2 h 52 (ix (h 48 8)) a1) 48 8) 360) (cnd (inb ((upd2 (upd2 h 52 (ix (h 48 8)) a1) 53 (ix ((upd2 h 52 (ix (h 48 8)) a1) 48 8)) a2) 48 8) 360) (Q (upd2 (upd2 (upd2 (upd2 h 52 (ix (h 48 8)) a1) 53 (ix ((upd2 h 52 (ix (h 48 8)) a1) 48 8)) a2) 54 (ix ((upd2 (upd2 h 52 (ix (h 48 8)) a1) 53 (ix ((upd2 h 52 (ix (h 48 8)) a1) 48 8)) a2) 48 8)) a3) 48 8 (((upd2 (upd2 (upd2 h 52 (ix (h 48 8)) a1) 53 (ix ((upd2 h 52 (ix (h 48 8)) a1) 48 8)) a2) 54 (ix ((upd2 (upd2 h 52 (ix (h 48 8)) a1) 53 (ix ((upd2 h 52 (ix (h 48 8)) a1) 48 8)) a2) 48 8)) a3) 48 8) + 1))))))) :
    CALLV E mTI_addJob [.ref 48, .int a1, .int a2, .int a3] h Q := CALL_of rfl (wp_sound [] kk_56 30 hF)
def k_57_0 : List XI := [(0, .aload_n 0, 1, 0, 0, 0, 0),
  (1, .getfield 37, 3, 5, 8, 0, 0),
  (4, .ifCond .ne 6, 3, 10, 0, 0, 0),
  (7, .bipush (-9), 2, 0, 0, (-9), 0),
  (9, .ireturn, 1, 0, 0, 0, 0),
  (10, .iconst 0, 1, 0, 0, 0, 0),
  (11, .istore_n 3, 1, 0, 0, 0, 0),
  (12, .iconst 1, 1, 0, 0, 1, 0),
  (13, .istore 4, 2, 0, 0, 0, 0),
  (15, .iload 4, 2, 0, 0, 0, 0),
  (17, .aload_n 0, 1, 0, 0, 0, 0),
  (18, .getfield 37, 3, 5, 8, 0, 0),
  (21, .if_icmp .ge 24, 3, 45, 0, 0, 0),
  (24, .aload_n 0, 1, 0, 0, 0, 0),
  (25, .aload_n 1, 1, 0, 0, 0, 0),
  (26, .iload_n 2, 1, 0, 0, 0, 0),
  (27, .iload 4, 2, 0, 0, 0, 0),
  (29, .iload_n 3, 1, 0, 0, 0, 0),
  (30, .invokevirtual 100, 3, 58, 1, 0, 0),
  (33, .ifCond .eq 6, 3, 39, 0, 0, 0),
  (36, .iload 4, 2, 0, 0, 0, 0),
  (38, .istore_n 3, 1, 0, 0, 0, 0),
  (39, .iinc 4 1, 3, 0, 0, 1, 0),
  (42, .goto (-27), 3, 15, 0, 0, 0),
  (45, .aload_n 0, 1, 0, 0, 0, 0),
  (46, .getfield 28, 3, 5, 5, 0, 0),
  (49, .iload_n 3, 1, 0, 0, 0, 0),
  (50, .iaload, 1, 0, 0, 0, 0),
  (51, .istore 4, 2, 0, 0, 0, 0),
  (53, .aload_n 0, 1, 0, 0, 0, 0)]
set_option maxRecDepth 100000 in
set_option maxHeartbeats 4000000 in
theorem kk_57_0 : k_57_0.all (entOK (mCi 57) (mB 57)) = true := by decide +kernel
def k_57_1 : List XI := [(54, .getfield 34, 3, 5, 7, 0, 0),
  (57, .iload_n 3, 1, 0, 0, 0, 0),
  (58, .dup2, 1, 0, 0, 0, 0),
  (59, .iaload, 1, 0, 0, 0, 0),
  (60, .iconst 1, 1, 0, 0, 1, 0),
  (61, .isub, 1, 0, 0, 0, 0),
  (62, .iastore, 1, 0, 0, 0, 0),
  (63, .aload_n 0, 1, 0, 0, 0, 0),
  (64, .getfield 34, 3, 5, 7, 0, 0),
  (67, .iload_n 3, 1, 0, 0, 0, 0),
  (68, .iaload, 1, 0, 0, 0, 0),
  (69, .ifCond .ne 19, 3, 88, 0, 0, 0),
  (72, .aload_n 0, 1, 0, 0, 0, 0),
  (73, .getfield 15, 3, 5, 1, 0, 0),
  (76, .iload 4, 2, 0, 0, 0, 0),
  (78, .dup2, 1, 0, 0, 0, 0),
  (79, .iaload, 1, 0, 0, 0, 0),
  (80, .iconst 1, 1, 0, 0, 1, 0),
  (81, .iadd, 1, 0, 0, 0, 0),
  (82, .iastore, 1, 0, 0, 0, 0),
  (83, .aload_n 0, 1, 0, 0, 0, 0),
  (84, .iload_n 3, 1, 0, 0, 0, 0),
  (85, .invokevirtual 104, 3, 59, 0, 0, 0),
  (88, .iload 4, 2, 0, 0, 0, 0),
  (90, .ireturn, 1, 0, 0, 0, 0)]
set_option maxRecDepth 100000 in
set_option maxHeartbeats 4000000 in
theorem kk_57_1 : k_57_1.all (entOK (mCi 57) (mB 57)) = true := by decide +kernel
def k_57 : List XI := k_57_0 ++ (k_57_1)
theorem kk_57 : k_57.all (entOK (mCi 57) (mB 57)) = true := all_app kk_57_0 (kk_57_1)
set_option maxRecDepth 100000 in
set_option maxHeartbeats 4000000 in
theorem fTI_workOne {E : XE} {h : Mem} {Q : Int32 → Mem → Prop} {p : Nat} {a2 : Int32} (hp : p = 1 ∨ p = 15 ∨ p = 29)
    (hF : (¬ (h 48 8) = 0 → WP E mTI_workOne 15 [some (.ref 48), some (.ref p), some (.int a2), some (.int 0), some (.int 1)] [] h (qI Q)) ∧ ((h 48 8) = 0 → Q (-9) h)) :
    CALLI E mTI_workOne [.ref 48, .ref p, .int a2] h Q := by
  rcases hp with rfl | rfl | rfl
  all_goals exact CALL_of rfl (wp_sound [(15, [1, 1, 1, 1, 1])] kk_57 8 hF)
set_option maxRecDepth 100000 in
set_option maxHeartbeats 4000000 in
theorem fTI_workOne_15 {E : XE} {h : Mem} {Q : Int32 → Mem → Prop} {p : Nat} {x2 : Int32} {x3 : Int32} {x4 : Int32} (hp : p = 1 ∨ p = 15 ∨ p = 29)
    (hF : ((h 48 8) ≤ x4 → cnd (inb x3 360) (cnd (inb x3 360) (cnd (inb x3 360) (cnd (inb x3 360) ((¬ ((upd2 h 54 (ix x3) ((h 54 (ix x3)) - 1)) 54 (ix x3)) = 0 → Q (h 52 (ix x3)) (upd2 h 54 (ix x3) ((h 54 (ix x3)) - 1))) ∧ (((upd2 h 54 (ix x3) ((h 54 (ix x3)) - 1)) 54 (ix x3)) = 0 → cnd (inb (h 52 (ix x3)) 6) (cnd (inb (h 52 (ix x3)) 6) (CALLV E mTI_removeJob [.ref 48, .int x3] (upd2 (upd2 h 54 (ix x3) ((h 54 (ix x3)) - 1)) 50 (ix (h 52 (ix x3))) (((upd2 h 54 (ix x3) ((h 54 (ix x3)) - 1)) 50 (ix (h 52 (ix x3)))) + 1)) fun h1 => Q (h 52 (ix x3)) h1)))))))) ∧ (¬ (h 48 8) ≤ x4 → CALLI E mTI_goesFirst [.ref 48, .ref p, .int x2, .int x4, .int x3] h fun v2 h2 => (v2 = 0 → WP E mTI_workOne 15 [some (.ref 48), some (.ref p), some (.int x2), some (.int x3), some (.int (x4 + 1))] [] h2 (qI Q)) ∧ (¬ v2 = 0 → WP E mTI_workOne 15 [some (.ref 48), some (.ref p), some (.int x2), some (.int x4), some (.int (x4 + 1))] [] h2 (qI Q)))) :
    WP E mTI_workOne 15 [some (.ref 48), some (.ref p), some (.int x2), some (.int x3), some (.int x4)] [] h (qI Q) := by
  rcases hp with rfl | rfl | rfl
  all_goals exact wp_sound [(15, [1, 1, 1, 1, 1])] kk_57 36 hF
def k_58_0 : List XI := [(0, .iload_n 2, 1, 0, 0, 0, 0),
  (1, .iconst 3, 1, 0, 0, 3, 0),
  (2, .if_icmp .eq 22, 3, 24, 0, 0, 0),
  (5, .aload_n 1, 1, 0, 0, 0, 0),
  (6, .iload_n 2, 1, 0, 0, 0, 0),
  (7, .aload_n 0, 1, 0, 0, 0, 0),
  (8, .getfield 28, 3, 5, 5, 0, 0),
  (11, .iload_n 3, 1, 0, 0, 0, 0),
  (12, .iaload, 1, 0, 0, 0, 0),
  (13, .aload_n 0, 1, 0, 0, 0, 0),
  (14, .getfield 28, 3, 5, 5, 0, 0),
  (17, .iload 4, 2, 0, 0, 0, 0),
  (19, .iaload, 1, 0, 0, 0, 0),
  (20, .invokestatic 107, 3, 29, 1, 0, 0),
  (23, .ireturn, 1, 0, 0, 0, 0),
  (24, .aload_n 0, 1, 0, 0, 0, 0),
  (25, .getfield 31, 3, 5, 6, 0, 0),
  (28, .iload_n 3, 1, 0, 0, 0, 0),
  (29, .iaload, 1, 0, 0, 0, 0),
  (30, .aload_n 0, 1, 0, 0, 0, 0),
  (31, .getfield 31, 3, 5, 6, 0, 0),
  (34, .iload 4, 2, 0, 0, 0, 0),
  (36, .iaload, 1, 0, 0, 0, 0),
  (37, .if_icmp .lt 35, 3, 72, 0, 0, 0),
  (40, .aload_n 0, 1, 0, 0, 0, 0),
  (41, .getfield 31, 3, 5, 6, 0, 0),
  (44, .iload_n 3, 1, 0, 0, 0, 0),
  (45, .iaload, 1, 0, 0, 0, 0),
  (46, .aload_n 0, 1, 0, 0, 0, 0),
  (47, .getfield 31, 3, 5, 6, 0, 0)]
set_option maxRecDepth 100000 in
set_option maxHeartbeats 4000000 in
theorem kk_58_0 : k_58_0.all (entOK (mCi 58) (mB 58)) = true := by decide +kernel
def k_58_1 : List XI := [(50, .iload 4, 2, 0, 0, 0, 0),
  (52, .iaload, 1, 0, 0, 0, 0),
  (53, .if_icmp .ne 23, 3, 76, 0, 0, 0),
  (56, .aload_n 0, 1, 0, 0, 0, 0),
  (57, .getfield 28, 3, 5, 5, 0, 0),
  (60, .iload_n 3, 1, 0, 0, 0, 0),
  (61, .iaload, 1, 0, 0, 0, 0),
  (62, .aload_n 0, 1, 0, 0, 0, 0),
  (63, .getfield 28, 3, 5, 5, 0, 0),
  (66, .iload 4, 2, 0, 0, 0, 0),
  (68, .iaload, 1, 0, 0, 0, 0),
  (69, .if_icmp .ge 7, 3, 76, 0, 0, 0),
  (72, .iconst 1, 1, 0, 0, 1, 0),
  (73, .goto 4, 3, 77, 0, 0, 0),
  (76, .iconst 0, 1, 0, 0, 0, 0),
  (77, .ireturn, 1, 0, 0, 0, 0)]
set_option maxRecDepth 100000 in
set_option maxHeartbeats 4000000 in
theorem kk_58_1 : k_58_1.all (entOK (mCi 58) (mB 58)) = true := by decide +kernel
def k_58 : List XI := k_58_0 ++ (k_58_1)
theorem kk_58 : k_58.all (entOK (mCi 58) (mB 58)) = true := all_app kk_58_0 (kk_58_1)
set_option maxRecDepth 100000 in
set_option maxHeartbeats 4000000 in
theorem fTI_goesFirst {E : XE} {h : Mem} {Q : Int32 → Mem → Prop} {p : Nat} {a2 : Int32} {a3 : Int32} {a4 : Int32} (hp : p = 1 ∨ p = 15 ∨ p = 29)
    (hF : (a2 = 3 → cnd (inb a3 360) (cnd (inb a4 360) (((h 53 (ix a3)) < (h 53 (ix a4)) → Q 1 h) ∧ (¬ (h 53 (ix a3)) < (h 53 (ix a4)) → cnd (inb a3 360) (cnd (inb a4 360) ((¬ (h 53 (ix a3)) = (h 53 (ix a4)) → Q 0 h) ∧ ((h 53 (ix a3)) = (h 53 (ix a4)) → cnd (inb a3 360) (cnd (inb a4 360) (((h 52 (ix a4)) ≤ (h 52 (ix a3)) → Q 0 h) ∧ (¬ (h 52 (ix a4)) ≤ (h 52 (ix a3)) → Q 1 h)))))))))) ∧ (¬ a2 = 3 → cnd (inb a3 360) (cnd (inb a4 360) (CALLI E mRS_precedes [.ref p, .int a2, .int (h 52 (ix a3)), .int (h 52 (ix a4))] h fun v1 h1 => cnd (nb v1) (Q v1 h1))))) :
    CALLI E mTI_goesFirst [.ref 48, .ref p, .int a2, .int a3, .int a4] h Q := by
  rcases hp with rfl | rfl | rfl
  all_goals exact CALL_of rfl (wp_sound [] kk_58 34 hF)
def k_59 : List XI := [(0, .iload_n 1, 1, 0, 0, 0, 0),
  (1, .iconst 1, 1, 0, 0, 1, 0),
  (2, .iadd, 1, 0, 0, 0, 0),
  (3, .istore_n 2, 1, 0, 0, 0, 0),
  (4, .iload_n 2, 1, 0, 0, 0, 0),
  (5, .aload_n 0, 1, 0, 0, 0, 0),
  (6, .getfield 37, 3, 5, 8, 0, 0),
  (9, .if_icmp .ge 17, 3, 26, 0, 0, 0),
  (12, .aload_n 0, 1, 0, 0, 0, 0),
  (13, .iload_n 2, 1, 0, 0, 0, 0),
  (14, .iload_n 2, 1, 0, 0, 0, 0),
  (15, .iconst 1, 1, 0, 0, 1, 0),
  (16, .isub, 1, 0, 0, 0, 0),
  (17, .invokevirtual 68, 3, 52, 0, 0, 0),
  (20, .iinc 2 1, 3, 0, 0, 1, 0),
  (23, .goto (-19), 3, 4, 0, 0, 0),
  (26, .aload_n 0, 1, 0, 0, 0, 0),
  (27, .dup, 1, 0, 0, 0, 0),
  (28, .getfield 37, 3, 5, 8, 0, 0),
  (31, .iconst 1, 1, 0, 0, 1, 0),
  (32, .isub, 1, 0, 0, 0, 0),
  (33, .putfield 37, 3, 5, 8, 0, 0),
  (36, .return_, 1, 0, 0, 0, 0)]
set_option maxRecDepth 100000 in
set_option maxHeartbeats 4000000 in
theorem kk_59 : k_59.all (entOK (mCi 59) (mB 59)) = true := by decide +kernel
set_option maxRecDepth 100000 in
set_option maxHeartbeats 4000000 in
theorem fTI_removeJob {E : XE} {h : Mem} {Q : Mem → Prop} {a1 : Int32} 
    (hF : WP E mTI_removeJob 4 [some (.ref 48), none, some (.int (a1 + 1))] [] h (qV Q)) :
    CALLV E mTI_removeJob [.ref 48, .int a1] h Q := CALL_of rfl (wp_sound [(4, [1, 0, 1])] kk_59 5 hF)
set_option maxRecDepth 100000 in
set_option maxHeartbeats 4000000 in
theorem fTI_removeJob_4 {E : XE} {h : Mem} {Q : Mem → Prop} {x2 : Int32} 
    (hF : ((h 48 8) ≤ x2 → Q (upd2 h 48 8 ((h 48 8) - 1))) ∧ (¬ (h 48 8) ≤ x2 → CALLV E mTI_moveJob [.ref 48, .int x2, .int (x2 - 1)] h fun h1 => WP E mTI_removeJob 4 [some (.ref 48), none, some (.int (x2 + 1))] [] h1 (qV Q))) :
    WP E mTI_removeJob 4 [some (.ref 48), none, some (.int x2)] [] h (qV Q) := wp_sound [(4, [1, 0, 1])] kk_59 13 hF
def k_60 : List XI := [(0, .aload_n 0, 1, 0, 0, 0, 0),
  (1, .getfield 15, 3, 4, 1, 0, 0),
  (4, .ireturn, 1, 0, 0, 0, 0)]
set_option maxRecDepth 100000 in
set_option maxHeartbeats 4000000 in
theorem kk_60 : k_60.all (entOK (mCi 60) (mB 60)) = true := by decide +kernel
set_option maxRecDepth 100000 in
set_option maxHeartbeats 4000000 in
theorem fTE_size {E : XE} {h : Mem} {Q : Int32 → Mem → Prop}  
    (hF : Q (h 55 1) h) :
    CALLI E mTE_size [.ref 55] h Q := CALL_of rfl (wp_sound [] kk_60 4 hF)
def k_61 : List XI := [(0, .aload_n 0, 1, 0, 0, 0, 0),
  (1, .getfield 15, 3, 4, 1, 0, 0),
  (4, .bipush 96, 2, 0, 0, 96, 0),
  (6, .if_icmp .lt 7, 3, 13, 0, 0, 0),
  (9, .iconst 1, 1, 0, 0, 1, 0),
  (10, .goto 4, 3, 14, 0, 0, 0),
  (13, .iconst 0, 1, 0, 0, 0, 0),
  (14, .ireturn, 1, 0, 0, 0, 0)]
set_option maxRecDepth 100000 in
set_option maxHeartbeats 4000000 in
theorem kk_61 : k_61.all (entOK (mCi 61) (mB 61)) = true := by decide +kernel
set_option maxRecDepth 100000 in
set_option maxHeartbeats 4000000 in
theorem fTE_isFull {E : XE} {h : Mem} {Q : Int32 → Mem → Prop}  
    (hF : ((h 55 1) < 96 → Q 0 h) ∧ (¬ (h 55 1) < 96 → Q 1 h)) :
    CALLI E mTE_isFull [.ref 55] h Q := CALL_of rfl (wp_sound [] kk_61 8 hF)
def k_62 : List XI := [(0, .aload_n 0, 1, 0, 0, 0, 0),
  (1, .invokevirtual 28, 3, 61, 1, 0, 0),
  (4, .ifCond .ne 23, 3, 27, 0, 0, 0),
  (7, .aload_n 0, 1, 0, 0, 0, 0),
  (8, .getfield 9, 3, 4, 0, 0, 0),
  (11, .aload_n 0, 1, 0, 0, 0, 0),
  (12, .getfield 15, 3, 4, 1, 0, 0),
  (15, .iload_n 1, 1, 0, 0, 0, 0),
  (16, .iastore, 1, 0, 0, 0, 0),
  (17, .aload_n 0, 1, 0, 0, 0, 0),
  (18, .dup, 1, 0, 0, 0, 0),
  (19, .getfield 15, 3, 4, 1, 0, 0),
  (22, .iconst 1, 1, 0, 0, 1, 0),
  (23, .iadd, 1, 0, 0, 0, 0),
  (24, .putfield 15, 3, 4, 1, 0, 0),
  (27, .aload_n 0, 1, 0, 0, 0, 0),
  (28, .getfield 15, 3, 4, 1, 0, 0),
  (31, .ireturn, 1, 0, 0, 0, 0)]
set_option maxRecDepth 100000 in
set_option maxHeartbeats 4000000 in
theorem kk_62 : k_62.all (entOK (mCi 62) (mB 62)) = true := by decide +kernel
set_option maxRecDepth 100000 in
set_option maxHeartbeats 4000000 in
theorem fTE_append {E : XE} {h : Mem} {Q : Int32 → Mem → Prop} {a1 : Int32} 
    (hF : CALLI E mTE_isFull [.ref 55] h fun v1 h1 => (¬ v1 = 0 → Q (h1 55 1) h1) ∧ (v1 = 0 → cnd (inb (h1 55 1) 96) (Q ((upd2 (upd2 h1 56 (ix (h1 55 1)) a1) 55 1 (((upd2 h1 56 (ix (h1 55 1)) a1) 55 1) + 1)) 55 1) (upd2 (upd2 h1 56 (ix (h1 55 1)) a1) 55 1 (((upd2 h1 56 (ix (h1 55 1)) a1) 55 1) + 1))))) :
    CALLI E mTE_append [.ref 55, .int a1] h Q := CALL_of rfl (wp_sound [] kk_62 19 hF)
def k_63 : List XI := [(0, .aload_n 0, 1, 0, 0, 0, 0),
  (1, .invokevirtual 32, 3, 64, 1, 0, 0),
  (4, .istore_n 2, 1, 0, 0, 0, 0),
  (5, .iload_n 2, 1, 0, 0, 0, 0),
  (6, .ifCond .le 10, 3, 16, 0, 0, 0),
  (9, .aload_n 0, 1, 0, 0, 0, 0),
  (10, .aload_n 1, 1, 0, 0, 0, 0),
  (11, .iload_n 2, 1, 0, 0, 0, 0),
  (12, .invokevirtual 36, 3, 65, 1, 0, 0),
  (15, .istore_n 2, 1, 0, 0, 0, 0),
  (16, .aload_n 0, 1, 0, 0, 0, 0),
  (17, .iconst 0, 1, 0, 0, 0, 0),
  (18, .putfield 15, 3, 4, 1, 0, 0),
  (21, .iload_n 2, 1, 0, 0, 0, 0),
  (22, .ireturn, 1, 0, 0, 0, 0)]
set_option maxRecDepth 100000 in
set_option maxHeartbeats 4000000 in
theorem kk_63 : k_63.all (entOK (mCi 63) (mB 63)) = true := by decide +kernel
set_option maxRecDepth 100000 in
set_option maxHeartbeats 4000000 in
theorem fTE_tellTo {E : XE} {h : Mem} {Q : Int32 → Mem → Prop} {p : Nat} (hp : p = 1 ∨ p = 15 ∨ p = 29)
    (hF : CALLI E mTE_readAll [.ref 55] h fun v1 h1 => (v1 ≤ 0 → Q v1 (upd2 h1 55 1 0)) ∧ (¬ v1 ≤ 0 → CALLI E mTE_carryOutAll [.ref 55, .ref p, .int v1] h1 fun v2 h2 => Q v2 (upd2 h2 55 1 0))) :
    CALLI E mTE_tellTo [.ref 55, .ref p] h Q := by
  rcases hp with rfl | rfl | rfl
  all_goals exact CALL_of rfl (wp_sound [] kk_63 16 hF)
def k_64 : List XI := [(0, .iconst 0, 1, 0, 0, 0, 0),
  (1, .istore_n 1, 1, 0, 0, 0, 0),
  (2, .aload_n 0, 1, 0, 0, 0, 0),
  (3, .iconst 0, 1, 0, 0, 0, 0),
  (4, .putfield 25, 3, 4, 4, 0, 0),
  (7, .aload_n 0, 1, 0, 0, 0, 0),
  (8, .getfield 25, 3, 4, 4, 0, 0),
  (11, .aload_n 0, 1, 0, 0, 0, 0),
  (12, .getfield 15, 3, 4, 1, 0, 0),
  (15, .if_icmp .ge 31, 3, 46, 0, 0, 0),
  (18, .iload_n 1, 1, 0, 0, 0, 0),
  (19, .bipush 96, 2, 0, 0, 96, 0),
  (21, .if_icmp .ge 25, 3, 46, 0, 0, 0),
  (24, .aload_n 0, 1, 0, 0, 0, 0),
  (25, .invokevirtual 40, 3, 66, 1, 0, 0),
  (28, .ifCond .ne 12, 3, 40, 0, 0, 0),
  (31, .sipush (-1000), 3, 0, 0, (-1000), 0),
  (34, .aload_n 0, 1, 0, 0, 0, 0),
  (35, .getfield 25, 3, 4, 4, 0, 0),
  (38, .isub, 1, 0, 0, 0, 0),
  (39, .ireturn, 1, 0, 0, 0, 0),
  (40, .iinc 1 1, 3, 0, 0, 1, 0),
  (43, .goto (-36), 3, 7, 0, 0, 0),
  (46, .iload_n 1, 1, 0, 0, 0, 0),
  (47, .ifCond .le 7, 3, 54, 0, 0, 0),
  (50, .iload_n 1, 1, 0, 0, 0, 0),
  (51, .goto 6, 3, 57, 0, 0, 0),
  (54, .sipush (-1000), 3, 0, 0, (-1000), 0),
  (57, .ireturn, 1, 0, 0, 0, 0)]
set_option maxRecDepth 100000 in
set_option maxHeartbeats 4000000 in
theorem kk_64 : k_64.all (entOK (mCi 64) (mB 64)) = true := by decide +kernel
set_option maxRecDepth 100000 in
set_option maxHeartbeats 4000000 in
theorem fTE_readAll {E : XE} {h : Mem} {Q : Int32 → Mem → Prop}  
    (hF : WP E mTE_readAll 7 [some (.ref 55), some (.int 0)] [] (upd2 h 55 4 0) (qI Q)) :
    CALLI E mTE_readAll [.ref 55] h Q := CALL_of rfl (wp_sound [(7, [1, 1])] kk_64 6 hF)
set_option maxRecDepth 100000 in
set_option maxHeartbeats 4000000 in
theorem fTE_readAll_7 {E : XE} {h : Mem} {Q : Int32 → Mem → Prop} {x1 : Int32} 
    (hF : ((h 55 1) ≤ (h 55 4) → (x1 ≤ 0 → Q (-1000) h) ∧ (¬ x1 ≤ 0 → Q x1 h)) ∧ (¬ (h 55 1) ≤ (h 55 4) → (96 ≤ x1 → (x1 ≤ 0 → Q (-1000) h) ∧ (¬ x1 ≤ 0 → Q x1 h)) ∧ (¬ 96 ≤ x1 → CALLI E mTE_readStatement [.ref 55] h fun v1 h1 => (¬ v1 = 0 → WP E mTE_readAll 7 [some (.ref 55), some (.int (x1 + 1))] [] h1 (qI Q)) ∧ (v1 = 0 → Q ((-1000) - (h1 55 4)) h1)))) :
    WP E mTE_readAll 7 [some (.ref 55), some (.int x1)] [] h (qI Q) := wp_sound [(7, [1, 1])] kk_64 17 hF
def k_65 : List XI := [(0, .aload_n 0, 1, 0, 0, 0, 0),
  (1, .iconst 0, 1, 0, 0, 0, 0),
  (2, .putfield 25, 3, 4, 4, 0, 0),
  (5, .iconst 0, 1, 0, 0, 0, 0),
  (6, .istore_n 3, 1, 0, 0, 0, 0),
  (7, .iload_n 3, 1, 0, 0, 0, 0),
  (8, .iload_n 2, 1, 0, 0, 0, 0),
  (9, .if_icmp .ge 37, 3, 46, 0, 0, 0),
  (12, .aload_n 0, 1, 0, 0, 0, 0),
  (13, .getfield 25, 3, 4, 4, 0, 0),
  (16, .istore 4, 2, 0, 0, 0, 0),
  (18, .aload_n 0, 1, 0, 0, 0, 0),
  (19, .invokevirtual 40, 3, 66, 1, 0, 0),
  (22, .ifCond .eq 11, 3, 33, 0, 0, 0),
  (25, .aload_n 0, 1, 0, 0, 0, 0),
  (26, .aload_n 1, 1, 0, 0, 0, 0),
  (27, .invokevirtual 43, 3, 71, 1, 0, 0),
  (30, .ifCond .ne 10, 3, 40, 0, 0, 0),
  (33, .sipush (-2000), 3, 0, 0, (-2000), 0),
  (36, .iload 4, 2, 0, 0, 0, 0),
  (38, .isub, 1, 0, 0, 0, 0),
  (39, .ireturn, 1, 0, 0, 0, 0),
  (40, .iinc 3 1, 3, 0, 0, 1, 0),
  (43, .goto (-36), 3, 7, 0, 0, 0),
  (46, .iload_n 2, 1, 0, 0, 0, 0),
  (47, .ireturn, 1, 0, 0, 0, 0)]
set_option maxRecDepth 100000 in
set_option maxHeartbeats 4000000 in
theorem kk_65 : k_65.all (entOK (mCi 65) (mB 65)) = true := by decide +kernel
set_option maxRecDepth 100000 in
set_option maxHeartbeats 4000000 in
theorem fTE_carryOutAll {E : XE} {h : Mem} {Q : Int32 → Mem → Prop} {p : Nat} {a2 : Int32} (hp : p = 1 ∨ p = 15 ∨ p = 29)
    (hF : WP E mTE_carryOutAll 7 [some (.ref 55), some (.ref p), some (.int a2), some (.int 0), none] [] (upd2 h 55 4 0) (qI Q)) :
    CALLI E mTE_carryOutAll [.ref 55, .ref p, .int a2] h Q := by
  rcases hp with rfl | rfl | rfl
  all_goals exact CALL_of rfl (wp_sound [(7, [1, 1, 1, 1, 0])] kk_65 6 hF)
set_option maxRecDepth 100000 in
set_option maxHeartbeats 4000000 in
theorem fTE_carryOutAll_7 {E : XE} {h : Mem} {Q : Int32 → Mem → Prop} {p : Nat} {x2 : Int32} {x3 : Int32} (hp : p = 1 ∨ p = 15 ∨ p = 29)
    (hF : (x2 ≤ x3 → Q x2 h) ∧ (¬ x2 ≤ x3 → CALLI E mTE_readStatement [.ref 55] h fun v1 h1 => (v1 = 0 → Q ((-2000) - (h 55 4)) h1) ∧ (¬ v1 = 0 → CALLI E mTE_carryOut [.ref 55, .ref p] h1 fun v2 h2 => (¬ v2 = 0 → WP E mTE_carryOutAll 7 [some (.ref 55), some (.ref p), some (.int x2), some (.int (x3 + 1)), none] [] h2 (qI Q)) ∧ (v2 = 0 → Q ((-2000) - (h 55 4)) h2)))) :
    WP E mTE_carryOutAll 7 [some (.ref 55), some (.ref p), some (.int x2), some (.int x3), none] [] h (qI Q) := by
  rcases hp with rfl | rfl | rfl
  all_goals exact wp_sound [(7, [1, 1, 1, 1, 0])] kk_65 18 hF
def k_66_0 : List XI := [(0, .aload_n 0, 1, 0, 0, 0, 0),
  (1, .aload_n 0, 1, 0, 0, 0, 0),
  (2, .invokevirtual 47, 3, 69, 1, 0, 0),
  (5, .putfield 22, 3, 4, 3, 0, 0),
  (8, .aload_n 0, 1, 0, 0, 0, 0),
  (9, .getfield 22, 3, 4, 3, 0, 0),
  (12, .invokestatic 50, 3, 67, 3, 0, 0),
  (15, .astore_n 1, 1, 0, 0, 0, 0),
  (16, .aload_n 1, 1, 0, 0, 0, 0),
  (17, .invokevirtual 54, 3, 247, 1, 0, 0),
  (20, .ifCond .eq 5, 3, 25, 0, 0, 0),
  (23, .iconst 0, 1, 0, 0, 0, 0),
  (24, .ireturn, 1, 0, 0, 0, 0),
  (25, .aload_n 0, 1, 0, 0, 0, 0),
  (26, .dup, 1, 0, 0, 0, 0),
  (27, .getfield 25, 3, 4, 4, 0, 0),
  (30, .iconst 1, 1, 0, 0, 1, 0),
  (31, .iadd, 1, 0, 0, 0, 0),
  (32, .putfield 25, 3, 4, 4, 0, 0),
  (35, .iconst 0, 1, 0, 0, 0, 0),
  (36, .istore_n 2, 1, 0, 0, 0, 0),
  (37, .iload_n 2, 1, 0, 0, 0, 0),
  (38, .aload_n 1, 1, 0, 0, 0, 0),
  (39, .invokevirtual 59, 3, 246, 1, 0, 0),
  (42, .if_icmp .ge 41, 3, 83, 0, 0, 0),
  (45, .aload_n 0, 1, 0, 0, 0, 0),
  (46, .iload_n 2, 1, 0, 0, 0, 0),
  (47, .invokevirtual 61, 3, 68, 1, 0, 0),
  (50, .ifCond .eq 15, 3, 65, 0, 0, 0),
  (53, .aload_n 0, 1, 0, 0, 0, 0)]
set_option maxRecDepth 100000 in
set_option maxHeartbeats 4000000 in
theorem kk_66_0 : k_66_0.all (entOK (mCi 66) (mB 66)) = true := by decide +kernel
def k_66_1 : List XI := [(54, .invokevirtual 47, 3, 69, 1, 0, 0),
  (57, .aload_n 1, 1, 0, 0, 0, 0),
  (58, .iload_n 2, 1, 0, 0, 0, 0),
  (59, .invokevirtual 65, 3, 248, 1, 0, 0),
  (62, .if_icmp .eq 5, 3, 67, 0, 0, 0),
  (65, .iconst 0, 1, 0, 0, 0, 0),
  (66, .ireturn, 1, 0, 0, 0, 0),
  (67, .aload_n 0, 1, 0, 0, 0, 0),
  (68, .dup, 1, 0, 0, 0, 0),
  (69, .getfield 25, 3, 4, 4, 0, 0),
  (72, .iconst 1, 1, 0, 0, 1, 0),
  (73, .iadd, 1, 0, 0, 0, 0),
  (74, .putfield 25, 3, 4, 4, 0, 0),
  (77, .iinc 2 1, 3, 0, 0, 1, 0),
  (80, .goto (-43), 3, 37, 0, 0, 0),
  (83, .iconst 1, 1, 0, 0, 1, 0),
  (84, .ireturn, 1, 0, 0, 0, 0)]
set_option maxRecDepth 100000 in
set_option maxHeartbeats 4000000 in
theorem kk_66_1 : k_66_1.all (entOK (mCi 66) (mB 66)) = true := by decide +kernel
def k_66 : List XI := k_66_0 ++ (k_66_1)
theorem kk_66 : k_66.all (entOK (mCi 66) (mB 66)) = true := all_app kk_66_0 (kk_66_1)
set_option maxRecDepth 100000 in
set_option maxHeartbeats 4000000 in
theorem fTE_readStatement {E : XE} {h : Mem} {Q : Int32 → Mem → Prop}  
    (hF : CALLI E mTE_here [.ref 55] h fun v1 h1 => CALLR E mTE_marksOf [.int ((upd2 h1 55 3 v1) 55 3)] (upd2 h1 55 3 v1) fun v2 h2 => cnd ((Nat.ble 1001 v2 && Nat.ble v2 1006) && true) (CALLI E mJ_isEmpty [.ref v2] h2 fun v3 h3 => (v3 = 0 → WP E mTE_readStatement 37 [some (.ref 55), some (.ref v2), some (.int 0)] [] (upd2 h3 55 4 ((h3 55 4) + 1)) (qI Q)) ∧ (¬ v3 = 0 → Q 0 h3))) :
    CALLI E mTE_readStatement [.ref 55] h Q := CALL_of rfl (wp_sound [(37, [1, 1, 1])] kk_66 20 hF)
set_option maxRecDepth 100000 in
set_option maxHeartbeats 4000000 in
theorem fTE_readStatement_37 {E : XE} {h : Mem} {Q : Int32 → Mem → Prop} {q1 : Nat} {x2 : Int32} 
    (hF : cnd ((Nat.ble 1001 q1 && Nat.ble q1 1006) && true) (CALLI E mJ_length [.ref q1] h fun v1 h1 => (v1 ≤ x2 → Q 1 h1) ∧ (¬ v1 ≤ x2 → CALLI E mTE_readNumber [.ref 55, .int x2] h1 fun v2 h2 => (v2 = 0 → Q 0 h2) ∧ (¬ v2 = 0 → CALLI E mTE_here [.ref 55] h2 fun v3 h3 => cnd ((Nat.ble 1001 q1 && Nat.ble q1 1006) && true) (CALLI E mJ_charAt [.ref q1, .int x2] h3 fun v4 h4 => (v3 = v4 → WP E mTE_readStatement 37 [some (.ref 55), some (.ref q1), some (.int (x2 + 1))] [] (upd2 h4 55 4 ((h4 55 4) + 1)) (qI Q)) ∧ (¬ v3 = v4 → Q 0 h4)))))) :
    WP E mTE_readStatement 37 [some (.ref 55), some (.ref q1), some (.int x2)] [] h (qI Q) := wp_sound [(37, [1, 1, 1])] kk_66 23 hF
def k_67 : List XI := [(0, .iload_n 0, 1, 0, 0, 0, 0),
  (1, .tableswitch 98 104 120 #[92, 98, 98, 89, 98, 98, 98, 86, 98, 98, 86, 98, 83, 98, 98, 98, 95], 83, 0, 0, 0, 0),
  (84, .ldc 69, 2, 0, 1, 0, 0),
  (86, .areturn, 1, 0, 0, 0, 0),
  (87, .ldc 71, 2, 1, 1, 0, 0),
  (89, .areturn, 1, 0, 0, 0, 0),
  (90, .ldc 73, 2, 2, 1, 0, 0),
  (92, .areturn, 1, 0, 0, 0, 0),
  (93, .ldc 75, 2, 3, 1, 0, 0),
  (95, .areturn, 1, 0, 0, 0, 0),
  (96, .ldc 77, 2, 4, 1, 0, 0),
  (98, .areturn, 1, 0, 0, 0, 0),
  (99, .ldc 79, 2, 5, 1, 0, 0),
  (101, .areturn, 1, 0, 0, 0, 0)]
set_option maxRecDepth 100000 in
set_option maxHeartbeats 4000000 in
theorem kk_67 : k_67.all (entOK (mCi 67) (mB 67)) = true := by decide +kernel
set_option maxRecDepth 100000 in
set_option maxHeartbeats 4000000 in
theorem fTE_marksOf {E : XE} {h : Mem} {Q : Nat → Mem → Prop} {a1 : Int32} 
    (hF : (a1 = Int32.ofInt 104 → Q 1004 h) ∧ (¬ a1 = Int32.ofInt 104 → (a1 = Int32.ofInt 105 → Q 1006 h) ∧ (¬ a1 = Int32.ofInt 105 → (a1 = Int32.ofInt 106 → Q 1006 h) ∧ (¬ a1 = Int32.ofInt 106 → (a1 = Int32.ofInt 107 → Q 1003 h) ∧ (¬ a1 = Int32.ofInt 107 → (a1 = Int32.ofInt 108 → Q 1006 h) ∧ (¬ a1 = Int32.ofInt 108 → (a1 = Int32.ofInt 109 → Q 1006 h) ∧ (¬ a1 = Int32.ofInt 109 → (a1 = Int32.ofInt 110 → Q 1006 h) ∧ (¬ a1 = Int32.ofInt 110 → (a1 = Int32.ofInt 111 → Q 1002 h) ∧ (¬ a1 = Int32.ofInt 111 → (a1 = Int32.ofInt 112 → Q 1006 h) ∧ (¬ a1 = Int32.ofInt 112 → (a1 = Int32.ofInt 113 → Q 1006 h) ∧ (¬ a1 = Int32.ofInt 113 → (a1 = Int32.ofInt 114 → Q 1002 h) ∧ (¬ a1 = Int32.ofInt 114 → (a1 = Int32.ofInt 115 → Q 1006 h) ∧ (¬ a1 = Int32.ofInt 115 → (a1 = Int32.ofInt 116 → Q 1001 h) ∧ (¬ a1 = Int32.ofInt 116 → (a1 = Int32.ofInt 117 → Q 1006 h) ∧ (¬ a1 = Int32.ofInt 117 → (a1 = Int32.ofInt 118 → Q 1006 h) ∧ (¬ a1 = Int32.ofInt 118 → (a1 = Int32.ofInt 119 → Q 1006 h) ∧ (¬ a1 = Int32.ofInt 119 → (a1 = Int32.ofInt 120 → Q 1005 h) ∧ (¬ a1 = Int32.ofInt 120 → Q 1006 h)))))))))))))))))) :
    CALLR E mTE_marksOf [.int a1] h Q := CALL_of rfl (wp_sound [] kk_67 5 hF)
def k_68_0 : List XI := [(0, .aload_n 0, 1, 0, 0, 0, 0),
  (1, .invokevirtual 47, 3, 69, 1, 0, 0),
  (4, .invokestatic 81, 3, 70, 1, 0, 0),
  (7, .ifCond .eq 16, 3, 23, 0, 0, 0),
  (10, .iload_n 1, 1, 0, 0, 0, 0),
  (11, .ifCond .lt 12, 3, 23, 0, 0, 0),
  (14, .iload_n 1, 1, 0, 0, 0, 0),
  (15, .aload_n 0, 1, 0, 0, 0, 0),
  (16, .getfield 19, 3, 4, 2, 0, 0),
  (19, .arraylength, 1, 0, 0, 0, 0),
  (20, .if_icmp .lt 5, 3, 25, 0, 0, 0),
  (23, .iconst 0, 1, 0, 0, 0, 0),
  (24, .ireturn, 1, 0, 0, 0, 0),
  (25, .aload_n 0, 1, 0, 0, 0, 0),
  (26, .invokevirtual 47, 3, 69, 1, 0, 0),
  (29, .bipush 48, 2, 0, 0, 48, 0),
  (31, .isub, 1, 0, 0, 0, 0),
  (32, .istore_n 2, 1, 0, 0, 0, 0),
  (33, .aload_n 0, 1, 0, 0, 0, 0),
  (34, .dup, 1, 0, 0, 0, 0),
  (35, .getfield 25, 3, 4, 4, 0, 0),
  (38, .iconst 1, 1, 0, 0, 1, 0),
  (39, .iadd, 1, 0, 0, 0, 0),
  (40, .putfield 25, 3, 4, 4, 0, 0),
  (43, .aload_n 0, 1, 0, 0, 0, 0),
  (44, .invokevirtual 47, 3, 69, 1, 0, 0),
  (47, .invokestatic 81, 3, 70, 1, 0, 0),
  (50, .ifCond .eq 26, 3, 76, 0, 0, 0),
  (53, .iload_n 2, 1, 0, 0, 0, 0),
  (54, .bipush 10, 2, 0, 0, 10, 0)]
set_option maxRecDepth 100000 in
set_option maxHeartbeats 4000000 in
theorem kk_68_0 : k_68_0.all (entOK (mCi 68) (mB 68)) = true := by decide +kernel
def k_68_1 : List XI := [(56, .imul, 1, 0, 0, 0, 0),
  (57, .aload_n 0, 1, 0, 0, 0, 0),
  (58, .invokevirtual 47, 3, 69, 1, 0, 0),
  (61, .iadd, 1, 0, 0, 0, 0),
  (62, .bipush 48, 2, 0, 0, 48, 0),
  (64, .isub, 1, 0, 0, 0, 0),
  (65, .istore_n 2, 1, 0, 0, 0, 0),
  (66, .aload_n 0, 1, 0, 0, 0, 0),
  (67, .dup, 1, 0, 0, 0, 0),
  (68, .getfield 25, 3, 4, 4, 0, 0),
  (71, .iconst 1, 1, 0, 0, 1, 0),
  (72, .iadd, 1, 0, 0, 0, 0),
  (73, .putfield 25, 3, 4, 4, 0, 0),
  (76, .aload_n 0, 1, 0, 0, 0, 0),
  (77, .getfield 19, 3, 4, 2, 0, 0),
  (80, .iload_n 1, 1, 0, 0, 0, 0),
  (81, .iload_n 2, 1, 0, 0, 0, 0),
  (82, .iastore, 1, 0, 0, 0, 0),
  (83, .iconst 1, 1, 0, 0, 1, 0),
  (84, .ireturn, 1, 0, 0, 0, 0)]
set_option maxRecDepth 100000 in
set_option maxHeartbeats 4000000 in
theorem kk_68_1 : k_68_1.all (entOK (mCi 68) (mB 68)) = true := by decide +kernel
def k_68 : List XI := k_68_0 ++ (k_68_1)
theorem kk_68 : k_68.all (entOK (mCi 68) (mB 68)) = true := all_app kk_68_0 (kk_68_1)
set_option maxRecDepth 100000 in
set_option maxHeartbeats 4000000 in
theorem fTE_readNumber {E : XE} {h : Mem} {Q : Int32 → Mem → Prop} {a1 : Int32} 
    (hF : CALLI E mTE_here [.ref 55] h fun v1 h1 => CALLI E mTE_isDigit [.int v1] h1 fun v2 h2 => (v2 = 0 → Q 0 h2) ∧ (¬ v2 = 0 → (a1 < 0 → Q 0 h2) ∧ (¬ a1 < 0 → (a1 < (nI 3) → CALLI E mTE_here [.ref 55] h2 fun v3 h3 => CALLI E mTE_here [.ref 55] (upd2 h3 55 4 ((h3 55 4) + 1)) fun v4 h4 => CALLI E mTE_isDigit [.int v4] h4 fun v5 h5 => (v5 = 0 → cnd (inb a1 3) (Q 1 (upd2 h5 57 (ix a1) (v3 - 48)))) ∧ (¬ v5 = 0 → CALLI E mTE_here [.ref 55] h5 fun v6 h6 => cnd (inb a1 3) (Q 1 (upd2 (upd2 h6 55 4 ((h6 55 4) + 1)) 57 (ix a1) ((((v3 - 48) * 10) + v6) - 48))))) ∧ (¬ a1 < (nI 3) → Q 0 h2)))) :
    CALLI E mTE_readNumber [.ref 55, .int a1] h Q := CALL_of rfl (wp_sound [] kk_68 49 hF)
def k_69 : List XI := [(0, .aload_n 0, 1, 0, 0, 0, 0),
  (1, .getfield 25, 3, 4, 4, 0, 0),
  (4, .ifCond .lt 26, 3, 30, 0, 0, 0),
  (7, .aload_n 0, 1, 0, 0, 0, 0),
  (8, .getfield 25, 3, 4, 4, 0, 0),
  (11, .aload_n 0, 1, 0, 0, 0, 0),
  (12, .getfield 15, 3, 4, 1, 0, 0),
  (15, .if_icmp .ge 15, 3, 30, 0, 0, 0),
  (18, .aload_n 0, 1, 0, 0, 0, 0),
  (19, .getfield 9, 3, 4, 0, 0, 0),
  (22, .aload_n 0, 1, 0, 0, 0, 0),
  (23, .getfield 25, 3, 4, 4, 0, 0),
  (26, .iaload, 1, 0, 0, 0, 0),
  (27, .goto 4, 3, 31, 0, 0, 0),
  (30, .iconst (-1), 1, 0, 0, (-1), 0),
  (31, .ireturn, 1, 0, 0, 0, 0)]
set_option maxRecDepth 100000 in
set_option maxHeartbeats 4000000 in
theorem kk_69 : k_69.all (entOK (mCi 69) (mB 69)) = true := by decide +kernel
set_option maxRecDepth 100000 in
set_option maxHeartbeats 4000000 in
theorem fTE_here {E : XE} {h : Mem} {Q : Int32 → Mem → Prop}  
    (hF : ((h 55 4) < 0 → Q (-1) h) ∧ (¬ (h 55 4) < 0 → ((h 55 1) ≤ (h 55 4) → Q (-1) h) ∧ (¬ (h 55 1) ≤ (h 55 4) → cnd (inb (h 55 4) 96) (Q (h 56 (ix (h 55 4))) h)))) :
    CALLI E mTE_here [.ref 55] h Q := CALL_of rfl (wp_sound [] kk_69 16 hF)
def k_70 : List XI := [(0, .iload_n 0, 1, 0, 0, 0, 0),
  (1, .bipush 48, 2, 0, 0, 48, 0),
  (3, .if_icmp .lt 13, 3, 16, 0, 0, 0),
  (6, .iload_n 0, 1, 0, 0, 0, 0),
  (7, .bipush 57, 2, 0, 0, 57, 0),
  (9, .if_icmp .gt 7, 3, 16, 0, 0, 0),
  (12, .iconst 1, 1, 0, 0, 1, 0),
  (13, .goto 4, 3, 17, 0, 0, 0),
  (16, .iconst 0, 1, 0, 0, 0, 0),
  (17, .ireturn, 1, 0, 0, 0, 0)]
set_option maxRecDepth 100000 in
set_option maxHeartbeats 4000000 in
theorem kk_70 : k_70.all (entOK (mCi 70) (mB 70)) = true := by decide +kernel
set_option maxRecDepth 100000 in
set_option maxHeartbeats 4000000 in
theorem fTE_isDigit {E : XE} {h : Mem} {Q : Int32 → Mem → Prop} {a1 : Int32} 
    (hF : (a1 < 48 → Q 0 h) ∧ (¬ a1 < 48 → (57 < a1 → Q 0 h) ∧ (¬ 57 < a1 → Q 1 h))) :
    CALLI E mTE_isDigit [.int a1] h Q := CALL_of rfl (wp_sound [] kk_70 10 hF)
def k_71_0 : List XI := [(0, .aload_n 0, 1, 0, 0, 0, 0),
  (1, .getfield 19, 3, 4, 2, 0, 0),
  (4, .iconst 0, 1, 0, 0, 0, 0),
  (5, .iaload, 1, 0, 0, 0, 0),
  (6, .istore_n 2, 1, 0, 0, 0, 0),
  (7, .aload_n 0, 1, 0, 0, 0, 0),
  (8, .getfield 19, 3, 4, 2, 0, 0),
  (11, .iconst 1, 1, 0, 0, 1, 0),
  (12, .iaload, 1, 0, 0, 0, 0),
  (13, .istore_n 3, 1, 0, 0, 0, 0),
  (14, .aload_n 0, 1, 0, 0, 0, 0),
  (15, .getfield 19, 3, 4, 2, 0, 0),
  (18, .iconst 2, 1, 0, 0, 2, 0),
  (19, .iaload, 1, 0, 0, 0, 0),
  (20, .istore 4, 2, 0, 0, 0, 0),
  (22, .aload_n 0, 1, 0, 0, 0, 0),
  (23, .getfield 22, 3, 4, 3, 0, 0),
  (26, .bipush 116, 2, 0, 0, 116, 0),
  (28, .if_icmp .ne 32, 3, 60, 0, 0, 0),
  (31, .iload_n 2, 1, 0, 0, 0, 0),
  (32, .iload_n 3, 1, 0, 0, 0, 0),
  (33, .iload 4, 2, 0, 0, 0, 0),
  (35, .invokestatic 84, 3, 1, 1, 0, 0),
  (38, .ifCond .eq 20, 3, 58, 0, 0, 0),
  (41, .aload_n 1, 1, 0, 0, 0, 0),
  (42, .iload_n 2, 1, 0, 0, 0, 0),
  (43, .iload_n 3, 1, 0, 0, 0, 0),
  (44, .iload 4, 2, 0, 0, 0, 0),
  (46, .invokevirtual 90, 3, 6, 1, 0, 0),
  (49, .bipush (-9), 2, 0, 0, (-9), 0)]
set_option maxRecDepth 100000 in
set_option maxHeartbeats 4000000 in
theorem kk_71_0 : k_71_0.all (entOK (mCi 71) (mB 71)) = true := by decide +kernel
def k_71_1 : List XI := [(51, .if_icmp .eq 7, 3, 58, 0, 0, 0),
  (54, .iconst 1, 1, 0, 0, 1, 0),
  (55, .goto 4, 3, 59, 0, 0, 0),
  (58, .iconst 0, 1, 0, 0, 0, 0),
  (59, .ireturn, 1, 0, 0, 0, 0),
  (60, .aload_n 1, 1, 0, 0, 0, 0),
  (61, .iload_n 2, 1, 0, 0, 0, 0),
  (62, .invokevirtual 94, 3, 4, 1, 0, 0),
  (65, .ifCond .ne 5, 3, 70, 0, 0, 0),
  (68, .iconst 0, 1, 0, 0, 0, 0),
  (69, .ireturn, 1, 0, 0, 0, 0),
  (70, .aload_n 0, 1, 0, 0, 0, 0),
  (71, .getfield 22, 3, 4, 3, 0, 0),
  (74, .lookupswitch 105 #[(104, 75), (107, 66), (111, 42), (114, 54)], 42, 0, 0, 0, 0),
  (116, .aload_n 1, 1, 0, 0, 0, 0),
  (117, .getfield 97, 3, 0, 5, 0, 0),
  (120, .iload_n 2, 1, 0, 0, 0, 0),
  (121, .iload_n 3, 1, 0, 0, 0, 0),
  (122, .bipush 59, 2, 0, 0, 59, 0),
  (124, .invokestatic 100, 3, 73, 1, 0, 0),
  (127, .ireturn, 1, 0, 0, 0, 0),
  (128, .aload_n 1, 1, 0, 0, 0, 0),
  (129, .getfield 104, 3, 0, 6, 0, 0),
  (132, .iload_n 2, 1, 0, 0, 0, 0),
  (133, .iload_n 3, 1, 0, 0, 0, 0),
  (134, .bipush 9, 2, 0, 0, 9, 0),
  (136, .invokestatic 100, 3, 73, 1, 0, 0),
  (139, .ireturn, 1, 0, 0, 0, 0),
  (140, .aload_n 1, 1, 0, 0, 0, 0),
  (141, .iload_n 2, 1, 0, 0, 0, 0)]
set_option maxRecDepth 100000 in
set_option maxHeartbeats 4000000 in
theorem kk_71_1 : k_71_1.all (entOK (mCi 71) (mB 71)) = true := by decide +kernel
def k_71_2 : List XI := [(142, .iload_n 3, 1, 0, 0, 0, 0),
  (143, .iload 4, 2, 0, 0, 0, 0),
  (145, .invokestatic 107, 3, 72, 1, 0, 0),
  (148, .ireturn, 1, 0, 0, 0, 0),
  (149, .iload_n 3, 1, 0, 0, 0, 0),
  (150, .iconst 4, 1, 0, 0, 4, 0),
  (151, .if_icmp .ge 26, 3, 177, 0, 0, 0),
  (154, .aload_n 1, 1, 0, 0, 0, 0),
  (155, .getfield 111, 3, 0, 9, 0, 0),
  (158, .iload_n 2, 1, 0, 0, 0, 0),
  (159, .iconst 4, 1, 0, 0, 4, 0),
  (160, .imul, 1, 0, 0, 0, 0),
  (161, .iload_n 3, 1, 0, 0, 0, 0),
  (162, .iadd, 1, 0, 0, 0, 0),
  (163, .iload 4, 2, 0, 0, 0, 0),
  (165, .bipush 9, 2, 0, 0, 9, 0),
  (167, .invokestatic 100, 3, 73, 1, 0, 0),
  (170, .ifCond .eq 7, 3, 177, 0, 0, 0),
  (173, .iconst 1, 1, 0, 0, 1, 0),
  (174, .goto 4, 3, 178, 0, 0, 0),
  (177, .iconst 0, 1, 0, 0, 0, 0),
  (178, .ireturn, 1, 0, 0, 0, 0),
  (179, .aload_n 1, 1, 0, 0, 0, 0),
  (180, .iload_n 2, 1, 0, 0, 0, 0),
  (181, .invokevirtual 114, 3, 7, 0, 0, 0),
  (184, .iconst 1, 1, 0, 0, 1, 0),
  (185, .ireturn, 1, 0, 0, 0, 0)]
set_option maxRecDepth 100000 in
set_option maxHeartbeats 4000000 in
theorem kk_71_2 : k_71_2.all (entOK (mCi 71) (mB 71)) = true := by decide +kernel
def k_71 : List XI := k_71_0 ++ (k_71_1 ++ (k_71_2))
theorem kk_71 : k_71.all (entOK (mCi 71) (mB 71)) = true := all_app kk_71_0 (all_app kk_71_1 (kk_71_2))
set_option maxRecDepth 100000 in
set_option maxHeartbeats 4000000 in
theorem fTE_carryOut {E : XE} {h : Mem} {Q : Int32 → Mem → Prop} {p : Nat} (hp : p = 1 ∨ p = 15 ∨ p = 29)
    (hF : (¬ (h 55 3) = 116 → CALLI E mD_has [.ref p, .int (h 57 (ix 0))] h fun v1 h1 => (¬ v1 = 0 → ((h1 55 3) = Int32.ofInt 104 → (4 ≤ (h 57 (ix 1)) → WP E mTE_carryOut 177 [none, none, none, none, none] [] h1 (qI Q)) ∧ (¬ 4 ≤ (h 57 (ix 1)) → CALLI E mTE_put [.ref (p + 8), .int (((h 57 (ix 0)) * 4) + (h 57 (ix 1))), .int (h 57 (ix 2)), .int 9] h1 fun v6 h6 => (v6 = 0 → WP E mTE_carryOut 177 [none, none, none, none, none] [] h6 (qI Q)) ∧ (¬ v6 = 0 → WP E mTE_carryOut 178 [none, none, none, none, none] [.int 1] h6 (qI Q)))) ∧ (¬ (h1 55 3) = Int32.ofInt 104 → ((h1 55 3) = Int32.ofInt 107 → CALLI E mTE_putKind [.ref p, .int (h 57 (ix 0)), .int (h 57 (ix 1)), .int (h 57 (ix 2))] h1 fun v5 h5 => cnd (nb v5) (Q v5 h5)) ∧ (¬ (h1 55 3) = Int32.ofInt 107 → ((h1 55 3) = Int32.ofInt 111 → CALLI E mTE_put [.ref (p + 4), .int (h 57 (ix 0)), .int (h 57 (ix 1)), .int 59] h1 fun v4 h4 => cnd (nb v4) (Q v4 h4)) ∧ (¬ (h1 55 3) = Int32.ofInt 111 → ((h1 55 3) = Int32.ofInt 114 → CALLI E mTE_put [.ref (p + 5), .int (h 57 (ix 0)), .int (h 57 (ix 1)), .int 9] h1 fun v3 h3 => cnd (nb v3) (Q v3 h3)) ∧ (¬ (h1 55 3) = Int32.ofInt 114 → CALLV E mD_toggle [.ref p, .int (h 57 (ix 0))] h1 fun h2 => Q 1 h2))))) ∧ (v1 = 0 → Q 0 h1)) ∧ ((h 55 3) = 116 → CALLI E mD_canBe [.int (h 57 (ix 0)), .int (h 57 (ix 1)), .int (h 57 (ix 2))] h fun v7 h7 => (v7 = 0 → WP E mTE_carryOut 58 [none, none, none, none, none] [] h7 (qI Q)) ∧ (¬ v7 = 0 → CALLI E mD_add [.ref p, .int (h 57 (ix 0)), .int (h 57 (ix 1)), .int (h 57 (ix 2))] h7 fun v8 h8 => (v8 = (-9) → WP E mTE_carryOut 58 [none, none, none, none, none] [] h8 (qI Q)) ∧ (¬ v8 = (-9) → WP E mTE_carryOut 59 [none, none, none, none, none] [.int 1] h8 (qI Q))))) :
    CALLI E mTE_carryOut [.ref 55, .ref p] h Q := by
  rcases hp with rfl | rfl | rfl
  all_goals exact CALL_of rfl (wp_sound [(58, [0, 0, 0, 0, 0]), (59, [0, 0, 0, 0, 0]), (177, [0, 0, 0, 0, 0]), (178, [0, 0, 0, 0, 0])] kk_71 43 hF)
set_option maxRecDepth 100000 in
set_option maxHeartbeats 4000000 in
theorem fTE_carryOut_58 {E : XE} {h : Mem} {Q : Int32 → Mem → Prop}  
    (hF : WP E mTE_carryOut 59 [none, none, none, none, none] [.int 0] h (qI Q)) :
    WP E mTE_carryOut 58 [none, none, none, none, none] [] h (qI Q) := wp_sound [(58, [0, 0, 0, 0, 0]), (59, [0, 0, 0, 0, 0]), (177, [0, 0, 0, 0, 0]), (178, [0, 0, 0, 0, 0])] kk_71 2 hF
set_option maxRecDepth 100000 in
set_option maxHeartbeats 4000000 in
theorem fTE_carryOut_59 {E : XE} {h : Mem} {Q : Int32 → Mem → Prop} {s0 : Int32} 
    (hF : cnd (nb s0) (Q s0 h)) :
    WP E mTE_carryOut 59 [none, none, none, none, none] [.int s0] h (qI Q) := wp_sound [(58, [0, 0, 0, 0, 0]), (59, [0, 0, 0, 0, 0]), (177, [0, 0, 0, 0, 0]), (178, [0, 0, 0, 0, 0])] kk_71 2 hF
set_option maxRecDepth 100000 in
set_option maxHeartbeats 4000000 in
theorem fTE_carryOut_177 {E : XE} {h : Mem} {Q : Int32 → Mem → Prop}  
    (hF : WP E mTE_carryOut 178 [none, none, none, none, none] [.int 0] h (qI Q)) :
    WP E mTE_carryOut 177 [none, none, none, none, none] [] h (qI Q) := wp_sound [(58, [0, 0, 0, 0, 0]), (59, [0, 0, 0, 0, 0]), (177, [0, 0, 0, 0, 0]), (178, [0, 0, 0, 0, 0])] kk_71 2 hF
set_option maxRecDepth 100000 in
set_option maxHeartbeats 4000000 in
theorem fTE_carryOut_178 {E : XE} {h : Mem} {Q : Int32 → Mem → Prop} {s0 : Int32} 
    (hF : cnd (nb s0) (Q s0 h)) :
    WP E mTE_carryOut 178 [none, none, none, none, none] [.int s0] h (qI Q) := wp_sound [(58, [0, 0, 0, 0, 0]), (59, [0, 0, 0, 0, 0]), (177, [0, 0, 0, 0, 0]), (178, [0, 0, 0, 0, 0])] kk_71 2 hF
def k_72 : List XI := [(0, .iload_n 2, 1, 0, 0, 0, 0),
  (1, .bipush 6, 2, 0, 0, 6, 0),
  (3, .if_icmp .ge 9, 3, 12, 0, 0, 0),
  (6, .iload_n 3, 1, 0, 0, 0, 0),
  (7, .bipush 9, 2, 0, 0, 9, 0),
  (9, .if_icmp .le 5, 3, 14, 0, 0, 0),
  (12, .iconst 0, 1, 0, 0, 0, 0),
  (13, .ireturn, 1, 0, 0, 0, 0),
  (14, .aload_n 0, 1, 0, 0, 0, 0),
  (15, .iload_n 1, 1, 0, 0, 0, 0),
  (16, .iload_n 2, 1, 0, 0, 0, 0),
  (17, .iload_n 3, 1, 0, 0, 0, 0),
  (18, .invokevirtual 118, 3, 9, 0, 0, 0),
  (21, .iconst 1, 1, 0, 0, 1, 0),
  (22, .ireturn, 1, 0, 0, 0, 0)]
set_option maxRecDepth 100000 in
set_option maxHeartbeats 4000000 in
theorem kk_72 : k_72.all (entOK (mCi 72) (mB 72)) = true := by decide +kernel
set_option maxRecDepth 100000 in
set_option maxHeartbeats 4000000 in
theorem fTE_putKind {E : XE} {h : Mem} {Q : Int32 → Mem → Prop} {p : Nat} {a2 : Int32} {a3 : Int32} {a4 : Int32} (hp : p = 1 ∨ p = 15 ∨ p = 29)
    (hF : (6 ≤ a3 → Q 0 h) ∧ (¬ 6 ≤ a3 → (a4 ≤ 9 → CALLV E mD_setKind [.ref p, .int a2, .int a3, .int a4] h fun h1 => Q 1 h1) ∧ (¬ a4 ≤ 9 → Q 0 h))) :
    CALLI E mTE_putKind [.ref p, .int a2, .int a3, .int a4] h Q := by
  rcases hp with rfl | rfl | rfl
  all_goals exact CALL_of rfl (wp_sound [] kk_72 14 hF)
def k_73 : List XI := [(0, .iload_n 1, 1, 0, 0, 0, 0),
  (1, .ifCond .lt 18, 3, 19, 0, 0, 0),
  (4, .iload_n 1, 1, 0, 0, 0, 0),
  (5, .aload_n 0, 1, 0, 0, 0, 0),
  (6, .arraylength, 1, 0, 0, 0, 0),
  (7, .if_icmp .ge 12, 3, 19, 0, 0, 0),
  (10, .iload_n 2, 1, 0, 0, 0, 0),
  (11, .ifCond .lt 8, 3, 19, 0, 0, 0),
  (14, .iload_n 2, 1, 0, 0, 0, 0),
  (15, .iload_n 3, 1, 0, 0, 0, 0),
  (16, .if_icmp .le 5, 3, 21, 0, 0, 0),
  (19, .iconst 0, 1, 0, 0, 0, 0),
  (20, .ireturn, 1, 0, 0, 0, 0),
  (21, .aload_n 0, 1, 0, 0, 0, 0),
  (22, .iload_n 1, 1, 0, 0, 0, 0),
  (23, .iload_n 2, 1, 0, 0, 0, 0),
  (24, .iastore, 1, 0, 0, 0, 0),
  (25, .iconst 1, 1, 0, 0, 1, 0),
  (26, .ireturn, 1, 0, 0, 0, 0)]
set_option maxRecDepth 100000 in
set_option maxHeartbeats 4000000 in
theorem kk_73 : k_73.all (entOK (mCi 73) (mB 73)) = true := by decide +kernel
set_option maxRecDepth 100000 in
set_option maxHeartbeats 4000000 in
theorem fTE_put {E : XE} {h : Mem} {Q : Int32 → Mem → Prop} {a1 : Nat} {a2 : Int32} {a3 : Int32} {a4 : Int32} (ha1 : a1 = 19 ∨ a1 = 20 ∨ a1 = 23)
    (hF : (a2 < 0 → Q 0 h) ∧ (¬ a2 < 0 → shN a1 0 fun n1 => ((nI n1) ≤ a2 → Q 0 h) ∧ (¬ (nI n1) ≤ a2 → (a3 < 0 → Q 0 h) ∧ (¬ a3 < 0 → (a3 ≤ a4 → shN a1 0 fun n2 => cnd (inb a2 n2) (Q 1 (upd2 h a1 (ix a2) a3))) ∧ (¬ a3 ≤ a4 → Q 0 h))))) :
    CALLI E mTE_put [.ref a1, .int a2, .int a3, .int a4] h Q := by
  rcases ha1 with rfl | rfl | rfl
  all_goals exact CALL_of rfl (wp_sound [] kk_73 18 hF)
