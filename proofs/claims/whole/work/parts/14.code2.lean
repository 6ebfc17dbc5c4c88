def k_19_0 : List XI := [(0, .aload_n 0, 1, 0, 0, 0, 0),
  (1, .bipush (-9), 2, 0, 0, (-9), 0),
  (3, .putfield 9, 3, 2, 0, 0, 0),
  (6, .aload_n 1, 1, 0, 0, 0, 0),
  (7, .aload_n 1, 1, 0, 0, 0, 0),
  (8, .getfield 24, 3, 0, 1, 0, 0),
  (11, .iconst 1, 1, 0, 0, 1, 0),
  (12, .invokevirtual 29, 3, 13, 1, 0, 0),
  (15, .istore_n 2, 1, 0, 0, 0, 0),
  (16, .iconst 0, 1, 0, 0, 0, 0),
  (17, .istore_n 3, 1, 0, 0, 0, 0),
  (18, .iload_n 3, 1, 0, 0, 0, 0),
  (19, .sipush 600, 3, 0, 0, 600, 0),
  (22, .if_icmp .gt 50, 3, 72, 0, 0, 0),
  (25, .iload_n 2, 1, 0, 0, 0, 0),
  (26, .sipush 600, 3, 0, 0, 600, 0),
  (29, .if_icmp .gt 43, 3, 72, 0, 0, 0),
  (32, .aload_n 0, 1, 0, 0, 0, 0),
  (33, .getfield 9, 3, 2, 0, 0, 0),
  (36, .bipush (-9), 2, 0, 0, (-9), 0),
  (38, .if_icmp .ne 34, 3, 72, 0, 0, 0),
  (41, .aload_n 1, 1, 0, 0, 0, 0),
  (42, .aload_n 1, 1, 0, 0, 0, 0),
  (43, .getfield 24, 3, 0, 1, 0, 0),
  (46, .iload_n 2, 1, 0, 0, 0, 0),
  (47, .invokevirtual 29, 3, 13, 1, 0, 0),
  (50, .istore 4, 2, 0, 0, 0, 0),
  (52, .iload 4, 2, 0, 0, 0, 0),
  (54, .iload_n 2, 1, 0, 0, 0, 0),
  (55, .if_icmp .ne 8, 3, 63, 0, 0, 0)]
set_option maxRecDepth 100000 in
set_option maxHeartbeats 4000000 in
theorem kk_19_0 : k_19_0.all (entOK (mCi 19) (mB 19)) = true := by decide +kernel
def k_19_1 : List XI := [(58, .aload_n 0, 1, 0, 0, 0, 0),
  (59, .iload_n 2, 1, 0, 0, 0, 0),
  (60, .putfield 9, 3, 2, 0, 0, 0),
  (63, .iload 4, 2, 0, 0, 0, 0),
  (65, .istore_n 2, 1, 0, 0, 0, 0),
  (66, .iinc 3 1, 3, 0, 0, 1, 0),
  (69, .goto (-51), 3, 18, 0, 0, 0),
  (72, .aload_n 0, 1, 0, 0, 0, 0),
  (73, .aload_n 0, 1, 0, 0, 0, 0),
  (74, .getfield 9, 3, 2, 0, 0, 0),
  (77, .bipush (-9), 2, 0, 0, (-9), 0),
  (79, .if_icmp .ne 9, 3, 88, 0, 0, 0),
  (82, .sipush 600, 3, 0, 0, 600, 0),
  (85, .goto 7, 3, 92, 0, 0, 0),
  (88, .aload_n 0, 1, 0, 0, 0, 0),
  (89, .getfield 9, 3, 2, 0, 0, 0),
  (92, .putfield 15, 3, 2, 1, 0, 0),
  (95, .aload_n 0, 1, 0, 0, 0, 0),
  (96, .iconst 0, 1, 0, 0, 0, 0),
  (97, .putfield 18, 3, 2, 2, 0, 0),
  (100, .aload_n 0, 1, 0, 0, 0, 0),
  (101, .iconst 0, 1, 0, 0, 0, 0),
  (102, .putfield 21, 3, 2, 3, 0, 0),
  (105, .return_, 1, 0, 0, 0, 0)]
set_option maxRecDepth 100000 in
set_option maxHeartbeats 4000000 in
theorem kk_19_1 : k_19_1.all (entOK (mCi 19) (mB 19)) = true := by decide +kernel
def k_19 : List XI := k_19_0 ++ (k_19_1)
theorem kk_19 : k_19.all (entOK (mCi 19) (mB 19)) = true := all_app kk_19_0 (kk_19_1)
set_option maxRecDepth 100000 in
set_option maxHeartbeats 4000000 in
theorem fPW_begin {E : XE} {h : Mem} {Q : Mem → Prop} {p : Nat} (hp : p = 1 ∨ p = 15 ∨ p = 29)
    (hF : CALLI E mD_workAsked [.ref p, .int ((upd2 h 43 0 (-9)) p 1), .int 1] (upd2 h 43 0 (-9)) fun v1 h1 => WP E mPW_begin 18 [some (.ref 43), some (.ref p), some (.int v1), some (.int 0), none] [] h1 (qV Q)) :
    CALLV E mPW_begin [.ref 43, .ref p] h Q := by
  rcases hp with rfl | rfl | rfl
  all_goals exact CALL_of rfl (wp_sound [(18, [1, 1, 1, 1, 0])] kk_19 12 hF)
set_option maxRecDepth 100000 in
set_option maxHeartbeats 4000000 in
theorem fPW_begin_18 {E : XE} {h : Mem} {Q : Mem → Prop} {p : Nat} {x2 : Int32} {x3 : Int32} (hp : p = 1 ∨ p = 15 ∨ p = 29)
    (hF : (600 < x3 → (¬ (h 43 0) = (-9) → Q (upd2 (upd2 (upd2 h 43 1 (h 43 0)) 43 2 0) 43 3 0)) ∧ ((h 43 0) = (-9) → Q (upd2 (upd2 (upd2 h 43 1 600) 43 2 0) 43 3 0))) ∧ (¬ 600 < x3 → (600 < x2 → (¬ (h 43 0) = (-9) → Q (upd2 (upd2 (upd2 h 43 1 (h 43 0)) 43 2 0) 43 3 0)) ∧ ((h 43 0) = (-9) → Q (upd2 (upd2 (upd2 h 43 1 600) 43 2 0) 43 3 0))) ∧ (¬ 600 < x2 → (¬ (h 43 0) = (-9) → (¬ (h 43 0) = (-9) → Q (upd2 (upd2 (upd2 h 43 1 (h 43 0)) 43 2 0) 43 3 0)) ∧ ((h 43 0) = (-9) → Q (upd2 (upd2 (upd2 h 43 1 600) 43 2 0) 43 3 0))) ∧ ((h 43 0) = (-9) → CALLI E mD_workAsked [.ref p, .int (h p 1), .int x2] h fun v1 h1 => (¬ v1 = x2 → WP E mPW_begin 18 [some (.ref 43), some (.ref p), some (.int v1), some (.int (x3 + 1)), none] [] h1 (qV Q)) ∧ (v1 = x2 → WP E mPW_begin 18 [some (.ref 43), some (.ref p), some (.int v1), some (.int (x3 + 1)), none] [] (upd2 h1 43 0 x2) (qV Q)))))) :
    WP E mPW_begin 18 [some (.ref 43), some (.ref p), some (.int x2), some (.int x3), none] [] h (qV Q) := by
  rcases hp with rfl | rfl | rfl
  all_goals exact wp_sound [(18, [1, 1, 1, 1, 0])] kk_19 27 hF
def k_20 : List XI := [(0, .aload_n 0, 1, 0, 0, 0, 0),
  (1, .aload_n 1, 1, 0, 0, 0, 0),
  (2, .invokevirtual 33, 3, 19, 0, 0, 0),
  (5, .aload_n 0, 1, 0, 0, 0, 0),
  (6, .getfield 9, 3, 2, 0, 0, 0),
  (9, .ireturn, 1, 0, 0, 0, 0)]
set_option maxRecDepth 100000 in
set_option maxHeartbeats 4000000 in
theorem kk_20 : k_20.all (entOK (mCi 20) (mB 20)) = true := by decide +kernel
set_option maxRecDepth 100000 in
set_option maxHeartbeats 4000000 in
theorem fPW_busyTime {E : XE} {h : Mem} {Q : Int32 → Mem → Prop} {p : Nat} (hp : p = 1 ∨ p = 15 ∨ p = 29)
    (hF : CALLV E mPW_begin [.ref 43, .ref p] h fun h1 => Q (h1 43 0) h1) :
    CALLI E mPW_busyTime [.ref 43, .ref p] h Q := by
  rcases hp with rfl | rfl | rfl
  all_goals exact CALL_of rfl (wp_sound [] kk_20 7 hF)
def k_21_0 : List XI := [(0, .aload_n 0, 1, 0, 0, 0, 0),
  (1, .getfield 18, 3, 2, 2, 0, 0),
  (4, .iconst 1, 1, 0, 0, 1, 0),
  (5, .iadd, 1, 0, 0, 0, 0),
  (6, .istore_n 2, 1, 0, 0, 0, 0),
  (7, .iload_n 2, 1, 0, 0, 0, 0),
  (8, .aload_n 0, 1, 0, 0, 0, 0),
  (9, .getfield 15, 3, 2, 1, 0, 0),
  (12, .if_icmp .gt 35, 3, 47, 0, 0, 0),
  (15, .aload_n 1, 1, 0, 0, 0, 0),
  (16, .iload_n 2, 1, 0, 0, 0, 0),
  (17, .invokevirtual 37, 3, 12, 1, 0, 0),
  (20, .istore_n 3, 1, 0, 0, 0, 0),
  (21, .iload_n 3, 1, 0, 0, 0, 0),
  (22, .aload_n 0, 1, 0, 0, 0, 0),
  (23, .getfield 21, 3, 2, 3, 0, 0),
  (26, .if_icmp .le 15, 3, 41, 0, 0, 0),
  (29, .aload_n 0, 1, 0, 0, 0, 0),
  (30, .iload_n 2, 1, 0, 0, 0, 0),
  (31, .putfield 18, 3, 2, 2, 0, 0),
  (34, .aload_n 0, 1, 0, 0, 0, 0),
  (35, .iload_n 3, 1, 0, 0, 0, 0),
  (36, .putfield 21, 3, 2, 3, 0, 0),
  (39, .iconst 1, 1, 0, 0, 1, 0),
  (40, .ireturn, 1, 0, 0, 0, 0),
  (41, .iinc 2 1, 3, 0, 0, 1, 0),
  (44, .goto (-37), 3, 7, 0, 0, 0),
  (47, .aload_n 0, 1, 0, 0, 0, 0),
  (48, .aload_n 0, 1, 0, 0, 0, 0),
  (49, .getfield 15, 3, 2, 1, 0, 0)]
set_option maxRecDepth 100000 in
set_option maxHeartbeats 4000000 in
theorem kk_21_0 : k_21_0.all (entOK (mCi 21) (mB 21)) = true := by decide +kernel
def k_21_1 : List XI := [(52, .putfield 18, 3, 2, 2, 0, 0),
  (55, .iconst 0, 1, 0, 0, 0, 0),
  (56, .ireturn, 1, 0, 0, 0, 0)]
set_option maxRecDepth 100000 in
set_option maxHeartbeats 4000000 in
theorem kk_21_1 : k_21_1.all (entOK (mCi 21) (mB 21)) = true := by decide +kernel
def k_21 : List XI := k_21_0 ++ (k_21_1)
theorem kk_21 : k_21.all (entOK (mCi 21) (mB 21)) = true := all_app kk_21_0 (kk_21_1)
set_option maxRecDepth 100000 in
set_option maxHeartbeats 4000000 in
theorem fPW_goOn {E : XE} {h : Mem} {Q : Int32 → Mem → Prop} {p : Nat} (hp : p = 1 ∨ p = 15 ∨ p = 29)
    (hF : WP E mPW_goOn 7 [some (.ref 43), some (.ref p), some (.int ((h 43 2) + 1)), none] [] h (qI Q)) :
    CALLI E mPW_goOn [.ref 43, .ref p] h Q := by
  rcases hp with rfl | rfl | rfl
  all_goals exact CALL_of rfl (wp_sound [(7, [1, 1, 1, 0])] kk_21 6 hF)
set_option maxRecDepth 100000 in
set_option maxHeartbeats 4000000 in
theorem fPW_goOn_7 {E : XE} {h : Mem} {Q : Int32 → Mem → Prop} {p : Nat} {x2 : Int32} (hp : p = 1 ∨ p = 15 ∨ p = 29)
    (hF : ((h 43 1) < x2 → Q 0 (upd2 h 43 2 (h 43 1))) ∧ (¬ (h 43 1) < x2 → CALLI E mD_demandWithin [.ref p, .int x2] h fun v1 h1 => (v1 ≤ (h1 43 3) → WP E mPW_goOn 7 [some (.ref 43), some (.ref p), some (.int (x2 + 1)), none] [] h1 (qI Q)) ∧ (¬ v1 ≤ (h1 43 3) → Q 1 (upd2 (upd2 h1 43 2 x2) 43 3 v1)))) :
    WP E mPW_goOn 7 [some (.ref 43), some (.ref p), some (.int x2), none] [] h (qI Q) := by
  rcases hp with rfl | rfl | rfl
  all_goals exact wp_sound [(7, [1, 1, 1, 0])] kk_21 21 hF
def k_22 : List XI := [(0, .iconst 0, 1, 0, 0, 0, 0),
  (1, .istore_n 2, 1, 0, 0, 0, 0),
  (2, .aload_n 0, 1, 0, 0, 0, 0),
  (3, .aload_n 1, 1, 0, 0, 0, 0),
  (4, .invokevirtual 33, 3, 19, 0, 0, 0),
  (7, .iload_n 2, 1, 0, 0, 0, 0),
  (8, .sipush 600, 3, 0, 0, 600, 0),
  (11, .if_icmp .ge 17, 3, 28, 0, 0, 0),
  (14, .aload_n 0, 1, 0, 0, 0, 0),
  (15, .aload_n 1, 1, 0, 0, 0, 0),
  (16, .invokevirtual 41, 3, 21, 1, 0, 0),
  (19, .ifCond .eq 9, 3, 28, 0, 0, 0),
  (22, .iinc 2 1, 3, 0, 0, 1, 0),
  (25, .goto (-18), 3, 7, 0, 0, 0),
  (28, .iload_n 2, 1, 0, 0, 0, 0),
  (29, .ireturn, 1, 0, 0, 0, 0)]
set_option maxRecDepth 100000 in
set_option maxHeartbeats 4000000 in
theorem kk_22 : k_22.all (entOK (mCi 22) (mB 22)) = true := by decide +kernel
set_option maxRecDepth 100000 in
set_option maxHeartbeats 4000000 in
theorem fPW_countPoints {E : XE} {h : Mem} {Q : Int32 → Mem → Prop} {p : Nat} (hp : p = 1 ∨ p = 15 ∨ p = 29)
    (hF : CALLV E mPW_begin [.ref 43, .ref p] h fun h1 => WP E mPW_countPoints 7 [some (.ref 43), some (.ref p), some (.int 0)] [] h1 (qI Q)) :
    CALLI E mPW_countPoints [.ref 43, .ref p] h Q := by
  rcases hp with rfl | rfl | rfl
  all_goals exact CALL_of rfl (wp_sound [(7, [1, 1, 1])] kk_22 6 hF)
set_option maxRecDepth 100000 in
set_option maxHeartbeats 4000000 in
theorem fPW_countPoints_7 {E : XE} {h : Mem} {Q : Int32 → Mem → Prop} {p : Nat} {x2 : Int32} (hp : p = 1 ∨ p = 15 ∨ p = 29)
    (hF : (600 ≤ x2 → Q x2 h) ∧ (¬ 600 ≤ x2 → CALLI E mPW_goOn [.ref 43, .ref p] h fun v1 h1 => (v1 = 0 → Q x2 h1) ∧ (¬ v1 = 0 → WP E mPW_countPoints 7 [some (.ref 43), some (.ref p), some (.int (x2 + 1))] [] h1 (qI Q)))) :
    WP E mPW_countPoints 7 [some (.ref 43), some (.ref p), some (.int x2)] [] h (qI Q) := by
  rcases hp with rfl | rfl | rfl
  all_goals exact wp_sound [(7, [1, 1, 1])] kk_22 10 hF
def k_23 : List XI := [(0, .aload_n 0, 1, 0, 0, 0, 0),
  (1, .aload_n 1, 1, 0, 0, 0, 0),
  (2, .invokevirtual 33, 3, 19, 0, 0, 0),
  (5, .iconst 0, 1, 0, 0, 0, 0),
  (6, .istore_n 3, 1, 0, 0, 0, 0),
  (7, .iload_n 3, 1, 0, 0, 0, 0),
  (8, .sipush 600, 3, 0, 0, 600, 0),
  (11, .if_icmp .ge 27, 3, 38, 0, 0, 0),
  (14, .aload_n 0, 1, 0, 0, 0, 0),
  (15, .aload_n 1, 1, 0, 0, 0, 0),
  (16, .invokevirtual 41, 3, 21, 1, 0, 0),
  (19, .ifCond .eq 19, 3, 38, 0, 0, 0),
  (22, .iload_n 3, 1, 0, 0, 0, 0),
  (23, .iload_n 2, 1, 0, 0, 0, 0),
  (24, .if_icmp .ne 8, 3, 32, 0, 0, 0),
  (27, .aload_n 0, 1, 0, 0, 0, 0),
  (28, .getfield 18, 3, 2, 2, 0, 0),
  (31, .ireturn, 1, 0, 0, 0, 0),
  (32, .iinc 3 1, 3, 0, 0, 1, 0),
  (35, .goto (-28), 3, 7, 0, 0, 0),
  (38, .bipush (-9), 2, 0, 0, (-9), 0),
  (40, .ireturn, 1, 0, 0, 0, 0)]
set_option maxRecDepth 100000 in
set_option maxHeartbeats 4000000 in
theorem kk_23 : k_23.all (entOK (mCi 23) (mB 23)) = true := by decide +kernel
set_option maxRecDepth 100000 in
set_option maxHeartbeats 4000000 in
theorem fPW_pointAt {E : XE} {h : Mem} {Q : Int32 → Mem → Prop} {p : Nat} {a2 : Int32} (hp : p = 1 ∨ p = 15 ∨ p = 29)
    (hF : CALLV E mPW_begin [.ref 43, .ref p] h fun h1 => WP E mPW_pointAt 7 [some (.ref 43), some (.ref p), some (.int a2), some (.int 0)] [] h1 (qI Q)) :
    CALLI E mPW_pointAt [.ref 43, .ref p, .int a2] h Q := by
  rcases hp with rfl | rfl | rfl
  all_goals exact CALL_of rfl (wp_sound [(7, [1, 1, 1, 1])] kk_23 6 hF)
set_option maxRecDepth 100000 in
set_option maxHeartbeats 4000000 in
theorem fPW_pointAt_7 {E : XE} {h : Mem} {Q : Int32 → Mem → Prop} {p : Nat} {x2 : Int32} {x3 : Int32} (hp : p = 1 ∨ p = 15 ∨ p = 29)
    (hF : (600 ≤ x3 → Q (-9) h) ∧ (¬ 600 ≤ x3 → CALLI E mPW_goOn [.ref 43, .ref p] h fun v1 h1 => (v1 = 0 → Q (-9) h1) ∧ (¬ v1 = 0 → (¬ x3 = x2 → WP E mPW_pointAt 7 [some (.ref 43), some (.ref p), some (.int x2), some (.int (x3 + 1))] [] h1 (qI Q)) ∧ (x3 = x2 → Q (h1 43 2) h1)))) :
    WP E mPW_pointAt 7 [some (.ref 43), some (.ref p), some (.int x2), some (.int x3)] [] h (qI Q) := by
  rcases hp with rfl | rfl | rfl
  all_goals exact wp_sound [(7, [1, 1, 1, 1])] kk_23 14 hF
def k_24 : List XI := [(0, .aload_n 0, 1, 0, 0, 0, 0),
  (1, .aload_n 1, 1, 0, 0, 0, 0),
  (2, .invokevirtual 33, 3, 19, 0, 0, 0),
  (5, .iconst 0, 1, 0, 0, 0, 0),
  (6, .istore_n 2, 1, 0, 0, 0, 0),
  (7, .iload_n 2, 1, 0, 0, 0, 0),
  (8, .sipush 600, 3, 0, 0, 600, 0),
  (11, .if_icmp .ge 33, 3, 44, 0, 0, 0),
  (14, .aload_n 0, 1, 0, 0, 0, 0),
  (15, .aload_n 1, 1, 0, 0, 0, 0),
  (16, .invokevirtual 41, 3, 21, 1, 0, 0),
  (19, .ifCond .eq 25, 3, 44, 0, 0, 0),
  (22, .aload_n 0, 1, 0, 0, 0, 0),
  (23, .getfield 21, 3, 2, 3, 0, 0),
  (26, .aload_n 0, 1, 0, 0, 0, 0),
  (27, .getfield 18, 3, 2, 2, 0, 0),
  (30, .if_icmp .le 8, 3, 38, 0, 0, 0),
  (33, .aload_n 0, 1, 0, 0, 0, 0),
  (34, .getfield 18, 3, 2, 2, 0, 0),
  (37, .ireturn, 1, 0, 0, 0, 0),
  (38, .iinc 2 1, 3, 0, 0, 1, 0),
  (41, .goto (-34), 3, 7, 0, 0, 0),
  (44, .bipush (-9), 2, 0, 0, (-9), 0),
  (46, .ireturn, 1, 0, 0, 0, 0)]
set_option maxRecDepth 100000 in
set_option maxHeartbeats 4000000 in
theorem kk_24 : k_24.all (entOK (mCi 24) (mB 24)) = true := by decide +kernel
set_option maxRecDepth 100000 in
set_option maxHeartbeats 4000000 in
theorem fPW_missTime {E : XE} {h : Mem} {Q : Int32 → Mem → Prop} {p : Nat} (hp : p = 1 ∨ p = 15 ∨ p = 29)
    (hF : CALLV E mPW_begin [.ref 43, .ref p] h fun h1 => WP E mPW_missTime 7 [some (.ref 43), some (.ref p), some (.int 0)] [] h1 (qI Q)) :
    CALLI E mPW_missTime [.ref 43, .ref p] h Q := by
  rcases hp with rfl | rfl | rfl
  all_goals exact CALL_of rfl (wp_sound [(7, [1, 1, 1])] kk_24 6 hF)
set_option maxRecDepth 100000 in
set_option maxHeartbeats 4000000 in
theorem fPW_missTime_7 {E : XE} {h : Mem} {Q : Int32 → Mem → Prop} {p : Nat} {x2 : Int32} (hp : p = 1 ∨ p = 15 ∨ p = 29)
    (hF : (600 ≤ x2 → Q (-9) h) ∧ (¬ 600 ≤ x2 → CALLI E mPW_goOn [.ref 43, .ref p] h fun v1 h1 => (v1 = 0 → Q (-9) h1) ∧ (¬ v1 = 0 → ((h1 43 3) ≤ (h1 43 2) → WP E mPW_missTime 7 [some (.ref 43), some (.ref p), some (.int (x2 + 1))] [] h1 (qI Q)) ∧ (¬ (h1 43 3) ≤ (h1 43 2) → Q (h1 43 2) h1)))) :
    WP E mPW_missTime 7 [some (.ref 43), some (.ref p), some (.int x2)] [] h (qI Q) := by
  rcases hp with rfl | rfl | rfl
  all_goals exact wp_sound [(7, [1, 1, 1])] kk_24 16 hF
def k_25 : List XI := [(0, .sipush 1000, 3, 0, 0, 1000, 0),
  (3, .istore_n 2, 1, 0, 0, 0, 0),
  (4, .aload_n 0, 1, 0, 0, 0, 0),
  (5, .aload_n 1, 1, 0, 0, 0, 0),
  (6, .invokevirtual 33, 3, 19, 0, 0, 0),
  (9, .iconst 0, 1, 0, 0, 0, 0),
  (10, .istore_n 3, 1, 0, 0, 0, 0),
  (11, .iload_n 3, 1, 0, 0, 0, 0),
  (12, .sipush 600, 3, 0, 0, 600, 0),
  (15, .if_icmp .ge 31, 3, 46, 0, 0, 0),
  (18, .aload_n 0, 1, 0, 0, 0, 0),
  (19, .aload_n 1, 1, 0, 0, 0, 0),
  (20, .invokevirtual 41, 3, 21, 1, 0, 0),
  (23, .ifCond .eq 23, 3, 46, 0, 0, 0),
  (26, .iload_n 2, 1, 0, 0, 0, 0),
  (27, .aload_n 0, 1, 0, 0, 0, 0),
  (28, .getfield 18, 3, 2, 2, 0, 0),
  (31, .aload_n 0, 1, 0, 0, 0, 0),
  (32, .getfield 21, 3, 2, 3, 0, 0),
  (35, .isub, 1, 0, 0, 0, 0),
  (36, .invokestatic 45, 3, 997, 0, 0, 0),
  (39, .istore_n 2, 1, 0, 0, 0, 0),
  (40, .iinc 3 1, 3, 0, 0, 1, 0),
  (43, .goto (-32), 3, 11, 0, 0, 0),
  (46, .iload_n 2, 1, 0, 0, 0, 0),
  (47, .ireturn, 1, 0, 0, 0, 0)]
set_option maxRecDepth 100000 in
set_option maxHeartbeats 4000000 in
theorem kk_25 : k_25.all (entOK (mCi 25) (mB 25)) = true := by decide +kernel
set_option maxRecDepth 100000 in
set_option maxHeartbeats 4000000 in
theorem fPW_leastSpare {E : XE} {h : Mem} {Q : Int32 → Mem → Prop} {p : Nat} (hp : p = 1 ∨ p = 15 ∨ p = 29)
    (hF : CALLV E mPW_begin [.ref 43, .ref p] h fun h1 => WP E mPW_leastSpare 11 [some (.ref 43), some (.ref p), some (.int 1000), some (.int 0)] [] h1 (qI Q)) :
    CALLI E mPW_leastSpare [.ref 43, .ref p] h Q := by
  rcases hp with rfl | rfl | rfl
  all_goals exact CALL_of rfl (wp_sound [(11, [1, 1, 1, 1])] kk_25 8 hF)
set_option maxRecDepth 100000 in
set_option maxHeartbeats 4000000 in
theorem fPW_leastSpare_11 {E : XE} {h : Mem} {Q : Int32 → Mem → Prop} {p : Nat} {x2 : Int32} {x3 : Int32} (hp : p = 1 ∨ p = 15 ∨ p = 29)
    (hF : (600 ≤ x3 → Q x2 h) ∧ (¬ 600 ≤ x3 → CALLI E mPW_goOn [.ref 43, .ref p] h fun v1 h1 => (v1 = 0 → Q x2 h1) ∧ (¬ v1 = 0 → WP E mPW_leastSpare 11 [some (.ref 43), some (.ref p), some (.int (imin x2 ((h1 43 2) - (h1 43 3)))), some (.int (x3 + 1))] [] h1 (qI Q)))) :
    WP E mPW_leastSpare 11 [some (.ref 43), some (.ref p), some (.int x2), some (.int x3)] [] h (qI Q) := by
  rcases hp with rfl | rfl | rfl
  all_goals exact wp_sound [(11, [1, 1, 1, 1])] kk_25 18 hF
def k_26 : List XI := [(0, .aload_n 0, 1, 0, 0, 0, 0),
  (1, .aload_n 1, 1, 0, 0, 0, 0),
  (2, .invokevirtual 33, 3, 19, 0, 0, 0),
  (5, .iconst 0, 1, 0, 0, 0, 0),
  (6, .istore 4, 2, 0, 0, 0, 0),
  (8, .iload 4, 2, 0, 0, 0, 0),
  (10, .iload_n 3, 1, 0, 0, 0, 0),
  (11, .if_icmp .ge 37, 3, 48, 0, 0, 0),
  (14, .iload 4, 2, 0, 0, 0, 0),
  (16, .aload_n 2, 1, 0, 0, 0, 0),
  (17, .arraylength, 1, 0, 0, 0, 0),
  (18, .if_icmp .ge 30, 3, 48, 0, 0, 0),
  (21, .aload_n 0, 1, 0, 0, 0, 0),
  (22, .aload_n 1, 1, 0, 0, 0, 0),
  (23, .invokevirtual 41, 3, 21, 1, 0, 0),
  (26, .ifCond .eq 14, 3, 40, 0, 0, 0),
  (29, .aload_n 0, 1, 0, 0, 0, 0),
  (30, .getfield 18, 3, 2, 2, 0, 0),
  (33, .aload_n 2, 1, 0, 0, 0, 0),
  (34, .iload 4, 2, 0, 0, 0, 0),
  (36, .iaload, 1, 0, 0, 0, 0),
  (37, .if_icmp .eq 5, 3, 42, 0, 0, 0),
  (40, .iconst 0, 1, 0, 0, 0, 0),
  (41, .ireturn, 1, 0, 0, 0, 0),
  (42, .iinc 4 1, 3, 0, 0, 1, 0),
  (45, .goto (-37), 3, 8, 0, 0, 0),
  (48, .iconst 1, 1, 0, 0, 1, 0),
  (49, .ireturn, 1, 0, 0, 0, 0)]
set_option maxRecDepth 100000 in
set_option maxHeartbeats 4000000 in
theorem kk_26 : k_26.all (entOK (mCi 26) (mB 26)) = true := by decide +kernel
set_option maxRecDepth 100000 in
set_option maxHeartbeats 4000000 in
theorem fPW_beginsWith {E : XE} {h : Mem} {Q : Int32 → Mem → Prop} {p : Nat} {a3 : Int32} (hp : p = 1 ∨ p = 15 ∨ p = 29)
    (hF : CALLV E mPW_begin [.ref 43, .ref p] h fun h1 => WP E mPW_beginsWith 8 [some (.ref 43), some (.ref p), some (.ref 58), some (.int a3), some (.int 0)] [] h1 (qI Q)) :
    CALLI E mPW_beginsWith [.ref 43, .ref p, .ref 58, .int a3] h Q := by
  rcases hp with rfl | rfl | rfl
  all_goals exact CALL_of rfl (wp_sound [(8, [1, 1, 1, 1, 1])] kk_26 6 hF)
set_option maxRecDepth 100000 in
set_option maxHeartbeats 4000000 in
theorem fPW_beginsWith_8 {E : XE} {h : Mem} {Q : Int32 → Mem → Prop} {p : Nat} {x3 : Int32} {x4 : Int32} (hp : p = 1 ∨ p = 15 ∨ p = 29)
    (hF : (x3 ≤ x4 → Q 1 h) ∧ (¬ x3 ≤ x4 → ((nI 8) ≤ x4 → Q 1 h) ∧ (¬ (nI 8) ≤ x4 → CALLI E mPW_goOn [.ref 43, .ref p] h fun v1 h1 => (v1 = 0 → Q 0 h1) ∧ (¬ v1 = 0 → cnd (inb x4 8) (((h1 43 2) = (h1 58 (ix x4)) → WP E mPW_beginsWith 8 [some (.ref 43), some (.ref p), some (.ref 58), some (.int x3), some (.int (x4 + 1))] [] h1 (qI Q)) ∧ (¬ (h1 43 2) = (h1 58 (ix x4)) → Q 0 h1)))))) :
    WP E mPW_beginsWith 8 [some (.ref 43), some (.ref p), some (.ref 58), some (.int x3), some (.int x4)] [] h (qI Q) := by
  rcases hp with rfl | rfl | rfl
  all_goals exact wp_sound [(8, [1, 1, 1, 1, 1])] kk_26 20 hF
def k_27 : List XI := [(0, .aload_n 0, 1, 0, 0, 0, 0),
  (1, .getfield 9, 3, 3, 0, 0, 0),
  (4, .ireturn, 1, 0, 0, 0, 0)]
set_option maxRecDepth 100000 in
set_option maxHeartbeats 4000000 in
theorem kk_27 : k_27.all (entOK (mCi 27) (mB 27)) = true := by decide +kernel
set_option maxRecDepth 100000 in
set_option maxHeartbeats 4000000 in
theorem fRS_roundsTaken {E : XE} {h : Mem} {Q : Int32 → Mem → Prop} {r : Nat} (hr : r = 44 ∨ r = 46)
    (hF : Q (h r 0) h) :
    CALLI E mRS_roundsTaken [.ref r] h Q := by
  rcases hr with rfl | rfl
  all_goals exact CALL_of rfl (wp_sound [] kk_27 4 hF)
def k_28 : List XI := [(0, .iload_n 1, 1, 0, 0, 0, 0),
  (1, .lookupswitch 42 #[(0, 27), (2, 34)], 27, 0, 0, 0, 0),
  (28, .aload_n 0, 1, 0, 0, 0, 0),
  (29, .getfield 15, 3, 0, 3, 0, 0),
  (32, .iload_n 2, 1, 0, 0, 0, 0),
  (33, .iaload, 1, 0, 0, 0, 0),
  (34, .ireturn, 1, 0, 0, 0, 0),
  (35, .aload_n 0, 1, 0, 0, 0, 0),
  (36, .getfield 21, 3, 0, 6, 0, 0),
  (39, .iload_n 2, 1, 0, 0, 0, 0),
  (40, .iaload, 1, 0, 0, 0, 0),
  (41, .ineg, 1, 0, 0, 0, 0),
  (42, .ireturn, 1, 0, 0, 0, 0),
  (43, .aload_n 0, 1, 0, 0, 0, 0),
  (44, .getfield 24, 3, 0, 12, 0, 0),
  (47, .iload_n 2, 1, 0, 0, 0, 0),
  (48, .iaload, 1, 0, 0, 0, 0),
  (49, .ireturn, 1, 0, 0, 0, 0)]
set_option maxRecDepth 100000 in
set_option maxHeartbeats 4000000 in
theorem kk_28 : k_28.all (entOK (mCi 28) (mB 28)) = true := by decide +kernel
set_option maxRecDepth 100000 in
set_option maxHeartbeats 4000000 in
theorem fRS_key {E : XE} {h : Mem} {Q : Int32 → Mem → Prop} {p : Nat} {a2 : Int32} {a3 : Int32} (hp : p = 1 ∨ p = 15 ∨ p = 29)
    (hF : (a2 = Int32.ofInt 0 → cnd (inb a3 6) (Q (h (p + 2) (ix a3)) h)) ∧ (¬ a2 = Int32.ofInt 0 → (a2 = Int32.ofInt 2 → cnd (inb a3 6) (Q (-(h (p + 5) (ix a3))) h)) ∧ (¬ a2 = Int32.ofInt 2 → cnd (inb a3 6) (Q (h (p + 11) (ix a3)) h)))) :
    CALLI E mRS_key [.ref p, .int a2, .int a3] h Q := by
  rcases hp with rfl | rfl | rfl
  all_goals exact CALL_of rfl (wp_sound [] kk_28 9 hF)
def k_29 : List XI := [(0, .aload_n 0, 1, 0, 0, 0, 0),
  (1, .iload_n 1, 1, 0, 0, 0, 0),
  (2, .iload_n 2, 1, 0, 0, 0, 0),
  (3, .invokestatic 27, 3, 28, 1, 0, 0),
  (6, .istore 4, 2, 0, 0, 0, 0),
  (8, .aload_n 0, 1, 0, 0, 0, 0),
  (9, .iload_n 1, 1, 0, 0, 0, 0),
  (10, .iload_n 3, 1, 0, 0, 0, 0),
  (11, .invokestatic 27, 3, 28, 1, 0, 0),
  (14, .istore 5, 2, 0, 0, 0, 0),
  (16, .iload 4, 2, 0, 0, 0, 0),
  (18, .iload 5, 2, 0, 0, 0, 0),
  (20, .if_icmp .lt 15, 3, 35, 0, 0, 0),
  (23, .iload 4, 2, 0, 0, 0, 0),
  (25, .iload 5, 2, 0, 0, 0, 0),
  (27, .if_icmp .ne 12, 3, 39, 0, 0, 0),
  (30, .iload_n 2, 1, 0, 0, 0, 0),
  (31, .iload_n 3, 1, 0, 0, 0, 0),
  (32, .if_icmp .ge 7, 3, 39, 0, 0, 0),
  (35, .iconst 1, 1, 0, 0, 1, 0),
  (36, .goto 4, 3, 40, 0, 0, 0),
  (39, .iconst 0, 1, 0, 0, 0, 0),
  (40, .ireturn, 1, 0, 0, 0, 0)]
set_option maxRecDepth 100000 in
set_option maxHeartbeats 4000000 in
theorem kk_29 : k_29.all (entOK (mCi 29) (mB 29)) = true := by decide +kernel
set_option maxRecDepth 100000 in
set_option maxHeartbeats 4000000 in
theorem fRS_precedes {E : XE} {h : Mem} {Q : Int32 → Mem → Prop} {p : Nat} {a2 : Int32} {a3 : Int32} {a4 : Int32} (hp : p = 1 ∨ p = 15 ∨ p = 29)
    (hF : CALLI E mRS_key [.ref p, .int a2, .int a3] h fun v1 h1 => CALLI E mRS_key [.ref p, .int a2, .int a4] h1 fun v2 h2 => (v1 < v2 → Q 1 h2) ∧ (¬ v1 < v2 → (¬ v1 = v2 → Q 0 h2) ∧ (v1 = v2 → (a4 ≤ a3 → Q 0 h2) ∧ (¬ a4 ≤ a3 → Q 1 h2)))) :
    CALLI E mRS_precedes [.ref p, .int a2, .int a3, .int a4] h Q := by
  rcases hp with rfl | rfl | rfl
  all_goals exact CALL_of rfl (wp_sound [] kk_29 23 hF)
def k_30 : List XI := [(0, .iconst 0, 1, 0, 0, 0, 0),
  (1, .istore_n 3, 1, 0, 0, 0, 0),
  (2, .iconst 0, 1, 0, 0, 0, 0),
  (3, .istore 4, 2, 0, 0, 0, 0),
  (5, .iload 4, 2, 0, 0, 0, 0),
  (7, .aload_n 0, 1, 0, 0, 0, 0),
  (8, .getfield 31, 3, 0, 0, 0, 0),
  (11, .if_icmp .ge 36, 3, 47, 0, 0, 0),
  (14, .aload_n 0, 1, 0, 0, 0, 0),
  (15, .iload 4, 2, 0, 0, 0, 0),
  (17, .invokevirtual 34, 3, 5, 1, 0, 0),
  (20, .ifCond .eq 21, 3, 41, 0, 0, 0),
  (23, .aload_n 0, 1, 0, 0, 0, 0),
  (24, .iload_n 1, 1, 0, 0, 0, 0),
  (25, .iload 4, 2, 0, 0, 0, 0),
  (27, .iload_n 2, 1, 0, 0, 0, 0),
  (28, .invokestatic 38, 3, 29, 1, 0, 0),
  (31, .ifCond .eq 10, 3, 41, 0, 0, 0),
  (34, .iload_n 3, 1, 0, 0, 0, 0),
  (35, .iconst 1, 1, 0, 0, 1, 0),
  (36, .iload 4, 2, 0, 0, 0, 0),
  (38, .ishl, 1, 0, 0, 0, 0),
  (39, .ior, 1, 0, 0, 0, 0),
  (40, .istore_n 3, 1, 0, 0, 0, 0),
  (41, .iinc 4 1, 3, 0, 0, 1, 0),
  (44, .goto (-39), 3, 5, 0, 0, 0),
  (47, .iload_n 3, 1, 0, 0, 0, 0),
  (48, .ireturn, 1, 0, 0, 0, 0)]
set_option maxRecDepth 100000 in
set_option maxHeartbeats 4000000 in
theorem kk_30 : k_30.all (entOK (mCi 30) (mB 30)) = true := by decide +kernel
set_option maxRecDepth 100000 in
set_option maxHeartbeats 4000000 in
theorem fRS_aheadOf {E : XE} {h : Mem} {Q : Int32 → Mem → Prop} {p : Nat} {a2 : Int32} {a3 : Int32} (hp : p = 1 ∨ p = 15 ∨ p = 29)
    (hF : WP E mRS_aheadOf 5 [some (.ref p), some (.int a2), some (.int a3), some (.int 0), some (.int 0)] [] h (qI Q)) :
    CALLI E mRS_aheadOf [.ref p, .int a2, .int a3] h Q := by
  rcases hp with rfl | rfl | rfl
  all_goals exact CALL_of rfl (wp_sound [(5, [1, 1, 1, 1, 1])] kk_30 5 hF)
set_option maxRecDepth 100000 in
set_option maxHeartbeats 4000000 in
theorem fRS_aheadOf_5 {E : XE} {h : Mem} {Q : Int32 → Mem → Prop} {p : Nat} {x1 : Int32} {x2 : Int32} {x3 : Int32} {x4 : Int32} (hp : p = 1 ∨ p = 15 ∨ p = 29)
    (hF : ((h p 0) ≤ x4 → Q x3 h) ∧ (¬ (h p 0) ≤ x4 → CALLI E mD_isOn [.ref p, .int x4] h fun v1 h1 => (v1 = 0 → WP E mRS_aheadOf 5 [some (.ref p), some (.int x1), some (.int x2), some (.int x3), some (.int (x4 + 1))] [] h1 (qI Q)) ∧ (¬ v1 = 0 → CALLI E mRS_precedes [.ref p, .int x1, .int x4, .int x2] h1 fun v2 h2 => (v2 = 0 → WP E mRS_aheadOf 5 [some (.ref p), some (.int x1), some (.int x2), some (.int x3), some (.int (x4 + 1))] [] h2 (qI Q)) ∧ (¬ v2 = 0 → WP E mRS_aheadOf 5 [some (.ref p), some (.int x1), some (.int x2), some (.int (x3 ||| (shl 1 x4))), some (.int (x4 + 1))] [] h2 (qI Q))))) :
    WP E mRS_aheadOf 5 [some (.ref p), some (.int x1), some (.int x2), some (.int x3), some (.int x4)] [] h (qI Q) := by
  rcases hp with rfl | rfl | rfl
  all_goals exact wp_sound [(5, [1, 1, 1, 1, 1])] kk_30 23 hF
def k_31 : List XI := [(0, .aload_n 0, 1, 0, 0, 0, 0),
  (1, .getfield 42, 3, 0, 1, 0, 0),
  (4, .iload_n 2, 1, 0, 0, 0, 0),
  (5, .iconst (-1), 1, 0, 0, (-1), 0),
  (6, .ixor, 1, 0, 0, 0, 0),
  (7, .iand, 1, 0, 0, 0, 0),
  (8, .iconst 1, 1, 0, 0, 1, 0),
  (9, .iload_n 1, 1, 0, 0, 0, 0),
  (10, .ishl, 1, 0, 0, 0, 0),
  (11, .iconst (-1), 1, 0, 0, (-1), 0),
  (12, .ixor, 1, 0, 0, 0, 0),
  (13, .iand, 1, 0, 0, 0, 0),
  (14, .ireturn, 1, 0, 0, 0, 0)]
set_option maxRecDepth 100000 in
set_option maxHeartbeats 4000000 in
theorem kk_31 : k_31.all (entOK (mCi 31) (mB 31)) = true := by decide +kernel
set_option maxRecDepth 100000 in
set_option maxHeartbeats 4000000 in
theorem fRS_behind {E : XE} {h : Mem} {Q : Int32 → Mem → Prop} {p : Nat} {a2 : Int32} {a3 : Int32} (hp : p = 1 ∨ p = 15 ∨ p = 29)
    (hF : Q (((h p 1) &&& (a3 ^^^ (-1))) &&& ((shl 1 a2) ^^^ (-1))) h) :
    CALLI E mRS_behind [.ref p, .int a2, .int a3] h Q := by
  rcases hp with rfl | rfl | rfl
  all_goals exact CALL_of rfl (wp_sound [] kk_31 14 hF)
def k_32 : List XI := [(0, .iconst 0, 1, 0, 0, 0, 0),
  (1, .istore_n 3, 1, 0, 0, 0, 0),
  (2, .iload_n 3, 1, 0, 0, 0, 0),
  (3, .aload_n 0, 1, 0, 0, 0, 0),
  (4, .getfield 31, 3, 0, 0, 0, 0),
  (7, .if_icmp .ge 32, 3, 39, 0, 0, 0),
  (10, .aload_n 0, 1, 0, 0, 0, 0),
  (11, .iload_n 3, 1, 0, 0, 0, 0),
  (12, .invokevirtual 34, 3, 5, 1, 0, 0),
  (15, .ifCond .eq 18, 3, 33, 0, 0, 0),
  (18, .aload_n 0, 1, 0, 0, 0, 0),
  (19, .iload_n 1, 1, 0, 0, 0, 0),
  (20, .iload_n 3, 1, 0, 0, 0, 0),
  (21, .invokestatic 45, 3, 30, 1, 0, 0),
  (24, .invokestatic 48, 3, 245, 1, 0, 0),
  (27, .iload_n 2, 1, 0, 0, 0, 0),
  (28, .if_icmp .ne 5, 3, 33, 0, 0, 0),
  (31, .iload_n 3, 1, 0, 0, 0, 0),
  (32, .ireturn, 1, 0, 0, 0, 0),
  (33, .iinc 3 1, 3, 0, 0, 1, 0),
  (36, .goto (-34), 3, 2, 0, 0, 0),
  (39, .bipush (-9), 2, 0, 0, (-9), 0),
  (41, .ireturn, 1, 0, 0, 0, 0)]
set_option maxRecDepth 100000 in
set_option maxHeartbeats 4000000 in
theorem kk_32 : k_32.all (entOK (mCi 32) (mB 32)) = true := by decide +kernel
set_option maxRecDepth 100000 in
set_option maxHeartbeats 4000000 in
theorem fRS_taskAt {E : XE} {h : Mem} {Q : Int32 → Mem → Prop} {p : Nat} {a2 : Int32} {a3 : Int32} (hp : p = 1 ∨ p = 15 ∨ p = 29)
    (hF : WP E mRS_taskAt 2 [some (.ref p), some (.int a2), some (.int a3), some (.int 0)] [] h (qI Q)) :
    CALLI E mRS_taskAt [.ref p, .int a2, .int a3] h Q := by
  rcases hp with rfl | rfl | rfl
  all_goals exact CALL_of rfl (wp_sound [(2, [1, 1, 1, 1])] kk_32 3 hF)
set_option maxRecDepth 100000 in
set_option maxHeartbeats 4000000 in
theorem fRS_taskAt_2 {E : XE} {h : Mem} {Q : Int32 → Mem → Prop} {p : Nat} {x1 : Int32} {x2 : Int32} {x3 : Int32} (hp : p = 1 ∨ p = 15 ∨ p = 29)
    (hF : ((h p 0) ≤ x3 → Q (-9) h) ∧ (¬ (h p 0) ≤ x3 → CALLI E mD_isOn [.ref p, .int x3] h fun v1 h1 => (v1 = 0 → WP E mRS_taskAt 2 [some (.ref p), some (.int x1), some (.int x2), some (.int (x3 + 1))] [] h1 (qI Q)) ∧ (¬ v1 = 0 → CALLI E mRS_aheadOf [.ref p, .int x1, .int x3] h1 fun v2 h2 => CALLI E mJ_bitCount [.int v2] h2 fun v3 h3 => (¬ v3 = x2 → WP E mRS_taskAt 2 [some (.ref p), some (.int x1), some (.int x2), some (.int (x3 + 1))] [] h3 (qI Q)) ∧ (v3 = x2 → Q x3 h3)))) :
    WP E mRS_taskAt 2 [some (.ref p), some (.int x1), some (.int x2), some (.int x3)] [] h (qI Q) := by
  rcases hp with rfl | rfl | rfl
  all_goals exact wp_sound [(2, [1, 1, 1, 1])] kk_32 18 hF
def k_33_0 : List XI := [(0, .bipush (-9), 2, 0, 0, (-9), 0),
  (2, .istore_n 3, 1, 0, 0, 0, 0),
  (3, .iconst 0, 1, 0, 0, 0, 0),
  (4, .istore 4, 2, 0, 0, 0, 0),
  (6, .iload 4, 2, 0, 0, 0, 0),
  (8, .aload_n 0, 1, 0, 0, 0, 0),
  (9, .getfield 31, 3, 0, 0, 0, 0),
  (12, .if_icmp .ge 52, 3, 64, 0, 0, 0),
  (15, .aload_n 0, 1, 0, 0, 0, 0),
  (16, .iload 4, 2, 0, 0, 0, 0),
  (18, .invokevirtual 34, 3, 5, 1, 0, 0),
  (21, .ifCond .eq 37, 3, 58, 0, 0, 0),
  (24, .aload_n 0, 1, 0, 0, 0, 0),
  (25, .getfield 54, 3, 0, 9, 0, 0),
  (28, .iload 4, 2, 0, 0, 0, 0),
  (30, .iconst 4, 1, 0, 0, 4, 0),
  (31, .imul, 1, 0, 0, 0, 0),
  (32, .iload_n 2, 1, 0, 0, 0, 0),
  (33, .iadd, 1, 0, 0, 0, 0),
  (34, .iaload, 1, 0, 0, 0, 0),
  (35, .ifCond .le 23, 3, 58, 0, 0, 0),
  (38, .iload_n 3, 1, 0, 0, 0, 0),
  (39, .bipush (-9), 2, 0, 0, (-9), 0),
  (41, .if_icmp .eq 14, 3, 55, 0, 0, 0),
  (44, .aload_n 0, 1, 0, 0, 0, 0),
  (45, .iload_n 1, 1, 0, 0, 0, 0),
  (46, .iload 4, 2, 0, 0, 0, 0),
  (48, .iload_n 3, 1, 0, 0, 0, 0),
  (49, .invokestatic 38, 3, 29, 1, 0, 0),
  (52, .ifCond .eq 6, 3, 58, 0, 0, 0)]
set_option maxRecDepth 100000 in
set_option maxHeartbeats 4000000 in
theorem kk_33_0 : k_33_0.all (entOK (mCi 33) (mB 33)) = true := by decide +kernel
def k_33_1 : List XI := [(55, .iload 4, 2, 0, 0, 0, 0),
  (57, .istore_n 3, 1, 0, 0, 0, 0),
  (58, .iinc 4 1, 3, 0, 0, 1, 0),
  (61, .goto (-55), 3, 6, 0, 0, 0),
  (64, .iload_n 3, 1, 0, 0, 0, 0),
  (65, .ireturn, 1, 0, 0, 0, 0)]
set_option maxRecDepth 100000 in
set_option maxHeartbeats 4000000 in
theorem kk_33_1 : k_33_1.all (entOK (mCi 33) (mB 33)) = true := by decide +kernel
def k_33 : List XI := k_33_0 ++ (k_33_1)
theorem kk_33 : k_33.all (entOK (mCi 33) (mB 33)) = true := all_app kk_33_0 (kk_33_1)
set_option maxRecDepth 100000 in
set_option maxHeartbeats 4000000 in
theorem fRS_ceilingOf {E : XE} {h : Mem} {Q : Int32 → Mem → Prop} {p : Nat} {a2 : Int32} {a3 : Int32} (hp : p = 1 ∨ p = 15 ∨ p = 29)
    (hF : WP E mRS_ceilingOf 6 [some (.ref p), some (.int a2), some (.int a3), some (.int (-9)), some (.int 0)] [] h (qI Q)) :
    CALLI E mRS_ceilingOf [.ref p, .int a2, .int a3] h Q := by
  rcases hp with rfl | rfl | rfl
  all_goals exact CALL_of rfl (wp_sound [(6, [1, 1, 1, 1, 1])] kk_33 5 hF)
set_option maxRecDepth 100000 in
set_option maxHeartbeats 4000000 in
theorem fRS_ceilingOf_6 {E : XE} {h : Mem} {Q : Int32 → Mem → Prop} {p : Nat} {x1 : Int32} {x2 : Int32} {x3 : Int32} {x4 : Int32} (hp : p = 1 ∨ p = 15 ∨ p = 29)
    (hF : ((h p 0) ≤ x4 → Q x3 h) ∧ (¬ (h p 0) ≤ x4 → CALLI E mD_isOn [.ref p, .int x4] h fun v1 h1 => (v1 = 0 → WP E mRS_ceilingOf 6 [some (.ref p), some (.int x1), some (.int x2), some (.int x3), some (.int (x4 + 1))] [] h1 (qI Q)) ∧ (¬ v1 = 0 → cnd (inb ((x4 * 4) + x2) 24) (((h1 (p + 8) (ix ((x4 * 4) + x2))) ≤ 0 → WP E mRS_ceilingOf 6 [some (.ref p), some (.int x1), some (.int x2), some (.int x3), some (.int (x4 + 1))] [] h1 (qI Q)) ∧ (¬ (h1 (p + 8) (ix ((x4 * 4) + x2))) ≤ 0 → (x3 = (-9) → WP E mRS_ceilingOf 6 [some (.ref p), some (.int x1), some (.int x2), some (.int x4), some (.int (x4 + 1))] [] h1 (qI Q)) ∧ (¬ x3 = (-9) → CALLI E mRS_precedes [.ref p, .int x1, .int x4, .int x3] h1 fun v2 h2 => (v2 = 0 → WP E mRS_ceilingOf 6 [some (.ref p), some (.int x1), some (.int x2), some (.int x3), some (.int (x4 + 1))] [] h2 (qI Q)) ∧ (¬ v2 = 0 → WP E mRS_ceilingOf 6 [some (.ref p), some (.int x1), some (.int x2), some (.int x4), some (.int (x4 + 1))] [] h2 (qI Q)))))))) :
    WP E mRS_ceilingOf 6 [some (.ref p), some (.int x1), some (.int x2), some (.int x3), some (.int x4)] [] h (qI Q) := by
  rcases hp with rfl | rfl | rfl
  all_goals exact wp_sound [(6, [1, 1, 1, 1, 1])] kk_33 31 hF
def k_34 : List XI := [(0, .aload_n 0, 1, 0, 0, 0, 0),
  (1, .iload_n 1, 1, 0, 0, 0, 0),
  (2, .iload_n 2, 1, 0, 0, 0, 0),
  (3, .invokestatic 45, 3, 30, 1, 0, 0),
  (6, .istore_n 3, 1, 0, 0, 0, 0),
  (7, .aload_n 0, 1, 0, 0, 0, 0),
  (8, .iload_n 3, 1, 0, 0, 0, 0),
  (9, .iconst 1, 1, 0, 0, 1, 0),
  (10, .iload_n 2, 1, 0, 0, 0, 0),
  (11, .ishl, 1, 0, 0, 0, 0),
  (12, .ior, 1, 0, 0, 0, 0),
  (13, .aload_n 0, 1, 0, 0, 0, 0),
  (14, .iload_n 2, 1, 0, 0, 0, 0),
  (15, .iload_n 3, 1, 0, 0, 0, 0),
  (16, .invokestatic 57, 3, 31, 1, 0, 0),
  (19, .invokestatic 60, 3, 35, 1, 0, 0),
  (22, .ireturn, 1, 0, 0, 0, 0)]
set_option maxRecDepth 100000 in
set_option maxHeartbeats 4000000 in
theorem kk_34 : k_34.all (entOK (mCi 34) (mB 34)) = true := by decide +kernel
set_option maxRecDepth 100000 in
set_option maxHeartbeats 4000000 in
theorem fRS_blockingBy {E : XE} {h : Mem} {Q : Int32 → Mem → Prop} {p : Nat} {a2 : Int32} {a3 : Int32} (hp : p = 1 ∨ p = 15 ∨ p = 29)
    (hF : CALLI E mRS_aheadOf [.ref p, .int a2, .int a3] h fun v1 h1 => CALLI E mRS_behind [.ref p, .int a3, .int v1] h1 fun v2 h2 => CALLI E mRS_blockingAt [.ref p, .int (v1 ||| (shl 1 a3)), .int v2] h2 fun v3 h3 => Q v3 h3) :
    CALLI E mRS_blockingBy [.ref p, .int a2, .int a3] h Q := by
  rcases hp with rfl | rfl | rfl
  all_goals exact CALL_of rfl (wp_sound [] kk_34 18 hF)
def k_35 : List XI := [(0, .iconst 0, 1, 0, 0, 0, 0),
  (1, .istore_n 3, 1, 0, 0, 0, 0),
  (2, .iconst 0, 1, 0, 0, 0, 0),
  (3, .istore 4, 2, 0, 0, 0, 0),
  (5, .iload 4, 2, 0, 0, 0, 0),
  (7, .iconst 4, 1, 0, 0, 4, 0),
  (8, .if_icmp .ge 31, 3, 39, 0, 0, 0),
  (11, .aload_n 0, 1, 0, 0, 0, 0),
  (12, .iload_n 1, 1, 0, 0, 0, 0),
  (13, .iload 4, 2, 0, 0, 0, 0),
  (15, .invokestatic 63, 3, 36, 1, 0, 0),
  (18, .ifCond .le 15, 3, 33, 0, 0, 0),
  (21, .iload_n 3, 1, 0, 0, 0, 0),
  (22, .aload_n 0, 1, 0, 0, 0, 0),
  (23, .iload_n 2, 1, 0, 0, 0, 0),
  (24, .iload 4, 2, 0, 0, 0, 0),
  (26, .invokestatic 63, 3, 36, 1, 0, 0),
  (29, .invokestatic 66, 3, 998, 0, 0, 0),
  (32, .istore_n 3, 1, 0, 0, 0, 0),
  (33, .iinc 4 1, 3, 0, 0, 1, 0),
  (36, .goto (-31), 3, 5, 0, 0, 0),
  (39, .iload_n 3, 1, 0, 0, 0, 0),
  (40, .ireturn, 1, 0, 0, 0, 0)]
set_option maxRecDepth 100000 in
set_option maxHeartbeats 4000000 in
theorem kk_35 : k_35.all (entOK (mCi 35) (mB 35)) = true := by decide +kernel
set_option maxRecDepth 100000 in
set_option maxHeartbeats 4000000 in
theorem fRS_blockingAt {E : XE} {h : Mem} {Q : Int32 → Mem → Prop} {p : Nat} {a2 : Int32} {a3 : Int32} (hp : p = 1 ∨ p = 15 ∨ p = 29)
    (hF : WP E mRS_blockingAt 5 [some (.ref p), some (.int a2), some (.int a3), some (.int 0), some (.int 0)] [] h (qI Q)) :
    CALLI E mRS_blockingAt [.ref p, .int a2, .int a3] h Q := by
  rcases hp with rfl | rfl | rfl
  all_goals exact CALL_of rfl (wp_sound [(5, [1, 1, 1, 1, 1])] kk_35 5 hF)
set_option maxRecDepth 100000 in
set_option maxHeartbeats 4000000 in
theorem fRS_blockingAt_5 {E : XE} {h : Mem} {Q : Int32 → Mem → Prop} {p : Nat} {x1 : Int32} {x2 : Int32} {x3 : Int32} {x4 : Int32} (hp : p = 1 ∨ p = 15 ∨ p = 29)
    (hF : (4 ≤ x4 → Q x3 h) ∧ (¬ 4 ≤ x4 → CALLI E mRS_longestHold [.ref p, .int x1, .int x4] h fun v1 h1 => (v1 ≤ 0 → WP E mRS_blockingAt 5 [some (.ref p), some (.int x1), some (.int x2), some (.int x3), some (.int (x4 + 1))] [] h1 (qI Q)) ∧ (¬ v1 ≤ 0 → CALLI E mRS_longestHold [.ref p, .int x2, .int x4] h1 fun v2 h2 => WP E mRS_blockingAt 5 [some (.ref p), some (.int x1), some (.int x2), some (.int (imax x3 v2)), some (.int (x4 + 1))] [] h2 (qI Q)))) :
    WP E mRS_blockingAt 5 [some (.ref p), some (.int x1), some (.int x2), some (.int x3), some (.int x4)] [] h (qI Q) := by
  rcases hp with rfl | rfl | rfl
  all_goals exact wp_sound [(5, [1, 1, 1, 1, 1])] kk_35 18 hF
def k_36 : List XI := [(0, .iconst 0, 1, 0, 0, 0, 0),
  (1, .istore_n 3, 1, 0, 0, 0, 0),
  (2, .iconst 0, 1, 0, 0, 0, 0),
  (3, .istore 4, 2, 0, 0, 0, 0),
  (5, .iload 4, 2, 0, 0, 0, 0),
  (7, .aload_n 0, 1, 0, 0, 0, 0),
  (8, .getfield 31, 3, 0, 0, 0, 0),
  (11, .if_icmp .ge 34, 3, 45, 0, 0, 0),
  (14, .iload_n 1, 1, 0, 0, 0, 0),
  (15, .iconst 1, 1, 0, 0, 1, 0),
  (16, .iload 4, 2, 0, 0, 0, 0),
  (18, .ishl, 1, 0, 0, 0, 0),
  (19, .iand, 1, 0, 0, 0, 0),
  (20, .ifCond .eq 19, 3, 39, 0, 0, 0),
  (23, .iload_n 3, 1, 0, 0, 0, 0),
  (24, .aload_n 0, 1, 0, 0, 0, 0),
  (25, .getfield 54, 3, 0, 9, 0, 0),
  (28, .iload 4, 2, 0, 0, 0, 0),
  (30, .iconst 4, 1, 0, 0, 4, 0),
  (31, .imul, 1, 0, 0, 0, 0),
  (32, .iload_n 2, 1, 0, 0, 0, 0),
  (33, .iadd, 1, 0, 0, 0, 0),
  (34, .iaload, 1, 0, 0, 0, 0),
  (35, .invokestatic 66, 3, 998, 0, 0, 0),
  (38, .istore_n 3, 1, 0, 0, 0, 0),
  (39, .iinc 4 1, 3, 0, 0, 1, 0),
  (42, .goto (-37), 3, 5, 0, 0, 0),
  (45, .iload_n 3, 1, 0, 0, 0, 0),
  (46, .ireturn, 1, 0, 0, 0, 0)]
set_option maxRecDepth 100000 in
set_option maxHeartbeats 4000000 in
theorem kk_36 : k_36.all (entOK (mCi 36) (mB 36)) = true := by decide +kernel
set_option maxRecDepth 100000 in
set_option maxHeartbeats 4000000 in
theorem fRS_longestHold {E : XE} {h : Mem} {Q : Int32 → Mem → Prop} {p : Nat} {a2 : Int32} {a3 : Int32} (hp : p = 1 ∨ p = 15 ∨ p = 29)
    (hF : WP E mRS_longestHold 5 [some (.ref p), some (.int a2), some (.int a3), some (.int 0), some (.int 0)] [] h (qI Q)) :
    CALLI E mRS_longestHold [.ref p, .int a2, .int a3] h Q := by
  rcases hp with rfl | rfl | rfl
  all_goals exact CALL_of rfl (wp_sound [(5, [1, 1, 1, 1, 1])] kk_36 5 hF)
set_option maxRecDepth 100000 in
set_option maxHeartbeats 4000000 in
theorem fRS_longestHold_5 {E : XE} {h : Mem} {Q : Int32 → Mem → Prop} {p : Nat} {x1 : Int32} {x2 : Int32} {x3 : Int32} {x4 : Int32} (hp : p = 1 ∨ p = 15 ∨ p = 29)
    (hF : ((h p 0) ≤ x4 → Q x3 h) ∧ (¬ (h p 0) ≤ x4 → ((x1 &&& (shl 1 x4)) = 0 → WP E mRS_longestHold 5 [some (.ref p), some (.int x1), some (.int x2), some (.int x3), some (.int (x4 + 1))] [] h (qI Q)) ∧ (¬ (x1 &&& (shl 1 x4)) = 0 → cnd (inb ((x4 * 4) + x2) 24) (WP E mRS_longestHold 5 [some (.ref p), some (.int x1), some (.int x2), some (.int (imax x3 (h (p + 8) (ix ((x4 * 4) + x2))))), some (.int (x4 + 1))] [] h (qI Q))))) :
    WP E mRS_longestHold 5 [some (.ref p), some (.int x1), some (.int x2), some (.int x3), some (.int x4)] [] h (qI Q) := by
  rcases hp with rfl | rfl | rfl
  all_goals exact wp_sound [(5, [1, 1, 1, 1, 1])] kk_36 24 hF
def k_37 : List XI := [(0, .aload_n 1, 1, 0, 0, 0, 0),
  (1, .iload_n 2, 1, 0, 0, 0, 0),
  (2, .iload_n 3, 1, 0, 0, 0, 0),
  (3, .invokestatic 45, 3, 30, 1, 0, 0),
  (6, .istore 4, 2, 0, 0, 0, 0),
  (8, .aload_n 0, 1, 0, 0, 0, 0),
  (9, .aload_n 1, 1, 0, 0, 0, 0),
  (10, .iload_n 3, 1, 0, 0, 0, 0),
  (11, .iload 4, 2, 0, 0, 0, 0),
  (13, .aload_n 1, 1, 0, 0, 0, 0),
  (14, .iload_n 3, 1, 0, 0, 0, 0),
  (15, .iload 4, 2, 0, 0, 0, 0),
  (17, .invokestatic 57, 3, 31, 1, 0, 0),
  (20, .invokevirtual 72, 3, 38, 1, 0, 0),
  (23, .ireturn, 1, 0, 0, 0, 0)]
set_option maxRecDepth 100000 in
set_option maxHeartbeats 4000000 in
theorem kk_37 : k_37.all (entOK (mCi 37) (mB 37)) = true := by decide +kernel
set_option maxRecDepth 100000 in
set_option maxHeartbeats 4000000 in
theorem fRS_settleBy {E : XE} {h : Mem} {Q : Int32 → Mem → Prop} {r : Nat} {p : Nat} {a2 : Int32} {a3 : Int32} (hr : r = 44 ∨ r = 46) (hp : p = 1 ∨ p = 15 ∨ p = 29)
    (hF : CALLI E mRS_aheadOf [.ref p, .int a2, .int a3] h fun v1 h1 => CALLI E mRS_behind [.ref p, .int a3, .int v1] h1 fun v2 h2 => CALLI E mRS_settle [.ref r, .ref p, .int a3, .int v1, .int v2] h2 fun v3 h3 => Q v3 h3) :
    CALLI E mRS_settleBy [.ref r, .ref p, .int a2, .int a3] h Q := by
  rcases hr with rfl | rfl
  all_goals rcases hp with rfl | rfl | rfl
  all_goals exact CALL_of rfl (wp_sound [] kk_37 16 hF)
def k_38_0 : List XI := [(0, .aload_n 1, 1, 0, 0, 0, 0),
  (1, .getfield 76, 3, 0, 2, 0, 0),
  (4, .iload_n 2, 1, 0, 0, 0, 0),
  (5, .iaload, 1, 0, 0, 0, 0),
  (6, .aload_n 1, 1, 0, 0, 0, 0),
  (7, .iload_n 2, 1, 0, 0, 0, 0),
  (8, .iconst 1, 1, 0, 0, 1, 0),
  (9, .invokevirtual 79, 3, 10, 1, 0, 0),
  (12, .imul, 1, 0, 0, 0, 0),
  (13, .aload_n 1, 1, 0, 0, 0, 0),
  (14, .iload_n 3, 1, 0, 0, 0, 0),
  (15, .iconst 1, 1, 0, 0, 1, 0),
  (16, .iload_n 2, 1, 0, 0, 0, 0),
  (17, .ishl, 1, 0, 0, 0, 0),
  (18, .ior, 1, 0, 0, 0, 0),
  (19, .iload 4, 2, 0, 0, 0, 0),
  (21, .invokestatic 60, 3, 35, 1, 0, 0),
  (24, .iadd, 1, 0, 0, 0, 0),
  (25, .istore 5, 2, 0, 0, 0, 0),
  (27, .iload 5, 2, 0, 0, 0, 0),
  (29, .istore 6, 2, 0, 0, 0, 0),
  (31, .aload_n 0, 1, 0, 0, 0, 0),
  (32, .iconst 1, 1, 0, 0, 1, 0),
  (33, .putfield 9, 3, 3, 0, 0, 0),
  (36, .iconst 0, 1, 0, 0, 0, 0),
  (37, .istore 7, 2, 0, 0, 0, 0),
  (39, .iload 7, 2, 0, 0, 0, 0),
  (41, .sipush 600, 3, 0, 0, 600, 0),
  (44, .if_icmp .gt 53, 3, 97, 0, 0, 0),
  (47, .iload 6, 2, 0, 0, 0, 0)]
set_option maxRecDepth 100000 in
set_option maxHeartbeats 4000000 in
theorem kk_38_0 : k_38_0.all (entOK (mCi 38) (mB 38)) = true := by decide +kernel
def k_38_1 : List XI := [(49, .sipush 600, 3, 0, 0, 600, 0),
  (52, .if_icmp .gt 45, 3, 97, 0, 0, 0),
  (55, .iload 5, 2, 0, 0, 0, 0),
  (57, .aload_n 1, 1, 0, 0, 0, 0),
  (58, .iload_n 3, 1, 0, 0, 0, 0),
  (59, .iload 6, 2, 0, 0, 0, 0),
  (61, .invokevirtual 82, 3, 13, 1, 0, 0),
  (64, .iadd, 1, 0, 0, 0, 0),
  (65, .istore 8, 2, 0, 0, 0, 0),
  (67, .iload 8, 2, 0, 0, 0, 0),
  (69, .iload 6, 2, 0, 0, 0, 0),
  (71, .if_icmp .ne 6, 3, 77, 0, 0, 0),
  (74, .iload 6, 2, 0, 0, 0, 0),
  (76, .ireturn, 1, 0, 0, 0, 0),
  (77, .iload 8, 2, 0, 0, 0, 0),
  (79, .istore 6, 2, 0, 0, 0, 0),
  (81, .aload_n 0, 1, 0, 0, 0, 0),
  (82, .dup, 1, 0, 0, 0, 0),
  (83, .getfield 9, 3, 3, 0, 0, 0),
  (86, .iconst 1, 1, 0, 0, 1, 0),
  (87, .iadd, 1, 0, 0, 0, 0),
  (88, .putfield 9, 3, 3, 0, 0, 0),
  (91, .iinc 7 1, 3, 0, 0, 1, 0),
  (94, .goto (-55), 3, 39, 0, 0, 0),
  (97, .bipush (-9), 2, 0, 0, (-9), 0),
  (99, .ireturn, 1, 0, 0, 0, 0)]
set_option maxRecDepth 100000 in
set_option maxHeartbeats 4000000 in
theorem kk_38_1 : k_38_1.all (entOK (mCi 38) (mB 38)) = true := by decide +kernel
def k_38 : List XI := k_38_0 ++ (k_38_1)
theorem kk_38 : k_38.all (entOK (mCi 38) (mB 38)) = true := all_app kk_38_0 (kk_38_1)
set_option maxRecDepth 100000 in
set_option maxHeartbeats 4000000 in
theorem fRS_settle {E : XE} {h : Mem} {Q : Int32 → Mem → Prop} {r : Nat} {p : Nat} {a2 : Int32} {a3 : Int32} {a4 : Int32} (hr : r = 44 ∨ r = 46) (hp : p = 1 ∨ p = 15 ∨ p = 29)
    (hF : cnd (inb a2 6) (CALLI E mD_askedWithin [.ref p, .int a2, .int 1] h fun v1 h1 => CALLI E mRS_blockingAt [.ref p, .int (a3 ||| (shl 1 a2)), .int a4] h1 fun v2 h2 => WP E mRS_settle 39 [some (.ref r), some (.ref p), none, some (.int a3), none, some (.int (((h (p + 1) (ix a2)) * v1) + v2)), some (.int (((h (p + 1) (ix a2)) * v1) + v2)), some (.int 0), none] [] (upd2 h2 r 0 1) (qI Q))) :
    CALLI E mRS_settle [.ref r, .ref p, .int a2, .int a3, .int a4] h Q := by
  rcases hr with rfl | rfl
  all_goals rcases hp with rfl | rfl | rfl
  all_goals exact CALL_of rfl (wp_sound [(39, [1, 1, 0, 1, 0, 1, 1, 1, 0])] kk_38 27 hF)
set_option maxRecDepth 100000 in
set_option maxHeartbeats 4000000 in
theorem fRS_settle_39 {E : XE} {h : Mem} {Q : Int32 → Mem → Prop} {r : Nat} {p : Nat} {x3 : Int32} {x5 : Int32} {x6 : Int32} {x7 : Int32} (hr : r = 44 ∨ r = 46) (hp : p = 1 ∨ p = 15 ∨ p = 29)
    (hF : (600 < x7 → Q (-9) h) ∧ (¬ 600 < x7 → (600 < x6 → Q (-9) h) ∧ (¬ 600 < x6 → CALLI E mD_workAsked [.ref p, .int x3, .int x6] h fun v1 h1 => (¬ (x5 + v1) = x6 → WP E mRS_settle 39 [some (.ref r), some (.ref p), none, some (.int x3), none, some (.int x5), some (.int (x5 + v1)), some (.int (x7 + 1)), none] [] (upd2 h1 r 0 ((h1 r 0) + 1)) (qI Q)) ∧ ((x5 + v1) = x6 → Q x6 h1)))) :
    WP E mRS_settle 39 [some (.ref r), some (.ref p), none, some (.int x3), none, some (.int x5), some (.int x6), some (.int x7), none] [] h (qI Q) := by
  rcases hr with rfl | rfl
  all_goals rcases hp with rfl | rfl | rfl
  all_goals exact wp_sound [(39, [1, 1, 0, 1, 0, 1, 1, 1, 0])] kk_38 27 hF
def k_39 : List XI := [(0, .iload_n 2, 1, 0, 0, 0, 0),
  (1, .bipush (-9), 2, 0, 0, (-9), 0),
  (3, .if_icmp .eq 24, 3, 27, 0, 0, 0),
  (6, .iload_n 2, 1, 0, 0, 0, 0),
  (7, .aload_n 0, 1, 0, 0, 0, 0),
  (8, .getfield 85, 3, 0, 11, 0, 0),
  (11, .iload_n 1, 1, 0, 0, 0, 0),
  (12, .iaload, 1, 0, 0, 0, 0),
  (13, .iadd, 1, 0, 0, 0, 0),
  (14, .aload_n 0, 1, 0, 0, 0, 0),
  (15, .getfield 24, 3, 0, 12, 0, 0),
  (18, .iload_n 1, 1, 0, 0, 0, 0),
  (19, .iaload, 1, 0, 0, 0, 0),
  (20, .if_icmp .gt 7, 3, 27, 0, 0, 0),
  (23, .iconst 1, 1, 0, 0, 1, 0),
  (24, .goto 4, 3, 28, 0, 0, 0),
  (27, .iconst 0, 1, 0, 0, 0, 0),
  (28, .ireturn, 1, 0, 0, 0, 0)]
set_option maxRecDepth 100000 in
set_option maxHeartbeats 4000000 in
theorem kk_39 : k_39.all (entOK (mCi 39) (mB 39)) = true := by decide +kernel
set_option maxRecDepth 100000 in
set_option maxHeartbeats 4000000 in
theorem fRS_isSoonEnough {E : XE} {h : Mem} {Q : Int32 → Mem → Prop} {p : Nat} {a2 : Int32} {a3 : Int32} (hp : p = 1 ∨ p = 15 ∨ p = 29)
    (hF : (a3 = (-9) → Q 0 h) ∧ (¬ a3 = (-9) → cnd (inb a2 6) (cnd (inb a2 6) (((h (p + 11) (ix a2)) < (a3 + (h (p + 10) (ix a2))) → Q 0 h) ∧ (¬ (h (p + 11) (ix a2)) < (a3 + (h (p + 10) (ix a2))) → Q 1 h))))) :
    CALLI E mRS_isSoonEnough [.ref p, .int a2, .int a3] h Q := by
  rcases hp with rfl | rfl | rfl
  all_goals exact CALL_of rfl (wp_sound [] kk_39 18 hF)
def k_40_0 : List XI := [(0, .iconst 0, 1, 0, 0, 0, 0),
  (1, .istore_n 3, 1, 0, 0, 0, 0),
  (2, .iconst 0, 1, 0, 0, 0, 0),
  (3, .istore 4, 2, 0, 0, 0, 0),
  (5, .iload 4, 2, 0, 0, 0, 0),
  (7, .aload_n 1, 1, 0, 0, 0, 0),
  (8, .getfield 31, 3, 0, 0, 0, 0),
  (11, .if_icmp .ge 67, 3, 78, 0, 0, 0),
  (14, .aload_n 1, 1, 0, 0, 0, 0),
  (15, .iload 4, 2, 0, 0, 0, 0),
  (17, .invokevirtual 34, 3, 5, 1, 0, 0),
  (20, .ifCond .ne 6, 3, 26, 0, 0, 0),
  (23, .goto 49, 3, 72, 0, 0, 0),
  (26, .aload_n 1, 1, 0, 0, 0, 0),
  (27, .iload_n 2, 1, 0, 0, 0, 0),
  (28, .iload 4, 2, 0, 0, 0, 0),
  (30, .invokestatic 45, 3, 30, 1, 0, 0),
  (33, .istore 5, 2, 0, 0, 0, 0),
  (35, .aload_n 0, 1, 0, 0, 0, 0),
  (36, .aload_n 1, 1, 0, 0, 0, 0),
  (37, .iload 4, 2, 0, 0, 0, 0),
  (39, .iload 5, 2, 0, 0, 0, 0),
  (41, .aload_n 1, 1, 0, 0, 0, 0),
  (42, .iload 4, 2, 0, 0, 0, 0),
  (44, .iload 5, 2, 0, 0, 0, 0),
  (46, .invokestatic 57, 3, 31, 1, 0, 0),
  (49, .invokevirtual 72, 3, 38, 1, 0, 0),
  (52, .istore 6, 2, 0, 0, 0, 0),
  (54, .aload_n 1, 1, 0, 0, 0, 0),
  (55, .iload 4, 2, 0, 0, 0, 0)]
set_option maxRecDepth 100000 in
set_option maxHeartbeats 4000000 in
theorem kk_40_0 : k_40_0.all (entOK (mCi 40) (mB 40)) = true := by decide +kernel
def k_40_1 : List XI := [(57, .iload 6, 2, 0, 0, 0, 0),
  (59, .invokestatic 88, 3, 39, 1, 0, 0),
  (62, .ifCond .eq 10, 3, 72, 0, 0, 0),
  (65, .iload_n 3, 1, 0, 0, 0, 0),
  (66, .iconst 1, 1, 0, 0, 1, 0),
  (67, .iload 4, 2, 0, 0, 0, 0),
  (69, .ishl, 1, 0, 0, 0, 0),
  (70, .ior, 1, 0, 0, 0, 0),
  (71, .istore_n 3, 1, 0, 0, 0, 0),
  (72, .iinc 4 1, 3, 0, 0, 1, 0),
  (75, .goto (-70), 3, 5, 0, 0, 0),
  (78, .iload_n 3, 1, 0, 0, 0, 0),
  (79, .ireturn, 1, 0, 0, 0, 0)]
set_option maxRecDepth 100000 in
set_option maxHeartbeats 4000000 in
theorem kk_40_1 : k_40_1.all (entOK (mCi 40) (mB 40)) = true := by decide +kernel
def k_40 : List XI := k_40_0 ++ (k_40_1)
theorem kk_40 : k_40.all (entOK (mCi 40) (mB 40)) = true := all_app kk_40_0 (kk_40_1)
set_option maxRecDepth 100000 in
set_option maxHeartbeats 4000000 in
theorem fRS_fitting {E : XE} {h : Mem} {Q : Int32 → Mem → Prop} {r : Nat} {p : Nat} {a2 : Int32} (hr : r = 44 ∨ r = 46) (hp : p = 1 ∨ p = 15 ∨ p = 29)
    (hF : WP E mRS_fitting 5 [some (.ref r), some (.ref p), some (.int a2), some (.int 0), some (.int 0), none, none] [] h (qI Q)) :
    CALLI E mRS_fitting [.ref r, .ref p, .int a2] h Q := by
  rcases hr with rfl | rfl
  all_goals rcases hp with rfl | rfl | rfl
  all_goals exact CALL_of rfl (wp_sound [(5, [1, 1, 1, 1, 1, 0, 0])] kk_40 5 hF)
set_option maxRecDepth 100000 in
set_option maxHeartbeats 4000000 in
theorem fRS_fitting_5 {E : XE} {h : Mem} {Q : Int32 → Mem → Prop} {r : Nat} {p : Nat} {x2 : Int32} {x3 : Int32} {x4 : Int32} (hr : r = 44 ∨ r = 46) (hp : p = 1 ∨ p = 15 ∨ p = 29)
    (hF : ((h p 0) ≤ x4 → Q x3 h) ∧ (¬ (h p 0) ≤ x4 → CALLI E mD_isOn [.ref p, .int x4] h fun v1 h1 => (¬ v1 = 0 → CALLI E mRS_aheadOf [.ref p, .int x2, .int x4] h1 fun v2 h2 => CALLI E mRS_behind [.ref p, .int x4, .int v2] h2 fun v3 h3 => CALLI E mRS_settle [.ref r, .ref p, .int x4, .int v2, .int v3] h3 fun v4 h4 => CALLI E mRS_isSoonEnough [.ref p, .int x4, .int v4] h4 fun v5 h5 => (v5 = 0 → WP E mRS_fitting 5 [some (.ref r), some (.ref p), some (.int x2), some (.int x3), some (.int (x4 + 1)), none, none] [] h5 (qI Q)) ∧ (¬ v5 = 0 → WP E mRS_fitting 5 [some (.ref r), some (.ref p), some (.int x2), some (.int (x3 ||| (shl 1 x4))), some (.int (x4 + 1)), none, none] [] h5 (qI Q))) ∧ (v1 = 0 → WP E mRS_fitting 5 [some (.ref r), some (.ref p), some (.int x2), some (.int x3), some (.int (x4 + 1)), none, none] [] h1 (qI Q)))) :
    WP E mRS_fitting 5 [some (.ref r), some (.ref p), some (.int x2), some (.int x3), some (.int x4), none, none] [] h (qI Q) := by
  rcases hr with rfl | rfl
  all_goals rcases hp with rfl | rfl | rfl
  all_goals exact wp_sound [(5, [1, 1, 1, 1, 1, 0, 0])] kk_40 37 hF
def k_41_0 : List XI := [(0, .aload_n 1, 1, 0, 0, 0, 0),
  (1, .getfield 22, 3, 0, 1, 0, 0),
  (4, .istore_n 3, 1, 0, 0, 0, 0),
  (5, .iload_n 3, 1, 0, 0, 0, 0),
  (6, .invokestatic 28, 3, 245, 1, 0, 0),
  (9, .iconst 1, 1, 0, 0, 1, 0),
  (10, .isub, 1, 0, 0, 0, 0),
  (11, .istore 4, 2, 0, 0, 0, 0),
  (13, .iload 4, 2, 0, 0, 0, 0),
  (15, .ifCond .lt 42, 3, 57, 0, 0, 0),
  (18, .aload_n 0, 1, 0, 0, 0, 0),
  (19, .aload_n 1, 1, 0, 0, 0, 0),
  (20, .iload_n 3, 1, 0, 0, 0, 0),
  (21, .invokevirtual 34, 3, 43, 1, 0, 0),
  (24, .istore 5, 2, 0, 0, 0, 0),
  (26, .iload 5, 2, 0, 0, 0, 0),
  (28, .bipush (-9), 2, 0, 0, (-9), 0),
  (30, .if_icmp .eq 9, 3, 39, 0, 0, 0),
  (33, .iload 4, 2, 0, 0, 0, 0),
  (35, .iload_n 2, 1, 0, 0, 0, 0),
  (36, .if_icmp .ne 6, 3, 42, 0, 0, 0),
  (39, .iload 5, 2, 0, 0, 0, 0),
  (41, .ireturn, 1, 0, 0, 0, 0),
  (42, .iload_n 3, 1, 0, 0, 0, 0),
  (43, .iconst 1, 1, 0, 0, 1, 0),
  (44, .iload 5, 2, 0, 0, 0, 0),
  (46, .ishl, 1, 0, 0, 0, 0),
  (47, .iconst (-1), 1, 0, 0, (-1), 0),
  (48, .ixor, 1, 0, 0, 0, 0),
  (49, .iand, 1, 0, 0, 0, 0)]
set_option maxRecDepth 100000 in
set_option maxHeartbeats 4000000 in
theorem kk_41_0 : k_41_0.all (entOK (mCi 41) (mB 41)) = true := by decide +kernel
def k_41_1 : List XI := [(50, .istore_n 3, 1, 0, 0, 0, 0),
  (51, .iinc 4 (-1), 3, 0, 0, (-1), 0),
  (54, .goto (-41), 3, 13, 0, 0, 0),
  (57, .bipush (-9), 2, 0, 0, (-9), 0),
  (59, .ireturn, 1, 0, 0, 0, 0)]
set_option maxRecDepth 100000 in
set_option maxHeartbeats 4000000 in
theorem kk_41_1 : k_41_1.all (entOK (mCi 41) (mB 41)) = true := by decide +kernel
def k_41 : List XI := k_41_0 ++ (k_41_1)
theorem kk_41 : k_41.all (entOK (mCi 41) (mB 41)) = true := all_app kk_41_0 (kk_41_1)
set_option maxRecDepth 100000 in
set_option maxHeartbeats 4000000 in
theorem fLO_taskAt {E : XE} {h : Mem} {Q : Int32 → Mem → Prop} {p : Nat} {a2 : Int32} (hp : p = 1 ∨ p = 15 ∨ p = 29)
    (hF : CALLI E mJ_bitCount [.int (h p 1)] h fun v1 h1 => WP E mLO_taskAt 13 [some (.ref 45), some (.ref p), some (.int a2), some (.int (h p 1)), some (.int (v1 - 1)), none] [] h1 (qI Q)) :
    CALLI E mLO_taskAt [.ref 45, .ref p, .int a2] h Q := by
  rcases hp with rfl | rfl | rfl
  all_goals exact CALL_of rfl (wp_sound [(13, [1, 1, 1, 1, 1, 0])] kk_41 9 hF)
set_option maxRecDepth 100000 in
set_option maxHeartbeats 4000000 in
theorem fLO_taskAt_13 {E : XE} {h : Mem} {Q : Int32 → Mem → Prop} {p : Nat} {x2 : Int32} {x3 : Int32} {x4 : Int32} (hp : p = 1 ∨ p = 15 ∨ p = 29)
    (hF : (x4 < 0 → Q (-9) h) ∧ (¬ x4 < 0 → CALLI E mLO_lastOf [.ref 45, .ref p, .int x3] h fun v1 h1 => (v1 = (-9) → Q v1 h1) ∧ (¬ v1 = (-9) → (¬ x4 = x2 → WP E mLO_taskAt 13 [some (.ref 45), some (.ref p), some (.int x2), some (.int (x3 &&& ((shl 1 v1) ^^^ (-1)))), some (.int (x4 + (-1))), none] [] h1 (qI Q)) ∧ (x4 = x2 → Q v1 h1)))) :
    WP E mLO_taskAt 13 [some (.ref 45), some (.ref p), some (.int x2), some (.int x3), some (.int x4), none] [] h (qI Q) := by
  rcases hp with rfl | rfl | rfl
  all_goals exact wp_sound [(13, [1, 1, 1, 1, 1, 0])] kk_41 24 hF
def k_42_0 : List XI := [(0, .aload_n 0, 1, 0, 0, 0, 0),
  (1, .getfield 18, 3, 1, 1, 0, 0),
  (4, .iconst 0, 1, 0, 0, 0, 0),
  (5, .iconst 1, 1, 0, 0, 1, 0),
  (6, .bastore, 1, 0, 0, 0, 0),
  (7, .iconst 1, 1, 0, 0, 1, 0),
  (8, .istore_n 2, 1, 0, 0, 0, 0),
  (9, .iload_n 2, 1, 0, 0, 0, 0),
  (10, .bipush 64, 2, 0, 0, 64, 0),
  (12, .if_icmp .ge 52, 3, 64, 0, 0, 0),
  (15, .iload_n 2, 1, 0, 0, 0, 0),
  (16, .aload_n 1, 1, 0, 0, 0, 0),
  (17, .getfield 22, 3, 0, 1, 0, 0),
  (20, .iconst (-1), 1, 0, 0, (-1), 0),
  (21, .ixor, 1, 0, 0, 0, 0),
  (22, .iand, 1, 0, 0, 0, 0),
  (23, .ifCond .ne 7, 3, 30, 0, 0, 0),
  (26, .iconst 1, 1, 0, 0, 1, 0),
  (27, .goto 4, 3, 31, 0, 0, 0),
  (30, .iconst 0, 1, 0, 0, 0, 0),
  (31, .istore_n 3, 1, 0, 0, 0, 0),
  (32, .aload_n 0, 1, 0, 0, 0, 0),
  (33, .getfield 18, 3, 1, 1, 0, 0),
  (36, .iload_n 2, 1, 0, 0, 0, 0),
  (37, .iload_n 3, 1, 0, 0, 0, 0),
  (38, .ifCond .eq 18, 3, 56, 0, 0, 0),
  (41, .aload_n 0, 1, 0, 0, 0, 0),
  (42, .aload_n 1, 1, 0, 0, 0, 0),
  (43, .iload_n 2, 1, 0, 0, 0, 0),
  (44, .invokevirtual 34, 3, 43, 1, 0, 0)]
set_option maxRecDepth 100000 in
set_option maxHeartbeats 4000000 in
theorem kk_42_0 : k_42_0.all (entOK (mCi 42) (mB 42)) = true := by decide +kernel
def k_42_1 : List XI := [(47, .bipush (-9), 2, 0, 0, (-9), 0),
  (49, .if_icmp .eq 7, 3, 56, 0, 0, 0),
  (52, .iconst 1, 1, 0, 0, 1, 0),
  (53, .goto 4, 3, 57, 0, 0, 0),
  (56, .iconst 0, 1, 0, 0, 0, 0),
  (57, .bastore, 1, 0, 0, 0, 0),
  (58, .iinc 2 1, 3, 0, 0, 1, 0),
  (61, .goto (-52), 3, 9, 0, 0, 0),
  (64, .return_, 1, 0, 0, 0, 0)]
set_option maxRecDepth 100000 in
set_option maxHeartbeats 4000000 in
theorem kk_42_1 : k_42_1.all (entOK (mCi 42) (mB 42)) = true := by decide +kernel
def k_42 : List XI := k_42_0 ++ (k_42_1)
theorem kk_42 : k_42.all (entOK (mCi 42) (mB 42)) = true := all_app kk_42_0 (kk_42_1)
set_option maxRecDepth 100000 in
set_option maxHeartbeats 4000000 in
theorem fLO_look {E : XE} {h : Mem} {Q : Mem → Prop} {p : Nat} (hp : p = 1 ∨ p = 15 ∨ p = 29)
    (hF : cnd (inb 0 64 && nb 1) (WP E mLO_look 9 [some (.ref 45), some (.ref p), some (.int 1), none] [] (upd2 h 47 (ix 0) 1) (qV Q))) :
    CALLV E mLO_look [.ref 45, .ref p] h Q := by
  rcases hp with rfl | rfl | rfl
  all_goals exact CALL_of rfl (wp_sound [(9, [1, 1, 1, 0])] kk_42 8 hF)
set_option maxRecDepth 100000 in
set_option maxHeartbeats 4000000 in
theorem fLO_look_9 {E : XE} {h : Mem} {Q : Mem → Prop} {p : Nat} {x2 : Int32} (hp : p = 1 ∨ p = 15 ∨ p = 29)
    (hF : (64 ≤ x2 → Q h) ∧ (¬ 64 ≤ x2 → (¬ (x2 &&& ((h p 1) ^^^ (-1))) = 0 → (((0 : Int32) = 0 : Prop) → cnd (inb x2 64 && nb 0) (WP E mLO_look 9 [some (.ref 45), some (.ref p), some (.int (x2 + 1)), none] [] (upd2 h 47 (ix x2) 0) (qV Q))) ∧ ((¬ (0 : Int32) = 0 : Prop) → CALLI E mLO_lastOf [.ref 45, .ref p, .int x2] h fun v1 h1 => (v1 = (-9) → cnd (inb x2 64 && nb 0) (WP E mLO_look 9 [some (.ref 45), some (.ref p), some (.int (x2 + 1)), none] [] (upd2 h1 47 (ix x2) 0) (qV Q))) ∧ (¬ v1 = (-9) → cnd (inb x2 64 && nb 1) (WP E mLO_look 9 [some (.ref 45), some (.ref p), some (.int (x2 + 1)), none] [] (upd2 h1 47 (ix x2) 1) (qV Q))))) ∧ ((x2 &&& ((h p 1) ^^^ (-1))) = 0 → (((1 : Int32) = 0 : Prop) → cnd (inb x2 64 && nb 0) (WP E mLO_look 9 [some (.ref 45), some (.ref p), some (.int (x2 + 1)), none] [] (upd2 h 47 (ix x2) 0) (qV Q))) ∧ ((¬ (1 : Int32) = 0 : Prop) → CALLI E mLO_lastOf [.ref 45, .ref p, .int x2] h fun v2 h2 => (v2 = (-9) → cnd (inb x2 64 && nb 0) (WP E mLO_look 9 [some (.ref 45), some (.ref p), some (.int (x2 + 1)), none] [] (upd2 h2 47 (ix x2) 0) (qV Q))) ∧ (¬ v2 = (-9) → cnd (inb x2 64 && nb 1) (WP E mLO_look 9 [some (.ref 45), some (.ref p), some (.int (x2 + 1)), none] [] (upd2 h2 47 (ix x2) 1) (qV Q))))))) :
    WP E mLO_look 9 [some (.ref 45), some (.ref p), some (.int x2), none] [] h (qV Q) := by
  rcases hp with rfl | rfl | rfl
  all_goals exact wp_sound [(9, [1, 1, 1, 0])] kk_42 30 hF
def k_43_0 : List XI := [(0, .iconst 0, 1, 0, 0, 0, 0),
  (1, .istore_n 3, 1, 0, 0, 0, 0),
  (2, .iload_n 3, 1, 0, 0, 0, 0),
  (3, .aload_n 1, 1, 0, 0, 0, 0),
  (4, .getfield 38, 3, 0, 0, 0, 0),
  (7, .if_icmp .ge 70, 3, 77, 0, 0, 0),
  (10, .iload_n 2, 1, 0, 0, 0, 0),
  (11, .iconst 1, 1, 0, 0, 1, 0),
  (12, .iload_n 3, 1, 0, 0, 0, 0),
  (13, .ishl, 1, 0, 0, 0, 0),
  (14, .iconst (-1), 1, 0, 0, (-1), 0),
  (15, .ixor, 1, 0, 0, 0, 0),
  (16, .iand, 1, 0, 0, 0, 0),
  (17, .istore 4, 2, 0, 0, 0, 0),
  (19, .iload 4, 2, 0, 0, 0, 0),
  (21, .iload_n 2, 1, 0, 0, 0, 0),
  (22, .if_icmp .eq 49, 3, 71, 0, 0, 0),
  (25, .aload_n 0, 1, 0, 0, 0, 0),
  (26, .getfield 18, 3, 1, 1, 0, 0),
  (29, .iload 4, 2, 0, 0, 0, 0),
  (31, .baload, 1, 0, 0, 0, 0),
  (32, .ifCond .ne 6, 3, 38, 0, 0, 0),
  (35, .goto 36, 3, 71, 0, 0, 0),
  (38, .aload_n 0, 1, 0, 0, 0, 0),
  (39, .getfield 12, 3, 1, 0, 0, 0),
  (42, .aload_n 1, 1, 0, 0, 0, 0),
  (43, .iload_n 3, 1, 0, 0, 0, 0),
  (44, .iload 4, 2, 0, 0, 0, 0),
  (46, .aload_n 1, 1, 0, 0, 0, 0),
  (47, .getfield 22, 3, 0, 1, 0, 0)]
set_option maxRecDepth 100000 in
set_option maxHeartbeats 4000000 in
theorem kk_43_0 : k_43_0.all (entOK (mCi 43) (mB 43)) = true := by decide +kernel
def k_43_1 : List XI := [(50, .iload_n 2, 1, 0, 0, 0, 0),
  (51, .iconst (-1), 1, 0, 0, (-1), 0),
  (52, .ixor, 1, 0, 0, 0, 0),
  (53, .iand, 1, 0, 0, 0, 0),
  (54, .invokevirtual 41, 3, 38, 1, 0, 0),
  (57, .istore 5, 2, 0, 0, 0, 0),
  (59, .aload_n 1, 1, 0, 0, 0, 0),
  (60, .iload_n 3, 1, 0, 0, 0, 0),
  (61, .iload 5, 2, 0, 0, 0, 0),
  (63, .invokestatic 45, 3, 39, 1, 0, 0),
  (66, .ifCond .eq 5, 3, 71, 0, 0, 0),
  (69, .iload_n 3, 1, 0, 0, 0, 0),
  (70, .ireturn, 1, 0, 0, 0, 0),
  (71, .iinc 3 1, 3, 0, 0, 1, 0),
  (74, .goto (-72), 3, 2, 0, 0, 0),
  (77, .bipush (-9), 2, 0, 0, (-9), 0),
  (79, .ireturn, 1, 0, 0, 0, 0)]
set_option maxRecDepth 100000 in
set_option maxHeartbeats 4000000 in
theorem kk_43_1 : k_43_1.all (entOK (mCi 43) (mB 43)) = true := by decide +kernel
def k_43 : List XI := k_43_0 ++ (k_43_1)
theorem kk_43 : k_43.all (entOK (mCi 43) (mB 43)) = true := all_app kk_43_0 (kk_43_1)
set_option maxRecDepth 100000 in
set_option maxHeartbeats 4000000 in
theorem fLO_lastOf {E : XE} {h : Mem} {Q : Int32 → Mem → Prop} {p : Nat} {a2 : Int32} (hp : p = 1 ∨ p = 15 ∨ p = 29)
    (hF : WP E mLO_lastOf 2 [some (.ref 45), some (.ref p), some (.int a2), some (.int 0), none, none] [] h (qI Q)) :
    CALLI E mLO_lastOf [.ref 45, .ref p, .int a2] h Q := by
  rcases hp with rfl | rfl | rfl
  all_goals exact CALL_of rfl (wp_sound [(2, [1, 1, 1, 1, 0, 0])] kk_43 3 hF)
set_option maxRecDepth 100000 in
set_option maxHeartbeats 4000000 in
theorem fLO_lastOf_2 {E : XE} {h : Mem} {Q : Int32 → Mem → Prop} {p : Nat} {x2 : Int32} {x3 : Int32} (hp : p = 1 ∨ p = 15 ∨ p = 29)
    (hF : ((h p 0) ≤ x3 → Q (-9) h) ∧ (¬ (h p 0) ≤ x3 → ((x2 &&& ((shl 1 x3) ^^^ (-1))) = x2 → WP E mLO_lastOf 2 [some (.ref 45), some (.ref p), some (.int x2), some (.int (x3 + 1)), none, none] [] h (qI Q)) ∧ (¬ (x2 &&& ((shl 1 x3) ^^^ (-1))) = x2 → cnd (inb (x2 &&& ((shl 1 x3) ^^^ (-1))) 64) ((¬ (h 47 (ix (x2 &&& ((shl 1 x3) ^^^ (-1))))) = 0 → CALLI E mRS_settle [.ref 46, .ref p, .int x3, .int (x2 &&& ((shl 1 x3) ^^^ (-1))), .int ((h p 1) &&& (x2 ^^^ (-1)))] h fun v1 h1 => CALLI E mRS_isSoonEnough [.ref p, .int x3, .int v1] h1 fun v2 h2 => (v2 = 0 → WP E mLO_lastOf 2 [some (.ref 45), some (.ref p), some (.int x2), some (.int (x3 + 1)), none, none] [] h2 (qI Q)) ∧ (¬ v2 = 0 → Q x3 h2)) ∧ ((h 47 (ix (x2 &&& ((shl 1 x3) ^^^ (-1))))) = 0 → WP E mLO_lastOf 2 [some (.ref 45), some (.ref p), some (.int x2), some (.int (x3 + 1)), none, none] [] h (qI Q)))))) :
    WP E mLO_lastOf 2 [some (.ref 45), some (.ref p), some (.int x2), some (.int x3), none, none] [] h (qI Q) := by
  rcases hp with rfl | rfl | rfl
  all_goals exact wp_sound [(2, [1, 1, 1, 1, 0, 0])] kk_43 41 hF
