def k_135 : List XI := [(0, .lload_n 0, 1, 0, 0, 0, 0),
  (1, .lload_n 2, 1, 0, 0, 0, 0),
  (2, .lcmp, 1, 0, 0, 0, 0),
  (3, .ifCond .lt 14, 3, 17, 0, 0, 0),
  (6, .lload_n 0, 1, 0, 0, 0, 0),
  (7, .lload 4, 2, 0, 0, 0, 0),
  (9, .lcmp, 1, 0, 0, 0, 0),
  (10, .ifCond .gt 7, 3, 17, 0, 0, 0),
  (13, .iconst 1, 1, 0, 0, 1, 0),
  (14, .goto 4, 3, 18, 0, 0, 0),
  (17, .iconst 0, 1, 0, 0, 0, 0),
  (18, .ireturn, 1, 0, 0, 0, 0)]
set_option maxRecDepth 100000 in
set_option maxHeartbeats 4000000 in
theorem kk_135 : k_135.all (entOK (mCi 135) (mB 135)) = true := by decide +kernel
set_option maxRecDepth 100000 in
set_option maxHeartbeats 4000000 in
theorem fM_in {E : XE} {h : Mem} {Q : Int32 → Mem → Prop} {a1 : Int64} {a2 : Int64} {a3 : Int64} 
    (hF : ((lg_cmp a1 a2) < 0 → Q 0 h) ∧ (¬ (lg_cmp a1 a2) < 0 → (0 < (lg_cmp a1 a3) → Q 0 h) ∧ (¬ 0 < (lg_cmp a1 a3) → Q 1 h))) :
    CALLI E mM_in [.long a1, .long a2, .long a3] h Q := CALL_of rfl (wp_sound [] kk_135 12 hF)
def k_136 : List XI := [(0, .aload_n 0, 1, 0, 0, 0, 0),
  (1, .getfield 19, 3, 7, 4, 0, 0),
  (4, .iload_n 1, 1, 0, 0, 0, 0),
  (5, .ineg, 1, 0, 0, 0, 0),
  (6, .dup2, 1, 0, 0, 0, 0),
  (7, .iaload, 1, 0, 0, 0, 0),
  (8, .iconst 1, 1, 0, 0, 1, 0),
  (9, .iadd, 1, 0, 0, 0, 0),
  (10, .iastore, 1, 0, 0, 0, 0),
  (11, .iload_n 1, 1, 0, 0, 0, 0),
  (12, .ireturn, 1, 0, 0, 0, 0)]
set_option maxRecDepth 100000 in
set_option maxHeartbeats 4000000 in
theorem kk_136 : k_136.all (entOK (mCi 136) (mB 136)) = true := by decide +kernel
set_option maxRecDepth 100000 in
set_option maxHeartbeats 4000000 in
theorem fM_refused {E : XE} {h : Mem} {Q : Int32 → Mem → Prop} {a1 : Int32} 
    (hF : cnd (inb (-a1) 7) (cnd (inb (-a1) 7) (Q a1 (upd2 h 64 (ix (-a1)) ((h 64 (ix (-a1))) + 1))))) :
    CALLI E mM_refused [.ref 60, .int a1] h Q := CALL_of rfl (wp_sound [] kk_136 12 hF)
def k_137 : List XI := [(0, .iconst 0, 1, 0, 0, 0, 0),
  (1, .istore_n 2, 1, 0, 0, 0, 0),
  (2, .iload_n 2, 1, 0, 0, 0, 0),
  (3, .bipush 73, 2, 0, 0, 73, 0),
  (5, .if_icmp .ge 15, 3, 20, 0, 0, 0),
  (8, .aload_n 1, 1, 0, 0, 0, 0),
  (9, .iload_n 2, 1, 0, 0, 0, 0),
  (10, .aload_n 0, 1, 0, 0, 0, 0),
  (11, .iload_n 2, 1, 0, 0, 0, 0),
  (12, .iaload, 1, 0, 0, 0, 0),
  (13, .iastore, 1, 0, 0, 0, 0),
  (14, .iinc 2 1, 3, 0, 0, 1, 0),
  (17, .goto (-15), 3, 2, 0, 0, 0),
  (20, .return_, 1, 0, 0, 0, 0)]
set_option maxRecDepth 100000 in
set_option maxHeartbeats 4000000 in
theorem kk_137 : k_137.all (entOK (mCi 137) (mB 137)) = true := by decide +kernel
set_option maxRecDepth 100000 in
set_option maxHeartbeats 4000000 in
theorem fM_copies {E : XE} {h : Mem} {Q : Mem → Prop} {a1 : Nat} {a2 : Nat} (ha1 : a1 = 61 ∨ a1 = 62 ∨ a1 = 63) (ha2 : a2 = 61 ∨ a2 = 62 ∨ a2 = 63)
    (hF : WP E mM_copies 2 [some (.ref a1), some (.ref a2), some (.int 0)] [] h (qV Q)) :
    CALLV E mM_copies [.ref a1, .ref a2] h Q := by
  rcases ha1 with rfl | rfl | rfl
  all_goals rcases ha2 with rfl | rfl | rfl
  all_goals exact CALL_of rfl (wp_sound [(2, [1, 1, 1])] kk_137 3 hF)
set_option maxRecDepth 100000 in
set_option maxHeartbeats 4000000 in
theorem fM_copies_2 {E : XE} {h : Mem} {Q : Mem → Prop} {a1 : Nat} {a2 : Nat} {x2 : Int32} (ha1 : a1 = 61 ∨ a1 = 62 ∨ a1 = 63) (ha2 : a2 = 61 ∨ a2 = 62 ∨ a2 = 63)
    (hF : (73 ≤ x2 → Q h) ∧ (¬ 73 ≤ x2 → shN a1 0 fun n1 => cnd (inb x2 n1) (shN a2 0 fun n2 => cnd (inb x2 n2) (WP E mM_copies 2 [some (.ref a1), some (.ref a2), some (.int (x2 + 1))] [] (upd2 h a2 (ix x2) (h a1 (ix x2))) (qV Q))))) :
    WP E mM_copies 2 [some (.ref a1), some (.ref a2), some (.int x2)] [] h (qV Q) := by
  rcases ha1 with rfl | rfl | rfl
  all_goals rcases ha2 with rfl | rfl | rfl
  all_goals exact wp_sound [(2, [1, 1, 1])] kk_137 12 hF
def k_138 : List XI := [(0, .aload_n 0, 1, 0, 0, 0, 0),
  (1, .getfield 9, 3, 7, 0, 0, 0),
  (4, .aload_n 0, 1, 0, 0, 0, 0),
  (5, .getfield 16, 3, 7, 2, 0, 0),
  (8, .invokestatic 58, 3, 137, 0, 0, 0),
  (11, .return_, 1, 0, 0, 0, 0)]
set_option maxRecDepth 100000 in
set_option maxHeartbeats 4000000 in
theorem kk_138 : k_138.all (entOK (mCi 138) (mB 138)) = true := by decide +kernel
set_option maxRecDepth 100000 in
set_option maxHeartbeats 4000000 in
theorem fM_minds {E : XE} {h : Mem} {Q : Mem → Prop}  
    (hF : CALLV E mM_copies [.ref 61, .ref 63] h fun h1 => Q h1) :
    CALLV E mM_minds [.ref 60] h Q := CALL_of rfl (wp_sound [] kk_138 7 hF)
def k_139 : List XI := [(0, .aload_n 0, 1, 0, 0, 0, 0),
  (1, .getfield 16, 3, 7, 2, 0, 0),
  (4, .aload_n 0, 1, 0, 0, 0, 0),
  (5, .getfield 9, 3, 7, 0, 0, 0),
  (8, .invokestatic 58, 3, 137, 0, 0, 0),
  (11, .return_, 1, 0, 0, 0, 0)]
set_option maxRecDepth 100000 in
set_option maxHeartbeats 4000000 in
theorem kk_139 : k_139.all (entOK (mCi 139) (mB 139)) = true := by decide +kernel
set_option maxRecDepth 100000 in
set_option maxHeartbeats 4000000 in
theorem fM_forgets {E : XE} {h : Mem} {Q : Mem → Prop}  
    (hF : CALLV E mM_copies [.ref 63, .ref 61] h fun h1 => Q h1) :
    CALLV E mM_forgets [.ref 60] h Q := CALL_of rfl (wp_sound [] kk_139 7 hF)
def k_140 : List XI := [(0, .iload_n 1, 1, 0, 0, 0, 0),
  (1, .i2l, 1, 0, 0, 0, 0),
  (2, .lconst 0, 1, 0, 0, 0, 0),
  (3, .aload_n 0, 1, 0, 0, 0, 0),
  (4, .getfield 9, 3, 7, 0, 0, 0),
  (7, .bipush 72, 2, 0, 0, 72, 0),
  (9, .iaload, 1, 0, 0, 0, 0),
  (10, .iconst 1, 1, 0, 0, 1, 0),
  (11, .isub, 1, 0, 0, 0, 0),
  (12, .i2l, 1, 0, 0, 0, 0),
  (13, .invokestatic 62, 3, 135, 1, 0, 0),
  (16, .ireturn, 1, 0, 0, 0, 0)]
set_option maxRecDepth 100000 in
set_option maxHeartbeats 4000000 in
theorem kk_140 : k_140.all (entOK (mCi 140) (mB 140)) = true := by decide +kernel
set_option maxRecDepth 100000 in
set_option maxHeartbeats 4000000 in
theorem fM_isTask {E : XE} {h : Mem} {Q : Int32 → Mem → Prop} {a1 : Int32} 
    (hF : CALLI E mM_in [.long a1.toInt64, .long 0, .long (((h 61 (ix 72)) - 1).toInt64)] h fun v1 h1 => cnd (nb v1) (Q v1 h1)) :
    CALLI E mM_isTask [.ref 60, .int a1] h Q := CALL_of rfl (wp_sound [] kk_140 13 hF)
def k_141 : List XI := [(0, .aload_n 0, 1, 0, 0, 0, 0),
  (1, .getfield 9, 3, 7, 0, 0, 0),
  (4, .bipush 42, 2, 0, 0, 42, 0),
  (6, .iload_n 1, 1, 0, 0, 0, 0),
  (7, .iadd, 1, 0, 0, 0, 0),
  (8, .iaload, 1, 0, 0, 0, 0),
  (9, .iconst 1, 1, 0, 0, 1, 0),
  (10, .if_icmp .ne 7, 3, 17, 0, 0, 0),
  (13, .iconst 1, 1, 0, 0, 1, 0),
  (14, .goto 4, 3, 18, 0, 0, 0),
  (17, .iconst 0, 1, 0, 0, 0, 0),
  (18, .ireturn, 1, 0, 0, 0, 0)]
set_option maxRecDepth 100000 in
set_option maxHeartbeats 4000000 in
theorem kk_141 : k_141.all (entOK (mCi 141) (mB 141)) = true := by decide +kernel
set_option maxRecDepth 100000 in
set_option maxHeartbeats 4000000 in
theorem fM_isOn {E : XE} {h : Mem} {Q : Int32 → Mem → Prop} {a1 : Int32} 
    (hF : cnd (inb (42 + a1) 73) ((¬ (h 61 (ix (42 + a1))) = 1 → Q 0 h) ∧ ((h 61 (ix (42 + a1))) = 1 → Q 1 h))) :
    CALLI E mM_isOn [.ref 60, .int a1] h Q := CALL_of rfl (wp_sound [] kk_141 12 hF)
def k_142 : List XI := [(0, .iload_n 0, 1, 0, 0, 0, 0),
  (1, .iload_n 1, 1, 0, 0, 0, 0),
  (2, .ishr, 1, 0, 0, 0, 0),
  (3, .iconst 1, 1, 0, 0, 1, 0),
  (4, .iand, 1, 0, 0, 0, 0),
  (5, .iconst 1, 1, 0, 0, 1, 0),
  (6, .if_icmp .ne 7, 3, 13, 0, 0, 0),
  (9, .iconst 1, 1, 0, 0, 1, 0),
  (10, .goto 4, 3, 14, 0, 0, 0),
  (13, .iconst 0, 1, 0, 0, 0, 0),
  (14, .ireturn, 1, 0, 0, 0, 0)]
set_option maxRecDepth 100000 in
set_option maxHeartbeats 4000000 in
theorem kk_142 : k_142.all (entOK (mCi 142) (mB 142)) = true := by decide +kernel
set_option maxRecDepth 100000 in
set_option maxHeartbeats 4000000 in
theorem fM_has {E : XE} {h : Mem} {Q : Int32 → Mem → Prop} {a1 : Int32} {a2 : Int32} 
    (hF : (¬ ((sshr a1 a2) &&& 1) = 1 → Q 0 h) ∧ (((sshr a1 a2) &&& 1) = 1 → Q 1 h)) :
    CALLI E mM_has [.int a1, .int a2] h Q := CALL_of rfl (wp_sound [] kk_142 11 hF)
def k_143_0 : List XI := [(0, .aload_n 0, 1, 0, 0, 0, 0),
  (1, .getfield 9, 3, 7, 0, 0, 0),
  (4, .bipush 6, 2, 0, 0, 6, 0),
  (6, .iload_n 1, 1, 0, 0, 0, 0),
  (7, .iadd, 1, 0, 0, 0, 0),
  (8, .iaload, 1, 0, 0, 0, 0),
  (9, .aload_n 0, 1, 0, 0, 0, 0),
  (10, .getfield 9, 3, 7, 0, 0, 0),
  (13, .bipush 30, 2, 0, 0, 30, 0),
  (15, .iload_n 1, 1, 0, 0, 0, 0),
  (16, .iadd, 1, 0, 0, 0, 0),
  (17, .iaload, 1, 0, 0, 0, 0),
  (18, .iconst 2, 1, 0, 0, 2, 0),
  (19, .if_icmp .eq 16, 3, 35, 0, 0, 0),
  (22, .aload_n 0, 1, 0, 0, 0, 0),
  (23, .getfield 9, 3, 7, 0, 0, 0),
  (26, .bipush 30, 2, 0, 0, 30, 0),
  (28, .iload_n 1, 1, 0, 0, 0, 0),
  (29, .iadd, 1, 0, 0, 0, 0),
  (30, .iaload, 1, 0, 0, 0, 0),
  (31, .iconst 3, 1, 0, 0, 3, 0),
  (32, .if_icmp .ne 15, 3, 47, 0, 0, 0),
  (35, .aload_n 0, 1, 0, 0, 0, 0),
  (36, .getfield 9, 3, 7, 0, 0, 0),
  (39, .bipush 36, 2, 0, 0, 36, 0),
  (41, .iload_n 1, 1, 0, 0, 0, 0),
  (42, .iadd, 1, 0, 0, 0, 0),
  (43, .iaload, 1, 0, 0, 0, 0),
  (44, .goto 4, 3, 48, 0, 0, 0),
  (47, .iconst 0, 1, 0, 0, 0, 0)]
set_option maxRecDepth 100000 in
set_option maxHeartbeats 4000000 in
theorem kk_143_0 : k_143_0.all (entOK (mCi 143) (mB 143)) = true := by decide +kernel
def k_143_1 : List XI := [(48, .iadd, 1, 0, 0, 0, 0),
  (49, .ireturn, 1, 0, 0, 0, 0)]
set_option maxRecDepth 100000 in
set_option maxHeartbeats 4000000 in
theorem kk_143_1 : k_143_1.all (entOK (mCi 143) (mB 143)) = true := by decide +kernel
def k_143 : List XI := k_143_0 ++ (k_143_1)
theorem kk_143 : k_143.all (entOK (mCi 143) (mB 143)) = true := all_app kk_143_0 (kk_143_1)
set_option maxRecDepth 100000 in
set_option maxHeartbeats 4000000 in
theorem fM_distance {E : XE} {h : Mem} {Q : Int32 → Mem → Prop} {a1 : Int32} 
    (hF : cnd (inb (6 + a1) 73) (cnd (inb (30 + a1) 73) (((h 61 (ix (30 + a1))) = 2 → cnd (inb (36 + a1) 73) (Q ((h 61 (ix (6 + a1))) + (h 61 (ix (36 + a1)))) h)) ∧ (¬ (h 61 (ix (30 + a1))) = 2 → cnd (inb (30 + a1) 73) ((¬ (h 61 (ix (30 + a1))) = 3 → Q ((h 61 (ix (6 + a1))) + 0) h) ∧ ((h 61 (ix (30 + a1))) = 3 → cnd (inb (36 + a1) 73) (Q ((h 61 (ix (6 + a1))) + (h 61 (ix (36 + a1)))) h))))))) :
    CALLI E mM_distance [.ref 60, .int a1] h Q := CALL_of rfl (wp_sound [] kk_143 32 hF)
def k_144 : List XI := [(0, .aload_n 0, 1, 0, 0, 0, 0),
  (1, .getfield 9, 3, 7, 0, 0, 0),
  (4, .bipush 30, 2, 0, 0, 30, 0),
  (6, .iload_n 1, 1, 0, 0, 0, 0),
  (7, .iadd, 1, 0, 0, 0, 0),
  (8, .iaload, 1, 0, 0, 0, 0),
  (9, .iconst 1, 1, 0, 0, 1, 0),
  (10, .if_icmp .eq 16, 3, 26, 0, 0, 0),
  (13, .aload_n 0, 1, 0, 0, 0, 0),
  (14, .getfield 9, 3, 7, 0, 0, 0),
  (17, .bipush 30, 2, 0, 0, 30, 0),
  (19, .iload_n 1, 1, 0, 0, 0, 0),
  (20, .iadd, 1, 0, 0, 0, 0),
  (21, .iaload, 1, 0, 0, 0, 0),
  (22, .iconst 4, 1, 0, 0, 4, 0),
  (23, .if_icmp .ne 15, 3, 38, 0, 0, 0),
  (26, .aload_n 0, 1, 0, 0, 0, 0),
  (27, .getfield 9, 3, 7, 0, 0, 0),
  (30, .bipush 36, 2, 0, 0, 36, 0),
  (32, .iload_n 1, 1, 0, 0, 0, 0),
  (33, .iadd, 1, 0, 0, 0, 0),
  (34, .iaload, 1, 0, 0, 0, 0),
  (35, .goto 4, 3, 39, 0, 0, 0),
  (38, .iconst 0, 1, 0, 0, 0, 0),
  (39, .ireturn, 1, 0, 0, 0, 0)]
set_option maxRecDepth 100000 in
set_option maxHeartbeats 4000000 in
theorem kk_144 : k_144.all (entOK (mCi 144) (mB 144)) = true := by decide +kernel
set_option maxRecDepth 100000 in
set_option maxHeartbeats 4000000 in
theorem fM_late {E : XE} {h : Mem} {Q : Int32 → Mem → Prop} {a1 : Int32} 
    (hF : cnd (inb (30 + a1) 73) (((h 61 (ix (30 + a1))) = 1 → cnd (inb (36 + a1) 73) (Q (h 61 (ix (36 + a1))) h)) ∧ (¬ (h 61 (ix (30 + a1))) = 1 → cnd (inb (30 + a1) 73) ((¬ (h 61 (ix (30 + a1))) = 4 → Q 0 h) ∧ ((h 61 (ix (30 + a1))) = 4 → cnd (inb (36 + a1) 73) (Q (h 61 (ix (36 + a1))) h)))))) :
    CALLI E mM_late [.ref 60, .int a1] h Q := CALL_of rfl (wp_sound [] kk_144 25 hF)
def k_145_0 : List XI := [(0, .aload_n 0, 1, 0, 0, 0, 0),
  (1, .getfield 9, 3, 7, 0, 0, 0),
  (4, .bipush 30, 2, 0, 0, 30, 0),
  (6, .iload_n 1, 1, 0, 0, 0, 0),
  (7, .iadd, 1, 0, 0, 0, 0),
  (8, .iaload, 1, 0, 0, 0, 0),
  (9, .iconst 5, 1, 0, 0, 5, 0),
  (10, .if_icmp .ne 29, 3, 39, 0, 0, 0),
  (13, .iconst 1, 1, 0, 0, 1, 0),
  (14, .aload_n 0, 1, 0, 0, 0, 0),
  (15, .getfield 9, 3, 7, 0, 0, 0),
  (18, .bipush 12, 2, 0, 0, 12, 0),
  (20, .iload_n 1, 1, 0, 0, 0, 0),
  (21, .iadd, 1, 0, 0, 0, 0),
  (22, .iaload, 1, 0, 0, 0, 0),
  (23, .aload_n 0, 1, 0, 0, 0, 0),
  (24, .getfield 9, 3, 7, 0, 0, 0),
  (27, .bipush 36, 2, 0, 0, 36, 0),
  (29, .iload_n 1, 1, 0, 0, 0, 0),
  (30, .iadd, 1, 0, 0, 0, 0),
  (31, .iaload, 1, 0, 0, 0, 0),
  (32, .isub, 1, 0, 0, 0, 0),
  (33, .invokestatic 66, 3, 998, 0, 0, 0),
  (36, .goto 12, 3, 48, 0, 0, 0),
  (39, .aload_n 0, 1, 0, 0, 0, 0),
  (40, .getfield 9, 3, 7, 0, 0, 0),
  (43, .bipush 12, 2, 0, 0, 12, 0),
  (45, .iload_n 1, 1, 0, 0, 0, 0),
  (46, .iadd, 1, 0, 0, 0, 0),
  (47, .iaload, 1, 0, 0, 0, 0)]
set_option maxRecDepth 100000 in
set_option maxHeartbeats 4000000 in
theorem kk_145_0 : k_145_0.all (entOK (mCi 145) (mB 145)) = true := by decide +kernel
def k_145_1 : List XI := [(48, .ireturn, 1, 0, 0, 0, 0)]
set_option maxRecDepth 100000 in
set_option maxHeartbeats 4000000 in
theorem kk_145_1 : k_145_1.all (entOK (mCi 145) (mB 145)) = true := by decide +kernel
def k_145 : List XI := k_145_0 ++ (k_145_1)
theorem kk_145 : k_145.all (entOK (mCi 145) (mB 145)) = true := all_app kk_145_0 (kk_145_1)
set_option maxRecDepth 100000 in
set_option maxHeartbeats 4000000 in
theorem fM_limit {E : XE} {h : Mem} {Q : Int32 → Mem → Prop} {a1 : Int32} 
    (hF : cnd (inb (30 + a1) 73) ((¬ (h 61 (ix (30 + a1))) = 5 → cnd (inb (12 + a1) 73) (Q (h 61 (ix (12 + a1))) h)) ∧ ((h 61 (ix (30 + a1))) = 5 → cnd (inb (12 + a1) 73) (cnd (inb (36 + a1) 73) (Q (imax 1 ((h 61 (ix (12 + a1))) - (h 61 (ix (36 + a1))))) h))))) :
    CALLI E mM_limit [.ref 60, .int a1] h Q := CALL_of rfl (wp_sound [] kk_145 26 hF)
def k_146_0 : List XI := [(0, .aload_n 0, 1, 0, 0, 0, 0),
  (1, .getfield 9, 3, 7, 0, 0, 0),
  (4, .bipush 30, 2, 0, 0, 30, 0),
  (6, .iload_n 1, 1, 0, 0, 0, 0),
  (7, .iadd, 1, 0, 0, 0, 0),
  (8, .iaload, 1, 0, 0, 0, 0),
  (9, .iconst 3, 1, 0, 0, 3, 0),
  (10, .if_icmp .ne 9, 3, 19, 0, 0, 0),
  (13, .iload_n 2, 1, 0, 0, 0, 0),
  (14, .iconst 1, 1, 0, 0, 1, 0),
  (15, .iadd, 1, 0, 0, 0, 0),
  (16, .goto 35, 3, 51, 0, 0, 0),
  (19, .aload_n 0, 1, 0, 0, 0, 0),
  (20, .getfield 9, 3, 7, 0, 0, 0),
  (23, .bipush 30, 2, 0, 0, 30, 0),
  (25, .iload_n 1, 1, 0, 0, 0, 0),
  (26, .iadd, 1, 0, 0, 0, 0),
  (27, .iaload, 1, 0, 0, 0, 0),
  (28, .iconst 4, 1, 0, 0, 4, 0),
  (29, .if_icmp .ne 21, 3, 50, 0, 0, 0),
  (32, .iload_n 2, 1, 0, 0, 0, 0),
  (33, .aload_n 0, 1, 0, 0, 0, 0),
  (34, .getfield 9, 3, 7, 0, 0, 0),
  (37, .bipush 36, 2, 0, 0, 36, 0),
  (39, .iload_n 1, 1, 0, 0, 0, 0),
  (40, .iadd, 1, 0, 0, 0, 0),
  (41, .iaload, 1, 0, 0, 0, 0),
  (42, .iconst 1, 1, 0, 0, 1, 0),
  (43, .iadd, 1, 0, 0, 0, 0),
  (44, .invokestatic 72, 3, 997, 0, 0, 0)]
set_option maxRecDepth 100000 in
set_option maxHeartbeats 4000000 in
theorem kk_146_0 : k_146_0.all (entOK (mCi 146) (mB 146)) = true := by decide +kernel
def k_146_1 : List XI := [(47, .goto 4, 3, 51, 0, 0, 0),
  (50, .iload_n 2, 1, 0, 0, 0, 0),
  (51, .ireturn, 1, 0, 0, 0, 0)]
set_option maxRecDepth 100000 in
set_option maxHeartbeats 4000000 in
theorem kk_146_1 : k_146_1.all (entOK (mCi 146) (mB 146)) = true := by decide +kernel
def k_146 : List XI := k_146_0 ++ (k_146_1)
theorem kk_146 : k_146.all (entOK (mCi 146) (mB 146)) = true := all_app kk_146_0 (kk_146_1)
set_option maxRecDepth 100000 in
set_option maxHeartbeats 4000000 in
theorem fM_byKind {E : XE} {h : Mem} {Q : Int32 → Mem → Prop} {a1 : Int32} {a2 : Int32} 
    (hF : cnd (inb (30 + a1) 73) ((¬ (h 61 (ix (30 + a1))) = 3 → cnd (inb (30 + a1) 73) ((¬ (h 61 (ix (30 + a1))) = 4 → Q a2 h) ∧ ((h 61 (ix (30 + a1))) = 4 → cnd (inb (36 + a1) 73) (Q (imin a2 ((h 61 (ix (36 + a1))) + 1)) h)))) ∧ ((h 61 (ix (30 + a1))) = 3 → Q (a2 + 1) h))) :
    CALLI E mM_byKind [.ref 60, .int a1, .int a2] h Q := CALL_of rfl (wp_sound [] kk_146 29 hF)
def k_147 : List XI := [(0, .iload_n 2, 1, 0, 0, 0, 0),
  (1, .ifCond .ne 7, 3, 8, 0, 0, 0),
  (4, .iconst 0, 1, 0, 0, 0, 0),
  (5, .goto 29, 3, 34, 0, 0, 0),
  (8, .aload_n 0, 1, 0, 0, 0, 0),
  (9, .iload_n 1, 1, 0, 0, 0, 0),
  (10, .iload_n 2, 1, 0, 0, 0, 0),
  (11, .aload_n 0, 1, 0, 0, 0, 0),
  (12, .iload_n 1, 1, 0, 0, 0, 0),
  (13, .invokevirtual 75, 3, 144, 1, 0, 0),
  (16, .iadd, 1, 0, 0, 0, 0),
  (17, .aload_n 0, 1, 0, 0, 0, 0),
  (18, .iload_n 1, 1, 0, 0, 0, 0),
  (19, .invokevirtual 79, 3, 143, 1, 0, 0),
  (22, .iadd, 1, 0, 0, 0, 0),
  (23, .iconst 1, 1, 0, 0, 1, 0),
  (24, .isub, 1, 0, 0, 0, 0),
  (25, .aload_n 0, 1, 0, 0, 0, 0),
  (26, .iload_n 1, 1, 0, 0, 0, 0),
  (27, .invokevirtual 79, 3, 143, 1, 0, 0),
  (30, .idiv, 1, 0, 0, 0, 0),
  (31, .invokevirtual 82, 3, 146, 1, 0, 0),
  (34, .ireturn, 1, 0, 0, 0, 0)]
set_option maxRecDepth 100000 in
set_option maxHeartbeats 4000000 in
theorem kk_147 : k_147.all (entOK (mCi 147) (mB 147)) = true := by decide +kernel
set_option maxRecDepth 100000 in
set_option maxHeartbeats 4000000 in
theorem fM_askedOf {E : XE} {h : Mem} {Q : Int32 → Mem → Prop} {a1 : Int32} {a2 : Int32} 
    (hF : (¬ a2 = 0 → CALLI E mM_late [.ref 60, .int a1] h fun v1 h1 => CALLI E mM_distance [.ref 60, .int a1] h1 fun v2 h2 => CALLI E mM_distance [.ref 60, .int a1] h2 fun v3 h3 => cnd (nz v3) (CALLI E mM_byKind [.ref 60, .int a1, .int ((((a2 + v1) + v2) - 1) / v3)] h3 fun v4 h4 => Q v4 h4)) ∧ (a2 = 0 → Q 0 h)) :
    CALLI E mM_askedOf [.ref 60, .int a1, .int a2] h Q := CALL_of rfl (wp_sound [] kk_147 22 hF)
def k_148 : List XI := [(0, .iload_n 2, 1, 0, 0, 0, 0),
  (1, .aload_n 0, 1, 0, 0, 0, 0),
  (2, .iload_n 1, 1, 0, 0, 0, 0),
  (3, .invokevirtual 75, 3, 144, 1, 0, 0),
  (6, .iadd, 1, 0, 0, 0, 0),
  (7, .aload_n 0, 1, 0, 0, 0, 0),
  (8, .iload_n 1, 1, 0, 0, 0, 0),
  (9, .invokevirtual 85, 3, 145, 1, 0, 0),
  (12, .isub, 1, 0, 0, 0, 0),
  (13, .istore_n 3, 1, 0, 0, 0, 0),
  (14, .iload_n 2, 1, 0, 0, 0, 0),
  (15, .ifCond .eq 7, 3, 22, 0, 0, 0),
  (18, .iload_n 3, 1, 0, 0, 0, 0),
  (19, .ifCond .ge 7, 3, 26, 0, 0, 0),
  (22, .iconst 0, 1, 0, 0, 0, 0),
  (23, .goto 17, 3, 40, 0, 0, 0),
  (26, .aload_n 0, 1, 0, 0, 0, 0),
  (27, .iload_n 1, 1, 0, 0, 0, 0),
  (28, .iload_n 3, 1, 0, 0, 0, 0),
  (29, .aload_n 0, 1, 0, 0, 0, 0),
  (30, .iload_n 1, 1, 0, 0, 0, 0),
  (31, .invokevirtual 79, 3, 143, 1, 0, 0),
  (34, .idiv, 1, 0, 0, 0, 0),
  (35, .iconst 1, 1, 0, 0, 1, 0),
  (36, .iadd, 1, 0, 0, 0, 0),
  (37, .invokevirtual 82, 3, 146, 1, 0, 0),
  (40, .ireturn, 1, 0, 0, 0, 0)]
set_option maxRecDepth 100000 in
set_option maxHeartbeats 4000000 in
theorem kk_148 : k_148.all (entOK (mCi 148) (mB 148)) = true := by decide +kernel
set_option maxRecDepth 100000 in
set_option maxHeartbeats 4000000 in
theorem fM_owedOf {E : XE} {h : Mem} {Q : Int32 → Mem → Prop} {a1 : Int32} {a2 : Int32} 
    (hF : CALLI E mM_late [.ref 60, .int a1] h fun v1 h1 => CALLI E mM_limit [.ref 60, .int a1] h1 fun v2 h2 => (a2 = 0 → Q 0 h2) ∧ (¬ a2 = 0 → (0 ≤ ((a2 + v1) - v2) → CALLI E mM_distance [.ref 60, .int a1] h2 fun v3 h3 => cnd (nz v3) (CALLI E mM_byKind [.ref 60, .int a1, .int ((((a2 + v1) - v2) / v3) + 1)] h3 fun v4 h4 => Q v4 h4)) ∧ (¬ 0 ≤ ((a2 + v1) - v2) → Q 0 h2))) :
    CALLI E mM_owedOf [.ref 60, .int a1, .int a2] h Q := CALL_of rfl (wp_sound [] kk_148 26 hF)
def k_149_0 : List XI := [(0, .iconst 0, 1, 0, 0, 0, 0),
  (1, .istore_n 2, 1, 0, 0, 0, 0),
  (2, .iconst 0, 1, 0, 0, 0, 0),
  (3, .istore_n 3, 1, 0, 0, 0, 0),
  (4, .iload_n 3, 1, 0, 0, 0, 0),
  (5, .aload_n 0, 1, 0, 0, 0, 0),
  (6, .getfield 9, 3, 7, 0, 0, 0),
  (9, .bipush 72, 2, 0, 0, 72, 0),
  (11, .iaload, 1, 0, 0, 0, 0),
  (12, .if_icmp .ge 39, 3, 51, 0, 0, 0),
  (15, .iload_n 2, 1, 0, 0, 0, 0),
  (16, .aload_n 0, 1, 0, 0, 0, 0),
  (17, .iload_n 3, 1, 0, 0, 0, 0),
  (18, .invokevirtual 88, 3, 141, 1, 0, 0),
  (21, .ifCond .eq 21, 3, 42, 0, 0, 0),
  (24, .aload_n 0, 1, 0, 0, 0, 0),
  (25, .getfield 9, 3, 7, 0, 0, 0),
  (28, .iconst 0, 1, 0, 0, 0, 0),
  (29, .iload_n 3, 1, 0, 0, 0, 0),
  (30, .iadd, 1, 0, 0, 0, 0),
  (31, .iaload, 1, 0, 0, 0, 0),
  (32, .aload_n 0, 1, 0, 0, 0, 0),
  (33, .iload_n 3, 1, 0, 0, 0, 0),
  (34, .iload_n 1, 1, 0, 0, 0, 0),
  (35, .invokevirtual 92, 3, 148, 1, 0, 0),
  (38, .imul, 1, 0, 0, 0, 0),
  (39, .goto 4, 3, 43, 0, 0, 0),
  (42, .iconst 0, 1, 0, 0, 0, 0),
  (43, .iadd, 1, 0, 0, 0, 0),
  (44, .istore_n 2, 1, 0, 0, 0, 0)]
set_option maxRecDepth 100000 in
set_option maxHeartbeats 4000000 in
theorem kk_149_0 : k_149_0.all (entOK (mCi 149) (mB 149)) = true := by decide +kernel
def k_149_1 : List XI := [(45, .iinc 3 1, 3, 0, 0, 1, 0),
  (48, .goto (-44), 3, 4, 0, 0, 0),
  (51, .iload_n 2, 1, 0, 0, 0, 0),
  (52, .ireturn, 1, 0, 0, 0, 0)]
set_option maxRecDepth 100000 in
set_option maxHeartbeats 4000000 in
theorem kk_149_1 : k_149_1.all (entOK (mCi 149) (mB 149)) = true := by decide +kernel
def k_149 : List XI := k_149_0 ++ (k_149_1)
theorem kk_149 : k_149.all (entOK (mCi 149) (mB 149)) = true := all_app kk_149_0 (kk_149_1)
set_option maxRecDepth 100000 in
set_option maxHeartbeats 4000000 in
theorem fM_demandOf {E : XE} {h : Mem} {Q : Int32 → Mem → Prop} {a1 : Int32} 
    (hF : WP E mM_demandOf 4 [some (.ref 60), some (.int a1), some (.int 0), some (.int 0)] [] h (qI Q)) :
    CALLI E mM_demandOf [.ref 60, .int a1] h Q := CALL_of rfl (wp_sound [(4, [1, 1, 1, 1])] kk_149 5 hF)
set_option maxRecDepth 100000 in
set_option maxHeartbeats 4000000 in
theorem fM_demandOf_4 {E : XE} {h : Mem} {Q : Int32 → Mem → Prop} {x1 : Int32} {x2 : Int32} {x3 : Int32} 
    (hF : ((h 61 (ix 72)) ≤ x3 → Q x2 h) ∧ (¬ (h 61 (ix 72)) ≤ x3 → CALLI E mM_isOn [.ref 60, .int x3] h fun v1 h1 => (v1 = 0 → WP E mM_demandOf 4 [some (.ref 60), some (.int x1), some (.int (x2 + 0)), some (.int (x3 + 1))] [] h1 (qI Q)) ∧ (¬ v1 = 0 → cnd (inb (0 + x3) 73) (CALLI E mM_owedOf [.ref 60, .int x3, .int x1] h1 fun v2 h2 => WP E mM_demandOf 4 [some (.ref 60), some (.int x1), some (.int (x2 + ((h1 61 (ix (0 + x3))) * v2))), some (.int (x3 + 1))] [] h2 (qI Q))))) :
    WP E mM_demandOf 4 [some (.ref 60), some (.int x1), some (.int x2), some (.int x3)] [] h (qI Q) := wp_sound [(4, [1, 1, 1, 1])] kk_149 28 hF
def k_150_0 : List XI := [(0, .iconst 0, 1, 0, 0, 0, 0),
  (1, .istore_n 2, 1, 0, 0, 0, 0),
  (2, .iconst 0, 1, 0, 0, 0, 0),
  (3, .istore_n 3, 1, 0, 0, 0, 0),
  (4, .iload_n 3, 1, 0, 0, 0, 0),
  (5, .aload_n 0, 1, 0, 0, 0, 0),
  (6, .getfield 9, 3, 7, 0, 0, 0),
  (9, .bipush 72, 2, 0, 0, 72, 0),
  (11, .iaload, 1, 0, 0, 0, 0),
  (12, .if_icmp .ge 39, 3, 51, 0, 0, 0),
  (15, .iload_n 2, 1, 0, 0, 0, 0),
  (16, .aload_n 0, 1, 0, 0, 0, 0),
  (17, .iload_n 3, 1, 0, 0, 0, 0),
  (18, .invokevirtual 88, 3, 141, 1, 0, 0),
  (21, .ifCond .eq 21, 3, 42, 0, 0, 0),
  (24, .aload_n 0, 1, 0, 0, 0, 0),
  (25, .getfield 9, 3, 7, 0, 0, 0),
  (28, .iconst 0, 1, 0, 0, 0, 0),
  (29, .iload_n 3, 1, 0, 0, 0, 0),
  (30, .iadd, 1, 0, 0, 0, 0),
  (31, .iaload, 1, 0, 0, 0, 0),
  (32, .aload_n 0, 1, 0, 0, 0, 0),
  (33, .iload_n 3, 1, 0, 0, 0, 0),
  (34, .iload_n 1, 1, 0, 0, 0, 0),
  (35, .invokevirtual 95, 3, 147, 1, 0, 0),
  (38, .imul, 1, 0, 0, 0, 0),
  (39, .goto 4, 3, 43, 0, 0, 0),
  (42, .iconst 0, 1, 0, 0, 0, 0),
  (43, .iadd, 1, 0, 0, 0, 0),
  (44, .istore_n 2, 1, 0, 0, 0, 0)]
set_option maxRecDepth 100000 in
set_option maxHeartbeats 4000000 in
theorem kk_150_0 : k_150_0.all (entOK (mCi 150) (mB 150)) = true := by decide +kernel
def k_150_1 : List XI := [(45, .iinc 3 1, 3, 0, 0, 1, 0),
  (48, .goto (-44), 3, 4, 0, 0, 0),
  (51, .iload_n 2, 1, 0, 0, 0, 0),
  (52, .ireturn, 1, 0, 0, 0, 0)]
set_option maxRecDepth 100000 in
set_option maxHeartbeats 4000000 in
theorem kk_150_1 : k_150_1.all (entOK (mCi 150) (mB 150)) = true := by decide +kernel
def k_150 : List XI := k_150_0 ++ (k_150_1)
theorem kk_150 : k_150.all (entOK (mCi 150) (mB 150)) = true := all_app kk_150_0 (kk_150_1)
set_option maxRecDepth 100000 in
set_option maxHeartbeats 4000000 in
theorem fM_asksAll {E : XE} {h : Mem} {Q : Int32 → Mem → Prop} {a1 : Int32} 
    (hF : WP E mM_asksAll 4 [some (.ref 60), some (.int a1), some (.int 0), some (.int 0)] [] h (qI Q)) :
    CALLI E mM_asksAll [.ref 60, .int a1] h Q := CALL_of rfl (wp_sound [(4, [1, 1, 1, 1])] kk_150 5 hF)
set_option maxRecDepth 100000 in
set_option maxHeartbeats 4000000 in
theorem fM_asksAll_4 {E : XE} {h : Mem} {Q : Int32 → Mem → Prop} {x1 : Int32} {x2 : Int32} {x3 : Int32} 
    (hF : ((h 61 (ix 72)) ≤ x3 → Q x2 h) ∧ (¬ (h 61 (ix 72)) ≤ x3 → CALLI E mM_isOn [.ref 60, .int x3] h fun v1 h1 => (v1 = 0 → WP E mM_asksAll 4 [some (.ref 60), some (.int x1), some (.int (x2 + 0)), some (.int (x3 + 1))] [] h1 (qI Q)) ∧ (¬ v1 = 0 → cnd (inb (0 + x3) 73) (CALLI E mM_askedOf [.ref 60, .int x3, .int x1] h1 fun v2 h2 => WP E mM_asksAll 4 [some (.ref 60), some (.int x1), some (.int (x2 + ((h1 61 (ix (0 + x3))) * v2))), some (.int (x3 + 1))] [] h2 (qI Q))))) :
    WP E mM_asksAll 4 [some (.ref 60), some (.int x1), some (.int x2), some (.int x3)] [] h (qI Q) := wp_sound [(4, [1, 1, 1, 1])] kk_150 28 hF
def k_151 : List XI := [(0, .aload_n 0, 1, 0, 0, 0, 0),
  (1, .iconst 1, 1, 0, 0, 1, 0),
  (2, .invokevirtual 98, 3, 150, 1, 0, 0),
  (5, .istore_n 1, 1, 0, 0, 0, 0),
  (6, .aload_n 0, 1, 0, 0, 0, 0),
  (7, .iload_n 1, 1, 0, 0, 0, 0),
  (8, .invokevirtual 98, 3, 150, 1, 0, 0),
  (11, .istore_n 2, 1, 0, 0, 0, 0),
  (12, .iload_n 1, 1, 0, 0, 0, 0),
  (13, .sipush 600, 3, 0, 0, 600, 0),
  (16, .if_icmp .gt 19, 3, 35, 0, 0, 0),
  (19, .iload_n 2, 1, 0, 0, 0, 0),
  (20, .iload_n 1, 1, 0, 0, 0, 0),
  (21, .if_icmp .eq 14, 3, 35, 0, 0, 0),
  (24, .iload_n 2, 1, 0, 0, 0, 0),
  (25, .istore_n 1, 1, 0, 0, 0, 0),
  (26, .aload_n 0, 1, 0, 0, 0, 0),
  (27, .iload_n 1, 1, 0, 0, 0, 0),
  (28, .invokevirtual 98, 3, 150, 1, 0, 0),
  (31, .istore_n 2, 1, 0, 0, 0, 0),
  (32, .goto (-20), 3, 12, 0, 0, 0),
  (35, .iload_n 1, 1, 0, 0, 0, 0),
  (36, .sipush 600, 3, 0, 0, 600, 0),
  (39, .if_icmp .le 8, 3, 47, 0, 0, 0),
  (42, .bipush (-9), 2, 0, 0, (-9), 0),
  (44, .goto 4, 3, 48, 0, 0, 0),
  (47, .iload_n 1, 1, 0, 0, 0, 0),
  (48, .ireturn, 1, 0, 0, 0, 0)]
set_option maxRecDepth 100000 in
set_option maxHeartbeats 4000000 in
theorem kk_151 : k_151.all (entOK (mCi 151) (mB 151)) = true := by decide +kernel
set_option maxRecDepth 100000 in
set_option maxHeartbeats 4000000 in
theorem fM_busyOf {E : XE} {h : Mem} {Q : Int32 → Mem → Prop}  
    (hF : CALLI E mM_asksAll [.ref 60, .int 1] h fun v1 h1 => CALLI E mM_asksAll [.ref 60, .int v1] h1 fun v2 h2 => WP E mM_busyOf 12 [some (.ref 60), some (.int v1), some (.int v2)] [] h2 (qI Q)) :
    CALLI E mM_busyOf [.ref 60] h Q := CALL_of rfl (wp_sound [(12, [1, 1, 1])] kk_151 9 hF)
set_option maxRecDepth 100000 in
set_option maxHeartbeats 4000000 in
theorem fM_busyOf_12 {E : XE} {h : Mem} {Q : Int32 → Mem → Prop} {x1 : Int32} {x2 : Int32} 
    (hF : (600 < x1 → (x1 ≤ 600 → Q x1 h) ∧ (¬ x1 ≤ 600 → Q (-9) h)) ∧ (¬ 600 < x1 → (x2 = x1 → (x1 ≤ 600 → Q x1 h) ∧ (¬ x1 ≤ 600 → Q (-9) h)) ∧ (¬ x2 = x1 → CALLI E mM_asksAll [.ref 60, .int x2] h fun v1 h1 => WP E mM_busyOf 12 [some (.ref 60), some (.int x2), some (.int v1)] [] h1 (qI Q)))) :
    WP E mM_busyOf 12 [some (.ref 60), some (.int x1), some (.int x2)] [] h (qI Q) := wp_sound [(12, [1, 1, 1])] kk_151 14 hF
def k_152_0 : List XI := [(0, .aload_n 0, 1, 0, 0, 0, 0),
  (1, .invokevirtual 101, 3, 151, 1, 0, 0),
  (4, .istore_n 1, 1, 0, 0, 0, 0),
  (5, .aload_n 0, 1, 0, 0, 0, 0),
  (6, .iconst 0, 1, 0, 0, 0, 0),
  (7, .putfield 105, 3, 7, 10, 0, 0),
  (10, .aload_n 0, 1, 0, 0, 0, 0),
  (11, .bipush (-9), 2, 0, 0, (-9), 0),
  (13, .putfield 109, 3, 7, 11, 0, 0),
  (16, .aload_n 0, 1, 0, 0, 0, 0),
  (17, .sipush 1000, 3, 0, 0, 1000, 0),
  (20, .putfield 112, 3, 7, 12, 0, 0),
  (23, .iconst 0, 1, 0, 0, 0, 0),
  (24, .istore_n 2, 1, 0, 0, 0, 0),
  (25, .iconst 1, 1, 0, 0, 1, 0),
  (26, .istore_n 3, 1, 0, 0, 0, 0),
  (27, .iload_n 3, 1, 0, 0, 0, 0),
  (28, .iload_n 1, 1, 0, 0, 0, 0),
  (29, .ifCond .ge 9, 3, 38, 0, 0, 0),
  (32, .sipush 600, 3, 0, 0, 600, 0),
  (35, .goto 4, 3, 39, 0, 0, 0),
  (38, .iload_n 1, 1, 0, 0, 0, 0),
  (39, .if_icmp .gt 85, 3, 124, 0, 0, 0),
  (42, .aload_n 0, 1, 0, 0, 0, 0),
  (43, .iload_n 3, 1, 0, 0, 0, 0),
  (44, .invokevirtual 115, 3, 149, 1, 0, 0),
  (47, .istore 4, 2, 0, 0, 0, 0),
  (49, .iload 4, 2, 0, 0, 0, 0),
  (51, .iload_n 2, 1, 0, 0, 0, 0),
  (52, .if_icmp .le 63, 3, 115, 0, 0, 0)]
set_option maxRecDepth 100000 in
set_option maxHeartbeats 4000000 in
theorem kk_152_0 : k_152_0.all (entOK (mCi 152) (mB 152)) = true := by decide +kernel
def k_152_1 : List XI := [(55, .aload_n 0, 1, 0, 0, 0, 0),
  (56, .getfield 28, 3, 7, 9, 0, 0),
  (59, .aload_n 0, 1, 0, 0, 0, 0),
  (60, .getfield 105, 3, 7, 10, 0, 0),
  (63, .iload_n 3, 1, 0, 0, 0, 0),
  (64, .iastore, 1, 0, 0, 0, 0),
  (65, .aload_n 0, 1, 0, 0, 0, 0),
  (66, .dup, 1, 0, 0, 0, 0),
  (67, .getfield 105, 3, 7, 10, 0, 0),
  (70, .iconst 1, 1, 0, 0, 1, 0),
  (71, .iadd, 1, 0, 0, 0, 0),
  (72, .putfield 105, 3, 7, 10, 0, 0),
  (75, .aload_n 0, 1, 0, 0, 0, 0),
  (76, .aload_n 0, 1, 0, 0, 0, 0),
  (77, .getfield 109, 3, 7, 11, 0, 0),
  (80, .ifCond .ge 13, 3, 93, 0, 0, 0),
  (83, .iload 4, 2, 0, 0, 0, 0),
  (85, .iload_n 3, 1, 0, 0, 0, 0),
  (86, .if_icmp .le 7, 3, 93, 0, 0, 0),
  (89, .iload_n 3, 1, 0, 0, 0, 0),
  (90, .goto 7, 3, 97, 0, 0, 0),
  (93, .aload_n 0, 1, 0, 0, 0, 0),
  (94, .getfield 109, 3, 7, 11, 0, 0),
  (97, .putfield 109, 3, 7, 11, 0, 0),
  (100, .aload_n 0, 1, 0, 0, 0, 0),
  (101, .aload_n 0, 1, 0, 0, 0, 0),
  (102, .getfield 112, 3, 7, 12, 0, 0),
  (105, .iload_n 3, 1, 0, 0, 0, 0),
  (106, .iload 4, 2, 0, 0, 0, 0),
  (108, .isub, 1, 0, 0, 0, 0)]
set_option maxRecDepth 100000 in
set_option maxHeartbeats 4000000 in
theorem kk_152_1 : k_152_1.all (entOK (mCi 152) (mB 152)) = true := by decide +kernel
def k_152_2 : List XI := [(109, .invokestatic 72, 3, 997, 0, 0, 0),
  (112, .putfield 112, 3, 7, 12, 0, 0),
  (115, .iload 4, 2, 0, 0, 0, 0),
  (117, .istore_n 2, 1, 0, 0, 0, 0),
  (118, .iinc 3 1, 3, 0, 0, 1, 0),
  (121, .goto (-94), 3, 27, 0, 0, 0),
  (124, .return_, 1, 0, 0, 0, 0)]
set_option maxRecDepth 100000 in
set_option maxHeartbeats 4000000 in
theorem kk_152_2 : k_152_2.all (entOK (mCi 152) (mB 152)) = true := by decide +kernel
def k_152 : List XI := k_152_0 ++ (k_152_1 ++ (k_152_2))
theorem kk_152 : k_152.all (entOK (mCi 152) (mB 152)) = true := all_app kk_152_0 (all_app kk_152_1 (kk_152_2))
set_option maxRecDepth 100000 in
set_option maxHeartbeats 4000000 in
theorem fM_findsPoints {E : XE} {h : Mem} {Q : Mem → Prop}  
    (hF : CALLI E mM_busyOf [.ref 60] h fun v1 h1 => WP E mM_findsPoints 27 [some (.ref 60), some (.int v1), some (.int 0), some (.int 1), none] [] (upd2 (upd2 (upd2 h1 60 10 0) 60 11 (-9)) 60 12 1000) (qV Q)) :
    CALLV E mM_findsPoints [.ref 60] h Q := CALL_of rfl (wp_sound [(27, [1, 1, 1, 1, 0]), (39, [1, 1, 1, 1, 0])] kk_152 17 hF)
set_option maxRecDepth 100000 in
set_option maxHeartbeats 4000000 in
theorem fM_findsPoints_27 {E : XE} {h : Mem} {Q : Mem → Prop} {x1 : Int32} {x2 : Int32} {x3 : Int32} 
    (hF : (0 ≤ x1 → WP E mM_findsPoints 39 [some (.ref 60), some (.int x1), some (.int x2), some (.int x3), none] [.int x1, .int x3] h (qV Q)) ∧ (¬ 0 ≤ x1 → WP E mM_findsPoints 39 [some (.ref 60), some (.int x1), some (.int x2), some (.int x3), none] [.int 600, .int x3] h (qV Q))) :
    WP E mM_findsPoints 27 [some (.ref 60), some (.int x1), some (.int x2), some (.int x3), none] [] h (qV Q) := wp_sound [(27, [1, 1, 1, 1, 0]), (39, [1, 1, 1, 1, 0])] kk_152 6 hF
set_option maxRecDepth 100000 in
set_option maxHeartbeats 4000000 in
theorem fM_findsPoints_39 {E : XE} {h : Mem} {Q : Mem → Prop} {x1 : Int32} {x2 : Int32} {x3 : Int32} {s0 : Int32} {s1 : Int32} 
    (hF : (s1 < s0 → Q h) ∧ (¬ s1 < s0 → CALLI E mM_demandOf [.ref 60, .int x3] h fun v1 h1 => (v1 ≤ x2 → WP E mM_findsPoints 27 [some (.ref 60), some (.int x1), some (.int v1), some (.int (x3 + 1)), none] [] h1 (qV Q)) ∧ (¬ v1 ≤ x2 → cnd (inb (h1 60 10) 600) ((0 ≤ ((upd2 (upd2 h1 67 (ix (h1 60 10)) x3) 60 10 (((upd2 h1 67 (ix (h1 60 10)) x3) 60 10) + 1)) 60 11) → WP E mM_findsPoints 27 [some (.ref 60), some (.int x1), some (.int v1), some (.int (x3 + 1)), none] [] (upd2 (upd2 (upd2 (upd2 h1 67 (ix (h1 60 10)) x3) 60 10 (((upd2 h1 67 (ix (h1 60 10)) x3) 60 10) + 1)) 60 11 ((upd2 (upd2 h1 67 (ix (h1 60 10)) x3) 60 10 (((upd2 h1 67 (ix (h1 60 10)) x3) 60 10) + 1)) 60 11)) 60 12 (imin ((upd2 (upd2 (upd2 h1 67 (ix (h1 60 10)) x3) 60 10 (((upd2 h1 67 (ix (h1 60 10)) x3) 60 10) + 1)) 60 11 ((upd2 (upd2 h1 67 (ix (h1 60 10)) x3) 60 10 (((upd2 h1 67 (ix (h1 60 10)) x3) 60 10) + 1)) 60 11)) 60 12) (x3 - v1))) (qV Q)) ∧ (¬ 0 ≤ ((upd2 (upd2 h1 67 (ix (h1 60 10)) x3) 60 10 (((upd2 h1 67 (ix (h1 60 10)) x3) 60 10) + 1)) 60 11) → (v1 ≤ x3 → WP E mM_findsPoints 27 [some (.ref 60), some (.int x1), some (.int v1), some (.int (x3 + 1)), none] [] (upd2 (upd2 (upd2 (upd2 h1 67 (ix (h1 60 10)) x3) 60 10 (((upd2 h1 67 (ix (h1 60 10)) x3) 60 10) + 1)) 60 11 ((upd2 (upd2 h1 67 (ix (h1 60 10)) x3) 60 10 (((upd2 h1 67 (ix (h1 60 10)) x3) 60 10) + 1)) 60 11)) 60 12 (imin ((upd2 (upd2 (upd2 h1 67 (ix (h1 60 10)) x3) 60 10 (((upd2 h1 67 (ix (h1 60 10)) x3) 60 10) + 1)) 60 11 ((upd2 (upd2 h1 67 (ix (h1 60 10)) x3) 60 10 (((upd2 h1 67 (ix (h1 60 10)) x3) 60 10) + 1)) 60 11)) 60 12) (x3 - v1))) (qV Q)) ∧ (¬ v1 ≤ x3 → WP E mM_findsPoints 27 [some (.ref 60), some (.int x1), some (.int v1), some (.int (x3 + 1)), none] [] (upd2 (upd2 (upd2 (upd2 h1 67 (ix (h1 60 10)) x3) 60 10 (((upd2 h1 67 (ix (h1 60 10)) x3) 60 10) + 1)) 60 11 x3) 60 12 (imin ((upd2 (upd2 (upd2 h1 67 (ix (h1 60 10)) x3) 60 10 (((upd2 h1 67 (ix (h1 60 10)) x3) 60 10) + 1)) 60 11 x3) 60 12) (x3 - v1))) (qV Q))))))) :
    WP E mM_findsPoints 39 [some (.ref 60), some (.int x1), some (.int x2), some (.int x3), none] [.int s1, .int s0] h (qV Q) := wp_sound [(27, [1, 1, 1, 1, 0]), (39, [1, 1, 1, 1, 0])] kk_152 43 hF
def k_153 : List XI := [(0, .aload_n 0, 1, 0, 0, 0, 0),
  (1, .invokevirtual 118, 3, 152, 0, 0, 0),
  (4, .aload_n 0, 1, 0, 0, 0, 0),
  (5, .getfield 109, 3, 7, 11, 0, 0),
  (8, .ifCond .lt 7, 3, 15, 0, 0, 0),
  (11, .iconst 1, 1, 0, 0, 1, 0),
  (12, .goto 4, 3, 16, 0, 0, 0),
  (15, .iconst 0, 1, 0, 0, 0, 0),
  (16, .ireturn, 1, 0, 0, 0, 0)]
set_option maxRecDepth 100000 in
set_option maxHeartbeats 4000000 in
theorem kk_153 : k_153.all (entOK (mCi 153) (mB 153)) = true := by decide +kernel
set_option maxRecDepth 100000 in
set_option maxHeartbeats 4000000 in
theorem fM_isMissed {E : XE} {h : Mem} {Q : Int32 → Mem → Prop}  
    (hF : CALLV E mM_findsPoints [.ref 60] h fun h1 => ((h1 60 11) < 0 → Q 0 h1) ∧ (¬ (h1 60 11) < 0 → Q 1 h1)) :
    CALLI E mM_isMissed [.ref 60] h Q := CALL_of rfl (wp_sound [] kk_153 9 hF)
def k_154_0 : List XI := [(0, .iload_n 3, 1, 0, 0, 0, 0),
  (1, .ifCond .ne 25, 3, 26, 0, 0, 0),
  (4, .aload_n 0, 1, 0, 0, 0, 0),
  (5, .getfield 9, 3, 7, 0, 0, 0),
  (8, .bipush 6, 2, 0, 0, 6, 0),
  (10, .iload_n 1, 1, 0, 0, 0, 0),
  (11, .iadd, 1, 0, 0, 0, 0),
  (12, .iaload, 1, 0, 0, 0, 0),
  (13, .aload_n 0, 1, 0, 0, 0, 0),
  (14, .getfield 9, 3, 7, 0, 0, 0),
  (17, .bipush 6, 2, 0, 0, 6, 0),
  (19, .iload_n 2, 1, 0, 0, 0, 0),
  (20, .iadd, 1, 0, 0, 0, 0),
  (21, .iaload, 1, 0, 0, 0, 0),
  (22, .isub, 1, 0, 0, 0, 0),
  (23, .goto 41, 3, 64, 0, 0, 0),
  (26, .iload_n 3, 1, 0, 0, 0, 0),
  (27, .iconst 1, 1, 0, 0, 1, 0),
  (28, .if_icmp .ne 17, 3, 45, 0, 0, 0),
  (31, .aload_n 0, 1, 0, 0, 0, 0),
  (32, .iload_n 1, 1, 0, 0, 0, 0),
  (33, .invokevirtual 85, 3, 145, 1, 0, 0),
  (36, .aload_n 0, 1, 0, 0, 0, 0),
  (37, .iload_n 2, 1, 0, 0, 0, 0),
  (38, .invokevirtual 85, 3, 145, 1, 0, 0),
  (41, .isub, 1, 0, 0, 0, 0),
  (42, .goto 22, 3, 64, 0, 0, 0),
  (45, .aload_n 0, 1, 0, 0, 0, 0),
  (46, .getfield 9, 3, 7, 0, 0, 0),
  (49, .bipush 24, 2, 0, 0, 24, 0)]
set_option maxRecDepth 100000 in
set_option maxHeartbeats 4000000 in
theorem kk_154_0 : k_154_0.all (entOK (mCi 154) (mB 154)) = true := by decide +kernel
def k_154_1 : List XI := [(51, .iload_n 2, 1, 0, 0, 0, 0),
  (52, .iadd, 1, 0, 0, 0, 0),
  (53, .iaload, 1, 0, 0, 0, 0),
  (54, .aload_n 0, 1, 0, 0, 0, 0),
  (55, .getfield 9, 3, 7, 0, 0, 0),
  (58, .bipush 24, 2, 0, 0, 24, 0),
  (60, .iload_n 1, 1, 0, 0, 0, 0),
  (61, .iadd, 1, 0, 0, 0, 0),
  (62, .iaload, 1, 0, 0, 0, 0),
  (63, .isub, 1, 0, 0, 0, 0),
  (64, .istore 4, 2, 0, 0, 0, 0),
  (66, .iload 4, 2, 0, 0, 0, 0),
  (68, .ifCond .lt 13, 3, 81, 0, 0, 0),
  (71, .iload 4, 2, 0, 0, 0, 0),
  (73, .ifCond .ne 12, 3, 85, 0, 0, 0),
  (76, .iload_n 1, 1, 0, 0, 0, 0),
  (77, .iload_n 2, 1, 0, 0, 0, 0),
  (78, .if_icmp .ge 7, 3, 85, 0, 0, 0),
  (81, .iconst 1, 1, 0, 0, 1, 0),
  (82, .goto 4, 3, 86, 0, 0, 0),
  (85, .iconst 0, 1, 0, 0, 0, 0),
  (86, .ireturn, 1, 0, 0, 0, 0)]
set_option maxRecDepth 100000 in
set_option maxHeartbeats 4000000 in
theorem kk_154_1 : k_154_1.all (entOK (mCi 154) (mB 154)) = true := by decide +kernel
def k_154 : List XI := k_154_0 ++ (k_154_1)
theorem kk_154 : k_154.all (entOK (mCi 154) (mB 154)) = true := all_app kk_154_0 (kk_154_1)
set_option maxRecDepth 100000 in
set_option maxHeartbeats 4000000 in
theorem fM_isAhead {E : XE} {h : Mem} {Q : Int32 → Mem → Prop} {a1 : Int32} {a2 : Int32} {a3 : Int32} 
    (hF : (¬ a3 = 0 → (¬ a3 = 1 → cnd (inb (24 + a2) 73) (cnd (inb (24 + a1) 73) (WP E mM_isAhead 64 [none, some (.int a1), some (.int a2), none, none] [.int ((h 61 (ix (24 + a2))) - (h 61 (ix (24 + a1))))] h (qI Q)))) ∧ (a3 = 1 → CALLI E mM_limit [.ref 60, .int a1] h fun v1 h1 => CALLI E mM_limit [.ref 60, .int a2] h1 fun v2 h2 => WP E mM_isAhead 64 [none, some (.int a1), some (.int a2), none, none] [.int (v1 - v2)] h2 (qI Q))) ∧ (a3 = 0 → cnd (inb (6 + a1) 73) (cnd (inb (6 + a2) 73) (WP E mM_isAhead 64 [none, some (.int a1), some (.int a2), none, none] [.int ((h 61 (ix (6 + a1))) - (h 61 (ix (6 + a2))))] h (qI Q))))) :
    CALLI E mM_isAhead [.ref 60, .int a1, .int a2, .int a3] h Q := CALL_of rfl (wp_sound [(64, [0, 1, 1, 0, 0])] kk_154 19 hF)
set_option maxRecDepth 100000 in
set_option maxHeartbeats 4000000 in
theorem fM_isAhead_64 {E : XE} {h : Mem} {Q : Int32 → Mem → Prop} {x1 : Int32} {x2 : Int32} {s0 : Int32} 
    (hF : (s0 < 0 → Q 1 h) ∧ (¬ s0 < 0 → (¬ s0 = 0 → Q 0 h) ∧ (s0 = 0 → (x2 ≤ x1 → Q 0 h) ∧ (¬ x2 ≤ x1 → Q 1 h)))) :
    WP E mM_isAhead 64 [none, some (.int x1), some (.int x2), none, none] [.int s0] h (qI Q) := wp_sound [(64, [0, 1, 1, 0, 0])] kk_154 12 hF
def k_155_0 : List XI := [(0, .aload_n 0, 1, 0, 0, 0, 0),
  (1, .iconst 0, 1, 0, 0, 0, 0),
  (2, .putfield 121, 3, 7, 14, 0, 0),
  (5, .iconst 0, 1, 0, 0, 0, 0),
  (6, .istore_n 2, 1, 0, 0, 0, 0),
  (7, .iload_n 2, 1, 0, 0, 0, 0),
  (8, .aload_n 0, 1, 0, 0, 0, 0),
  (9, .getfield 9, 3, 7, 0, 0, 0),
  (12, .bipush 72, 2, 0, 0, 72, 0),
  (14, .iaload, 1, 0, 0, 0, 0),
  (15, .if_icmp .ge 80, 3, 95, 0, 0, 0),
  (18, .aload_n 0, 1, 0, 0, 0, 0),
  (19, .iload_n 2, 1, 0, 0, 0, 0),
  (20, .invokevirtual 88, 3, 141, 1, 0, 0),
  (23, .ifCond .eq 66, 3, 89, 0, 0, 0),
  (26, .aload_n 0, 1, 0, 0, 0, 0),
  (27, .getfield 121, 3, 7, 14, 0, 0),
  (30, .istore_n 3, 1, 0, 0, 0, 0),
  (31, .iload_n 3, 1, 0, 0, 0, 0),
  (32, .ifCond .le 40, 3, 72, 0, 0, 0),
  (35, .aload_n 0, 1, 0, 0, 0, 0),
  (36, .iload_n 2, 1, 0, 0, 0, 0),
  (37, .aload_n 0, 1, 0, 0, 0, 0),
  (38, .getfield 31, 3, 7, 13, 0, 0),
  (41, .iload_n 3, 1, 0, 0, 0, 0),
  (42, .iconst 1, 1, 0, 0, 1, 0),
  (43, .isub, 1, 0, 0, 0, 0),
  (44, .iaload, 1, 0, 0, 0, 0),
  (45, .iload_n 1, 1, 0, 0, 0, 0),
  (46, .invokevirtual 124, 3, 154, 1, 0, 0)]
set_option maxRecDepth 100000 in
set_option maxHeartbeats 4000000 in
theorem kk_155_0 : k_155_0.all (entOK (mCi 155) (mB 155)) = true := by decide +kernel
def k_155_1 : List XI := [(49, .ifCond .eq 23, 3, 72, 0, 0, 0),
  (52, .aload_n 0, 1, 0, 0, 0, 0),
  (53, .getfield 31, 3, 7, 13, 0, 0),
  (56, .iload_n 3, 1, 0, 0, 0, 0),
  (57, .aload_n 0, 1, 0, 0, 0, 0),
  (58, .getfield 31, 3, 7, 13, 0, 0),
  (61, .iload_n 3, 1, 0, 0, 0, 0),
  (62, .iconst 1, 1, 0, 0, 1, 0),
  (63, .isub, 1, 0, 0, 0, 0),
  (64, .iaload, 1, 0, 0, 0, 0),
  (65, .iastore, 1, 0, 0, 0, 0),
  (66, .iinc 3 (-1), 3, 0, 0, (-1), 0),
  (69, .goto (-38), 3, 31, 0, 0, 0),
  (72, .aload_n 0, 1, 0, 0, 0, 0),
  (73, .getfield 31, 3, 7, 13, 0, 0),
  (76, .iload_n 3, 1, 0, 0, 0, 0),
  (77, .iload_n 2, 1, 0, 0, 0, 0),
  (78, .iastore, 1, 0, 0, 0, 0),
  (79, .aload_n 0, 1, 0, 0, 0, 0),
  (80, .dup, 1, 0, 0, 0, 0),
  (81, .getfield 121, 3, 7, 14, 0, 0),
  (84, .iconst 1, 1, 0, 0, 1, 0),
  (85, .iadd, 1, 0, 0, 0, 0),
  (86, .putfield 121, 3, 7, 14, 0, 0),
  (89, .iinc 2 1, 3, 0, 0, 1, 0),
  (92, .goto (-85), 3, 7, 0, 0, 0),
  (95, .return_, 1, 0, 0, 0, 0)]
set_option maxRecDepth 100000 in
set_option maxHeartbeats 4000000 in
theorem kk_155_1 : k_155_1.all (entOK (mCi 155) (mB 155)) = true := by decide +kernel
def k_155 : List XI := k_155_0 ++ (k_155_1)
theorem kk_155 : k_155.all (entOK (mCi 155) (mB 155)) = true := all_app kk_155_0 (kk_155_1)
set_option maxRecDepth 100000 in
set_option maxHeartbeats 4000000 in
theorem fM_lines {E : XE} {h : Mem} {Q : Mem → Prop} {a1 : Int32} 
    (hF : WP E mM_lines 7 [some (.ref 60), some (.int a1), some (.int 0), none] [] (upd2 h 60 14 0) (qV Q)) :
    CALLV E mM_lines [.ref 60, .int a1] h Q := CALL_of rfl (wp_sound [(7, [1, 1, 1, 0]), (31, [1, 1, 1, 1])] kk_155 6 hF)
set_option maxRecDepth 100000 in
set_option maxHeartbeats 4000000 in
theorem fM_lines_7 {E : XE} {h : Mem} {Q : Mem → Prop} {x1 : Int32} {x2 : Int32} 
    (hF : ((h 61 (ix 72)) ≤ x2 → Q h) ∧ (¬ (h 61 (ix 72)) ≤ x2 → CALLI E mM_isOn [.ref 60, .int x2] h fun v1 h1 => (v1 = 0 → WP E mM_lines 7 [some (.ref 60), some (.int x1), some (.int (x2 + 1)), none] [] h1 (qV Q)) ∧ (¬ v1 = 0 → WP E mM_lines 31 [some (.ref 60), some (.int x1), some (.int x2), some (.int (h1 60 14))] [] h1 (qV Q)))) :
    WP E mM_lines 7 [some (.ref 60), some (.int x1), some (.int x2), none] [] h (qV Q) := wp_sound [(7, [1, 1, 1, 0]), (31, [1, 1, 1, 1])] kk_155 14 hF
set_option maxRecDepth 100000 in
set_option maxHeartbeats 4000000 in
theorem fM_lines_31 {E : XE} {h : Mem} {Q : Mem → Prop} {x1 : Int32} {x2 : Int32} {x3 : Int32} 
    (hF : (x3 ≤ 0 → cnd (inb x3 6) (WP E mM_lines 7 [some (.ref 60), some (.int x1), some (.int (x2 + 1)), none] [] (upd2 (upd2 h 68 (ix x3) x2) 60 14 (((upd2 h 68 (ix x3) x2) 60 14) + 1)) (qV Q))) ∧ (¬ x3 ≤ 0 → cnd (inb (x3 - 1) 6) (CALLI E mM_isAhead [.ref 60, .int x2, .int (h 68 (ix (x3 - 1))), .int x1] h fun v1 h1 => (v1 = 0 → cnd (inb x3 6) (WP E mM_lines 7 [some (.ref 60), some (.int x1), some (.int (x2 + 1)), none] [] (upd2 (upd2 h1 68 (ix x3) x2) 60 14 (((upd2 h1 68 (ix x3) x2) 60 14) + 1)) (qV Q))) ∧ (¬ v1 = 0 → cnd (inb (x3 - 1) 6) (cnd (inb x3 6) (WP E mM_lines 31 [some (.ref 60), some (.int x1), some (.int x2), some (.int (x3 + (-1)))] [] (upd2 h1 68 (ix x3) (h1 68 (ix (x3 - 1)))) (qV Q))))))) :
    WP E mM_lines 31 [some (.ref 60), some (.int x1), some (.int x2), some (.int x3)] [] h (qV Q) := wp_sound [(7, [1, 1, 1, 0]), (31, [1, 1, 1, 1])] kk_155 27 hF
def k_156 : List XI := [(0, .aload_n 0, 1, 0, 0, 0, 0),
  (1, .iload_n 2, 1, 0, 0, 0, 0),
  (2, .invokevirtual 128, 3, 155, 0, 0, 0),
  (5, .iconst 0, 1, 0, 0, 0, 0),
  (6, .istore_n 3, 1, 0, 0, 0, 0),
  (7, .iconst 0, 1, 0, 0, 0, 0),
  (8, .istore 4, 2, 0, 0, 0, 0),
  (10, .aload_n 0, 1, 0, 0, 0, 0),
  (11, .getfield 31, 3, 7, 13, 0, 0),
  (14, .iload 4, 2, 0, 0, 0, 0),
  (16, .iaload, 1, 0, 0, 0, 0),
  (17, .iload_n 1, 1, 0, 0, 0, 0),
  (18, .if_icmp .eq 21, 3, 39, 0, 0, 0),
  (21, .iload_n 3, 1, 0, 0, 0, 0),
  (22, .iconst 1, 1, 0, 0, 1, 0),
  (23, .aload_n 0, 1, 0, 0, 0, 0),
  (24, .getfield 31, 3, 7, 13, 0, 0),
  (27, .iload 4, 2, 0, 0, 0, 0),
  (29, .iaload, 1, 0, 0, 0, 0),
  (30, .ishl, 1, 0, 0, 0, 0),
  (31, .ior, 1, 0, 0, 0, 0),
  (32, .istore_n 3, 1, 0, 0, 0, 0),
  (33, .iinc 4 1, 3, 0, 0, 1, 0),
  (36, .goto (-26), 3, 10, 0, 0, 0),
  (39, .iload_n 3, 1, 0, 0, 0, 0),
  (40, .ireturn, 1, 0, 0, 0, 0)]
set_option maxRecDepth 100000 in
set_option maxHeartbeats 4000000 in
theorem kk_156 : k_156.all (entOK (mCi 156) (mB 156)) = true := by decide +kernel
set_option maxRecDepth 100000 in
set_option maxHeartbeats 4000000 in
theorem fM_aheadOf {E : XE} {h : Mem} {Q : Int32 → Mem → Prop} {a1 : Int32} {a2 : Int32} 
    (hF : CALLV E mM_lines [.ref 60, .int a2] h fun h1 => WP E mM_aheadOf 10 [some (.ref 60), some (.int a1), none, some (.int 0), some (.int 0)] [] h1 (qI Q)) :
    CALLI E mM_aheadOf [.ref 60, .int a1, .int a2] h Q := CALL_of rfl (wp_sound [(10, [1, 1, 0, 1, 1])] kk_156 8 hF)
set_option maxRecDepth 100000 in
set_option maxHeartbeats 4000000 in
theorem fM_aheadOf_10 {E : XE} {h : Mem} {Q : Int32 → Mem → Prop} {x1 : Int32} {x3 : Int32} {x4 : Int32} 
    (hF : cnd (inb x4 6) (((h 68 (ix x4)) = x1 → Q x3 h) ∧ (¬ (h 68 (ix x4)) = x1 → cnd (inb x4 6) (WP E mM_aheadOf 10 [some (.ref 60), some (.int x1), none, some (.int (x3 ||| (shl 1 (h 68 (ix x4))))), some (.int (x4 + 1))] [] h (qI Q))))) :
    WP E mM_aheadOf 10 [some (.ref 60), some (.int x1), none, some (.int x3), some (.int x4)] [] h (qI Q) := wp_sound [(10, [1, 1, 0, 1, 1])] kk_156 18 hF
def k_157 : List XI := [(0, .iconst 0, 1, 0, 0, 0, 0),
  (1, .istore_n 1, 1, 0, 0, 0, 0),
  (2, .iconst 0, 1, 0, 0, 0, 0),
  (3, .istore_n 2, 1, 0, 0, 0, 0),
  (4, .iload_n 2, 1, 0, 0, 0, 0),
  (5, .aload_n 0, 1, 0, 0, 0, 0),
  (6, .getfield 9, 3, 7, 0, 0, 0),
  (9, .bipush 72, 2, 0, 0, 72, 0),
  (11, .iaload, 1, 0, 0, 0, 0),
  (12, .if_icmp .ge 27, 3, 39, 0, 0, 0),
  (15, .iload_n 1, 1, 0, 0, 0, 0),
  (16, .aload_n 0, 1, 0, 0, 0, 0),
  (17, .iload_n 2, 1, 0, 0, 0, 0),
  (18, .invokevirtual 88, 3, 141, 1, 0, 0),
  (21, .ifCond .eq 9, 3, 30, 0, 0, 0),
  (24, .iconst 1, 1, 0, 0, 1, 0),
  (25, .iload_n 2, 1, 0, 0, 0, 0),
  (26, .ishl, 1, 0, 0, 0, 0),
  (27, .goto 4, 3, 31, 0, 0, 0),
  (30, .iconst 0, 1, 0, 0, 0, 0),
  (31, .ior, 1, 0, 0, 0, 0),
  (32, .istore_n 1, 1, 0, 0, 0, 0),
  (33, .iinc 2 1, 3, 0, 0, 1, 0),
  (36, .goto (-32), 3, 4, 0, 0, 0),
  (39, .iload_n 1, 1, 0, 0, 0, 0),
  (40, .ireturn, 1, 0, 0, 0, 0)]
set_option maxRecDepth 100000 in
set_option maxHeartbeats 4000000 in
theorem kk_157 : k_157.all (entOK (mCi 157) (mB 157)) = true := by decide +kernel
set_option maxRecDepth 100000 in
set_option maxHeartbeats 4000000 in
theorem fM_onSet {E : XE} {h : Mem} {Q : Int32 → Mem → Prop}  
    (hF : WP E mM_onSet 4 [some (.ref 60), some (.int 0), some (.int 0)] [] h (qI Q)) :
    CALLI E mM_onSet [.ref 60] h Q := CALL_of rfl (wp_sound [(4, [1, 1, 1])] kk_157 5 hF)
set_option maxRecDepth 100000 in
set_option maxHeartbeats 4000000 in
theorem fM_onSet_4 {E : XE} {h : Mem} {Q : Int32 → Mem → Prop} {x1 : Int32} {x2 : Int32} 
    (hF : ((h 61 (ix 72)) ≤ x2 → Q x1 h) ∧ (¬ (h 61 (ix 72)) ≤ x2 → CALLI E mM_isOn [.ref 60, .int x2] h fun v1 h1 => (v1 = 0 → WP E mM_onSet 4 [some (.ref 60), some (.int (x1 ||| 0)), some (.int (x2 + 1))] [] h1 (qI Q)) ∧ (¬ v1 = 0 → WP E mM_onSet 4 [some (.ref 60), some (.int (x1 ||| (shl 1 x2))), some (.int (x2 + 1))] [] h1 (qI Q)))) :
    WP E mM_onSet 4 [some (.ref 60), some (.int x1), some (.int x2)] [] h (qI Q) := wp_sound [(4, [1, 1, 1])] kk_157 20 hF
def k_158 : List XI := [(0, .aload_n 0, 1, 0, 0, 0, 0),
  (1, .getfield 9, 3, 7, 0, 0, 0),
  (4, .bipush 48, 2, 0, 0, 48, 0),
  (6, .iconst 4, 1, 0, 0, 4, 0),
  (7, .iload_n 1, 1, 0, 0, 0, 0),
  (8, .imul, 1, 0, 0, 0, 0),
  (9, .iadd, 1, 0, 0, 0, 0),
  (10, .iload_n 2, 1, 0, 0, 0, 0),
  (11, .iadd, 1, 0, 0, 0, 0),
  (12, .iaload, 1, 0, 0, 0, 0),
  (13, .ireturn, 1, 0, 0, 0, 0)]
set_option maxRecDepth 100000 in
set_option maxHeartbeats 4000000 in
theorem kk_158 : k_158.all (entOK (mCi 158) (mB 158)) = true := by decide +kernel
set_option maxRecDepth 100000 in
set_option maxHeartbeats 4000000 in
theorem fM_hold {E : XE} {h : Mem} {Q : Int32 → Mem → Prop} {a1 : Int32} {a2 : Int32} 
    (hF : cnd (inb ((48 + (4 * a1)) + a2) 73) (Q (h 61 (ix ((48 + (4 * a1)) + a2))) h)) :
    CALLI E mM_hold [.ref 60, .int a1, .int a2] h Q := CALL_of rfl (wp_sound [] kk_158 12 hF)
def k_159 : List XI := [(0, .aload_n 0, 1, 0, 0, 0, 0),
  (1, .iload_n 2, 1, 0, 0, 0, 0),
  (2, .invokevirtual 128, 3, 155, 0, 0, 0),
  (5, .iconst 0, 1, 0, 0, 0, 0),
  (6, .istore_n 3, 1, 0, 0, 0, 0),
  (7, .iload_n 3, 1, 0, 0, 0, 0),
  (8, .aload_n 0, 1, 0, 0, 0, 0),
  (9, .getfield 121, 3, 7, 14, 0, 0),
  (12, .if_icmp .ge 30, 3, 42, 0, 0, 0),
  (15, .aload_n 0, 1, 0, 0, 0, 0),
  (16, .aload_n 0, 1, 0, 0, 0, 0),
  (17, .getfield 31, 3, 7, 13, 0, 0),
  (20, .iload_n 3, 1, 0, 0, 0, 0),
  (21, .iaload, 1, 0, 0, 0, 0),
  (22, .iload_n 1, 1, 0, 0, 0, 0),
  (23, .invokevirtual 132, 3, 158, 1, 0, 0),
  (26, .ifCond .le 10, 3, 36, 0, 0, 0),
  (29, .aload_n 0, 1, 0, 0, 0, 0),
  (30, .getfield 31, 3, 7, 13, 0, 0),
  (33, .iload_n 3, 1, 0, 0, 0, 0),
  (34, .iaload, 1, 0, 0, 0, 0),
  (35, .ireturn, 1, 0, 0, 0, 0),
  (36, .iinc 3 1, 3, 0, 0, 1, 0),
  (39, .goto (-32), 3, 7, 0, 0, 0),
  (42, .bipush (-9), 2, 0, 0, (-9), 0),
  (44, .ireturn, 1, 0, 0, 0, 0)]
set_option maxRecDepth 100000 in
set_option maxHeartbeats 4000000 in
theorem kk_159 : k_159.all (entOK (mCi 159) (mB 159)) = true := by decide +kernel
set_option maxRecDepth 100000 in
set_option maxHeartbeats 4000000 in
theorem fM_ceilingOf {E : XE} {h : Mem} {Q : Int32 → Mem → Prop} {a1 : Int32} {a2 : Int32} 
    (hF : CALLV E mM_lines [.ref 60, .int a2] h fun h1 => WP E mM_ceilingOf 7 [some (.ref 60), some (.int a1), none, some (.int 0)] [] h1 (qI Q)) :
    CALLI E mM_ceilingOf [.ref 60, .int a1, .int a2] h Q := CALL_of rfl (wp_sound [(7, [1, 1, 0, 1])] kk_159 6 hF)
set_option maxRecDepth 100000 in
set_option maxHeartbeats 4000000 in
theorem fM_ceilingOf_7 {E : XE} {h : Mem} {Q : Int32 → Mem → Prop} {x1 : Int32} {x3 : Int32} 
    (hF : ((h 60 14) ≤ x3 → Q (-9) h) ∧ (¬ (h 60 14) ≤ x3 → cnd (inb x3 6) (CALLI E mM_hold [.ref 60, .int (h 68 (ix x3)), .int x1] h fun v1 h1 => (v1 ≤ 0 → WP E mM_ceilingOf 7 [some (.ref 60), some (.int x1), none, some (.int (x3 + 1))] [] h1 (qI Q)) ∧ (¬ v1 ≤ 0 → cnd (inb x3 6) (Q (h1 68 (ix x3)) h1))))) :
    WP E mM_ceilingOf 7 [some (.ref 60), some (.int x1), none, some (.int x3)] [] h (qI Q) := wp_sound [(7, [1, 1, 0, 1])] kk_159 18 hF
def k_160_0 : List XI := [(0, .iconst 0, 1, 0, 0, 0, 0),
  (1, .istore 4, 2, 0, 0, 0, 0),
  (3, .iconst 0, 1, 0, 0, 0, 0),
  (4, .istore 5, 2, 0, 0, 0, 0),
  (6, .iload 5, 2, 0, 0, 0, 0),
  (8, .iconst 4, 1, 0, 0, 4, 0),
  (9, .if_icmp .ge 124, 3, 133, 0, 0, 0),
  (12, .iconst 0, 1, 0, 0, 0, 0),
  (13, .istore 6, 2, 0, 0, 0, 0),
  (15, .iconst 0, 1, 0, 0, 0, 0),
  (16, .istore 7, 2, 0, 0, 0, 0),
  (18, .iload 7, 2, 0, 0, 0, 0),
  (20, .aload_n 0, 1, 0, 0, 0, 0),
  (21, .getfield 9, 3, 7, 0, 0, 0),
  (24, .bipush 72, 2, 0, 0, 72, 0),
  (26, .iaload, 1, 0, 0, 0, 0),
  (27, .if_icmp .ge 45, 3, 72, 0, 0, 0),
  (30, .iload 6, 2, 0, 0, 0, 0),
  (32, .ifCond .ne 27, 3, 59, 0, 0, 0),
  (35, .iload_n 2, 1, 0, 0, 0, 0),
  (36, .iconst 1, 1, 0, 0, 1, 0),
  (37, .iload_n 1, 1, 0, 0, 0, 0),
  (38, .ishl, 1, 0, 0, 0, 0),
  (39, .ior, 1, 0, 0, 0, 0),
  (40, .iload 7, 2, 0, 0, 0, 0),
  (42, .invokestatic 135, 3, 142, 1, 0, 0),
  (45, .ifCond .eq 18, 3, 63, 0, 0, 0),
  (48, .aload_n 0, 1, 0, 0, 0, 0),
  (49, .iload 7, 2, 0, 0, 0, 0),
  (51, .iload 5, 2, 0, 0, 0, 0)]
set_option maxRecDepth 100000 in
set_option maxHeartbeats 4000000 in
theorem kk_160_0 : k_160_0.all (entOK (mCi 160) (mB 160)) = true := by decide +kernel
def k_160_1 : List XI := [(53, .invokevirtual 132, 3, 158, 1, 0, 0),
  (56, .ifCond .le 7, 3, 63, 0, 0, 0),
  (59, .iconst 1, 1, 0, 0, 1, 0),
  (60, .goto 4, 3, 64, 0, 0, 0),
  (63, .iconst 0, 1, 0, 0, 0, 0),
  (64, .istore 6, 2, 0, 0, 0, 0),
  (66, .iinc 7 1, 3, 0, 0, 1, 0),
  (69, .goto (-51), 3, 18, 0, 0, 0),
  (72, .iconst 0, 1, 0, 0, 0, 0),
  (73, .istore 7, 2, 0, 0, 0, 0),
  (75, .iload 7, 2, 0, 0, 0, 0),
  (77, .aload_n 0, 1, 0, 0, 0, 0),
  (78, .getfield 9, 3, 7, 0, 0, 0),
  (81, .bipush 72, 2, 0, 0, 72, 0),
  (83, .iaload, 1, 0, 0, 0, 0),
  (84, .if_icmp .ge 43, 3, 127, 0, 0, 0),
  (87, .iload 6, 2, 0, 0, 0, 0),
  (89, .ifCond .eq 38, 3, 127, 0, 0, 0),
  (92, .iload_n 3, 1, 0, 0, 0, 0),
  (93, .iload 7, 2, 0, 0, 0, 0),
  (95, .invokestatic 135, 3, 142, 1, 0, 0),
  (98, .ifCond .eq 19, 3, 117, 0, 0, 0),
  (101, .iload 4, 2, 0, 0, 0, 0),
  (103, .aload_n 0, 1, 0, 0, 0, 0),
  (104, .iload 7, 2, 0, 0, 0, 0),
  (106, .iload 5, 2, 0, 0, 0, 0),
  (108, .invokevirtual 132, 3, 158, 1, 0, 0),
  (111, .invokestatic 66, 3, 998, 0, 0, 0),
  (114, .goto 5, 3, 119, 0, 0, 0),
  (117, .iload 4, 2, 0, 0, 0, 0)]
set_option maxRecDepth 100000 in
set_option maxHeartbeats 4000000 in
theorem kk_160_1 : k_160_1.all (entOK (mCi 160) (mB 160)) = true := by decide +kernel
def k_160_2 : List XI := [(119, .istore 4, 2, 0, 0, 0, 0),
  (121, .iinc 7 1, 3, 0, 0, 1, 0),
  (124, .goto (-49), 3, 75, 0, 0, 0),
  (127, .iinc 5 1, 3, 0, 0, 1, 0),
  (130, .goto (-124), 3, 6, 0, 0, 0),
  (133, .iload 4, 2, 0, 0, 0, 0),
  (135, .ireturn, 1, 0, 0, 0, 0)]
set_option maxRecDepth 100000 in
set_option maxHeartbeats 4000000 in
theorem kk_160_2 : k_160_2.all (entOK (mCi 160) (mB 160)) = true := by decide +kernel
def k_160 : List XI := k_160_0 ++ (k_160_1 ++ (k_160_2))
theorem kk_160 : k_160.all (entOK (mCi 160) (mB 160)) = true := all_app kk_160_0 (all_app kk_160_1 (kk_160_2))
set_option maxRecDepth 100000 in
set_option maxHeartbeats 4000000 in
theorem fM_blockingBy {E : XE} {h : Mem} {Q : Int32 → Mem → Prop} {a1 : Int32} {a2 : Int32} {a3 : Int32} 
    (hF : WP E mM_blockingBy 6 [some (.ref 60), some (.int a1), some (.int a2), some (.int a3), some (.int 0), some (.int 0), none, none] [] h (qI Q)) :
    CALLI E mM_blockingBy [.ref 60, .int a1, .int a2, .int a3] h Q := CALL_of rfl (wp_sound [(6, [1, 1, 1, 1, 1, 1, 0, 0]), (18, [1, 1, 1, 1, 1, 1, 1, 1]), (75, [1, 1, 1, 1, 1, 1, 1, 1])] kk_160 5 hF)
set_option maxRecDepth 100000 in
set_option maxHeartbeats 4000000 in
theorem fM_blockingBy_6 {E : XE} {h : Mem} {Q : Int32 → Mem → Prop} {x1 : Int32} {x2 : Int32} {x3 : Int32} {x4 : Int32} {x5 : Int32} 
    (hF : (4 ≤ x5 → Q x4 h) ∧ (¬ 4 ≤ x5 → WP E mM_blockingBy 18 [some (.ref 60), some (.int x1), some (.int x2), some (.int x3), some (.int x4), some (.int x5), some (.int 0), some (.int 0)] [] h (qI Q))) :
    WP E mM_blockingBy 6 [some (.ref 60), some (.int x1), some (.int x2), some (.int x3), some (.int x4), some (.int x5), none, none] [] h (qI Q) := wp_sound [(6, [1, 1, 1, 1, 1, 1, 0, 0]), (18, [1, 1, 1, 1, 1, 1, 1, 1]), (75, [1, 1, 1, 1, 1, 1, 1, 1])] kk_160 8 hF
set_option maxRecDepth 100000 in
set_option maxHeartbeats 4000000 in
theorem fM_blockingBy_18 {E : XE} {h : Mem} {Q : Int32 → Mem → Prop} {x1 : Int32} {x2 : Int32} {x3 : Int32} {x4 : Int32} {x5 : Int32} {x6 : Int32} {x7 : Int32} 
    (hF : ((h 61 (ix 72)) ≤ x7 → WP E mM_blockingBy 75 [some (.ref 60), some (.int x1), some (.int x2), some (.int x3), some (.int x4), some (.int x5), some (.int x6), some (.int 0)] [] h (qI Q)) ∧ (¬ (h 61 (ix 72)) ≤ x7 → (¬ x6 = 0 → WP E mM_blockingBy 18 [some (.ref 60), some (.int x1), some (.int x2), some (.int x3), some (.int x4), some (.int x5), some (.int 1), some (.int (x7 + 1))] [] h (qI Q)) ∧ (x6 = 0 → CALLI E mM_has [.int (x2 ||| (shl 1 x1)), .int x7] h fun v1 h1 => (v1 = 0 → WP E mM_blockingBy 18 [some (.ref 60), some (.int x1), some (.int x2), some (.int x3), some (.int x4), some (.int x5), some (.int 0), some (.int (x7 + 1))] [] h1 (qI Q)) ∧ (¬ v1 = 0 → CALLI E mM_hold [.ref 60, .int x7, .int x5] h1 fun v2 h2 => (v2 ≤ 0 → WP E mM_blockingBy 18 [some (.ref 60), some (.int x1), some (.int x2), some (.int x3), some (.int x4), some (.int x5), some (.int 0), some (.int (x7 + 1))] [] h2 (qI Q)) ∧ (¬ v2 ≤ 0 → WP E mM_blockingBy 18 [some (.ref 60), some (.int x1), some (.int x2), some (.int x3), some (.int x4), some (.int x5), some (.int 1), some (.int (x7 + 1))] [] h2 (qI Q)))))) :
    WP E mM_blockingBy 18 [some (.ref 60), some (.int x1), some (.int x2), some (.int x3), some (.int x4), some (.int x5), some (.int x6), some (.int x7)] [] h (qI Q) := wp_sound [(6, [1, 1, 1, 1, 1, 1, 0, 0]), (18, [1, 1, 1, 1, 1, 1, 1, 1]), (75, [1, 1, 1, 1, 1, 1, 1, 1])] kk_160 27 hF
set_option maxRecDepth 100000 in
set_option maxHeartbeats 4000000 in
theorem fM_blockingBy_75 {E : XE} {h : Mem} {Q : Int32 → Mem → Prop} {x1 : Int32} {x2 : Int32} {x3 : Int32} {x4 : Int32} {x5 : Int32} {x6 : Int32} {x7 : Int32} 
    (hF : ((h 61 (ix 72)) ≤ x7 → WP E mM_blockingBy 6 [some (.ref 60), some (.int x1), some (.int x2), some (.int x3), some (.int x4), some (.int (x5 + 1)), none, none] [] h (qI Q)) ∧ (¬ (h 61 (ix 72)) ≤ x7 → (x6 = 0 → WP E mM_blockingBy 6 [some (.ref 60), some (.int x1), some (.int x2), some (.int x3), some (.int x4), some (.int (x5 + 1)), none, none] [] h (qI Q)) ∧ (¬ x6 = 0 → CALLI E mM_has [.int x3, .int x7] h fun v1 h1 => (v1 = 0 → WP E mM_blockingBy 75 [some (.ref 60), some (.int x1), some (.int x2), some (.int x3), some (.int x4), some (.int x5), some (.int x6), some (.int (x7 + 1))] [] h1 (qI Q)) ∧ (¬ v1 = 0 → CALLI E mM_hold [.ref 60, .int x7, .int x5] h1 fun v2 h2 => WP E mM_blockingBy 75 [some (.ref 60), some (.int x1), some (.int x2), some (.int x3), some (.int (imax x4 v2)), some (.int x5), some (.int x6), some (.int (x7 + 1))] [] h2 (qI Q))))) :
    WP E mM_blockingBy 75 [some (.ref 60), some (.int x1), some (.int x2), some (.int x3), some (.int x4), some (.int x5), some (.int x6), some (.int x7)] [] h (qI Q) := wp_sound [(6, [1, 1, 1, 1, 1, 1, 0, 0]), (18, [1, 1, 1, 1, 1, 1, 1, 1]), (75, [1, 1, 1, 1, 1, 1, 1, 1])] kk_160 23 hF
def k_161_0 : List XI := [(0, .aload_n 0, 1, 0, 0, 0, 0),
  (1, .getfield 9, 3, 7, 0, 0, 0),
  (4, .iconst 0, 1, 0, 0, 0, 0),
  (5, .iload_n 1, 1, 0, 0, 0, 0),
  (6, .iadd, 1, 0, 0, 0, 0),
  (7, .iaload, 1, 0, 0, 0, 0),
  (8, .aload_n 0, 1, 0, 0, 0, 0),
  (9, .iload_n 1, 1, 0, 0, 0, 0),
  (10, .iconst 1, 1, 0, 0, 1, 0),
  (11, .invokevirtual 95, 3, 147, 1, 0, 0),
  (14, .imul, 1, 0, 0, 0, 0),
  (15, .aload_n 0, 1, 0, 0, 0, 0),
  (16, .iload_n 1, 1, 0, 0, 0, 0),
  (17, .iload_n 2, 1, 0, 0, 0, 0),
  (18, .iload_n 3, 1, 0, 0, 0, 0),
  (19, .invokevirtual 139, 3, 160, 1, 0, 0),
  (22, .iadd, 1, 0, 0, 0, 0),
  (23, .istore 4, 2, 0, 0, 0, 0),
  (25, .iload 4, 2, 0, 0, 0, 0),
  (27, .istore 5, 2, 0, 0, 0, 0),
  (29, .aload_n 0, 1, 0, 0, 0, 0),
  (30, .iconst 1, 1, 0, 0, 1, 0),
  (31, .putfield 143, 3, 7, 15, 0, 0),
  (34, .iload 5, 2, 0, 0, 0, 0),
  (36, .sipush 600, 3, 0, 0, 600, 0),
  (39, .if_icmp .gt 91, 3, 130, 0, 0, 0),
  (42, .iload 4, 2, 0, 0, 0, 0),
  (44, .istore 6, 2, 0, 0, 0, 0),
  (46, .iconst 0, 1, 0, 0, 0, 0),
  (47, .istore 7, 2, 0, 0, 0, 0)]
set_option maxRecDepth 100000 in
set_option maxHeartbeats 4000000 in
theorem kk_161_0 : k_161_0.all (entOK (mCi 161) (mB 161)) = true := by decide +kernel
def k_161_1 : List XI := [(49, .iload 7, 2, 0, 0, 0, 0),
  (51, .aload_n 0, 1, 0, 0, 0, 0),
  (52, .getfield 9, 3, 7, 0, 0, 0),
  (55, .bipush 72, 2, 0, 0, 72, 0),
  (57, .iaload, 1, 0, 0, 0, 0),
  (58, .if_icmp .ge 45, 3, 103, 0, 0, 0),
  (61, .iload 6, 2, 0, 0, 0, 0),
  (63, .iload_n 2, 1, 0, 0, 0, 0),
  (64, .iload 7, 2, 0, 0, 0, 0),
  (66, .invokestatic 135, 3, 142, 1, 0, 0),
  (69, .ifCond .eq 24, 3, 93, 0, 0, 0),
  (72, .aload_n 0, 1, 0, 0, 0, 0),
  (73, .getfield 9, 3, 7, 0, 0, 0),
  (76, .iconst 0, 1, 0, 0, 0, 0),
  (77, .iload 7, 2, 0, 0, 0, 0),
  (79, .iadd, 1, 0, 0, 0, 0),
  (80, .iaload, 1, 0, 0, 0, 0),
  (81, .aload_n 0, 1, 0, 0, 0, 0),
  (82, .iload 7, 2, 0, 0, 0, 0),
  (84, .iload 5, 2, 0, 0, 0, 0),
  (86, .invokevirtual 95, 3, 147, 1, 0, 0),
  (89, .imul, 1, 0, 0, 0, 0),
  (90, .goto 4, 3, 94, 0, 0, 0),
  (93, .iconst 0, 1, 0, 0, 0, 0),
  (94, .iadd, 1, 0, 0, 0, 0),
  (95, .istore 6, 2, 0, 0, 0, 0),
  (97, .iinc 7 1, 3, 0, 0, 1, 0),
  (100, .goto (-51), 3, 49, 0, 0, 0),
  (103, .iload 6, 2, 0, 0, 0, 0),
  (105, .iload 5, 2, 0, 0, 0, 0)]
set_option maxRecDepth 100000 in
set_option maxHeartbeats 4000000 in
theorem kk_161_1 : k_161_1.all (entOK (mCi 161) (mB 161)) = true := by decide +kernel
def k_161_2 : List XI := [(107, .if_icmp .ne 6, 3, 113, 0, 0, 0),
  (110, .iload 5, 2, 0, 0, 0, 0),
  (112, .ireturn, 1, 0, 0, 0, 0),
  (113, .iload 6, 2, 0, 0, 0, 0),
  (115, .istore 5, 2, 0, 0, 0, 0),
  (117, .aload_n 0, 1, 0, 0, 0, 0),
  (118, .dup, 1, 0, 0, 0, 0),
  (119, .getfield 143, 3, 7, 15, 0, 0),
  (122, .iconst 1, 1, 0, 0, 1, 0),
  (123, .iadd, 1, 0, 0, 0, 0),
  (124, .putfield 143, 3, 7, 15, 0, 0),
  (127, .goto (-93), 3, 34, 0, 0, 0),
  (130, .bipush (-9), 2, 0, 0, (-9), 0),
  (132, .ireturn, 1, 0, 0, 0, 0)]
set_option maxRecDepth 100000 in
set_option maxHeartbeats 4000000 in
theorem kk_161_2 : k_161_2.all (entOK (mCi 161) (mB 161)) = true := by decide +kernel
def k_161 : List XI := k_161_0 ++ (k_161_1 ++ (k_161_2))
theorem kk_161 : k_161.all (entOK (mCi 161) (mB 161)) = true := all_app kk_161_0 (all_app kk_161_1 (kk_161_2))
set_option maxRecDepth 100000 in
set_option maxHeartbeats 4000000 in
theorem fM_responseBy {E : XE} {h : Mem} {Q : Int32 → Mem → Prop} {a1 : Int32} {a2 : Int32} {a3 : Int32} 
    (hF : cnd (inb (0 + a1) 73) (CALLI E mM_askedOf [.ref 60, .int a1, .int 1] h fun v1 h1 => CALLI E mM_blockingBy [.ref 60, .int a1, .int a2, .int a3] h1 fun v2 h2 => WP E mM_responseBy 34 [some (.ref 60), none, some (.int a2), none, some (.int (((h 61 (ix (0 + a1))) * v1) + v2)), some (.int (((h 61 (ix (0 + a1))) * v1) + v2)), none, none] [] (upd2 h2 60 15 1) (qI Q))) :
    CALLI E mM_responseBy [.ref 60, .int a1, .int a2, .int a3] h Q := CALL_of rfl (wp_sound [(34, [1, 0, 1, 0, 1, 1, 0, 0]), (49, [1, 0, 1, 0, 1, 1, 1, 1])] kk_161 24 hF)
set_option maxRecDepth 100000 in
set_option maxHeartbeats 4000000 in
theorem fM_responseBy_34 {E : XE} {h : Mem} {Q : Int32 → Mem → Prop} {x2 : Int32} {x4 : Int32} {x5 : Int32} 
    (hF : (600 < x5 → Q (-9) h) ∧ (¬ 600 < x5 → WP E mM_responseBy 49 [some (.ref 60), none, some (.int x2), none, some (.int x4), some (.int x5), some (.int x4), some (.int 0)] [] h (qI Q))) :
    WP E mM_responseBy 34 [some (.ref 60), none, some (.int x2), none, some (.int x4), some (.int x5), none, none] [] h (qI Q) := wp_sound [(34, [1, 0, 1, 0, 1, 1, 0, 0]), (49, [1, 0, 1, 0, 1, 1, 1, 1])] kk_161 8 hF
set_option maxRecDepth 100000 in
set_option maxHeartbeats 4000000 in
theorem fM_responseBy_49 {E : XE} {h : Mem} {Q : Int32 → Mem → Prop} {x2 : Int32} {x4 : Int32} {x5 : Int32} {x6 : Int32} {x7 : Int32} 
    (hF : ((h 61 (ix 72)) ≤ x7 → (¬ x6 = x5 → WP E mM_responseBy 34 [some (.ref 60), none, some (.int x2), none, some (.int x4), some (.int x6), none, none] [] (upd2 h 60 15 ((h 60 15) + 1)) (qI Q)) ∧ (x6 = x5 → Q x5 h)) ∧ (¬ (h 61 (ix 72)) ≤ x7 → CALLI E mM_has [.int x2, .int x7] h fun v1 h1 => (v1 = 0 → WP E mM_responseBy 49 [some (.ref 60), none, some (.int x2), none, some (.int x4), some (.int x5), some (.int (x6 + 0)), some (.int (x7 + 1))] [] h1 (qI Q)) ∧ (¬ v1 = 0 → cnd (inb (0 + x7) 73) (CALLI E mM_askedOf [.ref 60, .int x7, .int x5] h1 fun v2 h2 => WP E mM_responseBy 49 [some (.ref 60), none, some (.int x2), none, some (.int x4), some (.int x5), some (.int (x6 + ((h1 61 (ix (0 + x7))) * v2))), some (.int (x7 + 1))] [] h2 (qI Q))))) :
    WP E mM_responseBy 49 [some (.ref 60), none, some (.int x2), none, some (.int x4), some (.int x5), some (.int x6), some (.int x7)] [] h (qI Q) := wp_sound [(34, [1, 0, 1, 0, 1, 1, 0, 0]), (49, [1, 0, 1, 0, 1, 1, 1, 1])] kk_161 28 hF
def k_162 : List XI := [(0, .aload_n 0, 1, 0, 0, 0, 0),
  (1, .invokevirtual 146, 3, 157, 1, 0, 0),
  (4, .iload_n 2, 1, 0, 0, 0, 0),
  (5, .iconst (-1), 1, 0, 0, (-1), 0),
  (6, .ixor, 1, 0, 0, 0, 0),
  (7, .iand, 1, 0, 0, 0, 0),
  (8, .iconst 1, 1, 0, 0, 1, 0),
  (9, .iload_n 1, 1, 0, 0, 0, 0),
  (10, .ishl, 1, 0, 0, 0, 0),
  (11, .iconst (-1), 1, 0, 0, (-1), 0),
  (12, .ixor, 1, 0, 0, 0, 0),
  (13, .iand, 1, 0, 0, 0, 0),
  (14, .ireturn, 1, 0, 0, 0, 0)]
set_option maxRecDepth 100000 in
set_option maxHeartbeats 4000000 in
theorem kk_162 : k_162.all (entOK (mCi 162) (mB 162)) = true := by decide +kernel
set_option maxRecDepth 100000 in
set_option maxHeartbeats 4000000 in
theorem fM_behindOf {E : XE} {h : Mem} {Q : Int32 → Mem → Prop} {a1 : Int32} {a2 : Int32} 
    (hF : CALLI E mM_onSet [.ref 60] h fun v1 h1 => Q ((v1 &&& (a2 ^^^ (-1))) &&& ((shl 1 a1) ^^^ (-1))) h1) :
    CALLI E mM_behindOf [.ref 60, .int a1, .int a2] h Q := CALL_of rfl (wp_sound [] kk_162 14 hF)
def k_163 : List XI := [(0, .aload_n 0, 1, 0, 0, 0, 0),
  (1, .iload_n 1, 1, 0, 0, 0, 0),
  (2, .iload_n 2, 1, 0, 0, 0, 0),
  (3, .invokevirtual 149, 3, 156, 1, 0, 0),
  (6, .istore_n 3, 1, 0, 0, 0, 0),
  (7, .aload_n 0, 1, 0, 0, 0, 0),
  (8, .iload_n 1, 1, 0, 0, 0, 0),
  (9, .iload_n 3, 1, 0, 0, 0, 0),
  (10, .aload_n 0, 1, 0, 0, 0, 0),
  (11, .iload_n 1, 1, 0, 0, 0, 0),
  (12, .iload_n 3, 1, 0, 0, 0, 0),
  (13, .invokevirtual 152, 3, 162, 1, 0, 0),
  (16, .invokevirtual 155, 3, 161, 1, 0, 0),
  (19, .ireturn, 1, 0, 0, 0, 0)]
set_option maxRecDepth 100000 in
set_option maxHeartbeats 4000000 in
theorem kk_163 : k_163.all (entOK (mCi 163) (mB 163)) = true := by decide +kernel
set_option maxRecDepth 100000 in
set_option maxHeartbeats 4000000 in
theorem fM_responseOf {E : XE} {h : Mem} {Q : Int32 → Mem → Prop} {a1 : Int32} {a2 : Int32} 
    (hF : CALLI E mM_aheadOf [.ref 60, .int a1, .int a2] h fun v1 h1 => CALLI E mM_behindOf [.ref 60, .int a1, .int v1] h1 fun v2 h2 => CALLI E mM_responseBy [.ref 60, .int a1, .int v1, .int v2] h2 fun v3 h3 => Q v3 h3) :
    CALLI E mM_responseOf [.ref 60, .int a1, .int a2] h Q := CALL_of rfl (wp_sound [] kk_163 15 hF)
def k_164 : List XI := [(0, .aload_n 0, 1, 0, 0, 0, 0),
  (1, .iload_n 1, 1, 0, 0, 0, 0),
  (2, .iload_n 2, 1, 0, 0, 0, 0),
  (3, .iload_n 3, 1, 0, 0, 0, 0),
  (4, .invokevirtual 155, 3, 161, 1, 0, 0),
  (7, .istore 4, 2, 0, 0, 0, 0),
  (9, .iload 4, 2, 0, 0, 0, 0),
  (11, .ifCond .lt 23, 3, 34, 0, 0, 0),
  (14, .iload 4, 2, 0, 0, 0, 0),
  (16, .aload_n 0, 1, 0, 0, 0, 0),
  (17, .iload_n 1, 1, 0, 0, 0, 0),
  (18, .invokevirtual 75, 3, 144, 1, 0, 0),
  (21, .iadd, 1, 0, 0, 0, 0),
  (22, .aload_n 0, 1, 0, 0, 0, 0),
  (23, .iload_n 1, 1, 0, 0, 0, 0),
  (24, .invokevirtual 85, 3, 145, 1, 0, 0),
  (27, .if_icmp .gt 7, 3, 34, 0, 0, 0),
  (30, .iconst 1, 1, 0, 0, 1, 0),
  (31, .goto 4, 3, 35, 0, 0, 0),
  (34, .iconst 0, 1, 0, 0, 0, 0),
  (35, .ireturn, 1, 0, 0, 0, 0)]
set_option maxRecDepth 100000 in
set_option maxHeartbeats 4000000 in
theorem kk_164 : k_164.all (entOK (mCi 164) (mB 164)) = true := by decide +kernel
set_option maxRecDepth 100000 in
set_option maxHeartbeats 4000000 in
theorem fM_fitsBy {E : XE} {h : Mem} {Q : Int32 → Mem → Prop} {a1 : Int32} {a2 : Int32} {a3 : Int32} 
    (hF : CALLI E mM_responseBy [.ref 60, .int a1, .int a2, .int a3] h fun v1 h1 => (v1 < 0 → Q 0 h1) ∧ (¬ v1 < 0 → CALLI E mM_late [.ref 60, .int a1] h1 fun v2 h2 => CALLI E mM_limit [.ref 60, .int a1] h2 fun v3 h3 => (v3 < (v1 + v2) → Q 0 h3) ∧ (¬ v3 < (v1 + v2) → Q 1 h3))) :
    CALLI E mM_fitsBy [.ref 60, .int a1, .int a2, .int a3] h Q := CALL_of rfl (wp_sound [] kk_164 21 hF)
def k_165_0 : List XI := [(0, .iconst 0, 1, 0, 0, 0, 0),
  (1, .istore_n 2, 1, 0, 0, 0, 0),
  (2, .iconst 0, 1, 0, 0, 0, 0),
  (3, .istore_n 3, 1, 0, 0, 0, 0),
  (4, .iload_n 3, 1, 0, 0, 0, 0),
  (5, .aload_n 0, 1, 0, 0, 0, 0),
  (6, .getfield 9, 3, 7, 0, 0, 0),
  (9, .bipush 72, 2, 0, 0, 72, 0),
  (11, .iaload, 1, 0, 0, 0, 0),
  (12, .if_icmp .ge 52, 3, 64, 0, 0, 0),
  (15, .aload_n 0, 1, 0, 0, 0, 0),
  (16, .iload_n 3, 1, 0, 0, 0, 0),
  (17, .invokevirtual 88, 3, 141, 1, 0, 0),
  (20, .ifCond .eq 38, 3, 58, 0, 0, 0),
  (23, .aload_n 0, 1, 0, 0, 0, 0),
  (24, .iload_n 3, 1, 0, 0, 0, 0),
  (25, .iload_n 1, 1, 0, 0, 0, 0),
  (26, .invokevirtual 149, 3, 156, 1, 0, 0),
  (29, .istore 4, 2, 0, 0, 0, 0),
  (31, .iload_n 2, 1, 0, 0, 0, 0),
  (32, .aload_n 0, 1, 0, 0, 0, 0),
  (33, .iload_n 3, 1, 0, 0, 0, 0),
  (34, .iload 4, 2, 0, 0, 0, 0),
  (36, .aload_n 0, 1, 0, 0, 0, 0),
  (37, .iload_n 3, 1, 0, 0, 0, 0),
  (38, .iload 4, 2, 0, 0, 0, 0),
  (40, .invokevirtual 152, 3, 162, 1, 0, 0),
  (43, .invokevirtual 158, 3, 164, 1, 0, 0),
  (46, .ifCond .eq 9, 3, 55, 0, 0, 0),
  (49, .iconst 1, 1, 0, 0, 1, 0)]
set_option maxRecDepth 100000 in
set_option maxHeartbeats 4000000 in
theorem kk_165_0 : k_165_0.all (entOK (mCi 165) (mB 165)) = true := by decide +kernel
def k_165_1 : List XI := [(50, .iload_n 3, 1, 0, 0, 0, 0),
  (51, .ishl, 1, 0, 0, 0, 0),
  (52, .goto 4, 3, 56, 0, 0, 0),
  (55, .iconst 0, 1, 0, 0, 0, 0),
  (56, .ior, 1, 0, 0, 0, 0),
  (57, .istore_n 2, 1, 0, 0, 0, 0),
  (58, .iinc 3 1, 3, 0, 0, 1, 0),
  (61, .goto (-57), 3, 4, 0, 0, 0),
  (64, .iload_n 2, 1, 0, 0, 0, 0),
  (65, .ireturn, 1, 0, 0, 0, 0)]
set_option maxRecDepth 100000 in
set_option maxHeartbeats 4000000 in
theorem kk_165_1 : k_165_1.all (entOK (mCi 165) (mB 165)) = true := by decide +kernel
def k_165 : List XI := k_165_0 ++ (k_165_1)
theorem kk_165 : k_165.all (entOK (mCi 165) (mB 165)) = true := all_app kk_165_0 (kk_165_1)
set_option maxRecDepth 100000 in
set_option maxHeartbeats 4000000 in
theorem fM_fitsAll {E : XE} {h : Mem} {Q : Int32 → Mem → Prop} {a1 : Int32} 
    (hF : WP E mM_fitsAll 4 [some (.ref 60), some (.int a1), some (.int 0), some (.int 0), none] [] h (qI Q)) :
    CALLI E mM_fitsAll [.ref 60, .int a1] h Q := CALL_of rfl (wp_sound [(4, [1, 1, 1, 1, 0])] kk_165 5 hF)
set_option maxRecDepth 100000 in
set_option maxHeartbeats 4000000 in
theorem fM_fitsAll_4 {E : XE} {h : Mem} {Q : Int32 → Mem → Prop} {x1 : Int32} {x2 : Int32} {x3 : Int32} 
    (hF : ((h 61 (ix 72)) ≤ x3 → Q x2 h) ∧ (¬ (h 61 (ix 72)) ≤ x3 → CALLI E mM_isOn [.ref 60, .int x3] h fun v1 h1 => (v1 = 0 → WP E mM_fitsAll 4 [some (.ref 60), some (.int x1), some (.int x2), some (.int (x3 + 1)), none] [] h1 (qI Q)) ∧ (¬ v1 = 0 → CALLI E mM_aheadOf [.ref 60, .int x3, .int x1] h1 fun v2 h2 => CALLI E mM_behindOf [.ref 60, .int x3, .int v2] h2 fun v3 h3 => CALLI E mM_fitsBy [.ref 60, .int x3, .int v2, .int v3] h3 fun v4 h4 => (v4 = 0 → WP E mM_fitsAll 4 [some (.ref 60), some (.int x1), some (.int (x2 ||| 0)), some (.int (x3 + 1)), none] [] h4 (qI Q)) ∧ (¬ v4 = 0 → WP E mM_fitsAll 4 [some (.ref 60), some (.int x1), some (.int (x2 ||| (shl 1 x3))), some (.int (x3 + 1)), none] [] h4 (qI Q))))) :
    WP E mM_fitsAll 4 [some (.ref 60), some (.int x1), some (.int x2), some (.int x3), none] [] h (qI Q) := wp_sound [(4, [1, 1, 1, 1, 0])] kk_165 34 hF
def k_166 : List XI := [(0, .aload_n 0, 1, 0, 0, 0, 0),
  (1, .iload_n 1, 1, 0, 0, 0, 0),
  (2, .invokevirtual 161, 3, 165, 1, 0, 0),
  (5, .aload_n 0, 1, 0, 0, 0, 0),
  (6, .invokevirtual 146, 3, 157, 1, 0, 0),
  (9, .if_icmp .ne 7, 3, 16, 0, 0, 0),
  (12, .iconst 1, 1, 0, 0, 1, 0),
  (13, .goto 4, 3, 17, 0, 0, 0),
  (16, .iconst 0, 1, 0, 0, 0, 0),
  (17, .ireturn, 1, 0, 0, 0, 0)]
set_option maxRecDepth 100000 in
set_option maxHeartbeats 4000000 in
theorem kk_166 : k_166.all (entOK (mCi 166) (mB 166)) = true := by decide +kernel
set_option maxRecDepth 100000 in
set_option maxHeartbeats 4000000 in
theorem fM_doAllFit {E : XE} {h : Mem} {Q : Int32 → Mem → Prop} {a1 : Int32} 
    (hF : CALLI E mM_fitsAll [.ref 60, .int a1] h fun v1 h1 => CALLI E mM_onSet [.ref 60] h1 fun v2 h2 => (¬ v1 = v2 → Q 0 h2) ∧ (v1 = v2 → Q 1 h2)) :
    CALLI E mM_doAllFit [.ref 60, .int a1] h Q := CALL_of rfl (wp_sound [] kk_166 10 hF)
def k_167_0 : List XI := [(0, .aload_n 0, 1, 0, 0, 0, 0),
  (1, .invokevirtual 146, 3, 157, 1, 0, 0),
  (4, .iload_n 1, 1, 0, 0, 0, 0),
  (5, .iconst (-1), 1, 0, 0, (-1), 0),
  (6, .ixor, 1, 0, 0, 0, 0),
  (7, .iand, 1, 0, 0, 0, 0),
  (8, .istore_n 3, 1, 0, 0, 0, 0),
  (9, .iload_n 3, 1, 0, 0, 0, 0),
  (10, .ifCond .ne 5, 3, 15, 0, 0, 0),
  (13, .iconst 1, 1, 0, 0, 1, 0),
  (14, .ireturn, 1, 0, 0, 0, 0),
  (15, .iconst 0, 1, 0, 0, 0, 0),
  (16, .istore 4, 2, 0, 0, 0, 0),
  (18, .iload 4, 2, 0, 0, 0, 0),
  (20, .aload_n 0, 1, 0, 0, 0, 0),
  (21, .getfield 9, 3, 7, 0, 0, 0),
  (24, .bipush 72, 2, 0, 0, 72, 0),
  (26, .iaload, 1, 0, 0, 0, 0),
  (27, .if_icmp .ge 64, 3, 91, 0, 0, 0),
  (30, .iload_n 3, 1, 0, 0, 0, 0),
  (31, .iload 4, 2, 0, 0, 0, 0),
  (33, .invokestatic 135, 3, 142, 1, 0, 0),
  (36, .ifCond .eq 49, 3, 85, 0, 0, 0),
  (39, .aload_n 0, 1, 0, 0, 0, 0),
  (40, .iload 4, 2, 0, 0, 0, 0),
  (42, .iload_n 3, 1, 0, 0, 0, 0),
  (43, .iconst 1, 1, 0, 0, 1, 0),
  (44, .iload 4, 2, 0, 0, 0, 0),
  (46, .ishl, 1, 0, 0, 0, 0),
  (47, .iconst (-1), 1, 0, 0, (-1), 0)]
set_option maxRecDepth 100000 in
set_option maxHeartbeats 4000000 in
theorem kk_167_0 : k_167_0.all (entOK (mCi 167) (mB 167)) = true := by decide +kernel
def k_167_1 : List XI := [(48, .ixor, 1, 0, 0, 0, 0),
  (49, .iand, 1, 0, 0, 0, 0),
  (50, .iload_n 1, 1, 0, 0, 0, 0),
  (51, .invokevirtual 158, 3, 164, 1, 0, 0),
  (54, .ifCond .eq 31, 3, 85, 0, 0, 0),
  (57, .aload_n 0, 1, 0, 0, 0, 0),
  (58, .getfield 34, 3, 7, 16, 0, 0),
  (61, .iload_n 2, 1, 0, 0, 0, 0),
  (62, .iconst 1, 1, 0, 0, 1, 0),
  (63, .isub, 1, 0, 0, 0, 0),
  (64, .iload 4, 2, 0, 0, 0, 0),
  (66, .iastore, 1, 0, 0, 0, 0),
  (67, .aload_n 0, 1, 0, 0, 0, 0),
  (68, .iload_n 1, 1, 0, 0, 0, 0),
  (69, .iconst 1, 1, 0, 0, 1, 0),
  (70, .iload 4, 2, 0, 0, 0, 0),
  (72, .ishl, 1, 0, 0, 0, 0),
  (73, .ior, 1, 0, 0, 0, 0),
  (74, .iload_n 2, 1, 0, 0, 0, 0),
  (75, .iconst 1, 1, 0, 0, 1, 0),
  (76, .isub, 1, 0, 0, 0, 0),
  (77, .invokevirtual 164, 3, 167, 1, 0, 0),
  (80, .ifCond .eq 5, 3, 85, 0, 0, 0),
  (83, .iconst 1, 1, 0, 0, 1, 0),
  (84, .ireturn, 1, 0, 0, 0, 0),
  (85, .iinc 4 1, 3, 0, 0, 1, 0),
  (88, .goto (-70), 3, 18, 0, 0, 0),
  (91, .iconst 0, 1, 0, 0, 0, 0),
  (92, .ireturn, 1, 0, 0, 0, 0)]
set_option maxRecDepth 100000 in
set_option maxHeartbeats 4000000 in
theorem kk_167_1 : k_167_1.all (entOK (mCi 167) (mB 167)) = true := by decide +kernel
def k_167 : List XI := k_167_0 ++ (k_167_1)
theorem kk_167 : k_167.all (entOK (mCi 167) (mB 167)) = true := all_app kk_167_0 (kk_167_1)
set_option maxRecDepth 100000 in
set_option maxHeartbeats 4000000 in
theorem fM_seeks0 {E : XE} {h : Mem} {Q : Int32 → Mem → Prop} {a1 : Int32} {a2 : Int32} 
    (hF : CALLI E mM_onSet [.ref 60] h fun v1 h1 => (¬ (v1 &&& (a1 ^^^ (-1))) = 0 → WP E mM_seeks0 18 [some (.ref 60), some (.int a1), some (.int a2), some (.int (v1 &&& (a1 ^^^ (-1)))), some (.int 0)] [] h1 (qI Q)) ∧ ((v1 &&& (a1 ^^^ (-1))) = 0 → Q 1 h1)) :
    CALLI E mM_seeks0 [.ref 60, .int a1, .int a2] h Q := CALL_of rfl (wp_sound [(18, [1, 1, 1, 1, 1])] kk_167 12 hF)
set_option maxRecDepth 100000 in
set_option maxHeartbeats 4000000 in
theorem fM_seeks0_18 {E : XE} {h : Mem} {Q : Int32 → Mem → Prop} {x1 : Int32} {x2 : Int32} {x3 : Int32} {x4 : Int32} 
    (hF : ((h 61 (ix 72)) ≤ x4 → Q 0 h) ∧ (¬ (h 61 (ix 72)) ≤ x4 → CALLI E mM_has [.int x3, .int x4] h fun v1 h1 => (v1 = 0 → WP E mM_seeks0 18 [some (.ref 60), some (.int x1), some (.int x2), some (.int x3), some (.int (x4 + 1))] [] h1 (qI Q)) ∧ (¬ v1 = 0 → CALLI E mM_fitsBy [.ref 60, .int x4, .int (x3 &&& ((shl 1 x4) ^^^ (-1))), .int x1] h1 fun v2 h2 => (v2 = 0 → WP E mM_seeks0 18 [some (.ref 60), some (.int x1), some (.int x2), some (.int x3), some (.int (x4 + 1))] [] h2 (qI Q)) ∧ (¬ v2 = 0 → cnd (inb (x2 - 1) 6) (False))))) :
    WP E mM_seeks0 18 [some (.ref 60), some (.int x1), some (.int x2), some (.int x3), some (.int x4)] [] h (qI Q) := wp_sound [(18, [1, 1, 1, 1, 1])] kk_167 40 hF
def k_168_0 : List XI := [(0, .aload_n 0, 1, 0, 0, 0, 0),
  (1, .invokevirtual 146, 3, 157, 1, 0, 0),
  (4, .iload_n 1, 1, 0, 0, 0, 0),
  (5, .iconst (-1), 1, 0, 0, (-1), 0),
  (6, .ixor, 1, 0, 0, 0, 0),
  (7, .iand, 1, 0, 0, 0, 0),
  (8, .istore_n 3, 1, 0, 0, 0, 0),
  (9, .iload_n 3, 1, 0, 0, 0, 0),
  (10, .ifCond .ne 5, 3, 15, 0, 0, 0),
  (13, .iconst 1, 1, 0, 0, 1, 0),
  (14, .ireturn, 1, 0, 0, 0, 0),
  (15, .iconst 0, 1, 0, 0, 0, 0),
  (16, .istore 4, 2, 0, 0, 0, 0),
  (18, .iload 4, 2, 0, 0, 0, 0),
  (20, .aload_n 0, 1, 0, 0, 0, 0),
  (21, .getfield 9, 3, 7, 0, 0, 0),
  (24, .bipush 72, 2, 0, 0, 72, 0),
  (26, .iaload, 1, 0, 0, 0, 0),
  (27, .if_icmp .ge 64, 3, 91, 0, 0, 0),
  (30, .iload_n 3, 1, 0, 0, 0, 0),
  (31, .iload 4, 2, 0, 0, 0, 0),
  (33, .invokestatic 135, 3, 142, 1, 0, 0),
  (36, .ifCond .eq 49, 3, 85, 0, 0, 0),
  (39, .aload_n 0, 1, 0, 0, 0, 0),
  (40, .iload 4, 2, 0, 0, 0, 0),
  (42, .iload_n 3, 1, 0, 0, 0, 0),
  (43, .iconst 1, 1, 0, 0, 1, 0),
  (44, .iload 4, 2, 0, 0, 0, 0),
  (46, .ishl, 1, 0, 0, 0, 0),
  (47, .iconst (-1), 1, 0, 0, (-1), 0)]
set_option maxRecDepth 100000 in
set_option maxHeartbeats 4000000 in
theorem kk_168_0 : k_168_0.all (entOK (mCi 168) (mB 168)) = true := by decide +kernel
def k_168_1 : List XI := [(48, .ixor, 1, 0, 0, 0, 0),
  (49, .iand, 1, 0, 0, 0, 0),
  (50, .iload_n 1, 1, 0, 0, 0, 0),
  (51, .invokevirtual 158, 3, 164, 1, 0, 0),
  (54, .ifCond .eq 31, 3, 85, 0, 0, 0),
  (57, .aload_n 0, 1, 0, 0, 0, 0),
  (58, .getfield 34, 3, 7, 16, 0, 0),
  (61, .iload_n 2, 1, 0, 0, 0, 0),
  (62, .iconst 1, 1, 0, 0, 1, 0),
  (63, .isub, 1, 0, 0, 0, 0),
  (64, .iload 4, 2, 0, 0, 0, 0),
  (66, .iastore, 1, 0, 0, 0, 0),
  (67, .aload_n 0, 1, 0, 0, 0, 0),
  (68, .iload_n 1, 1, 0, 0, 0, 0),
  (69, .iconst 1, 1, 0, 0, 1, 0),
  (70, .iload 4, 2, 0, 0, 0, 0),
  (72, .ishl, 1, 0, 0, 0, 0),
  (73, .ior, 1, 0, 0, 0, 0),
  (74, .iload_n 2, 1, 0, 0, 0, 0),
  (75, .iconst 1, 1, 0, 0, 1, 0),
  (76, .isub, 1, 0, 0, 0, 0),
  (77, .invokevirtual 164, 3, 167, 1, 0, 0),
  (80, .ifCond .eq 5, 3, 85, 0, 0, 0),
  (83, .iconst 1, 1, 0, 0, 1, 0),
  (84, .ireturn, 1, 0, 0, 0, 0),
  (85, .iinc 4 1, 3, 0, 0, 1, 0),
  (88, .goto (-70), 3, 18, 0, 0, 0),
  (91, .iconst 0, 1, 0, 0, 0, 0),
  (92, .ireturn, 1, 0, 0, 0, 0)]
set_option maxRecDepth 100000 in
set_option maxHeartbeats 4000000 in
theorem kk_168_1 : k_168_1.all (entOK (mCi 168) (mB 168)) = true := by decide +kernel
def k_168 : List XI := k_168_0 ++ (k_168_1)
theorem kk_168 : k_168.all (entOK (mCi 168) (mB 168)) = true := all_app kk_168_0 (kk_168_1)
set_option maxRecDepth 100000 in
set_option maxHeartbeats 4000000 in
theorem fM_seeks1 {E : XE} {h : Mem} {Q : Int32 → Mem → Prop} {a1 : Int32} {a2 : Int32} 
    (hF : CALLI E mM_onSet [.ref 60] h fun v1 h1 => (¬ (v1 &&& (a1 ^^^ (-1))) = 0 → WP E mM_seeks1 18 [some (.ref 60), some (.int a1), some (.int a2), some (.int (v1 &&& (a1 ^^^ (-1)))), some (.int 0)] [] h1 (qI Q)) ∧ ((v1 &&& (a1 ^^^ (-1))) = 0 → Q 1 h1)) :
    CALLI E mM_seeks1 [.ref 60, .int a1, .int a2] h Q := CALL_of rfl (wp_sound [(18, [1, 1, 1, 1, 1])] kk_168 12 hF)
set_option maxRecDepth 100000 in
set_option maxHeartbeats 4000000 in
theorem fM_seeks1_18 {E : XE} {h : Mem} {Q : Int32 → Mem → Prop} {x1 : Int32} {x2 : Int32} {x3 : Int32} {x4 : Int32} 
    (hF : ((h 61 (ix 72)) ≤ x4 → Q 0 h) ∧ (¬ (h 61 (ix 72)) ≤ x4 → CALLI E mM_has [.int x3, .int x4] h fun v1 h1 => (v1 = 0 → WP E mM_seeks1 18 [some (.ref 60), some (.int x1), some (.int x2), some (.int x3), some (.int (x4 + 1))] [] h1 (qI Q)) ∧ (¬ v1 = 0 → CALLI E mM_fitsBy [.ref 60, .int x4, .int (x3 &&& ((shl 1 x4) ^^^ (-1))), .int x1] h1 fun v2 h2 => (v2 = 0 → WP E mM_seeks1 18 [some (.ref 60), some (.int x1), some (.int x2), some (.int x3), some (.int (x4 + 1))] [] h2 (qI Q)) ∧ (¬ v2 = 0 → cnd (inb (x2 - 1) 6) (CALLI E mM_seeks0 [.ref 60, .int (x1 ||| (shl 1 x4)), .int (x2 - 1)] (upd2 h2 69 (ix (x2 - 1)) x4) fun v3 h3 => (v3 = 0 → WP E mM_seeks1 18 [some (.ref 60), some (.int x1), some (.int x2), some (.int x3), some (.int (x4 + 1))] [] h3 (qI Q)) ∧ (¬ v3 = 0 → Q 1 h3)))))) :
    WP E mM_seeks1 18 [some (.ref 60), some (.int x1), some (.int x2), some (.int x3), some (.int x4)] [] h (qI Q) := wp_sound [(18, [1, 1, 1, 1, 1])] kk_168 43 hF
def k_169_0 : List XI := [(0, .aload_n 0, 1, 0, 0, 0, 0),
  (1, .invokevirtual 146, 3, 157, 1, 0, 0),
  (4, .iload_n 1, 1, 0, 0, 0, 0),
  (5, .iconst (-1), 1, 0, 0, (-1), 0),
  (6, .ixor, 1, 0, 0, 0, 0),
  (7, .iand, 1, 0, 0, 0, 0),
  (8, .istore_n 3, 1, 0, 0, 0, 0),
  (9, .iload_n 3, 1, 0, 0, 0, 0),
  (10, .ifCond .ne 5, 3, 15, 0, 0, 0),
  (13, .iconst 1, 1, 0, 0, 1, 0),
  (14, .ireturn, 1, 0, 0, 0, 0),
  (15, .iconst 0, 1, 0, 0, 0, 0),
  (16, .istore 4, 2, 0, 0, 0, 0),
  (18, .iload 4, 2, 0, 0, 0, 0),
  (20, .aload_n 0, 1, 0, 0, 0, 0),
  (21, .getfield 9, 3, 7, 0, 0, 0),
  (24, .bipush 72, 2, 0, 0, 72, 0),
  (26, .iaload, 1, 0, 0, 0, 0),
  (27, .if_icmp .ge 64, 3, 91, 0, 0, 0),
  (30, .iload_n 3, 1, 0, 0, 0, 0),
  (31, .iload 4, 2, 0, 0, 0, 0),
  (33, .invokestatic 135, 3, 142, 1, 0, 0),
  (36, .ifCond .eq 49, 3, 85, 0, 0, 0),
  (39, .aload_n 0, 1, 0, 0, 0, 0),
  (40, .iload 4, 2, 0, 0, 0, 0),
  (42, .iload_n 3, 1, 0, 0, 0, 0),
  (43, .iconst 1, 1, 0, 0, 1, 0),
  (44, .iload 4, 2, 0, 0, 0, 0),
  (46, .ishl, 1, 0, 0, 0, 0),
  (47, .iconst (-1), 1, 0, 0, (-1), 0)]
set_option maxRecDepth 100000 in
set_option maxHeartbeats 4000000 in
theorem kk_169_0 : k_169_0.all (entOK (mCi 169) (mB 169)) = true := by decide +kernel
def k_169_1 : List XI := [(48, .ixor, 1, 0, 0, 0, 0),
  (49, .iand, 1, 0, 0, 0, 0),
  (50, .iload_n 1, 1, 0, 0, 0, 0),
  (51, .invokevirtual 158, 3, 164, 1, 0, 0),
  (54, .ifCond .eq 31, 3, 85, 0, 0, 0),
  (57, .aload_n 0, 1, 0, 0, 0, 0),
  (58, .getfield 34, 3, 7, 16, 0, 0),
  (61, .iload_n 2, 1, 0, 0, 0, 0),
  (62, .iconst 1, 1, 0, 0, 1, 0),
  (63, .isub, 1, 0, 0, 0, 0),
  (64, .iload 4, 2, 0, 0, 0, 0),
  (66, .iastore, 1, 0, 0, 0, 0),
  (67, .aload_n 0, 1, 0, 0, 0, 0),
  (68, .iload_n 1, 1, 0, 0, 0, 0),
  (69, .iconst 1, 1, 0, 0, 1, 0),
  (70, .iload 4, 2, 0, 0, 0, 0),
  (72, .ishl, 1, 0, 0, 0, 0),
  (73, .ior, 1, 0, 0, 0, 0),
  (74, .iload_n 2, 1, 0, 0, 0, 0),
  (75, .iconst 1, 1, 0, 0, 1, 0),
  (76, .isub, 1, 0, 0, 0, 0),
  (77, .invokevirtual 164, 3, 168, 1, 0, 0),
  (80, .ifCond .eq 5, 3, 85, 0, 0, 0),
  (83, .iconst 1, 1, 0, 0, 1, 0),
  (84, .ireturn, 1, 0, 0, 0, 0),
  (85, .iinc 4 1, 3, 0, 0, 1, 0),
  (88, .goto (-70), 3, 18, 0, 0, 0),
  (91, .iconst 0, 1, 0, 0, 0, 0),
  (92, .ireturn, 1, 0, 0, 0, 0)]
set_option maxRecDepth 100000 in
set_option maxHeartbeats 4000000 in
theorem kk_169_1 : k_169_1.all (entOK (mCi 169) (mB 169)) = true := by decide +kernel
def k_169 : List XI := k_169_0 ++ (k_169_1)
theorem kk_169 : k_169.all (entOK (mCi 169) (mB 169)) = true := all_app kk_169_0 (kk_169_1)
set_option maxRecDepth 100000 in
set_option maxHeartbeats 4000000 in
theorem fM_seeks2 {E : XE} {h : Mem} {Q : Int32 → Mem → Prop} {a1 : Int32} {a2 : Int32} 
    (hF : CALLI E mM_onSet [.ref 60] h fun v1 h1 => (¬ (v1 &&& (a1 ^^^ (-1))) = 0 → WP E mM_seeks2 18 [some (.ref 60), some (.int a1), some (.int a2), some (.int (v1 &&& (a1 ^^^ (-1)))), some (.int 0)] [] h1 (qI Q)) ∧ ((v1 &&& (a1 ^^^ (-1))) = 0 → Q 1 h1)) :
    CALLI E mM_seeks2 [.ref 60, .int a1, .int a2] h Q := CALL_of rfl (wp_sound [(18, [1, 1, 1, 1, 1])] kk_169 12 hF)
set_option maxRecDepth 100000 in
set_option maxHeartbeats 4000000 in
theorem fM_seeks2_18 {E : XE} {h : Mem} {Q : Int32 → Mem → Prop} {x1 : Int32} {x2 : Int32} {x3 : Int32} {x4 : Int32} 
    (hF : ((h 61 (ix 72)) ≤ x4 → Q 0 h) ∧ (¬ (h 61 (ix 72)) ≤ x4 → CALLI E mM_has [.int x3, .int x4] h fun v1 h1 => (v1 = 0 → WP E mM_seeks2 18 [some (.ref 60), some (.int x1), some (.int x2), some (.int x3), some (.int (x4 + 1))] [] h1 (qI Q)) ∧ (¬ v1 = 0 → CALLI E mM_fitsBy [.ref 60, .int x4, .int (x3 &&& ((shl 1 x4) ^^^ (-1))), .int x1] h1 fun v2 h2 => (v2 = 0 → WP E mM_seeks2 18 [some (.ref 60), some (.int x1), some (.int x2), some (.int x3), some (.int (x4 + 1))] [] h2 (qI Q)) ∧ (¬ v2 = 0 → cnd (inb (x2 - 1) 6) (CALLI E mM_seeks1 [.ref 60, .int (x1 ||| (shl 1 x4)), .int (x2 - 1)] (upd2 h2 69 (ix (x2 - 1)) x4) fun v3 h3 => (v3 = 0 → WP E mM_seeks2 18 [some (.ref 60), some (.int x1), some (.int x2), some (.int x3), some (.int (x4 + 1))] [] h3 (qI Q)) ∧ (¬ v3 = 0 → Q 1 h3)))))) :
    WP E mM_seeks2 18 [some (.ref 60), some (.int x1), some (.int x2), some (.int x3), some (.int x4)] [] h (qI Q) := wp_sound [(18, [1, 1, 1, 1, 1])] kk_169 43 hF
def k_170_0 : List XI := [(0, .aload_n 0, 1, 0, 0, 0, 0),
  (1, .invokevirtual 146, 3, 157, 1, 0, 0),
  (4, .iload_n 1, 1, 0, 0, 0, 0),
  (5, .iconst (-1), 1, 0, 0, (-1), 0),
  (6, .ixor, 1, 0, 0, 0, 0),
  (7, .iand, 1, 0, 0, 0, 0),
  (8, .istore_n 3, 1, 0, 0, 0, 0),
  (9, .iload_n 3, 1, 0, 0, 0, 0),
  (10, .ifCond .ne 5, 3, 15, 0, 0, 0),
  (13, .iconst 1, 1, 0, 0, 1, 0),
  (14, .ireturn, 1, 0, 0, 0, 0),
  (15, .iconst 0, 1, 0, 0, 0, 0),
  (16, .istore 4, 2, 0, 0, 0, 0),
  (18, .iload 4, 2, 0, 0, 0, 0),
  (20, .aload_n 0, 1, 0, 0, 0, 0),
  (21, .getfield 9, 3, 7, 0, 0, 0),
  (24, .bipush 72, 2, 0, 0, 72, 0),
  (26, .iaload, 1, 0, 0, 0, 0),
  (27, .if_icmp .ge 64, 3, 91, 0, 0, 0),
  (30, .iload_n 3, 1, 0, 0, 0, 0),
  (31, .iload 4, 2, 0, 0, 0, 0),
  (33, .invokestatic 135, 3, 142, 1, 0, 0),
  (36, .ifCond .eq 49, 3, 85, 0, 0, 0),
  (39, .aload_n 0, 1, 0, 0, 0, 0),
  (40, .iload 4, 2, 0, 0, 0, 0),
  (42, .iload_n 3, 1, 0, 0, 0, 0),
  (43, .iconst 1, 1, 0, 0, 1, 0),
  (44, .iload 4, 2, 0, 0, 0, 0),
  (46, .ishl, 1, 0, 0, 0, 0),
  (47, .iconst (-1), 1, 0, 0, (-1), 0)]
set_option maxRecDepth 100000 in
set_option maxHeartbeats 4000000 in
theorem kk_170_0 : k_170_0.all (entOK (mCi 170) (mB 170)) = true := by decide +kernel
def k_170_1 : List XI := [(48, .ixor, 1, 0, 0, 0, 0),
  (49, .iand, 1, 0, 0, 0, 0),
  (50, .iload_n 1, 1, 0, 0, 0, 0),
  (51, .invokevirtual 158, 3, 164, 1, 0, 0),
  (54, .ifCond .eq 31, 3, 85, 0, 0, 0),
  (57, .aload_n 0, 1, 0, 0, 0, 0),
  (58, .getfield 34, 3, 7, 16, 0, 0),
  (61, .iload_n 2, 1, 0, 0, 0, 0),
  (62, .iconst 1, 1, 0, 0, 1, 0),
  (63, .isub, 1, 0, 0, 0, 0),
  (64, .iload 4, 2, 0, 0, 0, 0),
  (66, .iastore, 1, 0, 0, 0, 0),
  (67, .aload_n 0, 1, 0, 0, 0, 0),
  (68, .iload_n 1, 1, 0, 0, 0, 0),
  (69, .iconst 1, 1, 0, 0, 1, 0),
  (70, .iload 4, 2, 0, 0, 0, 0),
  (72, .ishl, 1, 0, 0, 0, 0),
  (73, .ior, 1, 0, 0, 0, 0),
  (74, .iload_n 2, 1, 0, 0, 0, 0),
  (75, .iconst 1, 1, 0, 0, 1, 0),
  (76, .isub, 1, 0, 0, 0, 0),
  (77, .invokevirtual 164, 3, 169, 1, 0, 0),
  (80, .ifCond .eq 5, 3, 85, 0, 0, 0),
  (83, .iconst 1, 1, 0, 0, 1, 0),
  (84, .ireturn, 1, 0, 0, 0, 0),
  (85, .iinc 4 1, 3, 0, 0, 1, 0),
  (88, .goto (-70), 3, 18, 0, 0, 0),
  (91, .iconst 0, 1, 0, 0, 0, 0),
  (92, .ireturn, 1, 0, 0, 0, 0)]
set_option maxRecDepth 100000 in
set_option maxHeartbeats 4000000 in
theorem kk_170_1 : k_170_1.all (entOK (mCi 170) (mB 170)) = true := by decide +kernel
def k_170 : List XI := k_170_0 ++ (k_170_1)
theorem kk_170 : k_170.all (entOK (mCi 170) (mB 170)) = true := all_app kk_170_0 (kk_170_1)
set_option maxRecDepth 100000 in
set_option maxHeartbeats 4000000 in
theorem fM_seeks3 {E : XE} {h : Mem} {Q : Int32 → Mem → Prop} {a1 : Int32} {a2 : Int32} 
    (hF : CALLI E mM_onSet [.ref 60] h fun v1 h1 => (¬ (v1 &&& (a1 ^^^ (-1))) = 0 → WP E mM_seeks3 18 [some (.ref 60), some (.int a1), some (.int a2), some (.int (v1 &&& (a1 ^^^ (-1)))), some (.int 0)] [] h1 (qI Q)) ∧ ((v1 &&& (a1 ^^^ (-1))) = 0 → Q 1 h1)) :
    CALLI E mM_seeks3 [.ref 60, .int a1, .int a2] h Q := CALL_of rfl (wp_sound [(18, [1, 1, 1, 1, 1])] kk_170 12 hF)
set_option maxRecDepth 100000 in
set_option maxHeartbeats 4000000 in
theorem fM_seeks3_18 {E : XE} {h : Mem} {Q : Int32 → Mem → Prop} {x1 : Int32} {x2 : Int32} {x3 : Int32} {x4 : Int32} 
    (hF : ((h 61 (ix 72)) ≤ x4 → Q 0 h) ∧ (¬ (h 61 (ix 72)) ≤ x4 → CALLI E mM_has [.int x3, .int x4] h fun v1 h1 => (v1 = 0 → WP E mM_seeks3 18 [some (.ref 60), some (.int x1), some (.int x2), some (.int x3), some (.int (x4 + 1))] [] h1 (qI Q)) ∧ (¬ v1 = 0 → CALLI E mM_fitsBy [.ref 60, .int x4, .int (x3 &&& ((shl 1 x4) ^^^ (-1))), .int x1] h1 fun v2 h2 => (v2 = 0 → WP E mM_seeks3 18 [some (.ref 60), some (.int x1), some (.int x2), some (.int x3), some (.int (x4 + 1))] [] h2 (qI Q)) ∧ (¬ v2 = 0 → cnd (inb (x2 - 1) 6) (CALLI E mM_seeks2 [.ref 60, .int (x1 ||| (shl 1 x4)), .int (x2 - 1)] (upd2 h2 69 (ix (x2 - 1)) x4) fun v3 h3 => (v3 = 0 → WP E mM_seeks3 18 [some (.ref 60), some (.int x1), some (.int x2), some (.int x3), some (.int (x4 + 1))] [] h3 (qI Q)) ∧ (¬ v3 = 0 → Q 1 h3)))))) :
    WP E mM_seeks3 18 [some (.ref 60), some (.int x1), some (.int x2), some (.int x3), some (.int x4)] [] h (qI Q) := wp_sound [(18, [1, 1, 1, 1, 1])] kk_170 43 hF
def k_171_0 : List XI := [(0, .aload_n 0, 1, 0, 0, 0, 0),
  (1, .invokevirtual 146, 3, 157, 1, 0, 0),
  (4, .iload_n 1, 1, 0, 0, 0, 0),
  (5, .iconst (-1), 1, 0, 0, (-1), 0),
  (6, .ixor, 1, 0, 0, 0, 0),
  (7, .iand, 1, 0, 0, 0, 0),
  (8, .istore_n 3, 1, 0, 0, 0, 0),
  (9, .iload_n 3, 1, 0, 0, 0, 0),
  (10, .ifCond .ne 5, 3, 15, 0, 0, 0),
  (13, .iconst 1, 1, 0, 0, 1, 0),
  (14, .ireturn, 1, 0, 0, 0, 0),
  (15, .iconst 0, 1, 0, 0, 0, 0),
  (16, .istore 4, 2, 0, 0, 0, 0),
  (18, .iload 4, 2, 0, 0, 0, 0),
  (20, .aload_n 0, 1, 0, 0, 0, 0),
  (21, .getfield 9, 3, 7, 0, 0, 0),
  (24, .bipush 72, 2, 0, 0, 72, 0),
  (26, .iaload, 1, 0, 0, 0, 0),
  (27, .if_icmp .ge 64, 3, 91, 0, 0, 0),
  (30, .iload_n 3, 1, 0, 0, 0, 0),
  (31, .iload 4, 2, 0, 0, 0, 0),
  (33, .invokestatic 135, 3, 142, 1, 0, 0),
  (36, .ifCond .eq 49, 3, 85, 0, 0, 0),
  (39, .aload_n 0, 1, 0, 0, 0, 0),
  (40, .iload 4, 2, 0, 0, 0, 0),
  (42, .iload_n 3, 1, 0, 0, 0, 0),
  (43, .iconst 1, 1, 0, 0, 1, 0),
  (44, .iload 4, 2, 0, 0, 0, 0),
  (46, .ishl, 1, 0, 0, 0, 0),
  (47, .iconst (-1), 1, 0, 0, (-1), 0)]
set_option maxRecDepth 100000 in
set_option maxHeartbeats 4000000 in
theorem kk_171_0 : k_171_0.all (entOK (mCi 171) (mB 171)) = true := by decide +kernel
def k_171_1 : List XI := [(48, .ixor, 1, 0, 0, 0, 0),
  (49, .iand, 1, 0, 0, 0, 0),
  (50, .iload_n 1, 1, 0, 0, 0, 0),
  (51, .invokevirtual 158, 3, 164, 1, 0, 0),
  (54, .ifCond .eq 31, 3, 85, 0, 0, 0),
  (57, .aload_n 0, 1, 0, 0, 0, 0),
  (58, .getfield 34, 3, 7, 16, 0, 0),
  (61, .iload_n 2, 1, 0, 0, 0, 0),
  (62, .iconst 1, 1, 0, 0, 1, 0),
  (63, .isub, 1, 0, 0, 0, 0),
  (64, .iload 4, 2, 0, 0, 0, 0),
  (66, .iastore, 1, 0, 0, 0, 0),
  (67, .aload_n 0, 1, 0, 0, 0, 0),
  (68, .iload_n 1, 1, 0, 0, 0, 0),
  (69, .iconst 1, 1, 0, 0, 1, 0),
  (70, .iload 4, 2, 0, 0, 0, 0),
  (72, .ishl, 1, 0, 0, 0, 0),
  (73, .ior, 1, 0, 0, 0, 0),
  (74, .iload_n 2, 1, 0, 0, 0, 0),
  (75, .iconst 1, 1, 0, 0, 1, 0),
  (76, .isub, 1, 0, 0, 0, 0),
  (77, .invokevirtual 164, 3, 170, 1, 0, 0),
  (80, .ifCond .eq 5, 3, 85, 0, 0, 0),
  (83, .iconst 1, 1, 0, 0, 1, 0),
  (84, .ireturn, 1, 0, 0, 0, 0),
  (85, .iinc 4 1, 3, 0, 0, 1, 0),
  (88, .goto (-70), 3, 18, 0, 0, 0),
  (91, .iconst 0, 1, 0, 0, 0, 0),
  (92, .ireturn, 1, 0, 0, 0, 0)]
set_option maxRecDepth 100000 in
set_option maxHeartbeats 4000000 in
theorem kk_171_1 : k_171_1.all (entOK (mCi 171) (mB 171)) = true := by decide +kernel
def k_171 : List XI := k_171_0 ++ (k_171_1)
theorem kk_171 : k_171.all (entOK (mCi 171) (mB 171)) = true := all_app kk_171_0 (kk_171_1)
set_option maxRecDepth 100000 in
set_option maxHeartbeats 4000000 in
theorem fM_seeks4 {E : XE} {h : Mem} {Q : Int32 → Mem → Prop} {a1 : Int32} {a2 : Int32} 
    (hF : CALLI E mM_onSet [.ref 60] h fun v1 h1 => (¬ (v1 &&& (a1 ^^^ (-1))) = 0 → WP E mM_seeks4 18 [some (.ref 60), some (.int a1), some (.int a2), some (.int (v1 &&& (a1 ^^^ (-1)))), some (.int 0)] [] h1 (qI Q)) ∧ ((v1 &&& (a1 ^^^ (-1))) = 0 → Q 1 h1)) :
    CALLI E mM_seeks4 [.ref 60, .int a1, .int a2] h Q := CALL_of rfl (wp_sound [(18, [1, 1, 1, 1, 1])] kk_171 12 hF)
set_option maxRecDepth 100000 in
set_option maxHeartbeats 4000000 in
theorem fM_seeks4_18 {E : XE} {h : Mem} {Q : Int32 → Mem → Prop} {x1 : Int32} {x2 : Int32} {x3 : Int32} {x4 : Int32} 
    (hF : ((h 61 (ix 72)) ≤ x4 → Q 0 h) ∧ (¬ (h 61 (ix 72)) ≤ x4 → CALLI E mM_has [.int x3, .int x4] h fun v1 h1 => (v1 = 0 → WP E mM_seeks4 18 [some (.ref 60), some (.int x1), some (.int x2), some (.int x3), some (.int (x4 + 1))] [] h1 (qI Q)) ∧ (¬ v1 = 0 → CALLI E mM_fitsBy [.ref 60, .int x4, .int (x3 &&& ((shl 1 x4) ^^^ (-1))), .int x1] h1 fun v2 h2 => (v2 = 0 → WP E mM_seeks4 18 [some (.ref 60), some (.int x1), some (.int x2), some (.int x3), some (.int (x4 + 1))] [] h2 (qI Q)) ∧ (¬ v2 = 0 → cnd (inb (x2 - 1) 6) (CALLI E mM_seeks3 [.ref 60, .int (x1 ||| (shl 1 x4)), .int (x2 - 1)] (upd2 h2 69 (ix (x2 - 1)) x4) fun v3 h3 => (v3 = 0 → WP E mM_seeks4 18 [some (.ref 60), some (.int x1), some (.int x2), some (.int x3), some (.int (x4 + 1))] [] h3 (qI Q)) ∧ (¬ v3 = 0 → Q 1 h3)))))) :
    WP E mM_seeks4 18 [some (.ref 60), some (.int x1), some (.int x2), some (.int x3), some (.int x4)] [] h (qI Q) := wp_sound [(18, [1, 1, 1, 1, 1])] kk_171 43 hF
def k_172_0 : List XI := [(0, .aload_n 0, 1, 0, 0, 0, 0),
  (1, .invokevirtual 146, 3, 157, 1, 0, 0),
  (4, .iload_n 1, 1, 0, 0, 0, 0),
  (5, .iconst (-1), 1, 0, 0, (-1), 0),
  (6, .ixor, 1, 0, 0, 0, 0),
  (7, .iand, 1, 0, 0, 0, 0),
  (8, .istore_n 3, 1, 0, 0, 0, 0),
  (9, .iload_n 3, 1, 0, 0, 0, 0),
  (10, .ifCond .ne 5, 3, 15, 0, 0, 0),
  (13, .iconst 1, 1, 0, 0, 1, 0),
  (14, .ireturn, 1, 0, 0, 0, 0),
  (15, .iconst 0, 1, 0, 0, 0, 0),
  (16, .istore 4, 2, 0, 0, 0, 0),
  (18, .iload 4, 2, 0, 0, 0, 0),
  (20, .aload_n 0, 1, 0, 0, 0, 0),
  (21, .getfield 9, 3, 7, 0, 0, 0),
  (24, .bipush 72, 2, 0, 0, 72, 0),
  (26, .iaload, 1, 0, 0, 0, 0),
  (27, .if_icmp .ge 64, 3, 91, 0, 0, 0),
  (30, .iload_n 3, 1, 0, 0, 0, 0),
  (31, .iload 4, 2, 0, 0, 0, 0),
  (33, .invokestatic 135, 3, 142, 1, 0, 0),
  (36, .ifCond .eq 49, 3, 85, 0, 0, 0),
  (39, .aload_n 0, 1, 0, 0, 0, 0),
  (40, .iload 4, 2, 0, 0, 0, 0),
  (42, .iload_n 3, 1, 0, 0, 0, 0),
  (43, .iconst 1, 1, 0, 0, 1, 0),
  (44, .iload 4, 2, 0, 0, 0, 0),
  (46, .ishl, 1, 0, 0, 0, 0),
  (47, .iconst (-1), 1, 0, 0, (-1), 0)]
set_option maxRecDepth 100000 in
set_option maxHeartbeats 4000000 in
theorem kk_172_0 : k_172_0.all (entOK (mCi 172) (mB 172)) = true := by decide +kernel
def k_172_1 : List XI := [(48, .ixor, 1, 0, 0, 0, 0),
  (49, .iand, 1, 0, 0, 0, 0),
  (50, .iload_n 1, 1, 0, 0, 0, 0),
  (51, .invokevirtual 158, 3, 164, 1, 0, 0),
  (54, .ifCond .eq 31, 3, 85, 0, 0, 0),
  (57, .aload_n 0, 1, 0, 0, 0, 0),
  (58, .getfield 34, 3, 7, 16, 0, 0),
  (61, .iload_n 2, 1, 0, 0, 0, 0),
  (62, .iconst 1, 1, 0, 0, 1, 0),
  (63, .isub, 1, 0, 0, 0, 0),
  (64, .iload 4, 2, 0, 0, 0, 0),
  (66, .iastore, 1, 0, 0, 0, 0),
  (67, .aload_n 0, 1, 0, 0, 0, 0),
  (68, .iload_n 1, 1, 0, 0, 0, 0),
  (69, .iconst 1, 1, 0, 0, 1, 0),
  (70, .iload 4, 2, 0, 0, 0, 0),
  (72, .ishl, 1, 0, 0, 0, 0),
  (73, .ior, 1, 0, 0, 0, 0),
  (74, .iload_n 2, 1, 0, 0, 0, 0),
  (75, .iconst 1, 1, 0, 0, 1, 0),
  (76, .isub, 1, 0, 0, 0, 0),
  (77, .invokevirtual 164, 3, 171, 1, 0, 0),
  (80, .ifCond .eq 5, 3, 85, 0, 0, 0),
  (83, .iconst 1, 1, 0, 0, 1, 0),
  (84, .ireturn, 1, 0, 0, 0, 0),
  (85, .iinc 4 1, 3, 0, 0, 1, 0),
  (88, .goto (-70), 3, 18, 0, 0, 0),
  (91, .iconst 0, 1, 0, 0, 0, 0),
  (92, .ireturn, 1, 0, 0, 0, 0)]
set_option maxRecDepth 100000 in
set_option maxHeartbeats 4000000 in
theorem kk_172_1 : k_172_1.all (entOK (mCi 172) (mB 172)) = true := by decide +kernel
def k_172 : List XI := k_172_0 ++ (k_172_1)
theorem kk_172 : k_172.all (entOK (mCi 172) (mB 172)) = true := all_app kk_172_0 (kk_172_1)
set_option maxRecDepth 100000 in
set_option maxHeartbeats 4000000 in
theorem fM_seeks5 {E : XE} {h : Mem} {Q : Int32 → Mem → Prop} {a1 : Int32} {a2 : Int32} 
    (hF : CALLI E mM_onSet [.ref 60] h fun v1 h1 => (¬ (v1 &&& (a1 ^^^ (-1))) = 0 → WP E mM_seeks5 18 [some (.ref 60), some (.int a1), some (.int a2), some (.int (v1 &&& (a1 ^^^ (-1)))), some (.int 0)] [] h1 (qI Q)) ∧ ((v1 &&& (a1 ^^^ (-1))) = 0 → Q 1 h1)) :
    CALLI E mM_seeks5 [.ref 60, .int a1, .int a2] h Q := CALL_of rfl (wp_sound [(18, [1, 1, 1, 1, 1])] kk_172 12 hF)
set_option maxRecDepth 100000 in
set_option maxHeartbeats 4000000 in
theorem fM_seeks5_18 {E : XE} {h : Mem} {Q : Int32 → Mem → Prop} {x1 : Int32} {x2 : Int32} {x3 : Int32} {x4 : Int32} 
    (hF : ((h 61 (ix 72)) ≤ x4 → Q 0 h) ∧ (¬ (h 61 (ix 72)) ≤ x4 → CALLI E mM_has [.int x3, .int x4] h fun v1 h1 => (v1 = 0 → WP E mM_seeks5 18 [some (.ref 60), some (.int x1), some (.int x2), some (.int x3), some (.int (x4 + 1))] [] h1 (qI Q)) ∧ (¬ v1 = 0 → CALLI E mM_fitsBy [.ref 60, .int x4, .int (x3 &&& ((shl 1 x4) ^^^ (-1))), .int x1] h1 fun v2 h2 => (v2 = 0 → WP E mM_seeks5 18 [some (.ref 60), some (.int x1), some (.int x2), some (.int x3), some (.int (x4 + 1))] [] h2 (qI Q)) ∧ (¬ v2 = 0 → cnd (inb (x2 - 1) 6) (CALLI E mM_seeks4 [.ref 60, .int (x1 ||| (shl 1 x4)), .int (x2 - 1)] (upd2 h2 69 (ix (x2 - 1)) x4) fun v3 h3 => (v3 = 0 → WP E mM_seeks5 18 [some (.ref 60), some (.int x1), some (.int x2), some (.int x3), some (.int (x4 + 1))] [] h3 (qI Q)) ∧ (¬ v3 = 0 → Q 1 h3)))))) :
    WP E mM_seeks5 18 [some (.ref 60), some (.int x1), some (.int x2), some (.int x3), some (.int x4)] [] h (qI Q) := wp_sound [(18, [1, 1, 1, 1, 1])] kk_172 43 hF
