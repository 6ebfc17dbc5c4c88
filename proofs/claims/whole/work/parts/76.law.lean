/-! ===== the law: its formulas ===== -/
def lcut : List (Nat × List Nat) := [(18, [1, 1, 1, 1]), (208, [1, 1, 1, 1]), (231, [1, 1, 1, 1]), (244, [1, 1, 1, 1]), (287, [1, 1, 1, 1]), (310, [1, 1, 1, 1]), (343, [1, 1, 1, 1]), (376, [1, 1, 1, 1]), (409, [1, 1, 1, 1]), (452, [1, 1, 1, 1]), (495, [1, 1, 1, 1]), (528, [1, 1, 1, 1]), (561, [1, 1, 1, 1]), (594, [1, 1, 1, 1]), (617, [1, 1, 1, 1]), (630, [1, 1, 1, 1]), (653, [1, 1, 1, 1]), (666, [1, 1, 1, 1]), (679, [1, 1, 1, 1]), (712, [1, 1, 1, 1]), (745, [1, 1, 1, 1]), (778, [1, 1, 1, 1]), (811, [1, 1, 1, 1]), (844, [1, 1, 1, 1]), (867, [1, 1, 1, 1]), (890, [1, 1, 1, 1]), (923, [1, 1, 1, 1]), (966, [1, 1, 1, 1]), (999, [1, 1, 1, 1]), (1022, [1, 1, 1, 1]), (1055, [1, 1, 1, 1]), (1079, [1, 1, 1, 1]), (1092, [1, 1, 1, 1]), (1126, [1, 1, 1, 1]), (1159, [1, 1, 1, 1]), (1182, [1, 1, 1, 1]), (1205, [1, 1, 1, 1]), (1218, [1, 1, 1, 1]), (1261, [1, 1, 1, 1]), (1274, [1, 1, 1, 1]), (1287, [1, 1, 1, 1]), (1310, [1, 1, 1, 1])]
set_option maxRecDepth 100000 in
set_option maxHeartbeats 4000000 in
theorem fL_16 {E : XE} {h : Mem} {Q : Int32 → Mem → Prop}
    (hF : WP E mL_law 18 [some (.ref 1000), some (.ref 0), some (.ref 60), some (.int 0)] [] h (qI Q)) :
    WP E mL_law 16 [some (.ref 1000), some (.ref 0), some (.ref 60), none] [] h (qI Q) := wp_sound lcut kk_0 3 hF
set_option maxRecDepth 100000 in
set_option maxHeartbeats 4000000 in
theorem fL_18 {E : XE} {h : Mem} {Q : Int32 → Mem → Prop} {i : Int32}
    (hF : (((nI (eXs E).length) - 4) < i → Q 1 h) ∧ (¬ ((nI (eXs E).length) - 4) < i → cnd (inb i (eXs E).length) (((((eXs E).getD (ix i) 0) &&& 63) = Int32.ofInt 0 → WP E mL_law 208 [some (.ref 1000), some (.ref 0), some (.ref 60), some (.int i)] [] h (qI Q)) ∧ (¬ (((eXs E).getD (ix i) 0) &&& 63) = Int32.ofInt 0 → ((((eXs E).getD (ix i) 0) &&& 63) = Int32.ofInt 1 → WP E mL_law 231 [some (.ref 1000), some (.ref 0), some (.ref 60), some (.int i)] [] h (qI Q)) ∧ (¬ (((eXs E).getD (ix i) 0) &&& 63) = Int32.ofInt 1 → ((((eXs E).getD (ix i) 0) &&& 63) = Int32.ofInt 2 → WP E mL_law 244 [some (.ref 1000), some (.ref 0), some (.ref 60), some (.int i)] [] h (qI Q)) ∧ (¬ (((eXs E).getD (ix i) 0) &&& 63) = Int32.ofInt 2 → ((((eXs E).getD (ix i) 0) &&& 63) = Int32.ofInt 3 → WP E mL_law 287 [some (.ref 1000), some (.ref 0), some (.ref 60), some (.int i)] [] h (qI Q)) ∧ (¬ (((eXs E).getD (ix i) 0) &&& 63) = Int32.ofInt 3 → ((((eXs E).getD (ix i) 0) &&& 63) = Int32.ofInt 4 → WP E mL_law 310 [some (.ref 1000), some (.ref 0), some (.ref 60), some (.int i)] [] h (qI Q)) ∧ (¬ (((eXs E).getD (ix i) 0) &&& 63) = Int32.ofInt 4 → ((((eXs E).getD (ix i) 0) &&& 63) = Int32.ofInt 5 → WP E mL_law 343 [some (.ref 1000), some (.ref 0), some (.ref 60), some (.int i)] [] h (qI Q)) ∧ (¬ (((eXs E).getD (ix i) 0) &&& 63) = Int32.ofInt 5 → ((((eXs E).getD (ix i) 0) &&& 63) = Int32.ofInt 6 → WP E mL_law 376 [some (.ref 1000), some (.ref 0), some (.ref 60), some (.int i)] [] h (qI Q)) ∧ (¬ (((eXs E).getD (ix i) 0) &&& 63) = Int32.ofInt 6 → ((((eXs E).getD (ix i) 0) &&& 63) = Int32.ofInt 7 → WP E mL_law 409 [some (.ref 1000), some (.ref 0), some (.ref 60), some (.int i)] [] h (qI Q)) ∧ (¬ (((eXs E).getD (ix i) 0) &&& 63) = Int32.ofInt 7 → ((((eXs E).getD (ix i) 0) &&& 63) = Int32.ofInt 8 → WP E mL_law 452 [some (.ref 1000), some (.ref 0), some (.ref 60), some (.int i)] [] h (qI Q)) ∧ (¬ (((eXs E).getD (ix i) 0) &&& 63) = Int32.ofInt 8 → ((((eXs E).getD (ix i) 0) &&& 63) = Int32.ofInt 9 → WP E mL_law 495 [some (.ref 1000), some (.ref 0), some (.ref 60), some (.int i)] [] h (qI Q)) ∧ (¬ (((eXs E).getD (ix i) 0) &&& 63) = Int32.ofInt 9 → ((((eXs E).getD (ix i) 0) &&& 63) = Int32.ofInt 10 → WP E mL_law 528 [some (.ref 1000), some (.ref 0), some (.ref 60), some (.int i)] [] h (qI Q)) ∧ (¬ (((eXs E).getD (ix i) 0) &&& 63) = Int32.ofInt 10 → ((((eXs E).getD (ix i) 0) &&& 63) = Int32.ofInt 11 → WP E mL_law 561 [some (.ref 1000), some (.ref 0), some (.ref 60), some (.int i)] [] h (qI Q)) ∧ (¬ (((eXs E).getD (ix i) 0) &&& 63) = Int32.ofInt 11 → ((((eXs E).getD (ix i) 0) &&& 63) = Int32.ofInt 12 → WP E mL_law 594 [some (.ref 1000), some (.ref 0), some (.ref 60), some (.int i)] [] h (qI Q)) ∧ (¬ (((eXs E).getD (ix i) 0) &&& 63) = Int32.ofInt 12 → ((((eXs E).getD (ix i) 0) &&& 63) = Int32.ofInt 13 → WP E mL_law 617 [some (.ref 1000), some (.ref 0), some (.ref 60), some (.int i)] [] h (qI Q)) ∧ (¬ (((eXs E).getD (ix i) 0) &&& 63) = Int32.ofInt 13 → ((((eXs E).getD (ix i) 0) &&& 63) = Int32.ofInt 14 → WP E mL_law 630 [some (.ref 1000), some (.ref 0), some (.ref 60), some (.int i)] [] h (qI Q)) ∧ (¬ (((eXs E).getD (ix i) 0) &&& 63) = Int32.ofInt 14 → ((((eXs E).getD (ix i) 0) &&& 63) = Int32.ofInt 15 → WP E mL_law 653 [some (.ref 1000), some (.ref 0), some (.ref 60), some (.int i)] [] h (qI Q)) ∧ (¬ (((eXs E).getD (ix i) 0) &&& 63) = Int32.ofInt 15 → ((((eXs E).getD (ix i) 0) &&& 63) = Int32.ofInt 16 → WP E mL_law 666 [some (.ref 1000), some (.ref 0), some (.ref 60), some (.int i)] [] h (qI Q)) ∧ (¬ (((eXs E).getD (ix i) 0) &&& 63) = Int32.ofInt 16 → ((((eXs E).getD (ix i) 0) &&& 63) = Int32.ofInt 17 → WP E mL_law 679 [some (.ref 1000), some (.ref 0), some (.ref 60), some (.int i)] [] h (qI Q)) ∧ (¬ (((eXs E).getD (ix i) 0) &&& 63) = Int32.ofInt 17 → ((((eXs E).getD (ix i) 0) &&& 63) = Int32.ofInt 18 → WP E mL_law 712 [some (.ref 1000), some (.ref 0), some (.ref 60), some (.int i)] [] h (qI Q)) ∧ (¬ (((eXs E).getD (ix i) 0) &&& 63) = Int32.ofInt 18 → ((((eXs E).getD (ix i) 0) &&& 63) = Int32.ofInt 19 → WP E mL_law 745 [some (.ref 1000), some (.ref 0), some (.ref 60), some (.int i)] [] h (qI Q)) ∧ (¬ (((eXs E).getD (ix i) 0) &&& 63) = Int32.ofInt 19 → ((((eXs E).getD (ix i) 0) &&& 63) = Int32.ofInt 20 → WP E mL_law 778 [some (.ref 1000), some (.ref 0), some (.ref 60), some (.int i)] [] h (qI Q)) ∧ (¬ (((eXs E).getD (ix i) 0) &&& 63) = Int32.ofInt 20 → ((((eXs E).getD (ix i) 0) &&& 63) = Int32.ofInt 21 → WP E mL_law 811 [some (.ref 1000), some (.ref 0), some (.ref 60), some (.int i)] [] h (qI Q)) ∧ (¬ (((eXs E).getD (ix i) 0) &&& 63) = Int32.ofInt 21 → ((((eXs E).getD (ix i) 0) &&& 63) = Int32.ofInt 22 → WP E mL_law 844 [some (.ref 1000), some (.ref 0), some (.ref 60), some (.int i)] [] h (qI Q)) ∧ (¬ (((eXs E).getD (ix i) 0) &&& 63) = Int32.ofInt 22 → ((((eXs E).getD (ix i) 0) &&& 63) = Int32.ofInt 23 → WP E mL_law 867 [some (.ref 1000), some (.ref 0), some (.ref 60), some (.int i)] [] h (qI Q)) ∧ (¬ (((eXs E).getD (ix i) 0) &&& 63) = Int32.ofInt 23 → ((((eXs E).getD (ix i) 0) &&& 63) = Int32.ofInt 24 → WP E mL_law 890 [some (.ref 1000), some (.ref 0), some (.ref 60), some (.int i)] [] h (qI Q)) ∧ (¬ (((eXs E).getD (ix i) 0) &&& 63) = Int32.ofInt 24 → ((((eXs E).getD (ix i) 0) &&& 63) = Int32.ofInt 25 → WP E mL_law 923 [some (.ref 1000), some (.ref 0), some (.ref 60), some (.int i)] [] h (qI Q)) ∧ (¬ (((eXs E).getD (ix i) 0) &&& 63) = Int32.ofInt 25 → ((((eXs E).getD (ix i) 0) &&& 63) = Int32.ofInt 26 → WP E mL_law 966 [some (.ref 1000), some (.ref 0), some (.ref 60), some (.int i)] [] h (qI Q)) ∧ (¬ (((eXs E).getD (ix i) 0) &&& 63) = Int32.ofInt 26 → ((((eXs E).getD (ix i) 0) &&& 63) = Int32.ofInt 27 → WP E mL_law 999 [some (.ref 1000), some (.ref 0), some (.ref 60), some (.int i)] [] h (qI Q)) ∧ (¬ (((eXs E).getD (ix i) 0) &&& 63) = Int32.ofInt 27 → ((((eXs E).getD (ix i) 0) &&& 63) = Int32.ofInt 28 → WP E mL_law 1022 [some (.ref 1000), some (.ref 0), some (.ref 60), some (.int i)] [] h (qI Q)) ∧ (¬ (((eXs E).getD (ix i) 0) &&& 63) = Int32.ofInt 28 → ((((eXs E).getD (ix i) 0) &&& 63) = Int32.ofInt 29 → WP E mL_law 1055 [some (.ref 1000), some (.ref 0), some (.ref 60), some (.int i)] [] h (qI Q)) ∧ (¬ (((eXs E).getD (ix i) 0) &&& 63) = Int32.ofInt 29 → ((((eXs E).getD (ix i) 0) &&& 63) = Int32.ofInt 30 → WP E mL_law 1079 [some (.ref 1000), some (.ref 0), some (.ref 60), some (.int i)] [] h (qI Q)) ∧ (¬ (((eXs E).getD (ix i) 0) &&& 63) = Int32.ofInt 30 → ((((eXs E).getD (ix i) 0) &&& 63) = Int32.ofInt 31 → WP E mL_law 1092 [some (.ref 1000), some (.ref 0), some (.ref 60), some (.int i)] [] h (qI Q)) ∧ (¬ (((eXs E).getD (ix i) 0) &&& 63) = Int32.ofInt 31 → ((((eXs E).getD (ix i) 0) &&& 63) = Int32.ofInt 32 → WP E mL_law 1126 [some (.ref 1000), some (.ref 0), some (.ref 60), some (.int i)] [] h (qI Q)) ∧ (¬ (((eXs E).getD (ix i) 0) &&& 63) = Int32.ofInt 32 → ((((eXs E).getD (ix i) 0) &&& 63) = Int32.ofInt 33 → WP E mL_law 1159 [some (.ref 1000), some (.ref 0), some (.ref 60), some (.int i)] [] h (qI Q)) ∧ (¬ (((eXs E).getD (ix i) 0) &&& 63) = Int32.ofInt 33 → ((((eXs E).getD (ix i) 0) &&& 63) = Int32.ofInt 34 → WP E mL_law 1182 [some (.ref 1000), some (.ref 0), some (.ref 60), some (.int i)] [] h (qI Q)) ∧ (¬ (((eXs E).getD (ix i) 0) &&& 63) = Int32.ofInt 34 → ((((eXs E).getD (ix i) 0) &&& 63) = Int32.ofInt 35 → WP E mL_law 1205 [some (.ref 1000), some (.ref 0), some (.ref 60), some (.int i)] [] h (qI Q)) ∧ (¬ (((eXs E).getD (ix i) 0) &&& 63) = Int32.ofInt 35 → ((((eXs E).getD (ix i) 0) &&& 63) = Int32.ofInt 36 → WP E mL_law 1218 [some (.ref 1000), some (.ref 0), some (.ref 60), some (.int i)] [] h (qI Q)) ∧ (¬ (((eXs E).getD (ix i) 0) &&& 63) = Int32.ofInt 36 → ((((eXs E).getD (ix i) 0) &&& 63) = Int32.ofInt 37 → WP E mL_law 1261 [some (.ref 1000), some (.ref 0), some (.ref 60), some (.int i)] [] h (qI Q)) ∧ (¬ (((eXs E).getD (ix i) 0) &&& 63) = Int32.ofInt 37 → ((((eXs E).getD (ix i) 0) &&& 63) = Int32.ofInt 38 → WP E mL_law 1274 [some (.ref 1000), some (.ref 0), some (.ref 60), some (.int i)] [] h (qI Q)) ∧ (¬ (((eXs E).getD (ix i) 0) &&& 63) = Int32.ofInt 38 → ((((eXs E).getD (ix i) 0) &&& 63) = Int32.ofInt 39 → WP E mL_law 1287 [some (.ref 1000), some (.ref 0), some (.ref 60), some (.int i)] [] h (qI Q)) ∧ (¬ (((eXs E).getD (ix i) 0) &&& 63) = Int32.ofInt 39 → WP E mL_law 1310 [some (.ref 1000), some (.ref 0), some (.ref 60), some (.int i)] [] h (qI Q)))))))))))))))))))))))))))))))))))))))))))) :
    WP E mL_law 18 [some (.ref 1000), some (.ref 0), some (.ref 60), some (.int i)] [] h (qI Q) := wp_sound lcut kk_0 13 hF
set_option maxRecDepth 100000 in
set_option maxHeartbeats 4000000 in
theorem fL_c0 {E : XE} {h : Mem} {Q : Int32 → Mem → Prop} {i : Int32}
    (hF : cnd (inb (i + 1) (eXs E).length) (CALLI E mC_letter [.ref 0, .int ((eXs E).getD (ix (i + 1)) 0)] h fun v1 h1 => cnd (inb (i + 1) (eXs E).length) (CALLI E mM_letter [.ref 60, .int ((eXs E).getD (ix (i + 1)) 0)] h1 fun v2 h2 => (v1 = v2 → WP E mL_law 1310 [some (.ref 1000), some (.ref 0), some (.ref 60), some (.int i)] [] h2 (qI Q)) ∧ (¬ v1 = v2 → Q 0 h2)))) :
    WP E mL_law 208 [some (.ref 1000), some (.ref 0), some (.ref 60), some (.int i)] [] h (qI Q) := wp_sound lcut kk_0 18 hF
set_option maxRecDepth 100000 in
set_option maxHeartbeats 4000000 in
theorem fL_c1 {E : XE} {h : Mem} {Q : Int32 → Mem → Prop} {i : Int32}
    (hF : CALLI E mC_tells [.ref 0] h fun v1 h1 => CALLI E mM_tells [.ref 60] h1 fun v2 h2 => (v1 = v2 → WP E mL_law 1310 [some (.ref 1000), some (.ref 0), some (.ref 60), some (.int i)] [] h2 (qI Q)) ∧ (¬ v1 = v2 → Q 0 h2)) :
    WP E mL_law 231 [some (.ref 1000), some (.ref 0), some (.ref 60), some (.int i)] [] h (qI Q) := wp_sound lcut kk_0 8 hF
set_option maxRecDepth 100000 in
set_option maxHeartbeats 4000000 in
theorem fL_c2 {E : XE} {h : Mem} {Q : Int32 → Mem → Prop} {i : Int32}
    (hF : cnd (inb (i + 1) (eXs E).length) (cnd (inb (i + 2) (eXs E).length) (cnd (inb (i + 3) (eXs E).length) (CALLI E mC_tasks [.ref 0, .int ((eXs E).getD (ix (i + 1)) 0), .int ((eXs E).getD (ix (i + 2)) 0), .int ((eXs E).getD (ix (i + 3)) 0)] h fun v1 h1 => cnd (inb (i + 1) (eXs E).length) (cnd (inb (i + 2) (eXs E).length) (cnd (inb (i + 3) (eXs E).length) (CALLI E mM_tasks [.ref 60, .int ((eXs E).getD (ix (i + 1)) 0), .int ((eXs E).getD (ix (i + 2)) 0), .int ((eXs E).getD (ix (i + 3)) 0)] h1 fun v2 h2 => (v1 = v2 → WP E mL_law 1310 [some (.ref 1000), some (.ref 0), some (.ref 60), some (.int i)] [] h2 (qI Q)) ∧ (¬ v1 = v2 → Q 0 h2)))))))) :
    WP E mL_law 244 [some (.ref 1000), some (.ref 0), some (.ref 60), some (.int i)] [] h (qI Q) := wp_sound lcut kk_0 38 hF
set_option maxRecDepth 100000 in
set_option maxHeartbeats 4000000 in
theorem fL_c3 {E : XE} {h : Mem} {Q : Int32 → Mem → Prop} {i : Int32}
    (hF : cnd (inb (i + 1) (eXs E).length) (CALLI E mC_turns [.ref 0, .int ((eXs E).getD (ix (i + 1)) 0)] h fun v1 h1 => cnd (inb (i + 1) (eXs E).length) (CALLI E mM_turns [.ref 60, .int ((eXs E).getD (ix (i + 1)) 0)] h1 fun v2 h2 => (v1 = v2 → WP E mL_law 1310 [some (.ref 1000), some (.ref 0), some (.ref 60), some (.int i)] [] h2 (qI Q)) ∧ (¬ v1 = v2 → Q 0 h2)))) :
    WP E mL_law 287 [some (.ref 1000), some (.ref 0), some (.ref 60), some (.int i)] [] h (qI Q) := wp_sound lcut kk_0 18 hF
set_option maxRecDepth 100000 in
set_option maxHeartbeats 4000000 in
theorem fL_c4 {E : XE} {h : Mem} {Q : Int32 → Mem → Prop} {i : Int32}
    (hF : cnd (inb (i + 1) (eXs E).length) (cnd (inb (i + 2) (eXs E).length) (CALLI E mC_offset [.ref 0, .int ((eXs E).getD (ix (i + 1)) 0), .int ((eXs E).getD (ix (i + 2)) 0)] h fun v1 h1 => cnd (inb (i + 1) (eXs E).length) (cnd (inb (i + 2) (eXs E).length) (CALLI E mM_offset [.ref 60, .int ((eXs E).getD (ix (i + 1)) 0), .int ((eXs E).getD (ix (i + 2)) 0)] h1 fun v2 h2 => (v1 = v2 → WP E mL_law 1310 [some (.ref 1000), some (.ref 0), some (.ref 60), some (.int i)] [] h2 (qI Q)) ∧ (¬ v1 = v2 → Q 0 h2)))))) :
    WP E mL_law 310 [some (.ref 1000), some (.ref 0), some (.ref 60), some (.int i)] [] h (qI Q) := wp_sound lcut kk_0 28 hF
set_option maxRecDepth 100000 in
set_option maxHeartbeats 4000000 in
theorem fL_c5 {E : XE} {h : Mem} {Q : Int32 → Mem → Prop} {i : Int32}
    (hF : cnd (inb (i + 1) (eXs E).length) (cnd (inb (i + 2) (eXs E).length) (CALLI E mC_rank [.ref 0, .int ((eXs E).getD (ix (i + 1)) 0), .int ((eXs E).getD (ix (i + 2)) 0)] h fun v1 h1 => cnd (inb (i + 1) (eXs E).length) (cnd (inb (i + 2) (eXs E).length) (CALLI E mM_rank [.ref 60, .int ((eXs E).getD (ix (i + 1)) 0), .int ((eXs E).getD (ix (i + 2)) 0)] h1 fun v2 h2 => (v1 = v2 → WP E mL_law 1310 [some (.ref 1000), some (.ref 0), some (.ref 60), some (.int i)] [] h2 (qI Q)) ∧ (¬ v1 = v2 → Q 0 h2)))))) :
    WP E mL_law 343 [some (.ref 1000), some (.ref 0), some (.ref 60), some (.int i)] [] h (qI Q) := wp_sound lcut kk_0 28 hF
set_option maxRecDepth 100000 in
set_option maxHeartbeats 4000000 in
theorem fL_c6 {E : XE} {h : Mem} {Q : Int32 → Mem → Prop} {i : Int32}
    (hF : cnd (inb (i + 1) (eXs E).length) (cnd (inb (i + 2) (eXs E).length) (CALLI E mC_cost [.ref 0, .int ((eXs E).getD (ix (i + 1)) 0), .int ((eXs E).getD (ix (i + 2)) 0)] h fun v1 h1 => cnd (inb (i + 1) (eXs E).length) (cnd (inb (i + 2) (eXs E).length) (CALLI E mM_cost [.ref 60, .int ((eXs E).getD (ix (i + 1)) 0), .int ((eXs E).getD (ix (i + 2)) 0)] h1 fun v2 h2 => (v1 = v2 → WP E mL_law 1310 [some (.ref 1000), some (.ref 0), some (.ref 60), some (.int i)] [] h2 (qI Q)) ∧ (¬ v1 = v2 → Q 0 h2)))))) :
    WP E mL_law 376 [some (.ref 1000), some (.ref 0), some (.ref 60), some (.int i)] [] h (qI Q) := wp_sound lcut kk_0 28 hF
set_option maxRecDepth 100000 in
set_option maxHeartbeats 4000000 in
theorem fL_c7 {E : XE} {h : Mem} {Q : Int32 → Mem → Prop} {i : Int32}
    (hF : cnd (inb (i + 1) (eXs E).length) (cnd (inb (i + 2) (eXs E).length) (cnd (inb (i + 3) (eXs E).length) (CALLI E mC_kind [.ref 0, .int ((eXs E).getD (ix (i + 1)) 0), .int ((eXs E).getD (ix (i + 2)) 0), .int ((eXs E).getD (ix (i + 3)) 0)] h fun v1 h1 => cnd (inb (i + 1) (eXs E).length) (cnd (inb (i + 2) (eXs E).length) (cnd (inb (i + 3) (eXs E).length) (CALLI E mM_kind [.ref 60, .int ((eXs E).getD (ix (i + 1)) 0), .int ((eXs E).getD (ix (i + 2)) 0), .int ((eXs E).getD (ix (i + 3)) 0)] h1 fun v2 h2 => (v1 = v2 → WP E mL_law 1310 [some (.ref 1000), some (.ref 0), some (.ref 60), some (.int i)] [] h2 (qI Q)) ∧ (¬ v1 = v2 → Q 0 h2)))))))) :
    WP E mL_law 409 [some (.ref 1000), some (.ref 0), some (.ref 60), some (.int i)] [] h (qI Q) := wp_sound lcut kk_0 38 hF
set_option maxRecDepth 100000 in
set_option maxHeartbeats 4000000 in
theorem fL_c8 {E : XE} {h : Mem} {Q : Int32 → Mem → Prop} {i : Int32}
    (hF : cnd (inb (i + 1) (eXs E).length) (cnd (inb (i + 2) (eXs E).length) (cnd (inb (i + 3) (eXs E).length) (CALLI E mC_holds [.ref 0, .int ((eXs E).getD (ix (i + 1)) 0), .int ((eXs E).getD (ix (i + 2)) 0), .int ((eXs E).getD (ix (i + 3)) 0)] h fun v1 h1 => cnd (inb (i + 1) (eXs E).length) (cnd (inb (i + 2) (eXs E).length) (cnd (inb (i + 3) (eXs E).length) (CALLI E mM_holds [.ref 60, .int ((eXs E).getD (ix (i + 1)) 0), .int ((eXs E).getD (ix (i + 2)) 0), .int ((eXs E).getD (ix (i + 3)) 0)] h1 fun v2 h2 => (v1 = v2 → WP E mL_law 1310 [some (.ref 1000), some (.ref 0), some (.ref 60), some (.int i)] [] h2 (qI Q)) ∧ (¬ v1 = v2 → Q 0 h2)))))))) :
    WP E mL_law 452 [some (.ref 1000), some (.ref 0), some (.ref 60), some (.int i)] [] h (qI Q) := wp_sound lcut kk_0 38 hF
set_option maxRecDepth 100000 in
set_option maxHeartbeats 4000000 in
theorem fL_c9 {E : XE} {h : Mem} {Q : Int32 → Mem → Prop} {i : Int32}
    (hF : cnd (inb (i + 1) (eXs E).length) (cnd (inb (i + 2) (eXs E).length) (CALLI E mC_task [.ref 0, .int ((eXs E).getD (ix (i + 1)) 0), .int ((eXs E).getD (ix (i + 2)) 0)] h fun v1 h1 => cnd (inb (i + 1) (eXs E).length) (cnd (inb (i + 2) (eXs E).length) (CALLI E mM_task [.ref 60, .int ((eXs E).getD (ix (i + 1)) 0), .int ((eXs E).getD (ix (i + 2)) 0)] h1 fun v2 h2 => (v1 = v2 → WP E mL_law 1310 [some (.ref 1000), some (.ref 0), some (.ref 60), some (.int i)] [] h2 (qI Q)) ∧ (¬ v1 = v2 → Q 0 h2)))))) :
    WP E mL_law 495 [some (.ref 1000), some (.ref 0), some (.ref 60), some (.int i)] [] h (qI Q) := wp_sound lcut kk_0 28 hF
set_option maxRecDepth 100000 in
set_option maxHeartbeats 4000000 in
theorem fL_c10 {E : XE} {h : Mem} {Q : Int32 → Mem → Prop} {i : Int32}
    (hF : cnd (inb (i + 1) (eXs E).length) (cnd (inb (i + 2) (eXs E).length) (CALLI E mC_asked [.ref 0, .int ((eXs E).getD (ix (i + 1)) 0), .int ((eXs E).getD (ix (i + 2)) 0)] h fun v1 h1 => cnd (inb (i + 1) (eXs E).length) (cnd (inb (i + 2) (eXs E).length) (CALLI E mM_asked [.ref 60, .int ((eXs E).getD (ix (i + 1)) 0), .int ((eXs E).getD (ix (i + 2)) 0)] h1 fun v2 h2 => (v1 = v2 → WP E mL_law 1310 [some (.ref 1000), some (.ref 0), some (.ref 60), some (.int i)] [] h2 (qI Q)) ∧ (¬ v1 = v2 → Q 0 h2)))))) :
    WP E mL_law 528 [some (.ref 1000), some (.ref 0), some (.ref 60), some (.int i)] [] h (qI Q) := wp_sound lcut kk_0 28 hF
set_option maxRecDepth 100000 in
set_option maxHeartbeats 4000000 in
theorem fL_c11 {E : XE} {h : Mem} {Q : Int32 → Mem → Prop} {i : Int32}
    (hF : cnd (inb (i + 1) (eXs E).length) (cnd (inb (i + 2) (eXs E).length) (CALLI E mC_owed [.ref 0, .int ((eXs E).getD (ix (i + 1)) 0), .int ((eXs E).getD (ix (i + 2)) 0)] h fun v1 h1 => cnd (inb (i + 1) (eXs E).length) (cnd (inb (i + 2) (eXs E).length) (CALLI E mM_owed [.ref 60, .int ((eXs E).getD (ix (i + 1)) 0), .int ((eXs E).getD (ix (i + 2)) 0)] h1 fun v2 h2 => (v1 = v2 → WP E mL_law 1310 [some (.ref 1000), some (.ref 0), some (.ref 60), some (.int i)] [] h2 (qI Q)) ∧ (¬ v1 = v2 → Q 0 h2)))))) :
    WP E mL_law 561 [some (.ref 1000), some (.ref 0), some (.ref 60), some (.int i)] [] h (qI Q) := wp_sound lcut kk_0 28 hF
set_option maxRecDepth 100000 in
set_option maxHeartbeats 4000000 in
theorem fL_c12 {E : XE} {h : Mem} {Q : Int32 → Mem → Prop} {i : Int32}
    (hF : cnd (inb (i + 1) (eXs E).length) (CALLI E mC_demand [.ref 0, .int ((eXs E).getD (ix (i + 1)) 0)] h fun v1 h1 => cnd (inb (i + 1) (eXs E).length) (CALLI E mM_demand [.ref 60, .int ((eXs E).getD (ix (i + 1)) 0)] h1 fun v2 h2 => (v1 = v2 → WP E mL_law 1310 [some (.ref 1000), some (.ref 0), some (.ref 60), some (.int i)] [] h2 (qI Q)) ∧ (¬ v1 = v2 → Q 0 h2)))) :
    WP E mL_law 594 [some (.ref 1000), some (.ref 0), some (.ref 60), some (.int i)] [] h (qI Q) := wp_sound lcut kk_0 18 hF
set_option maxRecDepth 100000 in
set_option maxHeartbeats 4000000 in
theorem fL_c13 {E : XE} {h : Mem} {Q : Int32 → Mem → Prop} {i : Int32}
    (hF : CALLI E mC_busy [.ref 0] h fun v1 h1 => CALLI E mM_busy [.ref 60] h1 fun v2 h2 => (v1 = v2 → WP E mL_law 1310 [some (.ref 1000), some (.ref 0), some (.ref 60), some (.int i)] [] h2 (qI Q)) ∧ (¬ v1 = v2 → Q 0 h2)) :
    WP E mL_law 617 [some (.ref 1000), some (.ref 0), some (.ref 60), some (.int i)] [] h (qI Q) := wp_sound lcut kk_0 8 hF
set_option maxRecDepth 100000 in
set_option maxHeartbeats 4000000 in
theorem fL_c14 {E : XE} {h : Mem} {Q : Int32 → Mem → Prop} {i : Int32}
    (hF : cnd (inb (i + 1) (eXs E).length) (CALLI E mC_point [.ref 0, .int ((eXs E).getD (ix (i + 1)) 0)] h fun v1 h1 => cnd (inb (i + 1) (eXs E).length) (CALLI E mM_point [.ref 60, .int ((eXs E).getD (ix (i + 1)) 0)] h1 fun v2 h2 => (v1 = v2 → WP E mL_law 1310 [some (.ref 1000), some (.ref 0), some (.ref 60), some (.int i)] [] h2 (qI Q)) ∧ (¬ v1 = v2 → Q 0 h2)))) :
    WP E mL_law 630 [some (.ref 1000), some (.ref 0), some (.ref 60), some (.int i)] [] h (qI Q) := wp_sound lcut kk_0 18 hF
set_option maxRecDepth 100000 in
set_option maxHeartbeats 4000000 in
theorem fL_c15 {E : XE} {h : Mem} {Q : Int32 → Mem → Prop} {i : Int32}
    (hF : CALLI E mC_miss [.ref 0] h fun v1 h1 => CALLI E mM_miss [.ref 60] h1 fun v2 h2 => (v1 = v2 → WP E mL_law 1310 [some (.ref 1000), some (.ref 0), some (.ref 60), some (.int i)] [] h2 (qI Q)) ∧ (¬ v1 = v2 → Q 0 h2)) :
    WP E mL_law 653 [some (.ref 1000), some (.ref 0), some (.ref 60), some (.int i)] [] h (qI Q) := wp_sound lcut kk_0 8 hF
set_option maxRecDepth 100000 in
set_option maxHeartbeats 4000000 in
theorem fL_c16 {E : XE} {h : Mem} {Q : Int32 → Mem → Prop} {i : Int32}
    (hF : CALLI E mC_spare [.ref 0] h fun v1 h1 => CALLI E mM_spare [.ref 60] h1 fun v2 h2 => (v1 = v2 → WP E mL_law 1310 [some (.ref 1000), some (.ref 0), some (.ref 60), some (.int i)] [] h2 (qI Q)) ∧ (¬ v1 = v2 → Q 0 h2)) :
    WP E mL_law 666 [some (.ref 1000), some (.ref 0), some (.ref 60), some (.int i)] [] h (qI Q) := wp_sound lcut kk_0 8 hF
set_option maxRecDepth 100000 in
set_option maxHeartbeats 4000000 in
theorem fL_c17 {E : XE} {h : Mem} {Q : Int32 → Mem → Prop} {i : Int32}
    (hF : cnd (inb (i + 1) (eXs E).length) (cnd (inb (i + 2) (eXs E).length) (CALLI E mC_order [.ref 0, .int ((eXs E).getD (ix (i + 1)) 0), .int ((eXs E).getD (ix (i + 2)) 0)] h fun v1 h1 => cnd (inb (i + 1) (eXs E).length) (cnd (inb (i + 2) (eXs E).length) (CALLI E mM_order [.ref 60, .int ((eXs E).getD (ix (i + 1)) 0), .int ((eXs E).getD (ix (i + 2)) 0)] h1 fun v2 h2 => (v1 = v2 → WP E mL_law 1310 [some (.ref 1000), some (.ref 0), some (.ref 60), some (.int i)] [] h2 (qI Q)) ∧ (¬ v1 = v2 → Q 0 h2)))))) :
    WP E mL_law 679 [some (.ref 1000), some (.ref 0), some (.ref 60), some (.int i)] [] h (qI Q) := wp_sound lcut kk_0 28 hF
set_option maxRecDepth 100000 in
set_option maxHeartbeats 4000000 in
theorem fL_c18 {E : XE} {h : Mem} {Q : Int32 → Mem → Prop} {i : Int32}
    (hF : cnd (inb (i + 1) (eXs E).length) (cnd (inb (i + 2) (eXs E).length) (CALLI E mC_ceiling [.ref 0, .int ((eXs E).getD (ix (i + 1)) 0), .int ((eXs E).getD (ix (i + 2)) 0)] h fun v1 h1 => cnd (inb (i + 1) (eXs E).length) (cnd (inb (i + 2) (eXs E).length) (CALLI E mM_ceiling [.ref 60, .int ((eXs E).getD (ix (i + 1)) 0), .int ((eXs E).getD (ix (i + 2)) 0)] h1 fun v2 h2 => (v1 = v2 → WP E mL_law 1310 [some (.ref 1000), some (.ref 0), some (.ref 60), some (.int i)] [] h2 (qI Q)) ∧ (¬ v1 = v2 → Q 0 h2)))))) :
    WP E mL_law 712 [some (.ref 1000), some (.ref 0), some (.ref 60), some (.int i)] [] h (qI Q) := wp_sound lcut kk_0 28 hF
set_option maxRecDepth 100000 in
set_option maxHeartbeats 4000000 in
theorem fL_c19 {E : XE} {h : Mem} {Q : Int32 → Mem → Prop} {i : Int32}
    (hF : cnd (inb (i + 1) (eXs E).length) (cnd (inb (i + 2) (eXs E).length) (CALLI E mC_blocking [.ref 0, .int ((eXs E).getD (ix (i + 1)) 0), .int ((eXs E).getD (ix (i + 2)) 0)] h fun v1 h1 => cnd (inb (i + 1) (eXs E).length) (cnd (inb (i + 2) (eXs E).length) (CALLI E mM_blocking [.ref 60, .int ((eXs E).getD (ix (i + 1)) 0), .int ((eXs E).getD (ix (i + 2)) 0)] h1 fun v2 h2 => (v1 = v2 → WP E mL_law 1310 [some (.ref 1000), some (.ref 0), some (.ref 60), some (.int i)] [] h2 (qI Q)) ∧ (¬ v1 = v2 → Q 0 h2)))))) :
    WP E mL_law 745 [some (.ref 1000), some (.ref 0), some (.ref 60), some (.int i)] [] h (qI Q) := wp_sound lcut kk_0 28 hF
set_option maxRecDepth 100000 in
set_option maxHeartbeats 4000000 in
theorem fL_c20 {E : XE} {h : Mem} {Q : Int32 → Mem → Prop} {i : Int32}
    (hF : cnd (inb (i + 1) (eXs E).length) (cnd (inb (i + 2) (eXs E).length) (CALLI E mC_response [.ref 0, .int ((eXs E).getD (ix (i + 1)) 0), .int ((eXs E).getD (ix (i + 2)) 0)] h fun v1 h1 => cnd (inb (i + 1) (eXs E).length) (cnd (inb (i + 2) (eXs E).length) (CALLI E mM_response [.ref 60, .int ((eXs E).getD (ix (i + 1)) 0), .int ((eXs E).getD (ix (i + 2)) 0)] h1 fun v2 h2 => (v1 = v2 → WP E mL_law 1310 [some (.ref 1000), some (.ref 0), some (.ref 60), some (.int i)] [] h2 (qI Q)) ∧ (¬ v1 = v2 → Q 0 h2)))))) :
    WP E mL_law 778 [some (.ref 1000), some (.ref 0), some (.ref 60), some (.int i)] [] h (qI Q) := wp_sound lcut kk_0 28 hF
set_option maxRecDepth 100000 in
set_option maxHeartbeats 4000000 in
theorem fL_c21 {E : XE} {h : Mem} {Q : Int32 → Mem → Prop} {i : Int32}
    (hF : cnd (inb (i + 1) (eXs E).length) (cnd (inb (i + 2) (eXs E).length) (CALLI E mC_rounds [.ref 0, .int ((eXs E).getD (ix (i + 1)) 0), .int ((eXs E).getD (ix (i + 2)) 0)] h fun v1 h1 => cnd (inb (i + 1) (eXs E).length) (cnd (inb (i + 2) (eXs E).length) (CALLI E mM_rounds [.ref 60, .int ((eXs E).getD (ix (i + 1)) 0), .int ((eXs E).getD (ix (i + 2)) 0)] h1 fun v2 h2 => (v1 = v2 → WP E mL_law 1310 [some (.ref 1000), some (.ref 0), some (.ref 60), some (.int i)] [] h2 (qI Q)) ∧ (¬ v1 = v2 → Q 0 h2)))))) :
    WP E mL_law 811 [some (.ref 1000), some (.ref 0), some (.ref 60), some (.int i)] [] h (qI Q) := wp_sound lcut kk_0 28 hF
set_option maxRecDepth 100000 in
set_option maxHeartbeats 4000000 in
theorem fL_c22 {E : XE} {h : Mem} {Q : Int32 → Mem → Prop} {i : Int32}
    (hF : cnd (inb (i + 1) (eXs E).length) (CALLI E mC_fits [.ref 0, .int ((eXs E).getD (ix (i + 1)) 0)] h fun v1 h1 => cnd (inb (i + 1) (eXs E).length) (CALLI E mM_fits [.ref 60, .int ((eXs E).getD (ix (i + 1)) 0)] h1 fun v2 h2 => (v1 = v2 → WP E mL_law 1310 [some (.ref 1000), some (.ref 0), some (.ref 60), some (.int i)] [] h2 (qI Q)) ∧ (¬ v1 = v2 → Q 0 h2)))) :
    WP E mL_law 844 [some (.ref 1000), some (.ref 0), some (.ref 60), some (.int i)] [] h (qI Q) := wp_sound lcut kk_0 18 hF
set_option maxRecDepth 100000 in
set_option maxHeartbeats 4000000 in
theorem fL_c23 {E : XE} {h : Mem} {Q : Int32 → Mem → Prop} {i : Int32}
    (hF : cnd (inb (i + 1) (eXs E).length) (CALLI E mC_lawful [.ref 0, .int ((eXs E).getD (ix (i + 1)) 0)] h fun v1 h1 => cnd (inb (i + 1) (eXs E).length) (CALLI E mM_lawful [.ref 60, .int ((eXs E).getD (ix (i + 1)) 0)] h1 fun v2 h2 => (v1 = v2 → WP E mL_law 1310 [some (.ref 1000), some (.ref 0), some (.ref 60), some (.int i)] [] h2 (qI Q)) ∧ (¬ v1 = v2 → Q 0 h2)))) :
    WP E mL_law 867 [some (.ref 1000), some (.ref 0), some (.ref 60), some (.int i)] [] h (qI Q) := wp_sound lcut kk_0 18 hF
set_option maxRecDepth 100000 in
set_option maxHeartbeats 4000000 in
theorem fL_c24 {E : XE} {h : Mem} {Q : Int32 → Mem → Prop} {i : Int32}
    (hF : cnd (inb (i + 1) (eXs E).length) (cnd (inb (i + 2) (eXs E).length) (CALLI E mC_run [.ref 0, .int ((eXs E).getD (ix (i + 1)) 0), .int ((eXs E).getD (ix (i + 2)) 0)] h fun v1 h1 => cnd (inb (i + 1) (eXs E).length) (cnd (inb (i + 2) (eXs E).length) (CALLI E mM_run [.ref 60, .int ((eXs E).getD (ix (i + 1)) 0), .int ((eXs E).getD (ix (i + 2)) 0)] h1 fun v2 h2 => (v1 = v2 → WP E mL_law 1310 [some (.ref 1000), some (.ref 0), some (.ref 60), some (.int i)] [] h2 (qI Q)) ∧ (¬ v1 = v2 → Q 0 h2)))))) :
    WP E mL_law 890 [some (.ref 1000), some (.ref 0), some (.ref 60), some (.int i)] [] h (qI Q) := wp_sound lcut kk_0 28 hF
set_option maxRecDepth 100000 in
set_option maxHeartbeats 4000000 in
theorem fL_c25 {E : XE} {h : Mem} {Q : Int32 → Mem → Prop} {i : Int32}
    (hF : cnd (inb (i + 1) (eXs E).length) (cnd (inb (i + 2) (eXs E).length) (cnd (inb (i + 3) (eXs E).length) (CALLI E mC_jobs [.ref 0, .int ((eXs E).getD (ix (i + 1)) 0), .int ((eXs E).getD (ix (i + 2)) 0), .int ((eXs E).getD (ix (i + 3)) 0)] h fun v1 h1 => cnd (inb (i + 1) (eXs E).length) (cnd (inb (i + 2) (eXs E).length) (cnd (inb (i + 3) (eXs E).length) (CALLI E mM_jobs [.ref 60, .int ((eXs E).getD (ix (i + 1)) 0), .int ((eXs E).getD (ix (i + 2)) 0), .int ((eXs E).getD (ix (i + 3)) 0)] h1 fun v2 h2 => (v1 = v2 → WP E mL_law 1310 [some (.ref 1000), some (.ref 0), some (.ref 60), some (.int i)] [] h2 (qI Q)) ∧ (¬ v1 = v2 → Q 0 h2)))))))) :
    WP E mL_law 923 [some (.ref 1000), some (.ref 0), some (.ref 60), some (.int i)] [] h (qI Q) := wp_sound lcut kk_0 38 hF
set_option maxRecDepth 100000 in
set_option maxHeartbeats 4000000 in
theorem fL_c26 {E : XE} {h : Mem} {Q : Int32 → Mem → Prop} {i : Int32}
    (hF : cnd (inb (i + 1) (eXs E).length) (cnd (inb (i + 2) (eXs E).length) (CALLI E mC_first [.ref 0, .int ((eXs E).getD (ix (i + 1)) 0), .int ((eXs E).getD (ix (i + 2)) 0)] h fun v1 h1 => cnd (inb (i + 1) (eXs E).length) (cnd (inb (i + 2) (eXs E).length) (CALLI E mM_first [.ref 60, .int ((eXs E).getD (ix (i + 1)) 0), .int ((eXs E).getD (ix (i + 2)) 0)] h1 fun v2 h2 => (v1 = v2 → WP E mL_law 1310 [some (.ref 1000), some (.ref 0), some (.ref 60), some (.int i)] [] h2 (qI Q)) ∧ (¬ v1 = v2 → Q 0 h2)))))) :
    WP E mL_law 966 [some (.ref 1000), some (.ref 0), some (.ref 60), some (.int i)] [] h (qI Q) := wp_sound lcut kk_0 28 hF
set_option maxRecDepth 100000 in
set_option maxHeartbeats 4000000 in
theorem fL_c27 {E : XE} {h : Mem} {Q : Int32 → Mem → Prop} {i : Int32}
    (hF : cnd (inb (i + 1) (eXs E).length) (CALLI E mC_slack [.ref 0, .int ((eXs E).getD (ix (i + 1)) 0)] h fun v1 h1 => cnd (inb (i + 1) (eXs E).length) (CALLI E mM_slack [.ref 60, .int ((eXs E).getD (ix (i + 1)) 0)] h1 fun v2 h2 => (v1 = v2 → WP E mL_law 1310 [some (.ref 1000), some (.ref 0), some (.ref 60), some (.int i)] [] h2 (qI Q)) ∧ (¬ v1 = v2 → Q 0 h2)))) :
    WP E mL_law 999 [some (.ref 1000), some (.ref 0), some (.ref 60), some (.int i)] [] h (qI Q) := wp_sound lcut kk_0 18 hF
set_option maxRecDepth 100000 in
set_option maxHeartbeats 4000000 in
theorem fL_c28 {E : XE} {h : Mem} {Q : Int32 → Mem → Prop} {i : Int32}
    (hF : cnd (inb (i + 1) (eXs E).length) (cnd (inb (i + 2) (eXs E).length) (CALLI E mC_slackBy [.ref 0, .int ((eXs E).getD (ix (i + 1)) 0), .int ((eXs E).getD (ix (i + 2)) 0)] h fun v1 h1 => cnd (inb (i + 1) (eXs E).length) (cnd (inb (i + 2) (eXs E).length) (CALLI E mM_slackBy [.ref 60, .int ((eXs E).getD (ix (i + 1)) 0), .int ((eXs E).getD (ix (i + 2)) 0)] h1 fun v2 h2 => (v1 = v2 → WP E mL_law 1310 [some (.ref 1000), some (.ref 0), some (.ref 60), some (.int i)] [] h2 (qI Q)) ∧ (¬ v1 = v2 → Q 0 h2)))))) :
    WP E mL_law 1022 [some (.ref 1000), some (.ref 0), some (.ref 60), some (.int i)] [] h (qI Q) := wp_sound lcut kk_0 28 hF
set_option maxRecDepth 100000 in
set_option maxHeartbeats 4000000 in
theorem fL_c29 {E : XE} {h : Mem} {Q : Int32 → Mem → Prop} {i : Int32}
    (hF : cnd (inb (i + 1) (eXs E).length) (CALLL E mC_load [.ref 0, .int ((eXs E).getD (ix (i + 1)) 0)] h fun v1 h1 => cnd (inb (i + 1) (eXs E).length) (CALLL E mM_load [.ref 60, .int ((eXs E).getD (ix (i + 1)) 0)] h1 fun v2 h2 => ((lg_cmp v1 v2) = 0 → WP E mL_law 1310 [some (.ref 1000), some (.ref 0), some (.ref 60), some (.int i)] [] h2 (qI Q)) ∧ (¬ (lg_cmp v1 v2) = 0 → Q 0 h2)))) :
    WP E mL_law 1055 [some (.ref 1000), some (.ref 0), some (.ref 60), some (.int i)] [] h (qI Q) := wp_sound lcut kk_0 19 hF
set_option maxRecDepth 100000 in
set_option maxHeartbeats 4000000 in
theorem fL_c30 {E : XE} {h : Mem} {Q : Int32 → Mem → Prop} {i : Int32}
    (hF : CALLI E mC_anew [.ref 0] h fun v1 h1 => CALLI E mM_anew [.ref 60] h1 fun v2 h2 => (v1 = v2 → WP E mL_law 1310 [some (.ref 1000), some (.ref 0), some (.ref 60), some (.int i)] [] h2 (qI Q)) ∧ (¬ v1 = v2 → Q 0 h2)) :
    WP E mL_law 1079 [some (.ref 1000), some (.ref 0), some (.ref 60), some (.int i)] [] h (qI Q) := wp_sound lcut kk_0 8 hF
set_option maxRecDepth 100000 in
set_option maxHeartbeats 4000000 in
theorem fL_c31 {E : XE} {h : Mem} {Q : Int32 → Mem → Prop} {i : Int32}
    (hF : cnd (inb (i + 1) (eXs E).length) (cnd (inb (i + 2) (eXs E).length) (CALLL E mC_missing [.ref 0, .int ((eXs E).getD (ix (i + 1)) 0), .int ((eXs E).getD (ix (i + 2)) 0)] h fun v1 h1 => cnd (inb (i + 1) (eXs E).length) (cnd (inb (i + 2) (eXs E).length) (CALLL E mM_missing [.ref 60, .int ((eXs E).getD (ix (i + 1)) 0), .int ((eXs E).getD (ix (i + 2)) 0)] h1 fun v2 h2 => ((lg_cmp v1 v2) = 0 → WP E mL_law 1310 [some (.ref 1000), some (.ref 0), some (.ref 60), some (.int i)] [] h2 (qI Q)) ∧ (¬ (lg_cmp v1 v2) = 0 → Q 0 h2)))))) :
    WP E mL_law 1092 [some (.ref 1000), some (.ref 0), some (.ref 60), some (.int i)] [] h (qI Q) := wp_sound lcut kk_0 29 hF
set_option maxRecDepth 100000 in
set_option maxHeartbeats 4000000 in
theorem fL_c32 {E : XE} {h : Mem} {Q : Int32 → Mem → Prop} {i : Int32}
    (hF : cnd (inb (i + 1) (eXs E).length) (cnd (inb (i + 2) (eXs E).length) (CALLI E mC_whatIs [.ref 0, .int ((eXs E).getD (ix (i + 1)) 0), .int ((eXs E).getD (ix (i + 2)) 0)] h fun v1 h1 => cnd (inb (i + 1) (eXs E).length) (cnd (inb (i + 2) (eXs E).length) (CALLI E mM_whatIs [.ref 60, .int ((eXs E).getD (ix (i + 1)) 0), .int ((eXs E).getD (ix (i + 2)) 0)] h1 fun v2 h2 => (v1 = v2 → WP E mL_law 1310 [some (.ref 1000), some (.ref 0), some (.ref 60), some (.int i)] [] h2 (qI Q)) ∧ (¬ v1 = v2 → Q 0 h2)))))) :
    WP E mL_law 1126 [some (.ref 1000), some (.ref 0), some (.ref 60), some (.int i)] [] h (qI Q) := wp_sound lcut kk_0 28 hF
set_option maxRecDepth 100000 in
set_option maxHeartbeats 4000000 in
theorem fL_c33 {E : XE} {h : Mem} {Q : Int32 → Mem → Prop} {i : Int32}
    (hF : cnd (inb (i + 1) (eXs E).length) (CALLI E mC_row [.ref 0, .int ((eXs E).getD (ix (i + 1)) 0)] h fun v1 h1 => cnd (inb (i + 1) (eXs E).length) (CALLI E mM_row [.ref 60, .int ((eXs E).getD (ix (i + 1)) 0)] h1 fun v2 h2 => (v1 = v2 → WP E mL_law 1310 [some (.ref 1000), some (.ref 0), some (.ref 60), some (.int i)] [] h2 (qI Q)) ∧ (¬ v1 = v2 → Q 0 h2)))) :
    WP E mL_law 1159 [some (.ref 1000), some (.ref 0), some (.ref 60), some (.int i)] [] h (qI Q) := wp_sound lcut kk_0 18 hF
set_option maxRecDepth 100000 in
set_option maxHeartbeats 4000000 in
theorem fL_c34 {E : XE} {h : Mem} {Q : Int32 → Mem → Prop} {i : Int32}
    (hF : cnd (inb (i + 1) (eXs E).length) (CALLI E mC_judge [.ref 0, .int ((eXs E).getD (ix (i + 1)) 0)] h fun v1 h1 => cnd (inb (i + 1) (eXs E).length) (CALLI E mM_judge [.ref 60, .int ((eXs E).getD (ix (i + 1)) 0)] h1 fun v2 h2 => (v1 = v2 → WP E mL_law 1310 [some (.ref 1000), some (.ref 0), some (.ref 60), some (.int i)] [] h2 (qI Q)) ∧ (¬ v1 = v2 → Q 0 h2)))) :
    WP E mL_law 1182 [some (.ref 1000), some (.ref 0), some (.ref 60), some (.int i)] [] h (qI Q) := wp_sound lcut kk_0 18 hF
set_option maxRecDepth 100000 in
set_option maxHeartbeats 4000000 in
theorem fL_c35 {E : XE} {h : Mem} {Q : Int32 → Mem → Prop} {i : Int32}
    (hF : CALLI E mC_clear [.ref 0] h fun v1 h1 => CALLI E mM_clear [.ref 60] h1 fun v2 h2 => (v1 = v2 → WP E mL_law 1310 [some (.ref 1000), some (.ref 0), some (.ref 60), some (.int i)] [] h2 (qI Q)) ∧ (¬ v1 = v2 → Q 0 h2)) :
    WP E mL_law 1205 [some (.ref 1000), some (.ref 0), some (.ref 60), some (.int i)] [] h (qI Q) := wp_sound lcut kk_0 8 hF
set_option maxRecDepth 100000 in
set_option maxHeartbeats 4000000 in
theorem fL_c36 {E : XE} {h : Mem} {Q : Int32 → Mem → Prop} {i : Int32}
    (hF : cnd (inb (i + 1) (eXs E).length) (cnd (inb (i + 2) (eXs E).length) (cnd (inb (i + 3) (eXs E).length) (CALLI E mC_lots [.ref 0, .int ((eXs E).getD (ix (i + 1)) 0), .int ((eXs E).getD (ix (i + 2)) 0), .int ((eXs E).getD (ix (i + 3)) 0)] h fun v1 h1 => cnd (inb (i + 1) (eXs E).length) (cnd (inb (i + 2) (eXs E).length) (cnd (inb (i + 3) (eXs E).length) (CALLI E mM_lots [.ref 60, .int ((eXs E).getD (ix (i + 1)) 0), .int ((eXs E).getD (ix (i + 2)) 0), .int ((eXs E).getD (ix (i + 3)) 0)] h1 fun v2 h2 => (v1 = v2 → WP E mL_law 1310 [some (.ref 1000), some (.ref 0), some (.ref 60), some (.int i)] [] h2 (qI Q)) ∧ (¬ v1 = v2 → Q 0 h2)))))))) :
    WP E mL_law 1218 [some (.ref 1000), some (.ref 0), some (.ref 60), some (.int i)] [] h (qI Q) := wp_sound lcut kk_0 38 hF
set_option maxRecDepth 100000 in
set_option maxHeartbeats 4000000 in
theorem fL_c37 {E : XE} {h : Mem} {Q : Int32 → Mem → Prop} {i : Int32}
    (hF : CALLI E mC_image [.ref 0] h fun v1 h1 => CALLI E mM_image [.ref 60] h1 fun v2 h2 => (v1 = v2 → WP E mL_law 1310 [some (.ref 1000), some (.ref 0), some (.ref 60), some (.int i)] [] h2 (qI Q)) ∧ (¬ v1 = v2 → Q 0 h2)) :
    WP E mL_law 1261 [some (.ref 1000), some (.ref 0), some (.ref 60), some (.int i)] [] h (qI Q) := wp_sound lcut kk_0 8 hF
set_option maxRecDepth 100000 in
set_option maxHeartbeats 4000000 in
theorem fL_c38 {E : XE} {h : Mem} {Q : Int32 → Mem → Prop} {i : Int32}
    (hF : CALLI E mC_on [.ref 0] h fun v1 h1 => CALLI E mM_on [.ref 60] h1 fun v2 h2 => (v1 = v2 → WP E mL_law 1310 [some (.ref 1000), some (.ref 0), some (.ref 60), some (.int i)] [] h2 (qI Q)) ∧ (¬ v1 = v2 → Q 0 h2)) :
    WP E mL_law 1274 [some (.ref 1000), some (.ref 0), some (.ref 60), some (.int i)] [] h (qI Q) := wp_sound lcut kk_0 8 hF
set_option maxRecDepth 100000 in
set_option maxHeartbeats 4000000 in
theorem fL_c39 {E : XE} {h : Mem} {Q : Int32 → Mem → Prop} {i : Int32}
    (hF : cnd (inb (i + 1) (eXs E).length) (CALLI E mC_count [.ref 0, .int ((eXs E).getD (ix (i + 1)) 0)] h fun v1 h1 => cnd (inb (i + 1) (eXs E).length) (CALLI E mM_count [.ref 60, .int ((eXs E).getD (ix (i + 1)) 0)] h1 fun v2 h2 => (v1 = v2 → WP E mL_law 1310 [some (.ref 1000), some (.ref 0), some (.ref 60), some (.int i)] [] h2 (qI Q)) ∧ (¬ v1 = v2 → Q 0 h2)))) :
    WP E mL_law 1287 [some (.ref 1000), some (.ref 0), some (.ref 60), some (.int i)] [] h (qI Q) := wp_sound lcut kk_0 18 hF
set_option maxRecDepth 100000 in
set_option maxHeartbeats 4000000 in
theorem fL_brk {E : XE} {h : Mem} {Q : Int32 → Mem → Prop} {i : Int32}
    (hF : WP E mL_law 18 [some (.ref 1000), some (.ref 0), some (.ref 60), some (.int (i + 4))] [] h (qI Q)) :
    WP E mL_law 1310 [some (.ref 1000), some (.ref 0), some (.ref 60), some (.int i)] [] h (qI Q) := wp_sound lcut kk_0 3 hF
