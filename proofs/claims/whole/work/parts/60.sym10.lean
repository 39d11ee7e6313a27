-- ===== the methods run symbolically, 10 (by program: wip/whole/gen_sym.py) =====
theorem S247_18 {X : Nat × (Int → Int)} {h : HP} {Q : bQ} (x3 : Int) (H : ((R32 ((X.1 : Int) - 6)) ∧ ((((X.1 : Int) - 6) < x3 → Q (some (vi 1)) h) ∧ (x3 ≤ ((X.1 : Int) - 6) → ((0 ≤ x3 ∧ x3 < (X.1 : Int)) ∧ ((((i32 (X.2 x3) &&& i32 31).toInt) = 0 → Wp X 2 1 0 [vr 6] [] h (fun v h' => Wp X 17 247 176 [vr 5, vr 6, vr 89, vi x3] (psh v []) h' Q)) ∧ (((i32 (X.2 x3) &&& i32 31).toInt) ≠ 0 → ((((i32 (X.2 x3) &&& i32 31).toInt) = 1 → ((R32 (x3 + 1)) ∧ ((0 ≤ (x3 + 1) ∧ (x3 + 1) < (X.1 : Int)) ∧ ((R32 (x3 + 2)) ∧ ((0 ≤ (x3 + 2) ∧ (x3 + 2) < (X.1 : Int)) ∧ ((R32 (x3 + 3)) ∧ ((0 ≤ (x3 + 3) ∧ (x3 + 3) < (X.1 : Int)) ∧ ((R32 (x3 + 4)) ∧ ((0 ≤ (x3 + 4) ∧ (x3 + 4) < (X.1 : Int)) ∧ Wp X 6 2 0 [vr 6, vi (X.2 (x3 + 1)), vi (X.2 (x3 + 2)), vi (X.2 (x3 + 3)), vi (X.2 (x3 + 4))] [] h (fun v h' => Wp X 17 247 209 [vr 5, vr 6, vr 89, vi x3] (psh v []) h' Q)))))))))) ∧ (((i32 (X.2 x3) &&& i32 31).toInt) ≠ 1 → ((((i32 (X.2 x3) &&& i32 31).toInt) = 2 → ((R32 (x3 + 1)) ∧ ((0 ≤ (x3 + 1) ∧ (x3 + 1) < (X.1 : Int)) ∧ ((R32 (x3 + 2)) ∧ ((0 ≤ (x3 + 2) ∧ (x3 + 2) < (X.1 : Int)) ∧ ((R32 (x3 + 3)) ∧ ((0 ≤ (x3 + 3) ∧ (x3 + 3) < (X.1 : Int)) ∧ Wp X 6 3 0 [vr 6, vi (X.2 (x3 + 1)), vi (X.2 (x3 + 2)), vi (X.2 (x3 + 3)), vu, vu] [] h (fun v h' => Wp X 17 247 257 [vr 5, vr 6, vr 89, vi x3] (psh v []) h' Q)))))))) ∧ (((i32 (X.2 x3) &&& i32 31).toInt) ≠ 2 → ((((i32 (X.2 x3) &&& i32 31).toInt) = 3 → ((R32 (x3 + 1)) ∧ ((0 ≤ (x3 + 1) ∧ (x3 + 1) < (X.1 : Int)) ∧ ((R32 (x3 + 2)) ∧ ((0 ≤ (x3 + 2) ∧ (x3 + 2) < (X.1 : Int)) ∧ Wp X 6 4 0 [vr 6, vi (X.2 (x3 + 1)), vi (X.2 (x3 + 2)), vu] [] h (fun v h' => Wp X 17 247 295 [vr 5, vr 6, vr 89, vi x3] (psh v []) h' Q)))))) ∧ (((i32 (X.2 x3) &&& i32 31).toInt) ≠ 3 → ((((i32 (X.2 x3) &&& i32 31).toInt) = 4 → ((R32 (x3 + 1)) ∧ ((0 ≤ (x3 + 1) ∧ (x3 + 1) < (X.1 : Int)) ∧ ((R32 (x3 + 2)) ∧ ((0 ≤ (x3 + 2) ∧ (x3 + 2) < (X.1 : Int)) ∧ Wp X 2 5 0 [vr 6, vi (X.2 (x3 + 1)), vi (X.2 (x3 + 2))] [] h (fun v h' => Wp X 17 247 328 [vr 5, vr 6, vr 89, vi x3] (psh v []) h' Q)))))) ∧ (((i32 (X.2 x3) &&& i32 31).toInt) ≠ 4 → ((((i32 (X.2 x3) &&& i32 31).toInt) = 5 → ((R32 (x3 + 1)) ∧ ((0 ≤ (x3 + 1) ∧ (x3 + 1) < (X.1 : Int)) ∧ ((R32 (x3 + 2)) ∧ ((0 ≤ (x3 + 2) ∧ (x3 + 2) < (X.1 : Int)) ∧ ((R32 (x3 + 3)) ∧ ((0 ≤ (x3 + 3) ∧ (x3 + 3) < (X.1 : Int)) ∧ Wp X 2 6 0 [vr 6, vi (X.2 (x3 + 1)), vi (X.2 (x3 + 2)), vi (X.2 (x3 + 3))] [] h (fun v h' => Wp X 17 247 366 [vr 5, vr 6, vr 89, vi x3] (psh v []) h' Q)))))))) ∧ (((i32 (X.2 x3) &&& i32 31).toInt) ≠ 5 → ((((i32 (X.2 x3) &&& i32 31).toInt) = 6 → ((R32 (x3 + 1)) ∧ ((0 ≤ (x3 + 1) ∧ (x3 + 1) < (X.1 : Int)) ∧ ((R32 (x3 + 2)) ∧ ((0 ≤ (x3 + 2) ∧ (x3 + 2) < (X.1 : Int)) ∧ Wp X 2 7 0 [vr 6, vi (X.2 (x3 + 1)), vi (X.2 (x3 + 2))] [] h (fun v h' => Wp X 17 247 405 [vr 5, vr 6, vr 89, vi x3] (psh v []) h' Q)))))) ∧ (((i32 (X.2 x3) &&& i32 31).toInt) ≠ 6 → ((((i32 (X.2 x3) &&& i32 31).toInt) = 7 → Wp X 1 8 0 [vr 6] [] h (fun v h' => Wp X 17 247 429 [vr 5, vr 6, vr 89, vi x3] (psh v []) h' Q)) ∧ (((i32 (X.2 x3) &&& i32 31).toInt) ≠ 7 → ((((i32 (X.2 x3) &&& i32 31).toInt) = 8 → ((R32 (x3 + 1)) ∧ ((0 ≤ (x3 + 1) ∧ (x3 + 1) < (X.1 : Int)) ∧ ((R32 (x3 + 2)) ∧ ((0 ≤ (x3 + 2) ∧ (x3 + 2) < (X.1 : Int)) ∧ Wp X 3 9 0 [vr 6, vi (X.2 (x3 + 1)), vi (X.2 (x3 + 2)), vu] [] h (fun v h' => Wp X 17 247 452 [vr 5, vr 6, vr 89, vi x3] (psh v []) h' Q)))))) ∧ (((i32 (X.2 x3) &&& i32 31).toInt) ≠ 8 → ((((i32 (X.2 x3) &&& i32 31).toInt) = 9 → ((R32 (x3 + 1)) ∧ ((0 ≤ (x3 + 1) ∧ (x3 + 1) < (X.1 : Int)) ∧ ((R32 (x3 + 2)) ∧ ((0 ≤ (x3 + 2) ∧ (x3 + 2) < (X.1 : Int)) ∧ Wp X 6 10 0 [vr 6, vi (X.2 (x3 + 1)), vi (X.2 (x3 + 2))] [] h (fun v h' => Wp X 17 247 485 [vr 5, vr 6, vr 89, vi x3] (psh v []) h' Q)))))) ∧ (((i32 (X.2 x3) &&& i32 31).toInt) ≠ 9 → ((((i32 (X.2 x3) &&& i32 31).toInt) = 10 → ((R32 (x3 + 1)) ∧ ((0 ≤ (x3 + 1) ∧ (x3 + 1) < (X.1 : Int)) ∧ Wp X 6 11 0 [vr 6, vi (X.2 (x3 + 1)), vu] [] h (fun v h' => Wp X 17 247 513 [vr 5, vr 6, vr 89, vi x3] (psh v []) h' Q)))) ∧ (((i32 (X.2 x3) &&& i32 31).toInt) ≠ 10 → ((((i32 (X.2 x3) &&& i32 31).toInt) = 11 → ((R32 (x3 + 1)) ∧ ((0 ≤ (x3 + 1) ∧ (x3 + 1) < (X.1 : Int)) ∧ Wp X 1 12 0 [vr 6, vi (X.2 (x3 + 1))] [] h (fun v h' => Wp X 17 247 536 [vr 5, vr 6, vr 89, vi x3] (psh v []) h' Q)))) ∧ (((i32 (X.2 x3) &&& i32 31).toInt) ≠ 11 → ((((i32 (X.2 x3) &&& i32 31).toInt) = 12 → ((R32 (x3 + 1)) ∧ ((0 ≤ (x3 + 1) ∧ (x3 + 1) < (X.1 : Int)) ∧ ((R32 (x3 + 2)) ∧ ((0 ≤ (x3 + 2) ∧ (x3 + 2) < (X.1 : Int)) ∧ Wp X 4 13 0 [vr 6, vi (X.2 (x3 + 1)), vi (X.2 (x3 + 2))] [] h (fun v h' => Wp X 17 247 564 [vr 5, vr 6, vr 89, vi x3] (psh v []) h' Q)))))) ∧ (((i32 (X.2 x3) &&& i32 31).toInt) ≠ 12 → ((((i32 (X.2 x3) &&& i32 31).toInt) = 13 → ((R32 (x3 + 1)) ∧ ((0 ≤ (x3 + 1) ∧ (x3 + 1) < (X.1 : Int)) ∧ ((R32 (x3 + 2)) ∧ ((0 ≤ (x3 + 2) ∧ (x3 + 2) < (X.1 : Int)) ∧ Wp X 15 14 0 [vr 6, vi (X.2 (x3 + 1)), vi (X.2 (x3 + 2))] [] h (fun v h' => Wp X 17 247 597 [vr 5, vr 6, vr 89, vi x3] (psh v []) h' Q)))))) ∧ (((i32 (X.2 x3) &&& i32 31).toInt) ≠ 13 → ((((i32 (X.2 x3) &&& i32 31).toInt) = 14 → ((R32 (x3 + 1)) ∧ ((0 ≤ (x3 + 1) ∧ (x3 + 1) < (X.1 : Int)) ∧ Wp X 3 15 0 [vr 6, vi (X.2 (x3 + 1)), vu] [] h (fun v h' => Wp X 17 247 625 [vr 5, vr 6, vr 89, vi x3] (psh v []) h' Q)))) ∧ (((i32 (X.2 x3) &&& i32 31).toInt) ≠ 14 → ((((i32 (X.2 x3) &&& i32 31).toInt) = 15 → ((R32 (x3 + 1)) ∧ ((0 ≤ (x3 + 1) ∧ (x3 + 1) < (X.1 : Int)) ∧ Wp X 1 16 0 [vr 6, vi (X.2 (x3 + 1))] [] h (fun v h' => Wp X 17 247 648 [vr 5, vr 6, vr 89, vi x3] (psh v []) h' Q)))) ∧ (((i32 (X.2 x3) &&& i32 31).toInt) ≠ 15 → ((((i32 (X.2 x3) &&& i32 31).toInt) = 16 → ((R32 (x3 + 1)) ∧ ((0 ≤ (x3 + 1) ∧ (x3 + 1) < (X.1 : Int)) ∧ ((R32 (x3 + 2)) ∧ ((0 ≤ (x3 + 2) ∧ (x3 + 2) < (X.1 : Int)) ∧ ((R32 (x3 + 3)) ∧ ((0 ≤ (x3 + 3) ∧ (x3 + 3) < (X.1 : Int)) ∧ ((R32 (x3 + 4)) ∧ ((0 ≤ (x3 + 4) ∧ (x3 + 4) < (X.1 : Int)) ∧ (((X.2 (x3 + 4)) = 0 → ((R32 (x3 + 5)) ∧ ((0 ≤ (x3 + 5) ∧ (x3 + 5) < (X.1 : Int)) ∧ Wp X 4 17 0 [vr 6, vi (X.2 (x3 + 1)), vi (X.2 (x3 + 2)), vi (X.2 (x3 + 3)), vi 0, vi (X.2 (x3 + 5))] [] h (fun v h' => Wp X 17 247 699 [vr 5, vr 6, vr 89, vi x3] (psh v []) h' Q)))) ∧ ((X.2 (x3 + 4)) ≠ 0 → ((R32 (x3 + 5)) ∧ ((0 ≤ (x3 + 5) ∧ (x3 + 5) < (X.1 : Int)) ∧ Wp X 4 17 0 [vr 6, vi (X.2 (x3 + 1)), vi (X.2 (x3 + 2)), vi (X.2 (x3 + 3)), vi 1, vi (X.2 (x3 + 5))] [] h (fun v h' => Wp X 17 247 699 [vr 5, vr 6, vr 89, vi x3] (psh v []) h' Q)))))))))))))) ∧ (((i32 (X.2 x3) &&& i32 31).toInt) ≠ 16 → ((((i32 (X.2 x3) &&& i32 31).toInt) = 17 → ((R32 (x3 + 1)) ∧ ((0 ≤ (x3 + 1) ∧ (x3 + 1) < (X.1 : Int)) ∧ ((R32 (x3 + 2)) ∧ ((0 ≤ (x3 + 2) ∧ (x3 + 2) < (X.1 : Int)) ∧ ((R32 (x3 + 3)) ∧ ((0 ≤ (x3 + 3) ∧ (x3 + 3) < (X.1 : Int)) ∧ Wp X 5 18 0 [vr 6, vi (X.2 (x3 + 1)), vi (X.2 (x3 + 2)), vi (X.2 (x3 + 3)), vu, vu, vu, vu] [] h (fun v h' => Wp X 17 247 761 [vr 5, vr 6, vr 89, vi x3] (psh v []) h' Q)))))))) ∧ (((i32 (X.2 x3) &&& i32 31).toInt) ≠ 17 → ((((i32 (X.2 x3) &&& i32 31).toInt) = 18 → ((R32 (x3 + 1)) ∧ ((0 ≤ (x3 + 1) ∧ (x3 + 1) < (X.1 : Int)) ∧ ((R32 (x3 + 2)) ∧ ((0 ≤ (x3 + 2) ∧ (x3 + 2) < (X.1 : Int)) ∧ ((R32 (x3 + 3)) ∧ ((0 ≤ (x3 + 3) ∧ (x3 + 3) < (X.1 : Int)) ∧ Wp X 3 19 0 [vr 6, vi (X.2 (x3 + 1)), vi (X.2 (x3 + 2)), vi (X.2 (x3 + 3))] [] h (fun v h' => Wp X 17 247 805 [vr 5, vr 6, vr 89, vi x3] (psh v []) h' Q)))))))) ∧ (((i32 (X.2 x3) &&& i32 31).toInt) ≠ 18 → ((((i32 (X.2 x3) &&& i32 31).toInt) = 19 → ((R32 (x3 + 1)) ∧ ((0 ≤ (x3 + 1) ∧ (x3 + 1) < (X.1 : Int)) ∧ Wp X 3 20 0 [vr 6, vi (X.2 (x3 + 1)), vu, vu, vu, vu] [] h (fun v h' => Wp X 17 247 839 [vr 5, vr 6, vr 89, vi x3] (psh v []) h' Q)))) ∧ (((i32 (X.2 x3) &&& i32 31).toInt) ≠ 19 → ((((i32 (X.2 x3) &&& i32 31).toInt) = 20 → ((R32 (x3 + 1)) ∧ ((0 ≤ (x3 + 1) ∧ (x3 + 1) < (X.1 : Int)) ∧ ((R32 (x3 + 2)) ∧ ((0 ≤ (x3 + 2) ∧ (x3 + 2) < (X.1 : Int)) ∧ Wp X 2 21 0 [vr 6, vi (X.2 (x3 + 1)), vi (X.2 (x3 + 2))] [] h (fun v h' => Wp X 17 247 867 [vr 5, vr 6, vr 89, vi x3] (psh v []) h' Q)))))) ∧ (((i32 (X.2 x3) &&& i32 31).toInt) ≠ 20 → ((((i32 (X.2 x3) &&& i32 31).toInt) = 21 → ((R32 (x3 + 1)) ∧ ((0 ≤ (x3 + 1) ∧ (x3 + 1) < (X.1 : Int)) ∧ Wp X 5 22 0 [vr 6, vi (X.2 (x3 + 1)), vu, vu, vu, vu] [] h (fun v h' => Wp X 17 247 895 [vr 5, vr 6, vr 89, vi x3] (psh v []) h' Q)))) ∧ (((i32 (X.2 x3) &&& i32 31).toInt) ≠ 21 → ((((i32 (X.2 x3) &&& i32 31).toInt) = 22 → ((R32 (x3 + 1)) ∧ ((0 ≤ (x3 + 1) ∧ (x3 + 1) < (X.1 : Int)) ∧ Wp X 2 23 0 [vr 6, vi (X.2 (x3 + 1))] [] h (fun v h' => Wp X 17 247 918 [vr 5, vr 6, vr 89, vi x3] (psh v []) h' Q)))) ∧ (((i32 (X.2 x3) &&& i32 31).toInt) ≠ 22 → ((((i32 (X.2 x3) &&& i32 31).toInt) = 23 → ((R32 (x3 + 1)) ∧ ((0 ≤ (x3 + 1) ∧ (x3 + 1) < (X.1 : Int)) ∧ ((R32 (x3 + 2)) ∧ ((0 ≤ (x3 + 2) ∧ (x3 + 2) < (X.1 : Int)) ∧ ((R32 (x3 + 3)) ∧ ((0 ≤ (x3 + 3) ∧ (x3 + 3) < (X.1 : Int)) ∧ Wp X 2 24 0 [vr 6, vi (X.2 (x3 + 1)), vi (X.2 (x3 + 2)), vi (X.2 (x3 + 3))] [] h (fun v h' => Wp X 17 247 951 [vr 5, vr 6, vr 89, vi x3] (psh v []) h' Q)))))))) ∧ (((i32 (X.2 x3) &&& i32 31).toInt) ≠ 23 → ((((i32 (X.2 x3) &&& i32 31).toInt) = 24 → ((R32 (x3 + 1)) ∧ ((0 ≤ (x3 + 1) ∧ (x3 + 1) < (X.1 : Int)) ∧ Wp X 1 25 0 [vr 6, vi (X.2 (x3 + 1)), vu] [] h (fun v h' => Wp X 17 247 984 [vr 5, vr 6, vr 89, vi x3] (psh v []) h' Q)))) ∧ (((i32 (X.2 x3) &&& i32 31).toInt) ≠ 24 → ((((i32 (X.2 x3) &&& i32 31).toInt) = 25 → ((R32 (x3 + 1)) ∧ ((0 ≤ (x3 + 1) ∧ (x3 + 1) < (X.1 : Int)) ∧ ((R32 (x3 + 2)) ∧ ((0 ≤ (x3 + 2) ∧ (x3 + 2) < (X.1 : Int)) ∧ ((R32 (x3 + 3)) ∧ ((0 ≤ (x3 + 3) ∧ (x3 + 3) < (X.1 : Int)) ∧ ((R32 (x3 + 4)) ∧ ((0 ≤ (x3 + 4) ∧ (x3 + 4) < (X.1 : Int)) ∧ Wp X 2 26 0 [vr 6, vi (X.2 (x3 + 1)), vi (X.2 (x3 + 2)), vi (X.2 (x3 + 3)), vi (X.2 (x3 + 4)), vu] [] h (fun v h' => Wp X 17 247 1022 [vr 5, vr 6, vr 89, vi x3] (psh v []) h' Q)))))))))) ∧ (((i32 (X.2 x3) &&& i32 31).toInt) ≠ 25 → ((((i32 (X.2 x3) &&& i32 31).toInt) = 26 → ((R32 (x3 + 1)) ∧ ((0 ≤ (x3 + 1) ∧ (x3 + 1) < (X.1 : Int)) ∧ ((R32 (x3 + 2)) ∧ ((0 ≤ (x3 + 2) ∧ (x3 + 2) < (X.1 : Int)) ∧ ((R32 (x3 + 3)) ∧ ((0 ≤ (x3 + 3) ∧ (x3 + 3) < (X.1 : Int)) ∧ Wp X 2 27 0 [vr 6, vi (X.2 (x3 + 1)), vi (X.2 (x3 + 2)), vi (X.2 (x3 + 3)), vu] [] h (fun v h' => Wp X 17 247 1070 [vr 5, vr 6, vr 89, vi x3] (psh v []) h' Q)))))))) ∧ (((i32 (X.2 x3) &&& i32 31).toInt) ≠ 26 → ((((i32 (X.2 x3) &&& i32 31).toInt) = 27 → ((R32 (x3 + 1)) ∧ ((0 ≤ (x3 + 1) ∧ (x3 + 1) < (X.1 : Int)) ∧ ((R32 (x3 + 2)) ∧ ((0 ≤ (x3 + 2) ∧ (x3 + 2) < (X.1 : Int)) ∧ ((R32 (x3 + 3)) ∧ ((0 ≤ (x3 + 3) ∧ (x3 + 3) < (X.1 : Int)) ∧ ((R32 (x3 + 4)) ∧ ((0 ≤ (x3 + 4) ∧ (x3 + 4) < (X.1 : Int)) ∧ ((R32 (x3 + 5)) ∧ ((0 ≤ (x3 + 5) ∧ (x3 + 5) < (X.1 : Int)) ∧ Wp X 2 28 0 [vr 6, vi (X.2 (x3 + 1)), vi (X.2 (x3 + 2)), vi (X.2 (x3 + 3)), vi (X.2 (x3 + 4)), vi (X.2 (x3 + 5)), vu, vu] [] h (fun v h' => Wp X 17 247 1123 [vr 5, vr 6, vr 89, vi x3] (psh v []) h' Q)))))))))))) ∧ (((i32 (X.2 x3) &&& i32 31).toInt) ≠ 27 → ((((i32 (X.2 x3) &&& i32 31).toInt) = 28 → ((R32 (x3 + 1)) ∧ ((0 ≤ (x3 + 1) ∧ (x3 + 1) < (X.1 : Int)) ∧ Wp X 3 29 0 [vr 6, vi (X.2 (x3 + 1)), vu, vu, vu] [] h (fun v h' => Wp X 17 247 1166 [vr 5, vr 6, vr 89, vi x3] (psh v []) h' Q)))) ∧ (((i32 (X.2 x3) &&& i32 31).toInt) ≠ 28 → ((((i32 (X.2 x3) &&& i32 31).toInt) = 29 → ((R32 (x3 + 1)) ∧ ((0 ≤ (x3 + 1) ∧ (x3 + 1) < (X.1 : Int)) ∧ Wp X 1 30 0 [vr 6, vi (X.2 (x3 + 1))] [] h (fun v h' => Wp X 17 247 1189 [vr 5, vr 6, vr 89, vi x3] (psh v []) h' Q)))) ∧ (((i32 (X.2 x3) &&& i32 31).toInt) ≠ 29 → ((((i32 (X.2 x3) &&& i32 31).toInt) = 30 → Wp X 16 31 0 [vr 6, vu, vu, vu, vu] [] h (fun v h' => Wp X 17 247 1207 [vr 5, vr 6, vr 89, vi x3] (psh v []) h' Q)) ∧ (((i32 (X.2 x3) &&& i32 31).toInt) ≠ 30 → ((R32 (x3 + 6)) ∧ Wp X 17 247 18 [vr 5, vr 6, vr 89, vi (x3 + 6)] [] h Q)))))))))))))))))))))))))))))))))))))))))))))))))))))))))))))))))))) : Wp X 17 247 18 [vr 5, vr 6, vr 89, vi x3] [] h Q := by
  refine wp_iload rfl rfl ?_
  refine wp_aload rfl rfl ?_
  refine wp_alen rfl ?_
  refine wp_iconst rfl ?_
  refine wp_isub rfl ?_
  have g1 := H.1
  replace H := H.2
  refine Wp.topI (y := ((X.1 : Int) - 6)) (w32_I g1) ?_
  refine wp_icgt (tn := 1223) rfl rfl (fun c2 => ?_) (fun c2 => ?_)
  · replace H := H.1 c2
    refine wp_iconst rfl ?_
    exact wp_zret rfl rfl (by decide) H
  · replace H := H.2 c2
    refine wp_aload rfl rfl ?_
    refine wp_iload rfl rfl ?_
    have g3 := H.1
    replace H := H.2
    refine wp_script rfl g3 ?_
    refine wp_iconst rfl ?_
    refine wp_iand rfl ?_
    by_cases c4 : ((i32 (X.2 x3) &&& i32 31).toInt) = 0
    · replace H := H.1 c4
      refine wp_tabIn (tn := 172) rfl (by rw [c4]; decide) (by rw [c4]; rfl) ?_
      refine wp_aload rfl rfl ?_
      exact wp_call (k := 1) (ρ2 := 2) (L2 := [vr 6]) rfl rfl rfl (Nat.le_of_ble_eq_true rfl) (Nat.le_of_ble_eq_true rfl) (Nat.le_of_ble_eq_true rfl) (rcv_V rfl (congrArg Prod.fst (kf_6 X.1))) rfl H
    replace H := H.2 c4
    by_cases c5 : ((i32 (X.2 x3) &&& i32 31).toInt) = 1
    · replace H := H.1 c5
      refine wp_tabIn (tn := 185) rfl (by rw [c5]; decide) (by rw [c5]; rfl) ?_
      refine wp_aload rfl rfl ?_
      refine wp_aload rfl rfl ?_
      refine wp_iload rfl rfl ?_
      refine wp_iconst rfl ?_
      refine wp_iadd rfl ?_
      have g6 := H.1
      replace H := H.2
      refine Wp.topI (y := (x3 + 1)) (w32_I g6) ?_
      have g7 := H.1
      replace H := H.2
      refine wp_script rfl g7 ?_
      refine wp_aload rfl rfl ?_
      refine wp_iload rfl rfl ?_
      refine wp_iconst rfl ?_
      refine wp_iadd rfl ?_
      have g8 := H.1
      replace H := H.2
      refine Wp.topI (y := (x3 + 2)) (w32_I g8) ?_
      have g9 := H.1
      replace H := H.2
      refine wp_script rfl g9 ?_
      refine wp_aload rfl rfl ?_
      refine wp_iload rfl rfl ?_
      refine wp_iconst rfl ?_
      refine wp_iadd rfl ?_
      have g10 := H.1
      replace H := H.2
      refine Wp.topI (y := (x3 + 3)) (w32_I g10) ?_
      have g11 := H.1
      replace H := H.2
      refine wp_script rfl g11 ?_
      refine wp_aload rfl rfl ?_
      refine wp_iload rfl rfl ?_
      refine wp_iconst rfl ?_
      refine wp_iadd rfl ?_
      have g12 := H.1
      replace H := H.2
      refine Wp.topI (y := (x3 + 4)) (w32_I g12) ?_
      have g13 := H.1
      replace H := H.2
      refine wp_script rfl g13 ?_
      exact wp_call (k := 2) (ρ2 := 6) (L2 := [vr 6, vi (X.2 (x3 + 1)), vi (X.2 (x3 + 2)), vi (X.2 (x3 + 3)), vi (X.2 (x3 + 4))]) rfl rfl rfl (Nat.le_of_ble_eq_true rfl) (Nat.le_of_ble_eq_true rfl) (Nat.le_of_ble_eq_true rfl) (rcv_V rfl (congrArg Prod.fst (kf_6 X.1))) rfl H
    replace H := H.2 c5
    by_cases c14 : ((i32 (X.2 x3) &&& i32 31).toInt) = 2
    · replace H := H.1 c14
      refine wp_tabIn (tn := 238) rfl (by rw [c14]; decide) (by rw [c14]; rfl) ?_
      refine wp_aload rfl rfl ?_
      refine wp_aload rfl rfl ?_
      refine wp_iload rfl rfl ?_
      refine wp_iconst rfl ?_
      refine wp_iadd rfl ?_
      have g15 := H.1
      replace H := H.2
      refine Wp.topI (y := (x3 + 1)) (w32_I g15) ?_
      have g16 := H.1
      replace H := H.2
      refine wp_script rfl g16 ?_
      refine wp_aload rfl rfl ?_
      refine wp_iload rfl rfl ?_
      refine wp_iconst rfl ?_
      refine wp_iadd rfl ?_
      have g17 := H.1
      replace H := H.2
      refine Wp.topI (y := (x3 + 2)) (w32_I g17) ?_
      have g18 := H.1
      replace H := H.2
      refine wp_script rfl g18 ?_
      refine wp_aload rfl rfl ?_
      refine wp_iload rfl rfl ?_
      refine wp_iconst rfl ?_
      refine wp_iadd rfl ?_
      have g19 := H.1
      replace H := H.2
      refine Wp.topI (y := (x3 + 3)) (w32_I g19) ?_
      have g20 := H.1
      replace H := H.2
      refine wp_script rfl g20 ?_
      exact wp_call (k := 3) (ρ2 := 6) (L2 := [vr 6, vi (X.2 (x3 + 1)), vi (X.2 (x3 + 2)), vi (X.2 (x3 + 3)), vu, vu]) rfl rfl rfl (Nat.le_of_ble_eq_true rfl) (Nat.le_of_ble_eq_true rfl) (Nat.le_of_ble_eq_true rfl) (rcv_V rfl (congrArg Prod.fst (kf_6 X.1))) rfl H
    replace H := H.2 c14
    by_cases c21 : ((i32 (X.2 x3) &&& i32 31).toInt) = 3
    · replace H := H.1 c21
      refine wp_tabIn (tn := 281) rfl (by rw [c21]; decide) (by rw [c21]; rfl) ?_
      refine wp_aload rfl rfl ?_
      refine wp_aload rfl rfl ?_
      refine wp_iload rfl rfl ?_
      refine wp_iconst rfl ?_
      refine wp_iadd rfl ?_
      have g22 := H.1
      replace H := H.2
      refine Wp.topI (y := (x3 + 1)) (w32_I g22) ?_
      have g23 := H.1
      replace H := H.2
      refine wp_script rfl g23 ?_
      refine wp_aload rfl rfl ?_
      refine wp_iload rfl rfl ?_
      refine wp_iconst rfl ?_
      refine wp_iadd rfl ?_
      have g24 := H.1
      replace H := H.2
      refine Wp.topI (y := (x3 + 2)) (w32_I g24) ?_
      have g25 := H.1
      replace H := H.2
      refine wp_script rfl g25 ?_
      exact wp_call (k := 4) (ρ2 := 6) (L2 := [vr 6, vi (X.2 (x3 + 1)), vi (X.2 (x3 + 2)), vu]) rfl rfl rfl (Nat.le_of_ble_eq_true rfl) (Nat.le_of_ble_eq_true rfl) (Nat.le_of_ble_eq_true rfl) (rcv_V rfl (congrArg Prod.fst (kf_6 X.1))) rfl H
    replace H := H.2 c21
    by_cases c26 : ((i32 (X.2 x3) &&& i32 31).toInt) = 4
    · replace H := H.1 c26
      refine wp_tabIn (tn := 314) rfl (by rw [c26]; decide) (by rw [c26]; rfl) ?_
      refine wp_aload rfl rfl ?_
      refine wp_aload rfl rfl ?_
      refine wp_iload rfl rfl ?_
      refine wp_iconst rfl ?_
      refine wp_iadd rfl ?_
      have g27 := H.1
      replace H := H.2
      refine Wp.topI (y := (x3 + 1)) (w32_I g27) ?_
      have g28 := H.1
      replace H := H.2
      refine wp_script rfl g28 ?_
      refine wp_aload rfl rfl ?_
      refine wp_iload rfl rfl ?_
      refine wp_iconst rfl ?_
      refine wp_iadd rfl ?_
      have g29 := H.1
      replace H := H.2
      refine Wp.topI (y := (x3 + 2)) (w32_I g29) ?_
      have g30 := H.1
      replace H := H.2
      refine wp_script rfl g30 ?_
      exact wp_call (k := 5) (ρ2 := 2) (L2 := [vr 6, vi (X.2 (x3 + 1)), vi (X.2 (x3 + 2))]) rfl rfl rfl (Nat.le_of_ble_eq_true rfl) (Nat.le_of_ble_eq_true rfl) (Nat.le_of_ble_eq_true rfl) (rcv_V rfl (congrArg Prod.fst (kf_6 X.1))) rfl H
    replace H := H.2 c26
    by_cases c31 : ((i32 (X.2 x3) &&& i32 31).toInt) = 5
    · replace H := H.1 c31
      refine wp_tabIn (tn := 347) rfl (by rw [c31]; decide) (by rw [c31]; rfl) ?_
      refine wp_aload rfl rfl ?_
      refine wp_aload rfl rfl ?_
      refine wp_iload rfl rfl ?_
      refine wp_iconst rfl ?_
      refine wp_iadd rfl ?_
      have g32 := H.1
      replace H := H.2
      refine Wp.topI (y := (x3 + 1)) (w32_I g32) ?_
      have g33 := H.1
      replace H := H.2
      refine wp_script rfl g33 ?_
      refine wp_aload rfl rfl ?_
      refine wp_iload rfl rfl ?_
      refine wp_iconst rfl ?_
      refine wp_iadd rfl ?_
      have g34 := H.1
      replace H := H.2
      refine Wp.topI (y := (x3 + 2)) (w32_I g34) ?_
      have g35 := H.1
      replace H := H.2
      refine wp_script rfl g35 ?_
      refine wp_aload rfl rfl ?_
      refine wp_iload rfl rfl ?_
      refine wp_iconst rfl ?_
      refine wp_iadd rfl ?_
      have g36 := H.1
      replace H := H.2
      refine Wp.topI (y := (x3 + 3)) (w32_I g36) ?_
      have g37 := H.1
      replace H := H.2
      refine wp_script rfl g37 ?_
      exact wp_call (k := 6) (ρ2 := 2) (L2 := [vr 6, vi (X.2 (x3 + 1)), vi (X.2 (x3 + 2)), vi (X.2 (x3 + 3))]) rfl rfl rfl (Nat.le_of_ble_eq_true rfl) (Nat.le_of_ble_eq_true rfl) (Nat.le_of_ble_eq_true rfl) (rcv_V rfl (congrArg Prod.fst (kf_6 X.1))) rfl H
    replace H := H.2 c31
    by_cases c38 : ((i32 (X.2 x3) &&& i32 31).toInt) = 6
    · replace H := H.1 c38
      refine wp_tabIn (tn := 391) rfl (by rw [c38]; decide) (by rw [c38]; rfl) ?_
      refine wp_aload rfl rfl ?_
      refine wp_aload rfl rfl ?_
      refine wp_iload rfl rfl ?_
      refine wp_iconst rfl ?_
      refine wp_iadd rfl ?_
      have g39 := H.1
      replace H := H.2
      refine Wp.topI (y := (x3 + 1)) (w32_I g39) ?_
      have g40 := H.1
      replace H := H.2
      refine wp_script rfl g40 ?_
      refine wp_aload rfl rfl ?_
      refine wp_iload rfl rfl ?_
      refine wp_iconst rfl ?_
      refine wp_iadd rfl ?_
      have g41 := H.1
      replace H := H.2
      refine Wp.topI (y := (x3 + 2)) (w32_I g41) ?_
      have g42 := H.1
      replace H := H.2
      refine wp_script rfl g42 ?_
      exact wp_call (k := 7) (ρ2 := 2) (L2 := [vr 6, vi (X.2 (x3 + 1)), vi (X.2 (x3 + 2))]) rfl rfl rfl (Nat.le_of_ble_eq_true rfl) (Nat.le_of_ble_eq_true rfl) (Nat.le_of_ble_eq_true rfl) (rcv_V rfl (congrArg Prod.fst (kf_6 X.1))) rfl H
    replace H := H.2 c38
    by_cases c43 : ((i32 (X.2 x3) &&& i32 31).toInt) = 7
    · replace H := H.1 c43
      refine wp_tabIn (tn := 425) rfl (by rw [c43]; decide) (by rw [c43]; rfl) ?_
      refine wp_aload rfl rfl ?_
      exact wp_call (k := 8) (ρ2 := 1) (L2 := [vr 6]) rfl rfl rfl (Nat.le_of_ble_eq_true rfl) (Nat.le_of_ble_eq_true rfl) (Nat.le_of_ble_eq_true rfl) (rcv_V rfl (congrArg Prod.fst (kf_6 X.1))) rfl H
    replace H := H.2 c43
    by_cases c44 : ((i32 (X.2 x3) &&& i32 31).toInt) = 8
    · replace H := H.1 c44
      refine wp_tabIn (tn := 438) rfl (by rw [c44]; decide) (by rw [c44]; rfl) ?_
      refine wp_aload rfl rfl ?_
      refine wp_aload rfl rfl ?_
      refine wp_iload rfl rfl ?_
      refine wp_iconst rfl ?_
      refine wp_iadd rfl ?_
      have g45 := H.1
      replace H := H.2
      refine Wp.topI (y := (x3 + 1)) (w32_I g45) ?_
      have g46 := H.1
      replace H := H.2
      refine wp_script rfl g46 ?_
      refine wp_aload rfl rfl ?_
      refine wp_iload rfl rfl ?_
      refine wp_iconst rfl ?_
      refine wp_iadd rfl ?_
      have g47 := H.1
      replace H := H.2
      refine Wp.topI (y := (x3 + 2)) (w32_I g47) ?_
      have g48 := H.1
      replace H := H.2
      refine wp_script rfl g48 ?_
      exact wp_call (k := 9) (ρ2 := 3) (L2 := [vr 6, vi (X.2 (x3 + 1)), vi (X.2 (x3 + 2)), vu]) rfl rfl rfl (Nat.le_of_ble_eq_true rfl) (Nat.le_of_ble_eq_true rfl) (Nat.le_of_ble_eq_true rfl) (rcv_V rfl (congrArg Prod.fst (kf_6 X.1))) rfl H
    replace H := H.2 c44
    by_cases c49 : ((i32 (X.2 x3) &&& i32 31).toInt) = 9
    · replace H := H.1 c49
      refine wp_tabIn (tn := 471) rfl (by rw [c49]; decide) (by rw [c49]; rfl) ?_
      refine wp_aload rfl rfl ?_
      refine wp_aload rfl rfl ?_
      refine wp_iload rfl rfl ?_
      refine wp_iconst rfl ?_
      refine wp_iadd rfl ?_
      have g50 := H.1
      replace H := H.2
      refine Wp.topI (y := (x3 + 1)) (w32_I g50) ?_
      have g51 := H.1
      replace H := H.2
      refine wp_script rfl g51 ?_
      refine wp_aload rfl rfl ?_
      refine wp_iload rfl rfl ?_
      refine wp_iconst rfl ?_
      refine wp_iadd rfl ?_
      have g52 := H.1
      replace H := H.2
      refine Wp.topI (y := (x3 + 2)) (w32_I g52) ?_
      have g53 := H.1
      replace H := H.2
      refine wp_script rfl g53 ?_
      exact wp_call (k := 10) (ρ2 := 6) (L2 := [vr 6, vi (X.2 (x3 + 1)), vi (X.2 (x3 + 2))]) rfl rfl rfl (Nat.le_of_ble_eq_true rfl) (Nat.le_of_ble_eq_true rfl) (Nat.le_of_ble_eq_true rfl) (rcv_V rfl (congrArg Prod.fst (kf_6 X.1))) rfl H
    replace H := H.2 c49
    by_cases c54 : ((i32 (X.2 x3) &&& i32 31).toInt) = 10
    · replace H := H.1 c54
      refine wp_tabIn (tn := 504) rfl (by rw [c54]; decide) (by rw [c54]; rfl) ?_
      refine wp_aload rfl rfl ?_
      refine wp_aload rfl rfl ?_
      refine wp_iload rfl rfl ?_
      refine wp_iconst rfl ?_
      refine wp_iadd rfl ?_
      have g55 := H.1
      replace H := H.2
      refine Wp.topI (y := (x3 + 1)) (w32_I g55) ?_
      have g56 := H.1
      replace H := H.2
      refine wp_script rfl g56 ?_
      exact wp_call (k := 11) (ρ2 := 6) (L2 := [vr 6, vi (X.2 (x3 + 1)), vu]) rfl rfl rfl (Nat.le_of_ble_eq_true rfl) (Nat.le_of_ble_eq_true rfl) (Nat.le_of_ble_eq_true rfl) (rcv_V rfl (congrArg Prod.fst (kf_6 X.1))) rfl H
    replace H := H.2 c54
    by_cases c57 : ((i32 (X.2 x3) &&& i32 31).toInt) = 11
    · replace H := H.1 c57
      refine wp_tabIn (tn := 527) rfl (by rw [c57]; decide) (by rw [c57]; rfl) ?_
      refine wp_aload rfl rfl ?_
      refine wp_aload rfl rfl ?_
      refine wp_iload rfl rfl ?_
      refine wp_iconst rfl ?_
      refine wp_iadd rfl ?_
      have g58 := H.1
      replace H := H.2
      refine Wp.topI (y := (x3 + 1)) (w32_I g58) ?_
      have g59 := H.1
      replace H := H.2
      refine wp_script rfl g59 ?_
      exact wp_call (k := 12) (ρ2 := 1) (L2 := [vr 6, vi (X.2 (x3 + 1))]) rfl rfl rfl (Nat.le_of_ble_eq_true rfl) (Nat.le_of_ble_eq_true rfl) (Nat.le_of_ble_eq_true rfl) (rcv_V rfl (congrArg Prod.fst (kf_6 X.1))) rfl H
    replace H := H.2 c57
    by_cases c60 : ((i32 (X.2 x3) &&& i32 31).toInt) = 12
    · replace H := H.1 c60
      refine wp_tabIn (tn := 550) rfl (by rw [c60]; decide) (by rw [c60]; rfl) ?_
      refine wp_aload rfl rfl ?_
      refine wp_aload rfl rfl ?_
      refine wp_iload rfl rfl ?_
      refine wp_iconst rfl ?_
      refine wp_iadd rfl ?_
      have g61 := H.1
      replace H := H.2
      refine Wp.topI (y := (x3 + 1)) (w32_I g61) ?_
      have g62 := H.1
      replace H := H.2
      refine wp_script rfl g62 ?_
      refine wp_aload rfl rfl ?_
      refine wp_iload rfl rfl ?_
      refine wp_iconst rfl ?_
      refine wp_iadd rfl ?_
      have g63 := H.1
      replace H := H.2
      refine Wp.topI (y := (x3 + 2)) (w32_I g63) ?_
      have g64 := H.1
      replace H := H.2
      refine wp_script rfl g64 ?_
      exact wp_call (k := 13) (ρ2 := 4) (L2 := [vr 6, vi (X.2 (x3 + 1)), vi (X.2 (x3 + 2))]) rfl rfl rfl (Nat.le_of_ble_eq_true rfl) (Nat.le_of_ble_eq_true rfl) (Nat.le_of_ble_eq_true rfl) (rcv_V rfl (congrArg Prod.fst (kf_6 X.1))) rfl H
    replace H := H.2 c60
    by_cases c65 : ((i32 (X.2 x3) &&& i32 31).toInt) = 13
    · replace H := H.1 c65
      refine wp_tabIn (tn := 583) rfl (by rw [c65]; decide) (by rw [c65]; rfl) ?_
      refine wp_aload rfl rfl ?_
      refine wp_aload rfl rfl ?_
      refine wp_iload rfl rfl ?_
      refine wp_iconst rfl ?_
      refine wp_iadd rfl ?_
      have g66 := H.1
      replace H := H.2
      refine Wp.topI (y := (x3 + 1)) (w32_I g66) ?_
      have g67 := H.1
      replace H := H.2
      refine wp_script rfl g67 ?_
      refine wp_aload rfl rfl ?_
      refine wp_iload rfl rfl ?_
      refine wp_iconst rfl ?_
      refine wp_iadd rfl ?_
      have g68 := H.1
      replace H := H.2
      refine Wp.topI (y := (x3 + 2)) (w32_I g68) ?_
      have g69 := H.1
      replace H := H.2
      refine wp_script rfl g69 ?_
      exact wp_call (k := 14) (ρ2 := 15) (L2 := [vr 6, vi (X.2 (x3 + 1)), vi (X.2 (x3 + 2))]) rfl rfl rfl (Nat.le_of_ble_eq_true rfl) (Nat.le_of_ble_eq_true rfl) (Nat.le_of_ble_eq_true rfl) (rcv_V rfl (congrArg Prod.fst (kf_6 X.1))) rfl H
    replace H := H.2 c65
    by_cases c70 : ((i32 (X.2 x3) &&& i32 31).toInt) = 14
    · replace H := H.1 c70
      refine wp_tabIn (tn := 616) rfl (by rw [c70]; decide) (by rw [c70]; rfl) ?_
      refine wp_aload rfl rfl ?_
      refine wp_aload rfl rfl ?_
      refine wp_iload rfl rfl ?_
      refine wp_iconst rfl ?_
      refine wp_iadd rfl ?_
      have g71 := H.1
      replace H := H.2
      refine Wp.topI (y := (x3 + 1)) (w32_I g71) ?_
      have g72 := H.1
      replace H := H.2
      refine wp_script rfl g72 ?_
      exact wp_call (k := 15) (ρ2 := 3) (L2 := [vr 6, vi (X.2 (x3 + 1)), vu]) rfl rfl rfl (Nat.le_of_ble_eq_true rfl) (Nat.le_of_ble_eq_true rfl) (Nat.le_of_ble_eq_true rfl) (rcv_V rfl (congrArg Prod.fst (kf_6 X.1))) rfl H
    replace H := H.2 c70
    by_cases c73 : ((i32 (X.2 x3) &&& i32 31).toInt) = 15
    · replace H := H.1 c73
      refine wp_tabIn (tn := 639) rfl (by rw [c73]; decide) (by rw [c73]; rfl) ?_
      refine wp_aload rfl rfl ?_
      refine wp_aload rfl rfl ?_
      refine wp_iload rfl rfl ?_
      refine wp_iconst rfl ?_
      refine wp_iadd rfl ?_
      have g74 := H.1
      replace H := H.2
      refine Wp.topI (y := (x3 + 1)) (w32_I g74) ?_
      have g75 := H.1
      replace H := H.2
      refine wp_script rfl g75 ?_
      exact wp_call (k := 16) (ρ2 := 1) (L2 := [vr 6, vi (X.2 (x3 + 1))]) rfl rfl rfl (Nat.le_of_ble_eq_true rfl) (Nat.le_of_ble_eq_true rfl) (Nat.le_of_ble_eq_true rfl) (rcv_V rfl (congrArg Prod.fst (kf_6 X.1))) rfl H
    replace H := H.2 c73
    by_cases c76 : ((i32 (X.2 x3) &&& i32 31).toInt) = 16
    · replace H := H.1 c76
      refine wp_tabIn (tn := 662) rfl (by rw [c76]; decide) (by rw [c76]; rfl) ?_
      refine wp_aload rfl rfl ?_
      refine wp_aload rfl rfl ?_
      refine wp_iload rfl rfl ?_
      refine wp_iconst rfl ?_
      refine wp_iadd rfl ?_
      have g77 := H.1
      replace H := H.2
      refine Wp.topI (y := (x3 + 1)) (w32_I g77) ?_
      have g78 := H.1
      replace H := H.2
      refine wp_script rfl g78 ?_
      refine wp_aload rfl rfl ?_
      refine wp_iload rfl rfl ?_
      refine wp_iconst rfl ?_
      refine wp_iadd rfl ?_
      have g79 := H.1
      replace H := H.2
      refine Wp.topI (y := (x3 + 2)) (w32_I g79) ?_
      have g80 := H.1
      replace H := H.2
      refine wp_script rfl g80 ?_
      refine wp_aload rfl rfl ?_
      refine wp_iload rfl rfl ?_
      refine wp_iconst rfl ?_
      refine wp_iadd rfl ?_
      have g81 := H.1
      replace H := H.2
      refine Wp.topI (y := (x3 + 3)) (w32_I g81) ?_
      have g82 := H.1
      replace H := H.2
      refine wp_script rfl g82 ?_
      refine wp_aload rfl rfl ?_
      refine wp_iload rfl rfl ?_
      refine wp_iconst rfl ?_
      refine wp_iadd rfl ?_
      have g83 := H.1
      replace H := H.2
      refine Wp.topI (y := (x3 + 4)) (w32_I g83) ?_
      have g84 := H.1
      replace H := H.2
      refine wp_script rfl g84 ?_
      refine wp_ifeq (tn := 690) rfl rfl (fun c85 => ?_) (fun c85 => ?_)
      · replace H := H.1 c85
        refine wp_iconst rfl ?_
        refine wp_aload rfl rfl ?_
        refine wp_iload rfl rfl ?_
        refine wp_iconst rfl ?_
        refine wp_iadd rfl ?_
        have g86 := H.1
        replace H := H.2
        refine Wp.topI (y := (x3 + 5)) (w32_I g86) ?_
        have g87 := H.1
        replace H := H.2
        refine wp_script rfl g87 ?_
        exact wp_call (k := 17) (ρ2 := 4) (L2 := [vr 6, vi (X.2 (x3 + 1)), vi (X.2 (x3 + 2)), vi (X.2 (x3 + 3)), vi 0, vi (X.2 (x3 + 5))]) rfl rfl rfl (Nat.le_of_ble_eq_true rfl) (Nat.le_of_ble_eq_true rfl) (Nat.le_of_ble_eq_true rfl) (rcv_V rfl (congrArg Prod.fst (kf_6 X.1))) rfl H
      · replace H := H.2 c85
        refine wp_iconst rfl ?_
        refine wp_goto (tn := 691) rfl rfl ?_
        refine wp_aload rfl rfl ?_
        refine wp_iload rfl rfl ?_
        refine wp_iconst rfl ?_
        refine wp_iadd rfl ?_
        have g88 := H.1
        replace H := H.2
        refine Wp.topI (y := (x3 + 5)) (w32_I g88) ?_
        have g89 := H.1
        replace H := H.2
        refine wp_script rfl g89 ?_
        exact wp_call (k := 17) (ρ2 := 4) (L2 := [vr 6, vi (X.2 (x3 + 1)), vi (X.2 (x3 + 2)), vi (X.2 (x3 + 3)), vi 1, vi (X.2 (x3 + 5))]) rfl rfl rfl (Nat.le_of_ble_eq_true rfl) (Nat.le_of_ble_eq_true rfl) (Nat.le_of_ble_eq_true rfl) (rcv_V rfl (congrArg Prod.fst (kf_6 X.1))) rfl H
    replace H := H.2 c76
    by_cases c90 : ((i32 (X.2 x3) &&& i32 31).toInt) = 17
    · replace H := H.1 c90
      refine wp_tabIn (tn := 742) rfl (by rw [c90]; decide) (by rw [c90]; rfl) ?_
      refine wp_aload rfl rfl ?_
      refine wp_aload rfl rfl ?_
      refine wp_iload rfl rfl ?_
      refine wp_iconst rfl ?_
      refine wp_iadd rfl ?_
      have g91 := H.1
      replace H := H.2
      refine Wp.topI (y := (x3 + 1)) (w32_I g91) ?_
      have g92 := H.1
      replace H := H.2
      refine wp_script rfl g92 ?_
      refine wp_aload rfl rfl ?_
      refine wp_iload rfl rfl ?_
      refine wp_iconst rfl ?_
      refine wp_iadd rfl ?_
      have g93 := H.1
      replace H := H.2
      refine Wp.topI (y := (x3 + 2)) (w32_I g93) ?_
      have g94 := H.1
      replace H := H.2
      refine wp_script rfl g94 ?_
      refine wp_aload rfl rfl ?_
      refine wp_iload rfl rfl ?_
      refine wp_iconst rfl ?_
      refine wp_iadd rfl ?_
      have g95 := H.1
      replace H := H.2
      refine Wp.topI (y := (x3 + 3)) (w32_I g95) ?_
      have g96 := H.1
      replace H := H.2
      refine wp_script rfl g96 ?_
      exact wp_call (k := 18) (ρ2 := 5) (L2 := [vr 6, vi (X.2 (x3 + 1)), vi (X.2 (x3 + 2)), vi (X.2 (x3 + 3)), vu, vu, vu, vu]) rfl rfl rfl (Nat.le_of_ble_eq_true rfl) (Nat.le_of_ble_eq_true rfl) (Nat.le_of_ble_eq_true rfl) (rcv_V rfl (congrArg Prod.fst (kf_6 X.1))) rfl H
    replace H := H.2 c90
    by_cases c97 : ((i32 (X.2 x3) &&& i32 31).toInt) = 18
    · replace H := H.1 c97
      refine wp_tabIn (tn := 786) rfl (by rw [c97]; decide) (by rw [c97]; rfl) ?_
      refine wp_aload rfl rfl ?_
      refine wp_aload rfl rfl ?_
      refine wp_iload rfl rfl ?_
      refine wp_iconst rfl ?_
      refine wp_iadd rfl ?_
      have g98 := H.1
      replace H := H.2
      refine Wp.topI (y := (x3 + 1)) (w32_I g98) ?_
      have g99 := H.1
      replace H := H.2
      refine wp_script rfl g99 ?_
      refine wp_aload rfl rfl ?_
      refine wp_iload rfl rfl ?_
      refine wp_iconst rfl ?_
      refine wp_iadd rfl ?_
      have g100 := H.1
      replace H := H.2
      refine Wp.topI (y := (x3 + 2)) (w32_I g100) ?_
      have g101 := H.1
      replace H := H.2
      refine wp_script rfl g101 ?_
      refine wp_aload rfl rfl ?_
      refine wp_iload rfl rfl ?_
      refine wp_iconst rfl ?_
      refine wp_iadd rfl ?_
      have g102 := H.1
      replace H := H.2
      refine Wp.topI (y := (x3 + 3)) (w32_I g102) ?_
      have g103 := H.1
      replace H := H.2
      refine wp_script rfl g103 ?_
      exact wp_call (k := 19) (ρ2 := 3) (L2 := [vr 6, vi (X.2 (x3 + 1)), vi (X.2 (x3 + 2)), vi (X.2 (x3 + 3))]) rfl rfl rfl (Nat.le_of_ble_eq_true rfl) (Nat.le_of_ble_eq_true rfl) (Nat.le_of_ble_eq_true rfl) (rcv_V rfl (congrArg Prod.fst (kf_6 X.1))) rfl H
    replace H := H.2 c97
    by_cases c104 : ((i32 (X.2 x3) &&& i32 31).toInt) = 19
    · replace H := H.1 c104
      refine wp_tabIn (tn := 830) rfl (by rw [c104]; decide) (by rw [c104]; rfl) ?_
      refine wp_aload rfl rfl ?_
      refine wp_aload rfl rfl ?_
      refine wp_iload rfl rfl ?_
      refine wp_iconst rfl ?_
      refine wp_iadd rfl ?_
      have g105 := H.1
      replace H := H.2
      refine Wp.topI (y := (x3 + 1)) (w32_I g105) ?_
      have g106 := H.1
      replace H := H.2
      refine wp_script rfl g106 ?_
      exact wp_call (k := 20) (ρ2 := 3) (L2 := [vr 6, vi (X.2 (x3 + 1)), vu, vu, vu, vu]) rfl rfl rfl (Nat.le_of_ble_eq_true rfl) (Nat.le_of_ble_eq_true rfl) (Nat.le_of_ble_eq_true rfl) (rcv_V rfl (congrArg Prod.fst (kf_6 X.1))) rfl H
    replace H := H.2 c104
    by_cases c107 : ((i32 (X.2 x3) &&& i32 31).toInt) = 20
    · replace H := H.1 c107
      refine wp_tabIn (tn := 853) rfl (by rw [c107]; decide) (by rw [c107]; rfl) ?_
      refine wp_aload rfl rfl ?_
      refine wp_aload rfl rfl ?_
      refine wp_iload rfl rfl ?_
      refine wp_iconst rfl ?_
      refine wp_iadd rfl ?_
      have g108 := H.1
      replace H := H.2
      refine Wp.topI (y := (x3 + 1)) (w32_I g108) ?_
      have g109 := H.1
      replace H := H.2
      refine wp_script rfl g109 ?_
      refine wp_aload rfl rfl ?_
      refine wp_iload rfl rfl ?_
      refine wp_iconst rfl ?_
      refine wp_iadd rfl ?_
      have g110 := H.1
      replace H := H.2
      refine Wp.topI (y := (x3 + 2)) (w32_I g110) ?_
      have g111 := H.1
      replace H := H.2
      refine wp_script rfl g111 ?_
      exact wp_call (k := 21) (ρ2 := 2) (L2 := [vr 6, vi (X.2 (x3 + 1)), vi (X.2 (x3 + 2))]) rfl rfl rfl (Nat.le_of_ble_eq_true rfl) (Nat.le_of_ble_eq_true rfl) (Nat.le_of_ble_eq_true rfl) (rcv_V rfl (congrArg Prod.fst (kf_6 X.1))) rfl H
    replace H := H.2 c107
    by_cases c112 : ((i32 (X.2 x3) &&& i32 31).toInt) = 21
    · replace H := H.1 c112
      refine wp_tabIn (tn := 886) rfl (by rw [c112]; decide) (by rw [c112]; rfl) ?_
      refine wp_aload rfl rfl ?_
      refine wp_aload rfl rfl ?_
      refine wp_iload rfl rfl ?_
      refine wp_iconst rfl ?_
      refine wp_iadd rfl ?_
      have g113 := H.1
      replace H := H.2
      refine Wp.topI (y := (x3 + 1)) (w32_I g113) ?_
      have g114 := H.1
      replace H := H.2
      refine wp_script rfl g114 ?_
      exact wp_call (k := 22) (ρ2 := 5) (L2 := [vr 6, vi (X.2 (x3 + 1)), vu, vu, vu, vu]) rfl rfl rfl (Nat.le_of_ble_eq_true rfl) (Nat.le_of_ble_eq_true rfl) (Nat.le_of_ble_eq_true rfl) (rcv_V rfl (congrArg Prod.fst (kf_6 X.1))) rfl H
    replace H := H.2 c112
    by_cases c115 : ((i32 (X.2 x3) &&& i32 31).toInt) = 22
    · replace H := H.1 c115
      refine wp_tabIn (tn := 909) rfl (by rw [c115]; decide) (by rw [c115]; rfl) ?_
      refine wp_aload rfl rfl ?_
      refine wp_aload rfl rfl ?_
      refine wp_iload rfl rfl ?_
      refine wp_iconst rfl ?_
      refine wp_iadd rfl ?_
      have g116 := H.1
      replace H := H.2
      refine Wp.topI (y := (x3 + 1)) (w32_I g116) ?_
      have g117 := H.1
      replace H := H.2
      refine wp_script rfl g117 ?_
      exact wp_call (k := 23) (ρ2 := 2) (L2 := [vr 6, vi (X.2 (x3 + 1))]) rfl rfl rfl (Nat.le_of_ble_eq_true rfl) (Nat.le_of_ble_eq_true rfl) (Nat.le_of_ble_eq_true rfl) (rcv_V rfl (congrArg Prod.fst (kf_6 X.1))) rfl H
    replace H := H.2 c115
    by_cases c118 : ((i32 (X.2 x3) &&& i32 31).toInt) = 23
    · replace H := H.1 c118
      refine wp_tabIn (tn := 932) rfl (by rw [c118]; decide) (by rw [c118]; rfl) ?_
      refine wp_aload rfl rfl ?_
      refine wp_aload rfl rfl ?_
      refine wp_iload rfl rfl ?_
      refine wp_iconst rfl ?_
      refine wp_iadd rfl ?_
      have g119 := H.1
      replace H := H.2
      refine Wp.topI (y := (x3 + 1)) (w32_I g119) ?_
      have g120 := H.1
      replace H := H.2
      refine wp_script rfl g120 ?_
      refine wp_aload rfl rfl ?_
      refine wp_iload rfl rfl ?_
      refine wp_iconst rfl ?_
      refine wp_iadd rfl ?_
      have g121 := H.1
      replace H := H.2
      refine Wp.topI (y := (x3 + 2)) (w32_I g121) ?_
      have g122 := H.1
      replace H := H.2
      refine wp_script rfl g122 ?_
      refine wp_aload rfl rfl ?_
      refine wp_iload rfl rfl ?_
      refine wp_iconst rfl ?_
      refine wp_iadd rfl ?_
      have g123 := H.1
      replace H := H.2
      refine Wp.topI (y := (x3 + 3)) (w32_I g123) ?_
      have g124 := H.1
      replace H := H.2
      refine wp_script rfl g124 ?_
      exact wp_call (k := 24) (ρ2 := 2) (L2 := [vr 6, vi (X.2 (x3 + 1)), vi (X.2 (x3 + 2)), vi (X.2 (x3 + 3))]) rfl rfl rfl (Nat.le_of_ble_eq_true rfl) (Nat.le_of_ble_eq_true rfl) (Nat.le_of_ble_eq_true rfl) (rcv_V rfl (congrArg Prod.fst (kf_6 X.1))) rfl H
    replace H := H.2 c118
    by_cases c125 : ((i32 (X.2 x3) &&& i32 31).toInt) = 24
    · replace H := H.1 c125
      refine wp_tabIn (tn := 975) rfl (by rw [c125]; decide) (by rw [c125]; rfl) ?_
      refine wp_aload rfl rfl ?_
      refine wp_aload rfl rfl ?_
      refine wp_iload rfl rfl ?_
      refine wp_iconst rfl ?_
      refine wp_iadd rfl ?_
      have g126 := H.1
      replace H := H.2
      refine Wp.topI (y := (x3 + 1)) (w32_I g126) ?_
      have g127 := H.1
      replace H := H.2
      refine wp_script rfl g127 ?_
      exact wp_call (k := 25) (ρ2 := 1) (L2 := [vr 6, vi (X.2 (x3 + 1)), vu]) rfl rfl rfl (Nat.le_of_ble_eq_true rfl) (Nat.le_of_ble_eq_true rfl) (Nat.le_of_ble_eq_true rfl) (rcv_V rfl (congrArg Prod.fst (kf_6 X.1))) rfl H
    replace H := H.2 c125
    by_cases c128 : ((i32 (X.2 x3) &&& i32 31).toInt) = 25
    · replace H := H.1 c128
      refine wp_tabIn (tn := 998) rfl (by rw [c128]; decide) (by rw [c128]; rfl) ?_
      refine wp_aload rfl rfl ?_
      refine wp_aload rfl rfl ?_
      refine wp_iload rfl rfl ?_
      refine wp_iconst rfl ?_
      refine wp_iadd rfl ?_
      have g129 := H.1
      replace H := H.2
      refine Wp.topI (y := (x3 + 1)) (w32_I g129) ?_
      have g130 := H.1
      replace H := H.2
      refine wp_script rfl g130 ?_
      refine wp_aload rfl rfl ?_
      refine wp_iload rfl rfl ?_
      refine wp_iconst rfl ?_
      refine wp_iadd rfl ?_
      have g131 := H.1
      replace H := H.2
      refine Wp.topI (y := (x3 + 2)) (w32_I g131) ?_
      have g132 := H.1
      replace H := H.2
      refine wp_script rfl g132 ?_
      refine wp_aload rfl rfl ?_
      refine wp_iload rfl rfl ?_
      refine wp_iconst rfl ?_
      refine wp_iadd rfl ?_
      have g133 := H.1
      replace H := H.2
      refine Wp.topI (y := (x3 + 3)) (w32_I g133) ?_
      have g134 := H.1
      replace H := H.2
      refine wp_script rfl g134 ?_
      refine wp_aload rfl rfl ?_
      refine wp_iload rfl rfl ?_
      refine wp_iconst rfl ?_
      refine wp_iadd rfl ?_
      have g135 := H.1
      replace H := H.2
      refine Wp.topI (y := (x3 + 4)) (w32_I g135) ?_
      have g136 := H.1
      replace H := H.2
      refine wp_script rfl g136 ?_
      exact wp_call (k := 26) (ρ2 := 2) (L2 := [vr 6, vi (X.2 (x3 + 1)), vi (X.2 (x3 + 2)), vi (X.2 (x3 + 3)), vi (X.2 (x3 + 4)), vu]) rfl rfl rfl (Nat.le_of_ble_eq_true rfl) (Nat.le_of_ble_eq_true rfl) (Nat.le_of_ble_eq_true rfl) (rcv_V rfl (congrArg Prod.fst (kf_6 X.1))) rfl H
    replace H := H.2 c128
    by_cases c137 : ((i32 (X.2 x3) &&& i32 31).toInt) = 26
    · replace H := H.1 c137
      refine wp_tabIn (tn := 1051) rfl (by rw [c137]; decide) (by rw [c137]; rfl) ?_
      refine wp_aload rfl rfl ?_
      refine wp_aload rfl rfl ?_
      refine wp_iload rfl rfl ?_
      refine wp_iconst rfl ?_
      refine wp_iadd rfl ?_
      have g138 := H.1
      replace H := H.2
      refine Wp.topI (y := (x3 + 1)) (w32_I g138) ?_
      have g139 := H.1
      replace H := H.2
      refine wp_script rfl g139 ?_
      refine wp_aload rfl rfl ?_
      refine wp_iload rfl rfl ?_
      refine wp_iconst rfl ?_
      refine wp_iadd rfl ?_
      have g140 := H.1
      replace H := H.2
      refine Wp.topI (y := (x3 + 2)) (w32_I g140) ?_
      have g141 := H.1
      replace H := H.2
      refine wp_script rfl g141 ?_
      refine wp_aload rfl rfl ?_
      refine wp_iload rfl rfl ?_
      refine wp_iconst rfl ?_
      refine wp_iadd rfl ?_
      have g142 := H.1
      replace H := H.2
      refine Wp.topI (y := (x3 + 3)) (w32_I g142) ?_
      have g143 := H.1
      replace H := H.2
      refine wp_script rfl g143 ?_
      exact wp_call (k := 27) (ρ2 := 2) (L2 := [vr 6, vi (X.2 (x3 + 1)), vi (X.2 (x3 + 2)), vi (X.2 (x3 + 3)), vu]) rfl rfl rfl (Nat.le_of_ble_eq_true rfl) (Nat.le_of_ble_eq_true rfl) (Nat.le_of_ble_eq_true rfl) (rcv_V rfl (congrArg Prod.fst (kf_6 X.1))) rfl H
    replace H := H.2 c137
    by_cases c144 : ((i32 (X.2 x3) &&& i32 31).toInt) = 27
    · replace H := H.1 c144
      refine wp_tabIn (tn := 1094) rfl (by rw [c144]; decide) (by rw [c144]; rfl) ?_
      refine wp_aload rfl rfl ?_
      refine wp_aload rfl rfl ?_
      refine wp_iload rfl rfl ?_
      refine wp_iconst rfl ?_
      refine wp_iadd rfl ?_
      have g145 := H.1
      replace H := H.2
      refine Wp.topI (y := (x3 + 1)) (w32_I g145) ?_
      have g146 := H.1
      replace H := H.2
      refine wp_script rfl g146 ?_
      refine wp_aload rfl rfl ?_
      refine wp_iload rfl rfl ?_
      refine wp_iconst rfl ?_
      refine wp_iadd rfl ?_
      have g147 := H.1
      replace H := H.2
      refine Wp.topI (y := (x3 + 2)) (w32_I g147) ?_
      have g148 := H.1
      replace H := H.2
      refine wp_script rfl g148 ?_
      refine wp_aload rfl rfl ?_
      refine wp_iload rfl rfl ?_
      refine wp_iconst rfl ?_
      refine wp_iadd rfl ?_
      have g149 := H.1
      replace H := H.2
      refine Wp.topI (y := (x3 + 3)) (w32_I g149) ?_
      have g150 := H.1
      replace H := H.2
      refine wp_script rfl g150 ?_
      refine wp_aload rfl rfl ?_
      refine wp_iload rfl rfl ?_
      refine wp_iconst rfl ?_
      refine wp_iadd rfl ?_
      have g151 := H.1
      replace H := H.2
      refine Wp.topI (y := (x3 + 4)) (w32_I g151) ?_
      have g152 := H.1
      replace H := H.2
      refine wp_script rfl g152 ?_
      refine wp_aload rfl rfl ?_
      refine wp_iload rfl rfl ?_
      refine wp_iconst rfl ?_
      refine wp_iadd rfl ?_
      have g153 := H.1
      replace H := H.2
      refine Wp.topI (y := (x3 + 5)) (w32_I g153) ?_
      have g154 := H.1
      replace H := H.2
      refine wp_script rfl g154 ?_
      exact wp_call (k := 28) (ρ2 := 2) (L2 := [vr 6, vi (X.2 (x3 + 1)), vi (X.2 (x3 + 2)), vi (X.2 (x3 + 3)), vi (X.2 (x3 + 4)), vi (X.2 (x3 + 5)), vu, vu]) rfl rfl rfl (Nat.le_of_ble_eq_true rfl) (Nat.le_of_ble_eq_true rfl) (Nat.le_of_ble_eq_true rfl) (rcv_V rfl (congrArg Prod.fst (kf_6 X.1))) rfl H
    replace H := H.2 c144
    by_cases c155 : ((i32 (X.2 x3) &&& i32 31).toInt) = 28
    · replace H := H.1 c155
      refine wp_tabIn (tn := 1157) rfl (by rw [c155]; decide) (by rw [c155]; rfl) ?_
      refine wp_aload rfl rfl ?_
      refine wp_aload rfl rfl ?_
      refine wp_iload rfl rfl ?_
      refine wp_iconst rfl ?_
      refine wp_iadd rfl ?_
      have g156 := H.1
      replace H := H.2
      refine Wp.topI (y := (x3 + 1)) (w32_I g156) ?_
      have g157 := H.1
      replace H := H.2
      refine wp_script rfl g157 ?_
      exact wp_call (k := 29) (ρ2 := 3) (L2 := [vr 6, vi (X.2 (x3 + 1)), vu, vu, vu]) rfl rfl rfl (Nat.le_of_ble_eq_true rfl) (Nat.le_of_ble_eq_true rfl) (Nat.le_of_ble_eq_true rfl) (rcv_V rfl (congrArg Prod.fst (kf_6 X.1))) rfl H
    replace H := H.2 c155
    by_cases c158 : ((i32 (X.2 x3) &&& i32 31).toInt) = 29
    · replace H := H.1 c158
      refine wp_tabIn (tn := 1180) rfl (by rw [c158]; decide) (by rw [c158]; rfl) ?_
      refine wp_aload rfl rfl ?_
      refine wp_aload rfl rfl ?_
      refine wp_iload rfl rfl ?_
      refine wp_iconst rfl ?_
      refine wp_iadd rfl ?_
      have g159 := H.1
      replace H := H.2
      refine Wp.topI (y := (x3 + 1)) (w32_I g159) ?_
      have g160 := H.1
      replace H := H.2
      refine wp_script rfl g160 ?_
      exact wp_call (k := 30) (ρ2 := 1) (L2 := [vr 6, vi (X.2 (x3 + 1))]) rfl rfl rfl (Nat.le_of_ble_eq_true rfl) (Nat.le_of_ble_eq_true rfl) (Nat.le_of_ble_eq_true rfl) (rcv_V rfl (congrArg Prod.fst (kf_6 X.1))) rfl H
    replace H := H.2 c158
    by_cases c161 : ((i32 (X.2 x3) &&& i32 31).toInt) = 30
    · replace H := H.1 c161
      refine wp_tabIn (tn := 1203) rfl (by rw [c161]; decide) (by rw [c161]; rfl) ?_
      refine wp_aload rfl rfl ?_
      exact wp_call (k := 31) (ρ2 := 16) (L2 := [vr 6, vu, vu, vu, vu]) rfl rfl rfl (Nat.le_of_ble_eq_true rfl) (Nat.le_of_ble_eq_true rfl) (Nat.le_of_ble_eq_true rfl) (rcv_V rfl (congrArg Prod.fst (kf_6 X.1))) rfl H
    replace H := H.2 c161
    refine wp_tabOut (tn := 1217) rfl (by clear H; omega) rfl ?_
    have g163 := H.1
    replace H := H.2
    refine wp_iincR (L2 := [vr 5, vr 6, vr 89, vi (x3 + 6)]) rfl rfl g163 rfl ?_
    refine wp_goto (tn := 18) rfl rfl ?_
    exact H
theorem S247_176 {X : Nat × (Int → Int)} {h : HP} {Q : bQ} (x3 : Int) (s0 : Int) (H : Wp X 0 65 0 [vr 89] [] h (fun v h' => Wp X 17 247 180 [vr 5, vr 6, vr 89, vi x3] (psh v [vi s0]) h' Q)) : Wp X 17 247 176 [vr 5, vr 6, vr 89, vi x3] [vi s0] h Q := by
  refine wp_aload rfl rfl ?_
  exact wp_call (k := 65) (ρ2 := 0) (L2 := [vr 89]) rfl rfl rfl (Nat.le_of_ble_eq_true rfl) (Nat.le_of_ble_eq_true rfl) (Nat.le_of_ble_eq_true rfl) (rcv_V rfl (congrArg Prod.fst (kf_89 X.1))) rfl H
theorem S247_180 {X : Nat × (Int → Int)} {h : HP} {Q : bQ} (x3 : Int) (s0 : Int) (s1 : Int) (H : ((s1 = s0 → ((R32 (x3 + 6)) ∧ Wp X 17 247 18 [vr 5, vr 6, vr 89, vi (x3 + 6)] [] h Q)) ∧ (s1 ≠ s0 → Q (some (vi 0)) h))) : Wp X 17 247 180 [vr 5, vr 6, vr 89, vi x3] [vi s0, vi s1] h Q := by
  refine wp_iceq (tn := 1217) rfl rfl (fun c1 => ?_) (fun c1 => ?_)
  · replace H := H.1 c1
    have g2 := H.1
    replace H := H.2
    refine wp_iincR (L2 := [vr 5, vr 6, vr 89, vi (x3 + 6)]) rfl rfl g2 rfl ?_
    refine wp_goto (tn := 18) rfl rfl ?_
    exact H
  · replace H := H.2 c1
    refine wp_iconst rfl ?_
    exact wp_zret rfl rfl (by decide) H
theorem S247_209 {X : Nat × (Int → Int)} {h : HP} {Q : bQ} (x3 : Int) (s0 : Int) (H : ((R32 (x3 + 1)) ∧ ((0 ≤ (x3 + 1) ∧ (x3 + 1) < (X.1 : Int)) ∧ ((R32 (x3 + 2)) ∧ ((0 ≤ (x3 + 2) ∧ (x3 + 2) < (X.1 : Int)) ∧ ((R32 (x3 + 3)) ∧ ((0 ≤ (x3 + 3) ∧ (x3 + 3) < (X.1 : Int)) ∧ ((R32 (x3 + 4)) ∧ ((0 ≤ (x3 + 4) ∧ (x3 + 4) < (X.1 : Int)) ∧ Wp X 2 66 0 [vr 89, vi (X.2 (x3 + 1)), vi (X.2 (x3 + 2)), vi (X.2 (x3 + 3)), vi (X.2 (x3 + 4))] [] h (fun v h' => Wp X 17 247 233 [vr 5, vr 6, vr 89, vi x3] (psh v [vi s0]) h' Q)))))))))) : Wp X 17 247 209 [vr 5, vr 6, vr 89, vi x3] [vi s0] h Q := by
  refine wp_aload rfl rfl ?_
  refine wp_aload rfl rfl ?_
  refine wp_iload rfl rfl ?_
  refine wp_iconst rfl ?_
  refine wp_iadd rfl ?_
  have g1 := H.1
  replace H := H.2
  refine Wp.topI (y := (x3 + 1)) (w32_I g1) ?_
  have g2 := H.1
  replace H := H.2
  refine wp_script rfl g2 ?_
  refine wp_aload rfl rfl ?_
  refine wp_iload rfl rfl ?_
  refine wp_iconst rfl ?_
  refine wp_iadd rfl ?_
  have g3 := H.1
  replace H := H.2
  refine Wp.topI (y := (x3 + 2)) (w32_I g3) ?_
  have g4 := H.1
  replace H := H.2
  refine wp_script rfl g4 ?_
  refine wp_aload rfl rfl ?_
  refine wp_iload rfl rfl ?_
  refine wp_iconst rfl ?_
  refine wp_iadd rfl ?_
  have g5 := H.1
  replace H := H.2
  refine Wp.topI (y := (x3 + 3)) (w32_I g5) ?_
  have g6 := H.1
  replace H := H.2
  refine wp_script rfl g6 ?_
  refine wp_aload rfl rfl ?_
  refine wp_iload rfl rfl ?_
  refine wp_iconst rfl ?_
  refine wp_iadd rfl ?_
  have g7 := H.1
  replace H := H.2
  refine Wp.topI (y := (x3 + 4)) (w32_I g7) ?_
  have g8 := H.1
  replace H := H.2
  refine wp_script rfl g8 ?_
  exact wp_call (k := 66) (ρ2 := 2) (L2 := [vr 89, vi (X.2 (x3 + 1)), vi (X.2 (x3 + 2)), vi (X.2 (x3 + 3)), vi (X.2 (x3 + 4))]) rfl rfl rfl (Nat.le_of_ble_eq_true rfl) (Nat.le_of_ble_eq_true rfl) (Nat.le_of_ble_eq_true rfl) (rcv_V rfl (congrArg Prod.fst (kf_89 X.1))) rfl H
theorem S247_233 {X : Nat × (Int → Int)} {h : HP} {Q : bQ} (x3 : Int) (s0 : Int) (s1 : Int) (H : ((s1 = s0 → ((R32 (x3 + 6)) ∧ Wp X 17 247 18 [vr 5, vr 6, vr 89, vi (x3 + 6)] [] h Q)) ∧ (s1 ≠ s0 → Q (some (vi 0)) h))) : Wp X 17 247 233 [vr 5, vr 6, vr 89, vi x3] [vi s0, vi s1] h Q := by
  refine wp_iceq (tn := 1217) rfl rfl (fun c1 => ?_) (fun c1 => ?_)
  · replace H := H.1 c1
    have g2 := H.1
    replace H := H.2
    refine wp_iincR (L2 := [vr 5, vr 6, vr 89, vi (x3 + 6)]) rfl rfl g2 rfl ?_
    refine wp_goto (tn := 18) rfl rfl ?_
    exact H
  · replace H := H.2 c1
    refine wp_iconst rfl ?_
    exact wp_zret rfl rfl (by decide) H
theorem S247_257 {X : Nat × (Int → Int)} {h : HP} {Q : bQ} (x3 : Int) (s0 : Int) (H : ((R32 (x3 + 1)) ∧ ((0 ≤ (x3 + 1) ∧ (x3 + 1) < (X.1 : Int)) ∧ ((R32 (x3 + 2)) ∧ ((0 ≤ (x3 + 2) ∧ (x3 + 2) < (X.1 : Int)) ∧ ((R32 (x3 + 3)) ∧ ((0 ≤ (x3 + 3) ∧ (x3 + 3) < (X.1 : Int)) ∧ Wp X 3 67 0 [vr 89, vi (X.2 (x3 + 1)), vi (X.2 (x3 + 2)), vi (X.2 (x3 + 3)), vu] [] h (fun v h' => Wp X 17 247 276 [vr 5, vr 6, vr 89, vi x3] (psh v [vi s0]) h' Q)))))))) : Wp X 17 247 257 [vr 5, vr 6, vr 89, vi x3] [vi s0] h Q := by
  refine wp_aload rfl rfl ?_
  refine wp_aload rfl rfl ?_
  refine wp_iload rfl rfl ?_
  refine wp_iconst rfl ?_
  refine wp_iadd rfl ?_
  have g1 := H.1
  replace H := H.2
  refine Wp.topI (y := (x3 + 1)) (w32_I g1) ?_
  have g2 := H.1
  replace H := H.2
  refine wp_script rfl g2 ?_
  refine wp_aload rfl rfl ?_
  refine wp_iload rfl rfl ?_
  refine wp_iconst rfl ?_
  refine wp_iadd rfl ?_
  have g3 := H.1
  replace H := H.2
  refine Wp.topI (y := (x3 + 2)) (w32_I g3) ?_
  have g4 := H.1
  replace H := H.2
  refine wp_script rfl g4 ?_
  refine wp_aload rfl rfl ?_
  refine wp_iload rfl rfl ?_
  refine wp_iconst rfl ?_
  refine wp_iadd rfl ?_
  have g5 := H.1
  replace H := H.2
  refine Wp.topI (y := (x3 + 3)) (w32_I g5) ?_
  have g6 := H.1
  replace H := H.2
  refine wp_script rfl g6 ?_
  exact wp_call (k := 67) (ρ2 := 3) (L2 := [vr 89, vi (X.2 (x3 + 1)), vi (X.2 (x3 + 2)), vi (X.2 (x3 + 3)), vu]) rfl rfl rfl (Nat.le_of_ble_eq_true rfl) (Nat.le_of_ble_eq_true rfl) (Nat.le_of_ble_eq_true rfl) (rcv_V rfl (congrArg Prod.fst (kf_89 X.1))) rfl H
theorem S247_276 {X : Nat × (Int → Int)} {h : HP} {Q : bQ} (x3 : Int) (s0 : Int) (s1 : Int) (H : ((s1 = s0 → ((R32 (x3 + 6)) ∧ Wp X 17 247 18 [vr 5, vr 6, vr 89, vi (x3 + 6)] [] h Q)) ∧ (s1 ≠ s0 → Q (some (vi 0)) h))) : Wp X 17 247 276 [vr 5, vr 6, vr 89, vi x3] [vi s0, vi s1] h Q := by
  refine wp_iceq (tn := 1217) rfl rfl (fun c1 => ?_) (fun c1 => ?_)
  · replace H := H.1 c1
    have g2 := H.1
    replace H := H.2
    refine wp_iincR (L2 := [vr 5, vr 6, vr 89, vi (x3 + 6)]) rfl rfl g2 rfl ?_
    refine wp_goto (tn := 18) rfl rfl ?_
    exact H
  · replace H := H.2 c1
    refine wp_iconst rfl ?_
    exact wp_zret rfl rfl (by decide) H
theorem S247_295 {X : Nat × (Int → Int)} {h : HP} {Q : bQ} (x3 : Int) (s0 : Int) (H : ((R32 (x3 + 1)) ∧ ((0 ≤ (x3 + 1) ∧ (x3 + 1) < (X.1 : Int)) ∧ ((R32 (x3 + 2)) ∧ ((0 ≤ (x3 + 2) ∧ (x3 + 2) < (X.1 : Int)) ∧ Wp X 1 69 0 [vr 89, vi (X.2 (x3 + 1)), vi (X.2 (x3 + 2)), vu] [] h (fun v h' => Wp X 17 247 309 [vr 5, vr 6, vr 89, vi x3] (psh v [vi s0]) h' Q)))))) : Wp X 17 247 295 [vr 5, vr 6, vr 89, vi x3] [vi s0] h Q := by
  refine wp_aload rfl rfl ?_
  refine wp_aload rfl rfl ?_
  refine wp_iload rfl rfl ?_
  refine wp_iconst rfl ?_
  refine wp_iadd rfl ?_
  have g1 := H.1
  replace H := H.2
  refine Wp.topI (y := (x3 + 1)) (w32_I g1) ?_
  have g2 := H.1
  replace H := H.2
  refine wp_script rfl g2 ?_
  refine wp_aload rfl rfl ?_
  refine wp_iload rfl rfl ?_
  refine wp_iconst rfl ?_
  refine wp_iadd rfl ?_
  have g3 := H.1
  replace H := H.2
  refine Wp.topI (y := (x3 + 2)) (w32_I g3) ?_
  have g4 := H.1
  replace H := H.2
  refine wp_script rfl g4 ?_
  exact wp_call (k := 69) (ρ2 := 1) (L2 := [vr 89, vi (X.2 (x3 + 1)), vi (X.2 (x3 + 2)), vu]) rfl rfl rfl (Nat.le_of_ble_eq_true rfl) (Nat.le_of_ble_eq_true rfl) (Nat.le_of_ble_eq_true rfl) (rcv_V rfl (congrArg Prod.fst (kf_89 X.1))) rfl H
theorem S247_309 {X : Nat × (Int → Int)} {h : HP} {Q : bQ} (x3 : Int) (s0 : Int) (s1 : Int) (H : ((s1 = s0 → ((R32 (x3 + 6)) ∧ Wp X 17 247 18 [vr 5, vr 6, vr 89, vi (x3 + 6)] [] h Q)) ∧ (s1 ≠ s0 → Q (some (vi 0)) h))) : Wp X 17 247 309 [vr 5, vr 6, vr 89, vi x3] [vi s0, vi s1] h Q := by
  refine wp_iceq (tn := 1217) rfl rfl (fun c1 => ?_) (fun c1 => ?_)
  · replace H := H.1 c1
    have g2 := H.1
    replace H := H.2
    refine wp_iincR (L2 := [vr 5, vr 6, vr 89, vi (x3 + 6)]) rfl rfl g2 rfl ?_
    refine wp_goto (tn := 18) rfl rfl ?_
    exact H
  · replace H := H.2 c1
    refine wp_iconst rfl ?_
    exact wp_zret rfl rfl (by decide) H
theorem S247_328 {X : Nat × (Int → Int)} {h : HP} {Q : bQ} (x3 : Int) (s0 : Int) (H : ((R32 (x3 + 1)) ∧ ((0 ≤ (x3 + 1) ∧ (x3 + 1) < (X.1 : Int)) ∧ ((R32 (x3 + 2)) ∧ ((0 ≤ (x3 + 2) ∧ (x3 + 2) < (X.1 : Int)) ∧ Wp X 2 71 0 [vr 89, vi (X.2 (x3 + 1)), vi (X.2 (x3 + 2))] [] h (fun v h' => Wp X 17 247 342 [vr 5, vr 6, vr 89, vi x3] (psh v [vi s0]) h' Q)))))) : Wp X 17 247 328 [vr 5, vr 6, vr 89, vi x3] [vi s0] h Q := by
  refine wp_aload rfl rfl ?_
  refine wp_aload rfl rfl ?_
  refine wp_iload rfl rfl ?_
  refine wp_iconst rfl ?_
  refine wp_iadd rfl ?_
  have g1 := H.1
  replace H := H.2
  refine Wp.topI (y := (x3 + 1)) (w32_I g1) ?_
  have g2 := H.1
  replace H := H.2
  refine wp_script rfl g2 ?_
  refine wp_aload rfl rfl ?_
  refine wp_iload rfl rfl ?_
  refine wp_iconst rfl ?_
  refine wp_iadd rfl ?_
  have g3 := H.1
  replace H := H.2
  refine Wp.topI (y := (x3 + 2)) (w32_I g3) ?_
  have g4 := H.1
  replace H := H.2
  refine wp_script rfl g4 ?_
  exact wp_call (k := 71) (ρ2 := 2) (L2 := [vr 89, vi (X.2 (x3 + 1)), vi (X.2 (x3 + 2))]) rfl rfl rfl (Nat.le_of_ble_eq_true rfl) (Nat.le_of_ble_eq_true rfl) (Nat.le_of_ble_eq_true rfl) (rcv_V rfl (congrArg Prod.fst (kf_89 X.1))) rfl H
theorem S247_342 {X : Nat × (Int → Int)} {h : HP} {Q : bQ} (x3 : Int) (s0 : Int) (s1 : Int) (H : ((s1 = s0 → ((R32 (x3 + 6)) ∧ Wp X 17 247 18 [vr 5, vr 6, vr 89, vi (x3 + 6)] [] h Q)) ∧ (s1 ≠ s0 → Q (some (vi 0)) h))) : Wp X 17 247 342 [vr 5, vr 6, vr 89, vi x3] [vi s0, vi s1] h Q := by
  refine wp_iceq (tn := 1217) rfl rfl (fun c1 => ?_) (fun c1 => ?_)
  · replace H := H.1 c1
    have g2 := H.1
    replace H := H.2
    refine wp_iincR (L2 := [vr 5, vr 6, vr 89, vi (x3 + 6)]) rfl rfl g2 rfl ?_
    refine wp_goto (tn := 18) rfl rfl ?_
    exact H
  · replace H := H.2 c1
    refine wp_iconst rfl ?_
    exact wp_zret rfl rfl (by decide) H
theorem S247_366 {X : Nat × (Int → Int)} {h : HP} {Q : bQ} (x3 : Int) (s0 : Int) (H : ((R32 (x3 + 1)) ∧ ((0 ≤ (x3 + 1) ∧ (x3 + 1) < (X.1 : Int)) ∧ ((R32 (x3 + 2)) ∧ ((0 ≤ (x3 + 2) ∧ (x3 + 2) < (X.1 : Int)) ∧ ((R32 (x3 + 3)) ∧ ((0 ≤ (x3 + 3) ∧ (x3 + 3) < (X.1 : Int)) ∧ Wp X 2 72 0 [vr 89, vi (X.2 (x3 + 1)), vi (X.2 (x3 + 2)), vi (X.2 (x3 + 3))] [] h (fun v h' => Wp X 17 247 385 [vr 5, vr 6, vr 89, vi x3] (psh v [vl s0]) h' Q)))))))) : Wp X 17 247 366 [vr 5, vr 6, vr 89, vi x3] [vl s0] h Q := by
  refine wp_aload rfl rfl ?_
  refine wp_aload rfl rfl ?_
  refine wp_iload rfl rfl ?_
  refine wp_iconst rfl ?_
  refine wp_iadd rfl ?_
  have g1 := H.1
  replace H := H.2
  refine Wp.topI (y := (x3 + 1)) (w32_I g1) ?_
  have g2 := H.1
  replace H := H.2
  refine wp_script rfl g2 ?_
  refine wp_aload rfl rfl ?_
  refine wp_iload rfl rfl ?_
  refine wp_iconst rfl ?_
  refine wp_iadd rfl ?_
  have g3 := H.1
  replace H := H.2
  refine Wp.topI (y := (x3 + 2)) (w32_I g3) ?_
  have g4 := H.1
  replace H := H.2
  refine wp_script rfl g4 ?_
  refine wp_aload rfl rfl ?_
  refine wp_iload rfl rfl ?_
  refine wp_iconst rfl ?_
  refine wp_iadd rfl ?_
  have g5 := H.1
  replace H := H.2
  refine Wp.topI (y := (x3 + 3)) (w32_I g5) ?_
  have g6 := H.1
  replace H := H.2
  refine wp_script rfl g6 ?_
  exact wp_call (k := 72) (ρ2 := 2) (L2 := [vr 89, vi (X.2 (x3 + 1)), vi (X.2 (x3 + 2)), vi (X.2 (x3 + 3))]) rfl rfl rfl (Nat.le_of_ble_eq_true rfl) (Nat.le_of_ble_eq_true rfl) (Nat.le_of_ble_eq_true rfl) (rcv_V rfl (congrArg Prod.fst (kf_89 X.1))) rfl H
theorem S247_385 {X : Nat × (Int → Int)} {h : HP} {Q : bQ} (x3 : Int) (s0 : Int) (s1 : Int) (H : (((lcp s1 s0) = 0 → ((R32 (x3 + 6)) ∧ Wp X 17 247 18 [vr 5, vr 6, vr 89, vi (x3 + 6)] [] h Q)) ∧ ((lcp s1 s0) ≠ 0 → Q (some (vi 0)) h))) : Wp X 17 247 385 [vr 5, vr 6, vr 89, vi x3] [vl s0, vl s1] h Q := by
  refine wp_lcmp rfl ?_
  refine wp_ifeq (tn := 1217) rfl rfl (fun c1 => ?_) (fun c1 => ?_)
  · replace H := H.1 c1
    have g2 := H.1
    replace H := H.2
    refine wp_iincR (L2 := [vr 5, vr 6, vr 89, vi (x3 + 6)]) rfl rfl g2 rfl ?_
    refine wp_goto (tn := 18) rfl rfl ?_
    exact H
  · replace H := H.2 c1
    refine wp_iconst rfl ?_
    exact wp_zret rfl rfl (by decide) H
theorem S247_405 {X : Nat × (Int → Int)} {h : HP} {Q : bQ} (x3 : Int) (s0 : Int) (H : ((R32 (x3 + 1)) ∧ ((0 ≤ (x3 + 1) ∧ (x3 + 1) < (X.1 : Int)) ∧ ((R32 (x3 + 2)) ∧ ((0 ≤ (x3 + 2) ∧ (x3 + 2) < (X.1 : Int)) ∧ Wp X 5 80 0 [vr 89, vi (X.2 (x3 + 1)), vi (X.2 (x3 + 2))] [] h (fun v h' => Wp X 17 247 419 [vr 5, vr 6, vr 89, vi x3] (psh v [vl s0]) h' Q)))))) : Wp X 17 247 405 [vr 5, vr 6, vr 89, vi x3] [vl s0] h Q := by
  refine wp_aload rfl rfl ?_
  refine wp_aload rfl rfl ?_
  refine wp_iload rfl rfl ?_
  refine wp_iconst rfl ?_
  refine wp_iadd rfl ?_
  have g1 := H.1
  replace H := H.2
  refine Wp.topI (y := (x3 + 1)) (w32_I g1) ?_
  have g2 := H.1
  replace H := H.2
  refine wp_script rfl g2 ?_
  refine wp_aload rfl rfl ?_
  refine wp_iload rfl rfl ?_
  refine wp_iconst rfl ?_
  refine wp_iadd rfl ?_
  have g3 := H.1
  replace H := H.2
  refine Wp.topI (y := (x3 + 2)) (w32_I g3) ?_
  have g4 := H.1
  replace H := H.2
  refine wp_script rfl g4 ?_
  exact wp_call (k := 80) (ρ2 := 5) (L2 := [vr 89, vi (X.2 (x3 + 1)), vi (X.2 (x3 + 2))]) rfl rfl rfl (Nat.le_of_ble_eq_true rfl) (Nat.le_of_ble_eq_true rfl) (Nat.le_of_ble_eq_true rfl) (rcv_V rfl (congrArg Prod.fst (kf_89 X.1))) rfl H
theorem S247_419 {X : Nat × (Int → Int)} {h : HP} {Q : bQ} (x3 : Int) (s0 : Int) (s1 : Int) (H : (((lcp s1 s0) = 0 → ((R32 (x3 + 6)) ∧ Wp X 17 247 18 [vr 5, vr 6, vr 89, vi (x3 + 6)] [] h Q)) ∧ ((lcp s1 s0) ≠ 0 → Q (some (vi 0)) h))) : Wp X 17 247 419 [vr 5, vr 6, vr 89, vi x3] [vl s0, vl s1] h Q := by
  refine wp_lcmp rfl ?_
  refine wp_ifeq (tn := 1217) rfl rfl (fun c1 => ?_) (fun c1 => ?_)
  · replace H := H.1 c1
    have g2 := H.1
    replace H := H.2
    refine wp_iincR (L2 := [vr 5, vr 6, vr 89, vi (x3 + 6)]) rfl rfl g2 rfl ?_
    refine wp_goto (tn := 18) rfl rfl ?_
    exact H
  · replace H := H.2 c1
    refine wp_iconst rfl ?_
    exact wp_zret rfl rfl (by decide) H
theorem S247_429 {X : Nat × (Int → Int)} {h : HP} {Q : bQ} (x3 : Int) (s0 : Int) (H : Wp X 5 82 0 [vr 89] [] h (fun v h' => Wp X 17 247 433 [vr 5, vr 6, vr 89, vi x3] (psh v [vi s0]) h' Q)) : Wp X 17 247 429 [vr 5, vr 6, vr 89, vi x3] [vi s0] h Q := by
  refine wp_aload rfl rfl ?_
  exact wp_call (k := 82) (ρ2 := 5) (L2 := [vr 89]) rfl rfl rfl (Nat.le_of_ble_eq_true rfl) (Nat.le_of_ble_eq_true rfl) (Nat.le_of_ble_eq_true rfl) (rcv_V rfl (congrArg Prod.fst (kf_89 X.1))) rfl H
theorem S247_433 {X : Nat × (Int → Int)} {h : HP} {Q : bQ} (x3 : Int) (s0 : Int) (s1 : Int) (H : ((s1 = s0 → ((R32 (x3 + 6)) ∧ Wp X 17 247 18 [vr 5, vr 6, vr 89, vi (x3 + 6)] [] h Q)) ∧ (s1 ≠ s0 → Q (some (vi 0)) h))) : Wp X 17 247 433 [vr 5, vr 6, vr 89, vi x3] [vi s0, vi s1] h Q := by
  refine wp_iceq (tn := 1217) rfl rfl (fun c1 => ?_) (fun c1 => ?_)
  · replace H := H.1 c1
    have g2 := H.1
    replace H := H.2
    refine wp_iincR (L2 := [vr 5, vr 6, vr 89, vi (x3 + 6)]) rfl rfl g2 rfl ?_
    refine wp_goto (tn := 18) rfl rfl ?_
    exact H
  · replace H := H.2 c1
    refine wp_iconst rfl ?_
    exact wp_zret rfl rfl (by decide) H
theorem S247_452 {X : Nat × (Int → Int)} {h : HP} {Q : bQ} (x3 : Int) (s0 : Int) (H : ((R32 (x3 + 1)) ∧ ((0 ≤ (x3 + 1) ∧ (x3 + 1) < (X.1 : Int)) ∧ ((R32 (x3 + 2)) ∧ ((0 ≤ (x3 + 2) ∧ (x3 + 2) < (X.1 : Int)) ∧ Wp X 5 85 0 [vr 89, vi (X.2 (x3 + 1)), vi (X.2 (x3 + 2))] [] h (fun v h' => Wp X 17 247 466 [vr 5, vr 6, vr 89, vi x3] (psh v [vi s0]) h' Q)))))) : Wp X 17 247 452 [vr 5, vr 6, vr 89, vi x3] [vi s0] h Q := by
  refine wp_aload rfl rfl ?_
  refine wp_aload rfl rfl ?_
  refine wp_iload rfl rfl ?_
  refine wp_iconst rfl ?_
  refine wp_iadd rfl ?_
  have g1 := H.1
  replace H := H.2
  refine Wp.topI (y := (x3 + 1)) (w32_I g1) ?_
  have g2 := H.1
  replace H := H.2
  refine wp_script rfl g2 ?_
  refine wp_aload rfl rfl ?_
  refine wp_iload rfl rfl ?_
  refine wp_iconst rfl ?_
  refine wp_iadd rfl ?_
  have g3 := H.1
  replace H := H.2
  refine Wp.topI (y := (x3 + 2)) (w32_I g3) ?_
  have g4 := H.1
  replace H := H.2
  refine wp_script rfl g4 ?_
  exact wp_call (k := 85) (ρ2 := 5) (L2 := [vr 89, vi (X.2 (x3 + 1)), vi (X.2 (x3 + 2))]) rfl rfl rfl (Nat.le_of_ble_eq_true rfl) (Nat.le_of_ble_eq_true rfl) (Nat.le_of_ble_eq_true rfl) (rcv_V rfl (congrArg Prod.fst (kf_89 X.1))) rfl H
theorem S247_466 {X : Nat × (Int → Int)} {h : HP} {Q : bQ} (x3 : Int) (s0 : Int) (s1 : Int) (H : ((s1 = s0 → ((R32 (x3 + 6)) ∧ Wp X 17 247 18 [vr 5, vr 6, vr 89, vi (x3 + 6)] [] h Q)) ∧ (s1 ≠ s0 → Q (some (vi 0)) h))) : Wp X 17 247 466 [vr 5, vr 6, vr 89, vi x3] [vi s0, vi s1] h Q := by
  refine wp_iceq (tn := 1217) rfl rfl (fun c1 => ?_) (fun c1 => ?_)
  · replace H := H.1 c1
    have g2 := H.1
    replace H := H.2
    refine wp_iincR (L2 := [vr 5, vr 6, vr 89, vi (x3 + 6)]) rfl rfl g2 rfl ?_
    refine wp_goto (tn := 18) rfl rfl ?_
    exact H
  · replace H := H.2 c1
    refine wp_iconst rfl ?_
    exact wp_zret rfl rfl (by decide) H
theorem S247_485 {X : Nat × (Int → Int)} {h : HP} {Q : bQ} (x3 : Int) (s0 : Int) (H : ((R32 (x3 + 1)) ∧ ((0 ≤ (x3 + 1) ∧ (x3 + 1) < (X.1 : Int)) ∧ ((R32 (x3 + 2)) ∧ ((0 ≤ (x3 + 2) ∧ (x3 + 2) < (X.1 : Int)) ∧ Wp X 2 86 0 [vr 89, vi (X.2 (x3 + 1)), vi (X.2 (x3 + 2))] [] h (fun v h' => Wp X 17 247 499 [vr 5, vr 6, vr 89, vi x3] (psh v [vi s0]) h' Q)))))) : Wp X 17 247 485 [vr 5, vr 6, vr 89, vi x3] [vi s0] h Q := by
  refine wp_aload rfl rfl ?_
  refine wp_aload rfl rfl ?_
  refine wp_iload rfl rfl ?_
  refine wp_iconst rfl ?_
  refine wp_iadd rfl ?_
  have g1 := H.1
  replace H := H.2
  refine Wp.topI (y := (x3 + 1)) (w32_I g1) ?_
  have g2 := H.1
  replace H := H.2
  refine wp_script rfl g2 ?_
  refine wp_aload rfl rfl ?_
  refine wp_iload rfl rfl ?_
  refine wp_iconst rfl ?_
  refine wp_iadd rfl ?_
  have g3 := H.1
  replace H := H.2
  refine Wp.topI (y := (x3 + 2)) (w32_I g3) ?_
  have g4 := H.1
  replace H := H.2
  refine wp_script rfl g4 ?_
  exact wp_call (k := 86) (ρ2 := 2) (L2 := [vr 89, vi (X.2 (x3 + 1)), vi (X.2 (x3 + 2))]) rfl rfl rfl (Nat.le_of_ble_eq_true rfl) (Nat.le_of_ble_eq_true rfl) (Nat.le_of_ble_eq_true rfl) (rcv_V rfl (congrArg Prod.fst (kf_89 X.1))) rfl H
theorem S247_499 {X : Nat × (Int → Int)} {h : HP} {Q : bQ} (x3 : Int) (s0 : Int) (s1 : Int) (H : ((s1 = s0 → ((R32 (x3 + 6)) ∧ Wp X 17 247 18 [vr 5, vr 6, vr 89, vi (x3 + 6)] [] h Q)) ∧ (s1 ≠ s0 → Q (some (vi 0)) h))) : Wp X 17 247 499 [vr 5, vr 6, vr 89, vi x3] [vi s0, vi s1] h Q := by
  refine wp_iceq (tn := 1217) rfl rfl (fun c1 => ?_) (fun c1 => ?_)
  · replace H := H.1 c1
    have g2 := H.1
    replace H := H.2
    refine wp_iincR (L2 := [vr 5, vr 6, vr 89, vi (x3 + 6)]) rfl rfl g2 rfl ?_
    refine wp_goto (tn := 18) rfl rfl ?_
    exact H
  · replace H := H.2 c1
    refine wp_iconst rfl ?_
    exact wp_zret rfl rfl (by decide) H
theorem S247_513 {X : Nat × (Int → Int)} {h : HP} {Q : bQ} (x3 : Int) (s0 : Int) (H : ((R32 (x3 + 1)) ∧ ((0 ≤ (x3 + 1) ∧ (x3 + 1) < (X.1 : Int)) ∧ Wp X 2 87 0 [vr 89, vi (X.2 (x3 + 1)), vu] [] h (fun v h' => Wp X 17 247 522 [vr 5, vr 6, vr 89, vi x3] (psh v [vi s0]) h' Q)))) : Wp X 17 247 513 [vr 5, vr 6, vr 89, vi x3] [vi s0] h Q := by
  refine wp_aload rfl rfl ?_
  refine wp_aload rfl rfl ?_
  refine wp_iload rfl rfl ?_
  refine wp_iconst rfl ?_
  refine wp_iadd rfl ?_
  have g1 := H.1
  replace H := H.2
  refine Wp.topI (y := (x3 + 1)) (w32_I g1) ?_
  have g2 := H.1
  replace H := H.2
  refine wp_script rfl g2 ?_
  exact wp_call (k := 87) (ρ2 := 2) (L2 := [vr 89, vi (X.2 (x3 + 1)), vu]) rfl rfl rfl (Nat.le_of_ble_eq_true rfl) (Nat.le_of_ble_eq_true rfl) (Nat.le_of_ble_eq_true rfl) (rcv_V rfl (congrArg Prod.fst (kf_89 X.1))) rfl H
theorem S247_522 {X : Nat × (Int → Int)} {h : HP} {Q : bQ} (x3 : Int) (s0 : Int) (s1 : Int) (H : ((s1 = s0 → ((R32 (x3 + 6)) ∧ Wp X 17 247 18 [vr 5, vr 6, vr 89, vi (x3 + 6)] [] h Q)) ∧ (s1 ≠ s0 → Q (some (vi 0)) h))) : Wp X 17 247 522 [vr 5, vr 6, vr 89, vi x3] [vi s0, vi s1] h Q := by
  refine wp_iceq (tn := 1217) rfl rfl (fun c1 => ?_) (fun c1 => ?_)
  · replace H := H.1 c1
    have g2 := H.1
    replace H := H.2
    refine wp_iincR (L2 := [vr 5, vr 6, vr 89, vi (x3 + 6)]) rfl rfl g2 rfl ?_
    refine wp_goto (tn := 18) rfl rfl ?_
    exact H
  · replace H := H.2 c1
    refine wp_iconst rfl ?_
    exact wp_zret rfl rfl (by decide) H
theorem S247_536 {X : Nat × (Int → Int)} {h : HP} {Q : bQ} (x3 : Int) (s0 : Int) (H : ((R32 (x3 + 1)) ∧ ((0 ≤ (x3 + 1) ∧ (x3 + 1) < (X.1 : Int)) ∧ Wp X 4 93 0 [vr 89, vi (X.2 (x3 + 1))] [] h (fun v h' => Wp X 17 247 545 [vr 5, vr 6, vr 89, vi x3] (psh v [vi s0]) h' Q)))) : Wp X 17 247 536 [vr 5, vr 6, vr 89, vi x3] [vi s0] h Q := by
  refine wp_aload rfl rfl ?_
  refine wp_aload rfl rfl ?_
  refine wp_iload rfl rfl ?_
  refine wp_iconst rfl ?_
  refine wp_iadd rfl ?_
  have g1 := H.1
  replace H := H.2
  refine Wp.topI (y := (x3 + 1)) (w32_I g1) ?_
  have g2 := H.1
  replace H := H.2
  refine wp_script rfl g2 ?_
  exact wp_call (k := 93) (ρ2 := 4) (L2 := [vr 89, vi (X.2 (x3 + 1))]) rfl rfl rfl (Nat.le_of_ble_eq_true rfl) (Nat.le_of_ble_eq_true rfl) (Nat.le_of_ble_eq_true rfl) (rcv_V rfl (congrArg Prod.fst (kf_89 X.1))) rfl H
theorem S247_545 {X : Nat × (Int → Int)} {h : HP} {Q : bQ} (x3 : Int) (s0 : Int) (s1 : Int) (H : ((s1 = s0 → ((R32 (x3 + 6)) ∧ Wp X 17 247 18 [vr 5, vr 6, vr 89, vi (x3 + 6)] [] h Q)) ∧ (s1 ≠ s0 → Q (some (vi 0)) h))) : Wp X 17 247 545 [vr 5, vr 6, vr 89, vi x3] [vi s0, vi s1] h Q := by
  refine wp_iceq (tn := 1217) rfl rfl (fun c1 => ?_) (fun c1 => ?_)
  · replace H := H.1 c1
    have g2 := H.1
    replace H := H.2
    refine wp_iincR (L2 := [vr 5, vr 6, vr 89, vi (x3 + 6)]) rfl rfl g2 rfl ?_
    refine wp_goto (tn := 18) rfl rfl ?_
    exact H
  · replace H := H.2 c1
    refine wp_iconst rfl ?_
    exact wp_zret rfl rfl (by decide) H
theorem S247_564 {X : Nat × (Int → Int)} {h : HP} {Q : bQ} (x3 : Int) (s0 : Int) (H : ((R32 (x3 + 1)) ∧ ((0 ≤ (x3 + 1) ∧ (x3 + 1) < (X.1 : Int)) ∧ ((R32 (x3 + 2)) ∧ ((0 ≤ (x3 + 2) ∧ (x3 + 2) < (X.1 : Int)) ∧ Wp X 5 101 0 [vr 89, vi (X.2 (x3 + 1)), vi (X.2 (x3 + 2))] [] h (fun v h' => Wp X 17 247 578 [vr 5, vr 6, vr 89, vi x3] (psh v [vi s0]) h' Q)))))) : Wp X 17 247 564 [vr 5, vr 6, vr 89, vi x3] [vi s0] h Q := by
  refine wp_aload rfl rfl ?_
  refine wp_aload rfl rfl ?_
  refine wp_iload rfl rfl ?_
  refine wp_iconst rfl ?_
  refine wp_iadd rfl ?_
  have g1 := H.1
  replace H := H.2
  refine Wp.topI (y := (x3 + 1)) (w32_I g1) ?_
  have g2 := H.1
  replace H := H.2
  refine wp_script rfl g2 ?_
  refine wp_aload rfl rfl ?_
  refine wp_iload rfl rfl ?_
  refine wp_iconst rfl ?_
  refine wp_iadd rfl ?_
  have g3 := H.1
  replace H := H.2
  refine Wp.topI (y := (x3 + 2)) (w32_I g3) ?_
  have g4 := H.1
  replace H := H.2
  refine wp_script rfl g4 ?_
  exact wp_call (k := 101) (ρ2 := 5) (L2 := [vr 89, vi (X.2 (x3 + 1)), vi (X.2 (x3 + 2))]) rfl rfl rfl (Nat.le_of_ble_eq_true rfl) (Nat.le_of_ble_eq_true rfl) (Nat.le_of_ble_eq_true rfl) (rcv_V rfl (congrArg Prod.fst (kf_89 X.1))) rfl H
theorem S247_578 {X : Nat × (Int → Int)} {h : HP} {Q : bQ} (x3 : Int) (s0 : Int) (s1 : Int) (H : ((s1 = s0 → ((R32 (x3 + 6)) ∧ Wp X 17 247 18 [vr 5, vr 6, vr 89, vi (x3 + 6)] [] h Q)) ∧ (s1 ≠ s0 → Q (some (vi 0)) h))) : Wp X 17 247 578 [vr 5, vr 6, vr 89, vi x3] [vi s0, vi s1] h Q := by
  refine wp_iceq (tn := 1217) rfl rfl (fun c1 => ?_) (fun c1 => ?_)
  · replace H := H.1 c1
    have g2 := H.1
    replace H := H.2
    refine wp_iincR (L2 := [vr 5, vr 6, vr 89, vi (x3 + 6)]) rfl rfl g2 rfl ?_
    refine wp_goto (tn := 18) rfl rfl ?_
    exact H
  · replace H := H.2 c1
    refine wp_iconst rfl ?_
    exact wp_zret rfl rfl (by decide) H
theorem S247_597 {X : Nat × (Int → Int)} {h : HP} {Q : bQ} (x3 : Int) (s0 : Int) (H : ((R32 (x3 + 1)) ∧ ((0 ≤ (x3 + 1) ∧ (x3 + 1) < (X.1 : Int)) ∧ ((R32 (x3 + 2)) ∧ ((0 ≤ (x3 + 2) ∧ (x3 + 2) < (X.1 : Int)) ∧ Wp X 7 107 0 [vr 89, vi (X.2 (x3 + 1)), vi (X.2 (x3 + 2))] [] h (fun v h' => Wp X 17 247 611 [vr 5, vr 6, vr 89, vi x3] (psh v [vi s0]) h' Q)))))) : Wp X 17 247 597 [vr 5, vr 6, vr 89, vi x3] [vi s0] h Q := by
  refine wp_aload rfl rfl ?_
  refine wp_aload rfl rfl ?_
  refine wp_iload rfl rfl ?_
  refine wp_iconst rfl ?_
  refine wp_iadd rfl ?_
  have g1 := H.1
  replace H := H.2
  refine Wp.topI (y := (x3 + 1)) (w32_I g1) ?_
  have g2 := H.1
  replace H := H.2
  refine wp_script rfl g2 ?_
  refine wp_aload rfl rfl ?_
  refine wp_iload rfl rfl ?_
  refine wp_iconst rfl ?_
  refine wp_iadd rfl ?_
  have g3 := H.1
  replace H := H.2
  refine Wp.topI (y := (x3 + 2)) (w32_I g3) ?_
  have g4 := H.1
  replace H := H.2
  refine wp_script rfl g4 ?_
  exact wp_call (k := 107) (ρ2 := 7) (L2 := [vr 89, vi (X.2 (x3 + 1)), vi (X.2 (x3 + 2))]) rfl rfl rfl (Nat.le_of_ble_eq_true rfl) (Nat.le_of_ble_eq_true rfl) (Nat.le_of_ble_eq_true rfl) (rcv_V rfl (congrArg Prod.fst (kf_89 X.1))) rfl H
theorem S247_611 {X : Nat × (Int → Int)} {h : HP} {Q : bQ} (x3 : Int) (s0 : Int) (s1 : Int) (H : ((s1 = s0 → ((R32 (x3 + 6)) ∧ Wp X 17 247 18 [vr 5, vr 6, vr 89, vi (x3 + 6)] [] h Q)) ∧ (s1 ≠ s0 → Q (some (vi 0)) h))) : Wp X 17 247 611 [vr 5, vr 6, vr 89, vi x3] [vi s0, vi s1] h Q := by
  refine wp_iceq (tn := 1217) rfl rfl (fun c1 => ?_) (fun c1 => ?_)
  · replace H := H.1 c1
    have g2 := H.1
    replace H := H.2
    refine wp_iincR (L2 := [vr 5, vr 6, vr 89, vi (x3 + 6)]) rfl rfl g2 rfl ?_
    refine wp_goto (tn := 18) rfl rfl ?_
    exact H
  · replace H := H.2 c1
    refine wp_iconst rfl ?_
    exact wp_zret rfl rfl (by decide) H
theorem S247_625 {X : Nat × (Int → Int)} {h : HP} {Q : bQ} (x3 : Int) (s0 : Int) (H : ((R32 (x3 + 1)) ∧ ((0 ≤ (x3 + 1) ∧ (x3 + 1) < (X.1 : Int)) ∧ Wp X 2 108 0 [vr 89, vi (X.2 (x3 + 1)), vu, vu, vu, vu] [] h (fun v h' => Wp X 17 247 634 [vr 5, vr 6, vr 89, vi x3] (psh v [vi s0]) h' Q)))) : Wp X 17 247 625 [vr 5, vr 6, vr 89, vi x3] [vi s0] h Q := by
  refine wp_aload rfl rfl ?_
  refine wp_aload rfl rfl ?_
  refine wp_iload rfl rfl ?_
  refine wp_iconst rfl ?_
  refine wp_iadd rfl ?_
  have g1 := H.1
  replace H := H.2
  refine Wp.topI (y := (x3 + 1)) (w32_I g1) ?_
  have g2 := H.1
  replace H := H.2
  refine wp_script rfl g2 ?_
  exact wp_call (k := 108) (ρ2 := 2) (L2 := [vr 89, vi (X.2 (x3 + 1)), vu, vu, vu, vu]) rfl rfl rfl (Nat.le_of_ble_eq_true rfl) (Nat.le_of_ble_eq_true rfl) (Nat.le_of_ble_eq_true rfl) (rcv_V rfl (congrArg Prod.fst (kf_89 X.1))) rfl H
theorem S247_634 {X : Nat × (Int → Int)} {h : HP} {Q : bQ} (x3 : Int) (s0 : Int) (s1 : Int) (H : ((s1 = s0 → ((R32 (x3 + 6)) ∧ Wp X 17 247 18 [vr 5, vr 6, vr 89, vi (x3 + 6)] [] h Q)) ∧ (s1 ≠ s0 → Q (some (vi 0)) h))) : Wp X 17 247 634 [vr 5, vr 6, vr 89, vi x3] [vi s0, vi s1] h Q := by
  refine wp_iceq (tn := 1217) rfl rfl (fun c1 => ?_) (fun c1 => ?_)
  · replace H := H.1 c1
    have g2 := H.1
    replace H := H.2
    refine wp_iincR (L2 := [vr 5, vr 6, vr 89, vi (x3 + 6)]) rfl rfl g2 rfl ?_
    refine wp_goto (tn := 18) rfl rfl ?_
    exact H
  · replace H := H.2 c1
    refine wp_iconst rfl ?_
    exact wp_zret rfl rfl (by decide) H
theorem S247_648 {X : Nat × (Int → Int)} {h : HP} {Q : bQ} (x3 : Int) (s0 : Int) (H : ((R32 (x3 + 1)) ∧ ((0 ≤ (x3 + 1) ∧ (x3 + 1) < (X.1 : Int)) ∧ Wp X 1 109 0 [vr 89, vi (X.2 (x3 + 1))] [] h (fun v h' => Wp X 17 247 657 [vr 5, vr 6, vr 89, vi x3] (psh v [vi s0]) h' Q)))) : Wp X 17 247 648 [vr 5, vr 6, vr 89, vi x3] [vi s0] h Q := by
  refine wp_aload rfl rfl ?_
  refine wp_aload rfl rfl ?_
  refine wp_iload rfl rfl ?_
  refine wp_iconst rfl ?_
  refine wp_iadd rfl ?_
  have g1 := H.1
  replace H := H.2
  refine Wp.topI (y := (x3 + 1)) (w32_I g1) ?_
  have g2 := H.1
  replace H := H.2
  refine wp_script rfl g2 ?_
  exact wp_call (k := 109) (ρ2 := 1) (L2 := [vr 89, vi (X.2 (x3 + 1))]) rfl rfl rfl (Nat.le_of_ble_eq_true rfl) (Nat.le_of_ble_eq_true rfl) (Nat.le_of_ble_eq_true rfl) (rcv_V rfl (congrArg Prod.fst (kf_89 X.1))) rfl H
theorem S247_657 {X : Nat × (Int → Int)} {h : HP} {Q : bQ} (x3 : Int) (s0 : Int) (s1 : Int) (H : ((s1 = s0 → ((R32 (x3 + 6)) ∧ Wp X 17 247 18 [vr 5, vr 6, vr 89, vi (x3 + 6)] [] h Q)) ∧ (s1 ≠ s0 → Q (some (vi 0)) h))) : Wp X 17 247 657 [vr 5, vr 6, vr 89, vi x3] [vi s0, vi s1] h Q := by
  refine wp_iceq (tn := 1217) rfl rfl (fun c1 => ?_) (fun c1 => ?_)
  · replace H := H.1 c1
    have g2 := H.1
    replace H := H.2
    refine wp_iincR (L2 := [vr 5, vr 6, vr 89, vi (x3 + 6)]) rfl rfl g2 rfl ?_
    refine wp_goto (tn := 18) rfl rfl ?_
    exact H
  · replace H := H.2 c1
    refine wp_iconst rfl ?_
    exact wp_zret rfl rfl (by decide) H
theorem S247_699 {X : Nat × (Int → Int)} {h : HP} {Q : bQ} (x3 : Int) (s0 : Int) (H : ((R32 (x3 + 1)) ∧ ((0 ≤ (x3 + 1) ∧ (x3 + 1) < (X.1 : Int)) ∧ ((R32 (x3 + 2)) ∧ ((0 ≤ (x3 + 2) ∧ (x3 + 2) < (X.1 : Int)) ∧ ((R32 (x3 + 3)) ∧ ((0 ≤ (x3 + 3) ∧ (x3 + 3) < (X.1 : Int)) ∧ ((R32 (x3 + 4)) ∧ ((0 ≤ (x3 + 4) ∧ (x3 + 4) < (X.1 : Int)) ∧ (((X.2 (x3 + 4)) = 0 → ((R32 (x3 + 5)) ∧ ((0 ≤ (x3 + 5) ∧ (x3 + 5) < (X.1 : Int)) ∧ Wp X 6 119 0 [vr 89, vi (X.2 (x3 + 1)), vi (X.2 (x3 + 2)), vi (X.2 (x3 + 3)), vi 0, vi (X.2 (x3 + 5))] [] h (fun v h' => Wp X 17 247 736 [vr 5, vr 6, vr 89, vi x3] (psh v [vl s0]) h' Q)))) ∧ ((X.2 (x3 + 4)) ≠ 0 → ((R32 (x3 + 5)) ∧ ((0 ≤ (x3 + 5) ∧ (x3 + 5) < (X.1 : Int)) ∧ Wp X 6 119 0 [vr 89, vi (X.2 (x3 + 1)), vi (X.2 (x3 + 2)), vi (X.2 (x3 + 3)), vi 1, vi (X.2 (x3 + 5))] [] h (fun v h' => Wp X 17 247 736 [vr 5, vr 6, vr 89, vi x3] (psh v [vl s0]) h' Q)))))))))))))) : Wp X 17 247 699 [vr 5, vr 6, vr 89, vi x3] [vl s0] h Q := by
  refine wp_aload rfl rfl ?_
  refine wp_aload rfl rfl ?_
  refine wp_iload rfl rfl ?_
  refine wp_iconst rfl ?_
  refine wp_iadd rfl ?_
  have g1 := H.1
  replace H := H.2
  refine Wp.topI (y := (x3 + 1)) (w32_I g1) ?_
  have g2 := H.1
  replace H := H.2
  refine wp_script rfl g2 ?_
  refine wp_aload rfl rfl ?_
  refine wp_iload rfl rfl ?_
  refine wp_iconst rfl ?_
  refine wp_iadd rfl ?_
  have g3 := H.1
  replace H := H.2
  refine Wp.topI (y := (x3 + 2)) (w32_I g3) ?_
  have g4 := H.1
  replace H := H.2
  refine wp_script rfl g4 ?_
  refine wp_aload rfl rfl ?_
  refine wp_iload rfl rfl ?_
  refine wp_iconst rfl ?_
  refine wp_iadd rfl ?_
  have g5 := H.1
  replace H := H.2
  refine Wp.topI (y := (x3 + 3)) (w32_I g5) ?_
  have g6 := H.1
  replace H := H.2
  refine wp_script rfl g6 ?_
  refine wp_aload rfl rfl ?_
  refine wp_iload rfl rfl ?_
  refine wp_iconst rfl ?_
  refine wp_iadd rfl ?_
  have g7 := H.1
  replace H := H.2
  refine Wp.topI (y := (x3 + 4)) (w32_I g7) ?_
  have g8 := H.1
  replace H := H.2
  refine wp_script rfl g8 ?_
  refine wp_ifeq (tn := 727) rfl rfl (fun c9 => ?_) (fun c9 => ?_)
  · replace H := H.1 c9
    refine wp_iconst rfl ?_
    refine wp_aload rfl rfl ?_
    refine wp_iload rfl rfl ?_
    refine wp_iconst rfl ?_
    refine wp_iadd rfl ?_
    have g10 := H.1
    replace H := H.2
    refine Wp.topI (y := (x3 + 5)) (w32_I g10) ?_
    have g11 := H.1
    replace H := H.2
    refine wp_script rfl g11 ?_
    exact wp_call (k := 119) (ρ2 := 6) (L2 := [vr 89, vi (X.2 (x3 + 1)), vi (X.2 (x3 + 2)), vi (X.2 (x3 + 3)), vi 0, vi (X.2 (x3 + 5))]) rfl rfl rfl (Nat.le_of_ble_eq_true rfl) (Nat.le_of_ble_eq_true rfl) (Nat.le_of_ble_eq_true rfl) (rcv_V rfl (congrArg Prod.fst (kf_89 X.1))) rfl H
  · replace H := H.2 c9
    refine wp_iconst rfl ?_
    refine wp_goto (tn := 728) rfl rfl ?_
    refine wp_aload rfl rfl ?_
    refine wp_iload rfl rfl ?_
    refine wp_iconst rfl ?_
    refine wp_iadd rfl ?_
    have g12 := H.1
    replace H := H.2
    refine Wp.topI (y := (x3 + 5)) (w32_I g12) ?_
    have g13 := H.1
    replace H := H.2
    refine wp_script rfl g13 ?_
    exact wp_call (k := 119) (ρ2 := 6) (L2 := [vr 89, vi (X.2 (x3 + 1)), vi (X.2 (x3 + 2)), vi (X.2 (x3 + 3)), vi 1, vi (X.2 (x3 + 5))]) rfl rfl rfl (Nat.le_of_ble_eq_true rfl) (Nat.le_of_ble_eq_true rfl) (Nat.le_of_ble_eq_true rfl) (rcv_V rfl (congrArg Prod.fst (kf_89 X.1))) rfl H
theorem S247_736 {X : Nat × (Int → Int)} {h : HP} {Q : bQ} (x3 : Int) (s0 : Int) (s1 : Int) (H : (((lcp s1 s0) = 0 → ((R32 (x3 + 6)) ∧ Wp X 17 247 18 [vr 5, vr 6, vr 89, vi (x3 + 6)] [] h Q)) ∧ ((lcp s1 s0) ≠ 0 → Q (some (vi 0)) h))) : Wp X 17 247 736 [vr 5, vr 6, vr 89, vi x3] [vl s0, vl s1] h Q := by
  refine wp_lcmp rfl ?_
  refine wp_ifeq (tn := 1217) rfl rfl (fun c1 => ?_) (fun c1 => ?_)
  · replace H := H.1 c1
    have g2 := H.1
    replace H := H.2
    refine wp_iincR (L2 := [vr 5, vr 6, vr 89, vi (x3 + 6)]) rfl rfl g2 rfl ?_
    refine wp_goto (tn := 18) rfl rfl ?_
    exact H
  · replace H := H.2 c1
    refine wp_iconst rfl ?_
    exact wp_zret rfl rfl (by decide) H
theorem S247_761 {X : Nat × (Int → Int)} {h : HP} {Q : bQ} (x3 : Int) (s0 : Int) (H : ((R32 (x3 + 1)) ∧ ((0 ≤ (x3 + 1) ∧ (x3 + 1) < (X.1 : Int)) ∧ ((R32 (x3 + 2)) ∧ ((0 ≤ (x3 + 2) ∧ (x3 + 2) < (X.1 : Int)) ∧ ((R32 (x3 + 3)) ∧ ((0 ≤ (x3 + 3) ∧ (x3 + 3) < (X.1 : Int)) ∧ Wp X 6 121 0 [vr 89, vi (X.2 (x3 + 1)), vi (X.2 (x3 + 2)), vi (X.2 (x3 + 3)), vu, vu, vu, vu, vu] [] h (fun v h' => Wp X 17 247 780 [vr 5, vr 6, vr 89, vi x3] (psh v [vl s0]) h' Q)))))))) : Wp X 17 247 761 [vr 5, vr 6, vr 89, vi x3] [vl s0] h Q := by
  refine wp_aload rfl rfl ?_
  refine wp_aload rfl rfl ?_
  refine wp_iload rfl rfl ?_
  refine wp_iconst rfl ?_
  refine wp_iadd rfl ?_
  have g1 := H.1
  replace H := H.2
  refine Wp.topI (y := (x3 + 1)) (w32_I g1) ?_
  have g2 := H.1
  replace H := H.2
  refine wp_script rfl g2 ?_
  refine wp_aload rfl rfl ?_
  refine wp_iload rfl rfl ?_
  refine wp_iconst rfl ?_
  refine wp_iadd rfl ?_
  have g3 := H.1
  replace H := H.2
  refine Wp.topI (y := (x3 + 2)) (w32_I g3) ?_
  have g4 := H.1
  replace H := H.2
  refine wp_script rfl g4 ?_
  refine wp_aload rfl rfl ?_
  refine wp_iload rfl rfl ?_
  refine wp_iconst rfl ?_
  refine wp_iadd rfl ?_
  have g5 := H.1
  replace H := H.2
  refine Wp.topI (y := (x3 + 3)) (w32_I g5) ?_
  have g6 := H.1
  replace H := H.2
  refine wp_script rfl g6 ?_
  exact wp_call (k := 121) (ρ2 := 6) (L2 := [vr 89, vi (X.2 (x3 + 1)), vi (X.2 (x3 + 2)), vi (X.2 (x3 + 3)), vu, vu, vu, vu, vu]) rfl rfl rfl (Nat.le_of_ble_eq_true rfl) (Nat.le_of_ble_eq_true rfl) (Nat.le_of_ble_eq_true rfl) (rcv_V rfl (congrArg Prod.fst (kf_89 X.1))) rfl H
theorem S247_780 {X : Nat × (Int → Int)} {h : HP} {Q : bQ} (x3 : Int) (s0 : Int) (s1 : Int) (H : (((lcp s1 s0) = 0 → ((R32 (x3 + 6)) ∧ Wp X 17 247 18 [vr 5, vr 6, vr 89, vi (x3 + 6)] [] h Q)) ∧ ((lcp s1 s0) ≠ 0 → Q (some (vi 0)) h))) : Wp X 17 247 780 [vr 5, vr 6, vr 89, vi x3] [vl s0, vl s1] h Q := by
  refine wp_lcmp rfl ?_
  refine wp_ifeq (tn := 1217) rfl rfl (fun c1 => ?_) (fun c1 => ?_)
  · replace H := H.1 c1
    have g2 := H.1
    replace H := H.2
    refine wp_iincR (L2 := [vr 5, vr 6, vr 89, vi (x3 + 6)]) rfl rfl g2 rfl ?_
    refine wp_goto (tn := 18) rfl rfl ?_
    exact H
  · replace H := H.2 c1
    refine wp_iconst rfl ?_
    exact wp_zret rfl rfl (by decide) H
theorem S247_805 {X : Nat × (Int → Int)} {h : HP} {Q : bQ} (x3 : Int) (s0 : Int) (H : ((R32 (x3 + 1)) ∧ ((0 ≤ (x3 + 1) ∧ (x3 + 1) < (X.1 : Int)) ∧ ((R32 (x3 + 2)) ∧ ((0 ≤ (x3 + 2) ∧ (x3 + 2) < (X.1 : Int)) ∧ ((R32 (x3 + 3)) ∧ ((0 ≤ (x3 + 3) ∧ (x3 + 3) < (X.1 : Int)) ∧ Wp X 4 123 0 [vr 89, vi (X.2 (x3 + 1)), vi (X.2 (x3 + 2)), vi (X.2 (x3 + 3)), vu] [] h (fun v h' => Wp X 17 247 824 [vr 5, vr 6, vr 89, vi x3] (psh v [vl s0]) h' Q)))))))) : Wp X 17 247 805 [vr 5, vr 6, vr 89, vi x3] [vl s0] h Q := by
  refine wp_aload rfl rfl ?_
  refine wp_aload rfl rfl ?_
  refine wp_iload rfl rfl ?_
  refine wp_iconst rfl ?_
  refine wp_iadd rfl ?_
  have g1 := H.1
  replace H := H.2
  refine Wp.topI (y := (x3 + 1)) (w32_I g1) ?_
  have g2 := H.1
  replace H := H.2
  refine wp_script rfl g2 ?_
  refine wp_aload rfl rfl ?_
  refine wp_iload rfl rfl ?_
  refine wp_iconst rfl ?_
  refine wp_iadd rfl ?_
  have g3 := H.1
  replace H := H.2
  refine Wp.topI (y := (x3 + 2)) (w32_I g3) ?_
  have g4 := H.1
  replace H := H.2
  refine wp_script rfl g4 ?_
  refine wp_aload rfl rfl ?_
  refine wp_iload rfl rfl ?_
  refine wp_iconst rfl ?_
  refine wp_iadd rfl ?_
  have g5 := H.1
  replace H := H.2
  refine Wp.topI (y := (x3 + 3)) (w32_I g5) ?_
  have g6 := H.1
  replace H := H.2
  refine wp_script rfl g6 ?_
  exact wp_call (k := 123) (ρ2 := 4) (L2 := [vr 89, vi (X.2 (x3 + 1)), vi (X.2 (x3 + 2)), vi (X.2 (x3 + 3)), vu]) rfl rfl rfl (Nat.le_of_ble_eq_true rfl) (Nat.le_of_ble_eq_true rfl) (Nat.le_of_ble_eq_true rfl) (rcv_V rfl (congrArg Prod.fst (kf_89 X.1))) rfl H
theorem S247_824 {X : Nat × (Int → Int)} {h : HP} {Q : bQ} (x3 : Int) (s0 : Int) (s1 : Int) (H : (((lcp s1 s0) = 0 → ((R32 (x3 + 6)) ∧ Wp X 17 247 18 [vr 5, vr 6, vr 89, vi (x3 + 6)] [] h Q)) ∧ ((lcp s1 s0) ≠ 0 → Q (some (vi 0)) h))) : Wp X 17 247 824 [vr 5, vr 6, vr 89, vi x3] [vl s0, vl s1] h Q := by
  refine wp_lcmp rfl ?_
  refine wp_ifeq (tn := 1217) rfl rfl (fun c1 => ?_) (fun c1 => ?_)
  · replace H := H.1 c1
    have g2 := H.1
    replace H := H.2
    refine wp_iincR (L2 := [vr 5, vr 6, vr 89, vi (x3 + 6)]) rfl rfl g2 rfl ?_
    refine wp_goto (tn := 18) rfl rfl ?_
    exact H
  · replace H := H.2 c1
    refine wp_iconst rfl ?_
    exact wp_zret rfl rfl (by decide) H
theorem S247_839 {X : Nat × (Int → Int)} {h : HP} {Q : bQ} (x3 : Int) (s0 : Int) (H : ((R32 (x3 + 1)) ∧ ((0 ≤ (x3 + 1) ∧ (x3 + 1) < (X.1 : Int)) ∧ Wp X 5 126 0 [vr 89, vi (X.2 (x3 + 1))] [] h (fun v h' => Wp X 17 247 848 [vr 5, vr 6, vr 89, vi x3] (psh v [vi s0]) h' Q)))) : Wp X 17 247 839 [vr 5, vr 6, vr 89, vi x3] [vi s0] h Q := by
  refine wp_aload rfl rfl ?_
  refine wp_aload rfl rfl ?_
  refine wp_iload rfl rfl ?_
  refine wp_iconst rfl ?_
  refine wp_iadd rfl ?_
  have g1 := H.1
  replace H := H.2
  refine Wp.topI (y := (x3 + 1)) (w32_I g1) ?_
  have g2 := H.1
  replace H := H.2
  refine wp_script rfl g2 ?_
  exact wp_call (k := 126) (ρ2 := 5) (L2 := [vr 89, vi (X.2 (x3 + 1))]) rfl rfl rfl (Nat.le_of_ble_eq_true rfl) (Nat.le_of_ble_eq_true rfl) (Nat.le_of_ble_eq_true rfl) (rcv_V rfl (congrArg Prod.fst (kf_89 X.1))) rfl H
theorem S247_848 {X : Nat × (Int → Int)} {h : HP} {Q : bQ} (x3 : Int) (s0 : Int) (s1 : Int) (H : ((s1 = s0 → ((R32 (x3 + 6)) ∧ Wp X 17 247 18 [vr 5, vr 6, vr 89, vi (x3 + 6)] [] h Q)) ∧ (s1 ≠ s0 → Q (some (vi 0)) h))) : Wp X 17 247 848 [vr 5, vr 6, vr 89, vi x3] [vi s0, vi s1] h Q := by
  refine wp_iceq (tn := 1217) rfl rfl (fun c1 => ?_) (fun c1 => ?_)
  · replace H := H.1 c1
    have g2 := H.1
    replace H := H.2
    refine wp_iincR (L2 := [vr 5, vr 6, vr 89, vi (x3 + 6)]) rfl rfl g2 rfl ?_
    refine wp_goto (tn := 18) rfl rfl ?_
    exact H
  · replace H := H.2 c1
    refine wp_iconst rfl ?_
    exact wp_zret rfl rfl (by decide) H
theorem S247_867 {X : Nat × (Int → Int)} {h : HP} {Q : bQ} (x3 : Int) (s0 : Int) (H : ((R32 (x3 + 1)) ∧ ((0 ≤ (x3 + 1) ∧ (x3 + 1) < (X.1 : Int)) ∧ ((R32 (x3 + 2)) ∧ ((0 ≤ (x3 + 2) ∧ (x3 + 2) < (X.1 : Int)) ∧ Wp X 1 124 0 [vr 89, vi (X.2 (x3 + 1)), vi (X.2 (x3 + 2))] [] h (fun v h' => Wp X 17 247 881 [vr 5, vr 6, vr 89, vi x3] (psh v [vi s0]) h' Q)))))) : Wp X 17 247 867 [vr 5, vr 6, vr 89, vi x3] [vi s0] h Q := by
  refine wp_aload rfl rfl ?_
  refine wp_aload rfl rfl ?_
  refine wp_iload rfl rfl ?_
  refine wp_iconst rfl ?_
  refine wp_iadd rfl ?_
  have g1 := H.1
  replace H := H.2
  refine Wp.topI (y := (x3 + 1)) (w32_I g1) ?_
  have g2 := H.1
  replace H := H.2
  refine wp_script rfl g2 ?_
  refine wp_aload rfl rfl ?_
  refine wp_iload rfl rfl ?_
  refine wp_iconst rfl ?_
  refine wp_iadd rfl ?_
  have g3 := H.1
  replace H := H.2
  refine Wp.topI (y := (x3 + 2)) (w32_I g3) ?_
  have g4 := H.1
  replace H := H.2
  refine wp_script rfl g4 ?_
  exact wp_call (k := 124) (ρ2 := 1) (L2 := [vr 89, vi (X.2 (x3 + 1)), vi (X.2 (x3 + 2))]) rfl rfl rfl (Nat.le_of_ble_eq_true rfl) (Nat.le_of_ble_eq_true rfl) (Nat.le_of_ble_eq_true rfl) (rcv_V rfl (congrArg Prod.fst (kf_89 X.1))) rfl H
theorem S247_881 {X : Nat × (Int → Int)} {h : HP} {Q : bQ} (x3 : Int) (s0 : Int) (s1 : Int) (H : ((s1 = s0 → ((R32 (x3 + 6)) ∧ Wp X 17 247 18 [vr 5, vr 6, vr 89, vi (x3 + 6)] [] h Q)) ∧ (s1 ≠ s0 → Q (some (vi 0)) h))) : Wp X 17 247 881 [vr 5, vr 6, vr 89, vi x3] [vi s0, vi s1] h Q := by
  refine wp_iceq (tn := 1217) rfl rfl (fun c1 => ?_) (fun c1 => ?_)
  · replace H := H.1 c1
    have g2 := H.1
    replace H := H.2
    refine wp_iincR (L2 := [vr 5, vr 6, vr 89, vi (x3 + 6)]) rfl rfl g2 rfl ?_
    refine wp_goto (tn := 18) rfl rfl ?_
    exact H
  · replace H := H.2 c1
    refine wp_iconst rfl ?_
    exact wp_zret rfl rfl (by decide) H
theorem S247_895 {X : Nat × (Int → Int)} {h : HP} {Q : bQ} (x3 : Int) (s0 : Int) (H : ((R32 (x3 + 1)) ∧ ((0 ≤ (x3 + 1) ∧ (x3 + 1) < (X.1 : Int)) ∧ Wp X 5 128 0 [vr 89, vi (X.2 (x3 + 1))] [] h (fun v h' => Wp X 17 247 904 [vr 5, vr 6, vr 89, vi x3] (psh v [vi s0]) h' Q)))) : Wp X 17 247 895 [vr 5, vr 6, vr 89, vi x3] [vi s0] h Q := by
  refine wp_aload rfl rfl ?_
  refine wp_aload rfl rfl ?_
  refine wp_iload rfl rfl ?_
  refine wp_iconst rfl ?_
  refine wp_iadd rfl ?_
  have g1 := H.1
  replace H := H.2
  refine Wp.topI (y := (x3 + 1)) (w32_I g1) ?_
  have g2 := H.1
  replace H := H.2
  refine wp_script rfl g2 ?_
  exact wp_call (k := 128) (ρ2 := 5) (L2 := [vr 89, vi (X.2 (x3 + 1))]) rfl rfl rfl (Nat.le_of_ble_eq_true rfl) (Nat.le_of_ble_eq_true rfl) (Nat.le_of_ble_eq_true rfl) (rcv_V rfl (congrArg Prod.fst (kf_89 X.1))) rfl H
theorem S247_904 {X : Nat × (Int → Int)} {h : HP} {Q : bQ} (x3 : Int) (s0 : Int) (s1 : Int) (H : ((s1 = s0 → ((R32 (x3 + 6)) ∧ Wp X 17 247 18 [vr 5, vr 6, vr 89, vi (x3 + 6)] [] h Q)) ∧ (s1 ≠ s0 → Q (some (vi 0)) h))) : Wp X 17 247 904 [vr 5, vr 6, vr 89, vi x3] [vi s0, vi s1] h Q := by
  refine wp_iceq (tn := 1217) rfl rfl (fun c1 => ?_) (fun c1 => ?_)
  · replace H := H.1 c1
    have g2 := H.1
    replace H := H.2
    refine wp_iincR (L2 := [vr 5, vr 6, vr 89, vi (x3 + 6)]) rfl rfl g2 rfl ?_
    refine wp_goto (tn := 18) rfl rfl ?_
    exact H
  · replace H := H.2 c1
    refine wp_iconst rfl ?_
    exact wp_zret rfl rfl (by decide) H
theorem S247_918 {X : Nat × (Int → Int)} {h : HP} {Q : bQ} (x3 : Int) (s0 : Int) (H : ((R32 (x3 + 1)) ∧ ((0 ≤ (x3 + 1) ∧ (x3 + 1) < (X.1 : Int)) ∧ Wp X 2 131 0 [vr 89, vi (X.2 (x3 + 1))] [] h (fun v h' => Wp X 17 247 927 [vr 5, vr 6, vr 89, vi x3] (psh v [vi s0]) h' Q)))) : Wp X 17 247 918 [vr 5, vr 6, vr 89, vi x3] [vi s0] h Q := by
  refine wp_aload rfl rfl ?_
  refine wp_aload rfl rfl ?_
  refine wp_iload rfl rfl ?_
  refine wp_iconst rfl ?_
  refine wp_iadd rfl ?_
  have g1 := H.1
  replace H := H.2
  refine Wp.topI (y := (x3 + 1)) (w32_I g1) ?_
  have g2 := H.1
  replace H := H.2
  refine wp_script rfl g2 ?_
  exact wp_call (k := 131) (ρ2 := 2) (L2 := [vr 89, vi (X.2 (x3 + 1))]) rfl rfl rfl (Nat.le_of_ble_eq_true rfl) (Nat.le_of_ble_eq_true rfl) (Nat.le_of_ble_eq_true rfl) (rcv_V rfl (congrArg Prod.fst (kf_89 X.1))) rfl H
theorem S247_927 {X : Nat × (Int → Int)} {h : HP} {Q : bQ} (x3 : Int) (s0 : Int) (s1 : Int) (H : ((s1 = s0 → ((R32 (x3 + 6)) ∧ Wp X 17 247 18 [vr 5, vr 6, vr 89, vi (x3 + 6)] [] h Q)) ∧ (s1 ≠ s0 → Q (some (vi 0)) h))) : Wp X 17 247 927 [vr 5, vr 6, vr 89, vi x3] [vi s0, vi s1] h Q := by
  refine wp_iceq (tn := 1217) rfl rfl (fun c1 => ?_) (fun c1 => ?_)
  · replace H := H.1 c1
    have g2 := H.1
    replace H := H.2
    refine wp_iincR (L2 := [vr 5, vr 6, vr 89, vi (x3 + 6)]) rfl rfl g2 rfl ?_
    refine wp_goto (tn := 18) rfl rfl ?_
    exact H
  · replace H := H.2 c1
    refine wp_iconst rfl ?_
    exact wp_zret rfl rfl (by decide) H
theorem S247_951 {X : Nat × (Int → Int)} {h : HP} {Q : bQ} (x3 : Int) (s0 : Int) (H : ((R32 (x3 + 1)) ∧ ((0 ≤ (x3 + 1) ∧ (x3 + 1) < (X.1 : Int)) ∧ ((R32 (x3 + 2)) ∧ ((0 ≤ (x3 + 2) ∧ (x3 + 2) < (X.1 : Int)) ∧ ((R32 (x3 + 3)) ∧ ((0 ≤ (x3 + 3) ∧ (x3 + 3) < (X.1 : Int)) ∧ Wp X 2 53 0 [vr 89, vi (X.2 (x3 + 1)), vi (X.2 (x3 + 2)), vi (X.2 (x3 + 3)), vu] [] h (fun v h' => Wp X 17 247 970 [vr 5, vr 6, vr 89, vi x3] (psh v [vi s0]) h' Q)))))))) : Wp X 17 247 951 [vr 5, vr 6, vr 89, vi x3] [vi s0] h Q := by
  refine wp_aload rfl rfl ?_
  refine wp_aload rfl rfl ?_
  refine wp_iload rfl rfl ?_
  refine wp_iconst rfl ?_
  refine wp_iadd rfl ?_
  have g1 := H.1
  replace H := H.2
  refine Wp.topI (y := (x3 + 1)) (w32_I g1) ?_
  have g2 := H.1
  replace H := H.2
  refine wp_script rfl g2 ?_
  refine wp_aload rfl rfl ?_
  refine wp_iload rfl rfl ?_
  refine wp_iconst rfl ?_
  refine wp_iadd rfl ?_
  have g3 := H.1
  replace H := H.2
  refine Wp.topI (y := (x3 + 2)) (w32_I g3) ?_
  have g4 := H.1
  replace H := H.2
  refine wp_script rfl g4 ?_
  refine wp_aload rfl rfl ?_
  refine wp_iload rfl rfl ?_
  refine wp_iconst rfl ?_
  refine wp_iadd rfl ?_
  have g5 := H.1
  replace H := H.2
  refine Wp.topI (y := (x3 + 3)) (w32_I g5) ?_
  have g6 := H.1
  replace H := H.2
  refine wp_script rfl g6 ?_
  exact wp_call (k := 53) (ρ2 := 2) (L2 := [vr 89, vi (X.2 (x3 + 1)), vi (X.2 (x3 + 2)), vi (X.2 (x3 + 3)), vu]) rfl rfl rfl (Nat.le_of_ble_eq_true rfl) (Nat.le_of_ble_eq_true rfl) (Nat.le_of_ble_eq_true rfl) (rcv_V rfl (congrArg Prod.fst (kf_89 X.1))) rfl H
theorem S247_970 {X : Nat × (Int → Int)} {h : HP} {Q : bQ} (x3 : Int) (s0 : Int) (s1 : Int) (H : ((s1 = s0 → ((R32 (x3 + 6)) ∧ Wp X 17 247 18 [vr 5, vr 6, vr 89, vi (x3 + 6)] [] h Q)) ∧ (s1 ≠ s0 → Q (some (vi 0)) h))) : Wp X 17 247 970 [vr 5, vr 6, vr 89, vi x3] [vi s0, vi s1] h Q := by
  refine wp_iceq (tn := 1217) rfl rfl (fun c1 => ?_) (fun c1 => ?_)
  · replace H := H.1 c1
    have g2 := H.1
    replace H := H.2
    refine wp_iincR (L2 := [vr 5, vr 6, vr 89, vi (x3 + 6)]) rfl rfl g2 rfl ?_
    refine wp_goto (tn := 18) rfl rfl ?_
    exact H
  · replace H := H.2 c1
    refine wp_iconst rfl ?_
    exact wp_zret rfl rfl (by decide) H
theorem S247_984 {X : Nat × (Int → Int)} {h : HP} {Q : bQ} (x3 : Int) (s0 : Int) (H : ((R32 (x3 + 1)) ∧ ((0 ≤ (x3 + 1) ∧ (x3 + 1) < (X.1 : Int)) ∧ Wp X 2 54 0 [vr 89, vi (X.2 (x3 + 1))] [] h (fun v h' => Wp X 17 247 993 [vr 5, vr 6, vr 89, vi x3] (psh v [vi s0]) h' Q)))) : Wp X 17 247 984 [vr 5, vr 6, vr 89, vi x3] [vi s0] h Q := by
  refine wp_aload rfl rfl ?_
  refine wp_aload rfl rfl ?_
  refine wp_iload rfl rfl ?_
  refine wp_iconst rfl ?_
  refine wp_iadd rfl ?_
  have g1 := H.1
  replace H := H.2
  refine Wp.topI (y := (x3 + 1)) (w32_I g1) ?_
  have g2 := H.1
  replace H := H.2
  refine wp_script rfl g2 ?_
  exact wp_call (k := 54) (ρ2 := 2) (L2 := [vr 89, vi (X.2 (x3 + 1))]) rfl rfl rfl (Nat.le_of_ble_eq_true rfl) (Nat.le_of_ble_eq_true rfl) (Nat.le_of_ble_eq_true rfl) (rcv_V rfl (congrArg Prod.fst (kf_89 X.1))) rfl H
theorem S247_993 {X : Nat × (Int → Int)} {h : HP} {Q : bQ} (x3 : Int) (s0 : Int) (s1 : Int) (H : ((s1 = s0 → ((R32 (x3 + 6)) ∧ Wp X 17 247 18 [vr 5, vr 6, vr 89, vi (x3 + 6)] [] h Q)) ∧ (s1 ≠ s0 → Q (some (vi 0)) h))) : Wp X 17 247 993 [vr 5, vr 6, vr 89, vi x3] [vi s0, vi s1] h Q := by
  refine wp_iceq (tn := 1217) rfl rfl (fun c1 => ?_) (fun c1 => ?_)
  · replace H := H.1 c1
    have g2 := H.1
    replace H := H.2
    refine wp_iincR (L2 := [vr 5, vr 6, vr 89, vi (x3 + 6)]) rfl rfl g2 rfl ?_
    refine wp_goto (tn := 18) rfl rfl ?_
    exact H
  · replace H := H.2 c1
    refine wp_iconst rfl ?_
    exact wp_zret rfl rfl (by decide) H
theorem S247_1022 {X : Nat × (Int → Int)} {h : HP} {Q : bQ} (x3 : Int) (s0 : Int) (H : ((R32 (x3 + 1)) ∧ ((0 ≤ (x3 + 1) ∧ (x3 + 1) < (X.1 : Int)) ∧ ((R32 (x3 + 2)) ∧ ((0 ≤ (x3 + 2) ∧ (x3 + 2) < (X.1 : Int)) ∧ ((R32 (x3 + 3)) ∧ ((0 ≤ (x3 + 3) ∧ (x3 + 3) < (X.1 : Int)) ∧ ((R32 (x3 + 4)) ∧ ((0 ≤ (x3 + 4) ∧ (x3 + 4) < (X.1 : Int)) ∧ Wp X 2 57 0 [vr 89, vi (X.2 (x3 + 1)), vi (X.2 (x3 + 2)), vi (X.2 (x3 + 3)), vi (X.2 (x3 + 4)), vu] [] h (fun v h' => Wp X 17 247 1046 [vr 5, vr 6, vr 89, vi x3] (psh v [vi s0]) h' Q)))))))))) : Wp X 17 247 1022 [vr 5, vr 6, vr 89, vi x3] [vi s0] h Q := by
  refine wp_aload rfl rfl ?_
  refine wp_aload rfl rfl ?_
  refine wp_iload rfl rfl ?_
  refine wp_iconst rfl ?_
  refine wp_iadd rfl ?_
  have g1 := H.1
  replace H := H.2
  refine Wp.topI (y := (x3 + 1)) (w32_I g1) ?_
  have g2 := H.1
  replace H := H.2
  refine wp_script rfl g2 ?_
  refine wp_aload rfl rfl ?_
  refine wp_iload rfl rfl ?_
  refine wp_iconst rfl ?_
  refine wp_iadd rfl ?_
  have g3 := H.1
  replace H := H.2
  refine Wp.topI (y := (x3 + 2)) (w32_I g3) ?_
  have g4 := H.1
  replace H := H.2
  refine wp_script rfl g4 ?_
  refine wp_aload rfl rfl ?_
  refine wp_iload rfl rfl ?_
  refine wp_iconst rfl ?_
  refine wp_iadd rfl ?_
  have g5 := H.1
  replace H := H.2
  refine Wp.topI (y := (x3 + 3)) (w32_I g5) ?_
  have g6 := H.1
  replace H := H.2
  refine wp_script rfl g6 ?_
  refine wp_aload rfl rfl ?_
  refine wp_iload rfl rfl ?_
  refine wp_iconst rfl ?_
  refine wp_iadd rfl ?_
  have g7 := H.1
  replace H := H.2
  refine Wp.topI (y := (x3 + 4)) (w32_I g7) ?_
  have g8 := H.1
  replace H := H.2
  refine wp_script rfl g8 ?_
  exact wp_call (k := 57) (ρ2 := 2) (L2 := [vr 89, vi (X.2 (x3 + 1)), vi (X.2 (x3 + 2)), vi (X.2 (x3 + 3)), vi (X.2 (x3 + 4)), vu]) rfl rfl rfl (Nat.le_of_ble_eq_true rfl) (Nat.le_of_ble_eq_true rfl) (Nat.le_of_ble_eq_true rfl) (rcv_V rfl (congrArg Prod.fst (kf_89 X.1))) rfl H
theorem S247_1046 {X : Nat × (Int → Int)} {h : HP} {Q : bQ} (x3 : Int) (s0 : Int) (s1 : Int) (H : ((s1 = s0 → ((R32 (x3 + 6)) ∧ Wp X 17 247 18 [vr 5, vr 6, vr 89, vi (x3 + 6)] [] h Q)) ∧ (s1 ≠ s0 → Q (some (vi 0)) h))) : Wp X 17 247 1046 [vr 5, vr 6, vr 89, vi x3] [vi s0, vi s1] h Q := by
  refine wp_iceq (tn := 1217) rfl rfl (fun c1 => ?_) (fun c1 => ?_)
  · replace H := H.1 c1
    have g2 := H.1
    replace H := H.2
    refine wp_iincR (L2 := [vr 5, vr 6, vr 89, vi (x3 + 6)]) rfl rfl g2 rfl ?_
    refine wp_goto (tn := 18) rfl rfl ?_
    exact H
  · replace H := H.2 c1
    refine wp_iconst rfl ?_
    exact wp_zret rfl rfl (by decide) H
theorem S247_1070 {X : Nat × (Int → Int)} {h : HP} {Q : bQ} (x3 : Int) (s0 : Int) (H : ((R32 (x3 + 1)) ∧ ((0 ≤ (x3 + 1) ∧ (x3 + 1) < (X.1 : Int)) ∧ ((R32 (x3 + 2)) ∧ ((0 ≤ (x3 + 2) ∧ (x3 + 2) < (X.1 : Int)) ∧ ((R32 (x3 + 3)) ∧ ((0 ≤ (x3 + 3) ∧ (x3 + 3) < (X.1 : Int)) ∧ Wp X 2 58 0 [vr 89, vi (X.2 (x3 + 1)), vi (X.2 (x3 + 2)), vi (X.2 (x3 + 3))] [] h (fun v h' => Wp X 17 247 1089 [vr 5, vr 6, vr 89, vi x3] (psh v [vi s0]) h' Q)))))))) : Wp X 17 247 1070 [vr 5, vr 6, vr 89, vi x3] [vi s0] h Q := by
  refine wp_aload rfl rfl ?_
  refine wp_aload rfl rfl ?_
  refine wp_iload rfl rfl ?_
  refine wp_iconst rfl ?_
  refine wp_iadd rfl ?_
  have g1 := H.1
  replace H := H.2
  refine Wp.topI (y := (x3 + 1)) (w32_I g1) ?_
  have g2 := H.1
  replace H := H.2
  refine wp_script rfl g2 ?_
  refine wp_aload rfl rfl ?_
  refine wp_iload rfl rfl ?_
  refine wp_iconst rfl ?_
  refine wp_iadd rfl ?_
  have g3 := H.1
  replace H := H.2
  refine Wp.topI (y := (x3 + 2)) (w32_I g3) ?_
  have g4 := H.1
  replace H := H.2
  refine wp_script rfl g4 ?_
  refine wp_aload rfl rfl ?_
  refine wp_iload rfl rfl ?_
  refine wp_iconst rfl ?_
  refine wp_iadd rfl ?_
  have g5 := H.1
  replace H := H.2
  refine Wp.topI (y := (x3 + 3)) (w32_I g5) ?_
  have g6 := H.1
  replace H := H.2
  refine wp_script rfl g6 ?_
  exact wp_call (k := 58) (ρ2 := 2) (L2 := [vr 89, vi (X.2 (x3 + 1)), vi (X.2 (x3 + 2)), vi (X.2 (x3 + 3))]) rfl rfl rfl (Nat.le_of_ble_eq_true rfl) (Nat.le_of_ble_eq_true rfl) (Nat.le_of_ble_eq_true rfl) (rcv_V rfl (congrArg Prod.fst (kf_89 X.1))) rfl H
theorem S247_1089 {X : Nat × (Int → Int)} {h : HP} {Q : bQ} (x3 : Int) (s0 : Int) (s1 : Int) (H : ((s1 = s0 → ((R32 (x3 + 6)) ∧ Wp X 17 247 18 [vr 5, vr 6, vr 89, vi (x3 + 6)] [] h Q)) ∧ (s1 ≠ s0 → Q (some (vi 0)) h))) : Wp X 17 247 1089 [vr 5, vr 6, vr 89, vi x3] [vi s0, vi s1] h Q := by
  refine wp_iceq (tn := 1217) rfl rfl (fun c1 => ?_) (fun c1 => ?_)
  · replace H := H.1 c1
    have g2 := H.1
    replace H := H.2
    refine wp_iincR (L2 := [vr 5, vr 6, vr 89, vi (x3 + 6)]) rfl rfl g2 rfl ?_
    refine wp_goto (tn := 18) rfl rfl ?_
    exact H
  · replace H := H.2 c1
    refine wp_iconst rfl ?_
    exact wp_zret rfl rfl (by decide) H
theorem S247_1123 {X : Nat × (Int → Int)} {h : HP} {Q : bQ} (x3 : Int) (s0 : Int) (H : ((R32 (x3 + 1)) ∧ ((0 ≤ (x3 + 1) ∧ (x3 + 1) < (X.1 : Int)) ∧ ((R32 (x3 + 2)) ∧ ((0 ≤ (x3 + 2) ∧ (x3 + 2) < (X.1 : Int)) ∧ ((R32 (x3 + 3)) ∧ ((0 ≤ (x3 + 3) ∧ (x3 + 3) < (X.1 : Int)) ∧ ((R32 (x3 + 4)) ∧ ((0 ≤ (x3 + 4) ∧ (x3 + 4) < (X.1 : Int)) ∧ ((R32 (x3 + 5)) ∧ ((0 ≤ (x3 + 5) ∧ (x3 + 5) < (X.1 : Int)) ∧ Wp X 2 59 0 [vr 89, vi (X.2 (x3 + 1)), vi (X.2 (x3 + 2)), vi (X.2 (x3 + 3)), vi (X.2 (x3 + 4)), vi (X.2 (x3 + 5)), vu] [] h (fun v h' => Wp X 17 247 1152 [vr 5, vr 6, vr 89, vi x3] (psh v [vi s0]) h' Q)))))))))))) : Wp X 17 247 1123 [vr 5, vr 6, vr 89, vi x3] [vi s0] h Q := by
  refine wp_aload rfl rfl ?_
  refine wp_aload rfl rfl ?_
  refine wp_iload rfl rfl ?_
  refine wp_iconst rfl ?_
  refine wp_iadd rfl ?_
  have g1 := H.1
  replace H := H.2
  refine Wp.topI (y := (x3 + 1)) (w32_I g1) ?_
  have g2 := H.1
  replace H := H.2
  refine wp_script rfl g2 ?_
  refine wp_aload rfl rfl ?_
  refine wp_iload rfl rfl ?_
  refine wp_iconst rfl ?_
  refine wp_iadd rfl ?_
  have g3 := H.1
  replace H := H.2
  refine Wp.topI (y := (x3 + 2)) (w32_I g3) ?_
  have g4 := H.1
  replace H := H.2
  refine wp_script rfl g4 ?_
  refine wp_aload rfl rfl ?_
  refine wp_iload rfl rfl ?_
  refine wp_iconst rfl ?_
  refine wp_iadd rfl ?_
  have g5 := H.1
  replace H := H.2
  refine Wp.topI (y := (x3 + 3)) (w32_I g5) ?_
  have g6 := H.1
  replace H := H.2
  refine wp_script rfl g6 ?_
  refine wp_aload rfl rfl ?_
  refine wp_iload rfl rfl ?_
  refine wp_iconst rfl ?_
  refine wp_iadd rfl ?_
  have g7 := H.1
  replace H := H.2
  refine Wp.topI (y := (x3 + 4)) (w32_I g7) ?_
  have g8 := H.1
  replace H := H.2
  refine wp_script rfl g8 ?_
  refine wp_aload rfl rfl ?_
  refine wp_iload rfl rfl ?_
  refine wp_iconst rfl ?_
  refine wp_iadd rfl ?_
  have g9 := H.1
  replace H := H.2
  refine Wp.topI (y := (x3 + 5)) (w32_I g9) ?_
  have g10 := H.1
  replace H := H.2
  refine wp_script rfl g10 ?_
  exact wp_call (k := 59) (ρ2 := 2) (L2 := [vr 89, vi (X.2 (x3 + 1)), vi (X.2 (x3 + 2)), vi (X.2 (x3 + 3)), vi (X.2 (x3 + 4)), vi (X.2 (x3 + 5)), vu]) rfl rfl rfl (Nat.le_of_ble_eq_true rfl) (Nat.le_of_ble_eq_true rfl) (Nat.le_of_ble_eq_true rfl) (rcv_V rfl (congrArg Prod.fst (kf_89 X.1))) rfl H
theorem S247_1152 {X : Nat × (Int → Int)} {h : HP} {Q : bQ} (x3 : Int) (s0 : Int) (s1 : Int) (H : ((s1 = s0 → ((R32 (x3 + 6)) ∧ Wp X 17 247 18 [vr 5, vr 6, vr 89, vi (x3 + 6)] [] h Q)) ∧ (s1 ≠ s0 → Q (some (vi 0)) h))) : Wp X 17 247 1152 [vr 5, vr 6, vr 89, vi x3] [vi s0, vi s1] h Q := by
  refine wp_iceq (tn := 1217) rfl rfl (fun c1 => ?_) (fun c1 => ?_)
  · replace H := H.1 c1
    have g2 := H.1
    replace H := H.2
    refine wp_iincR (L2 := [vr 5, vr 6, vr 89, vi (x3 + 6)]) rfl rfl g2 rfl ?_
    refine wp_goto (tn := 18) rfl rfl ?_
    exact H
  · replace H := H.2 c1
    refine wp_iconst rfl ?_
    exact wp_zret rfl rfl (by decide) H
theorem S247_1166 {X : Nat × (Int → Int)} {h : HP} {Q : bQ} (x3 : Int) (s0 : Int) (H : ((R32 (x3 + 1)) ∧ ((0 ≤ (x3 + 1) ∧ (x3 + 1) < (X.1 : Int)) ∧ Wp X 4 132 0 [vr 89, vi (X.2 (x3 + 1)), vu, vu] [] h (fun v h' => Wp X 17 247 1175 [vr 5, vr 6, vr 89, vi x3] (psh v [vi s0]) h' Q)))) : Wp X 17 247 1166 [vr 5, vr 6, vr 89, vi x3] [vi s0] h Q := by
  refine wp_aload rfl rfl ?_
  refine wp_aload rfl rfl ?_
  refine wp_iload rfl rfl ?_
  refine wp_iconst rfl ?_
  refine wp_iadd rfl ?_
  have g1 := H.1
  replace H := H.2
  refine Wp.topI (y := (x3 + 1)) (w32_I g1) ?_
  have g2 := H.1
  replace H := H.2
  refine wp_script rfl g2 ?_
  exact wp_call (k := 132) (ρ2 := 4) (L2 := [vr 89, vi (X.2 (x3 + 1)), vu, vu]) rfl rfl rfl (Nat.le_of_ble_eq_true rfl) (Nat.le_of_ble_eq_true rfl) (Nat.le_of_ble_eq_true rfl) (rcv_V rfl (congrArg Prod.fst (kf_89 X.1))) rfl H
theorem S247_1175 {X : Nat × (Int → Int)} {h : HP} {Q : bQ} (x3 : Int) (s0 : Int) (s1 : Int) (H : ((s1 = s0 → ((R32 (x3 + 6)) ∧ Wp X 17 247 18 [vr 5, vr 6, vr 89, vi (x3 + 6)] [] h Q)) ∧ (s1 ≠ s0 → Q (some (vi 0)) h))) : Wp X 17 247 1175 [vr 5, vr 6, vr 89, vi x3] [vi s0, vi s1] h Q := by
  refine wp_iceq (tn := 1217) rfl rfl (fun c1 => ?_) (fun c1 => ?_)
  · replace H := H.1 c1
    have g2 := H.1
    replace H := H.2
    refine wp_iincR (L2 := [vr 5, vr 6, vr 89, vi (x3 + 6)]) rfl rfl g2 rfl ?_
    refine wp_goto (tn := 18) rfl rfl ?_
    exact H
  · replace H := H.2 c1
    refine wp_iconst rfl ?_
    exact wp_zret rfl rfl (by decide) H
theorem S247_1189 {X : Nat × (Int → Int)} {h : HP} {Q : bQ} (x3 : Int) (s0 : Int) (H : ((R32 (x3 + 1)) ∧ ((0 ≤ (x3 + 1) ∧ (x3 + 1) < (X.1 : Int)) ∧ Wp X 1 133 0 [vr 89, vi (X.2 (x3 + 1)), vu, vu] [] h (fun v h' => Wp X 17 247 1198 [vr 5, vr 6, vr 89, vi x3] (psh v [vi s0]) h' Q)))) : Wp X 17 247 1189 [vr 5, vr 6, vr 89, vi x3] [vi s0] h Q := by
  refine wp_aload rfl rfl ?_
  refine wp_aload rfl rfl ?_
  refine wp_iload rfl rfl ?_
  refine wp_iconst rfl ?_
  refine wp_iadd rfl ?_
  have g1 := H.1
  replace H := H.2
  refine Wp.topI (y := (x3 + 1)) (w32_I g1) ?_
  have g2 := H.1
  replace H := H.2
  refine wp_script rfl g2 ?_
  exact wp_call (k := 133) (ρ2 := 1) (L2 := [vr 89, vi (X.2 (x3 + 1)), vu, vu]) rfl rfl rfl (Nat.le_of_ble_eq_true rfl) (Nat.le_of_ble_eq_true rfl) (Nat.le_of_ble_eq_true rfl) (rcv_V rfl (congrArg Prod.fst (kf_89 X.1))) rfl H
theorem S247_1198 {X : Nat × (Int → Int)} {h : HP} {Q : bQ} (x3 : Int) (s0 : Int) (s1 : Int) (H : ((s1 = s0 → ((R32 (x3 + 6)) ∧ Wp X 17 247 18 [vr 5, vr 6, vr 89, vi (x3 + 6)] [] h Q)) ∧ (s1 ≠ s0 → Q (some (vi 0)) h))) : Wp X 17 247 1198 [vr 5, vr 6, vr 89, vi x3] [vi s0, vi s1] h Q := by
  refine wp_iceq (tn := 1217) rfl rfl (fun c1 => ?_) (fun c1 => ?_)
  · replace H := H.1 c1
    have g2 := H.1
    replace H := H.2
    refine wp_iincR (L2 := [vr 5, vr 6, vr 89, vi (x3 + 6)]) rfl rfl g2 rfl ?_
    refine wp_goto (tn := 18) rfl rfl ?_
    exact H
  · replace H := H.2 c1
    refine wp_iconst rfl ?_
    exact wp_zret rfl rfl (by decide) H
theorem S247_1207 {X : Nat × (Int → Int)} {h : HP} {Q : bQ} (x3 : Int) (s0 : Int) (H : Wp X 7 134 0 [vr 89, vu, vu, vu] [] h (fun v h' => Wp X 17 247 1211 [vr 5, vr 6, vr 89, vi x3] (psh v [vl s0]) h' Q)) : Wp X 17 247 1207 [vr 5, vr 6, vr 89, vi x3] [vl s0] h Q := by
  refine wp_aload rfl rfl ?_
  exact wp_call (k := 134) (ρ2 := 7) (L2 := [vr 89, vu, vu, vu]) rfl rfl rfl (Nat.le_of_ble_eq_true rfl) (Nat.le_of_ble_eq_true rfl) (Nat.le_of_ble_eq_true rfl) (rcv_V rfl (congrArg Prod.fst (kf_89 X.1))) rfl H
theorem S247_1211 {X : Nat × (Int → Int)} {h : HP} {Q : bQ} (x3 : Int) (s0 : Int) (s1 : Int) (H : (((lcp s1 s0) = 0 → ((R32 (x3 + 6)) ∧ Wp X 17 247 18 [vr 5, vr 6, vr 89, vi (x3 + 6)] [] h Q)) ∧ ((lcp s1 s0) ≠ 0 → Q (some (vi 0)) h))) : Wp X 17 247 1211 [vr 5, vr 6, vr 89, vi x3] [vl s0, vl s1] h Q := by
  refine wp_lcmp rfl ?_
  refine wp_ifeq (tn := 1217) rfl rfl (fun c1 => ?_) (fun c1 => ?_)
  · replace H := H.1 c1
    have g2 := H.1
    replace H := H.2
    refine wp_iincR (L2 := [vr 5, vr 6, vr 89, vi (x3 + 6)]) rfl rfl g2 rfl ?_
    refine wp_goto (tn := 18) rfl rfl ?_
    exact H
  · replace H := H.2 c1
    refine wp_iconst rfl ?_
    exact wp_zret rfl rfl (by decide) H
