-- ===== the methods run symbolically, 6 (by program: wip/whole/gen_sym.py) =====
/-- WarnLinesModel.smoothedOf(I)I, from 0 -/
theorem S130_89_0 {X : Nat × (Int → Int)} {h : HP} {Q : bQ} (x1 : Int) (H : Wp X 0 70 0 [vr 89, vu, vu, vu, vu, vu, vu, vu] [] h (fun v h' => Wp X 1 130 4 [vr 89, vi x1, vu, vu, vu, vu, vu] (psh v []) h' Q)) : Wp X 1 130 0 [vr 89, vi x1, vu, vu, vu, vu, vu] [] h Q := by
  refine wp_aload rfl rfl ?_
  exact wp_call (k := 70) (ρ2 := 0) (L2 := [vr 89, vu, vu, vu, vu, vu, vu, vu]) rfl rfl rfl (Nat.le_of_ble_eq_true rfl) (Nat.le_of_ble_eq_true rfl) (Nat.le_of_ble_eq_true rfl) (rcv_V rfl (congrArg Prod.fst (kf_89 X.1))) rfl H
/-- WarnLinesModel.smoothedOf(I)I, from 4 -/
theorem S130_89_4 {X : Nat × (Int → Int)} {h : HP} {Q : bQ} (x1 : Int) (H : ((0 ≤ x1 ∧ x1 < 20) ∧ (((h 101 x1) = 0 → Wp X 1 130 21 [vr 89, vi x1, vl 0, vu, vi 0, vu, vu] [] h Q) ∧ ((h 101 x1) ≠ 0 → Q (some (vi (-3))) h)))) : Wp X 1 130 4 [vr 89, vi x1, vu, vu, vu, vu, vu] [] h Q := by
  refine wp_aload rfl rfl ?_
  refine wp_getR (r := 100) rfl (congrArg Prod.fst (kf_89 X.1)) rfl ?_
  refine wp_iload rfl rfl ?_
  have g1 := H.1
  replace H := H.2
  refine wp_baload rfl (kf_101 X.1) g1 ?_
  refine wp_ifeq (tn := 16) rfl rfl (fun c2 => ?_) (fun c2 => ?_)
  · replace H := H.1 c2
    refine wp_sipush rfl ?_
    refine wp_lstore (L2 := [vr 89, vi x1, vl 0, vu, vu, vu, vu]) rfl (Nat.le_of_ble_eq_true rfl) rfl ?_
    refine wp_iconst rfl ?_
    refine wp_istore (L2 := [vr 89, vi x1, vl 0, vu, vi 0, vu, vu]) rfl (Nat.le_of_ble_eq_true rfl) rfl ?_
    exact H
  · replace H := H.2 c2
    refine wp_iconst rfl ?_
    exact wp_iret rfl rfl H
/-- WarnLinesModel.smoothedOf(I)I, from 21 -/
theorem S130_89_21 {X : Nat × (Int → Int)} {h : HP} {Q : bQ} (x1 : Int) (x2 : Int) (x4 : Int) (zx5 : aV) (H : Wp X 0 99 0 [vr 89, vi x1, vu] [] h (fun v h' => Wp X 1 130 28 [vr 89, vi x1, vl x2, vu, vi x4, zx5, vu] (psh v [vi x4]) h' Q)) : Wp X 1 130 21 [vr 89, vi x1, vl x2, vu, vi x4, zx5, vu] [] h Q := by
  refine wp_iload rfl rfl ?_
  refine wp_aload rfl rfl ?_
  refine wp_iload rfl rfl ?_
  exact wp_call (k := 99) (ρ2 := 0) (L2 := [vr 89, vi x1, vu]) rfl rfl rfl (Nat.le_of_ble_eq_true rfl) (Nat.le_of_ble_eq_true rfl) (Nat.le_of_ble_eq_true rfl) (rcv_V rfl (congrArg Prod.fst (kf_89 X.1))) rfl H
/-- WarnLinesModel.smoothedOf(I)I, from 28 -/
theorem S130_89_28 {X : Nat × (Int → Int)} {h : HP} {Q : bQ} (x1 : Int) (x2 : Int) (x4 : Int) (zx5 : aV) (s0 : Int) (s1 : Int) (H : ((s0 < s1 → ((R32 x2) ∧ Q (some (vi x2)) h)) ∧ (s1 ≤ s0 → ((0 ≤ x4 ∧ x4 < 20) ∧ ((0 ≤ (h 102 x4) ∧ (h 102 x4) < 20) ∧ ((R64 (1000 * (h 99 (h 102 x4)))) ∧ ((x4 ≠ 0 → ((R64 (480 * x2)) ∧ ((R64 (60 * x2)) ∧ ((R64 ((1000 * (h 99 (h 102 x4))) - (60 * x2))) ∧ ((R64 (((1000 * (h 99 (h 102 x4))) - (60 * x2)) * (h 97 7))) ∧ ((R64 ((480 * x2) + (((1000 * (h 99 (h 102 x4))) - (60 * x2)) * (h 97 7)))) ∧ ((R64 (Int.tdiv ((480 * x2) + (((1000 * (h 99 (h 102 x4))) - (60 * x2)) * (h 97 7))) 480)) ∧ ((R64 ((Int.tdiv ((480 * x2) + (((1000 * (h 99 (h 102 x4))) - (60 * x2)) * (h 97 7))) 480) * 480)) ∧ (((lcp ((Int.tdiv ((480 * x2) + (((1000 * (h 99 (h 102 x4))) - (60 * x2)) * (h 97 7))) 480) * 480) ((480 * x2) + (((1000 * (h 99 (h 102 x4))) - (60 * x2)) * (h 97 7)))) ≤ 0 → Wp X 1 130 21 [vr 89, vi x1, vl (Int.tdiv ((480 * x2) + (((1000 * (h 99 (h 102 x4))) - (60 * x2)) * (h 97 7))) 480), vu, vi (x4 + 1), vl (1000 * (h 99 (h 102 x4))), vu] [] h Q) ∧ (0 < (lcp ((Int.tdiv ((480 * x2) + (((1000 * (h 99 (h 102 x4))) - (60 * x2)) * (h 97 7))) 480) * 480) ((480 * x2) + (((1000 * (h 99 (h 102 x4))) - (60 * x2)) * (h 97 7)))) → ((R64 ((Int.tdiv ((480 * x2) + (((1000 * (h 99 (h 102 x4))) - (60 * x2)) * (h 97 7))) 480) - 1)) ∧ Wp X 1 130 21 [vr 89, vi x1, vl ((Int.tdiv ((480 * x2) + (((1000 * (h 99 (h 102 x4))) - (60 * x2)) * (h 97 7))) 480) - 1), vu, vi (x4 + 1), vl (1000 * (h 99 (h 102 x4))), vu] [] h Q))))))))))) ∧ (x4 = 0 → ((R64 (Int.tdiv (1000 * (h 99 (h 102 x4))) 60)) ∧ ((R64 ((Int.tdiv (1000 * (h 99 (h 102 x4))) 60) * 60)) ∧ (((lcp ((Int.tdiv (1000 * (h 99 (h 102 x4))) 60) * 60) (1000 * (h 99 (h 102 x4)))) ≤ 0 → Wp X 1 130 21 [vr 89, vi x1, vl (Int.tdiv (1000 * (h 99 (h 102 x4))) 60), vu, vi (x4 + 1), vl (1000 * (h 99 (h 102 x4))), vu] [] h Q) ∧ (0 < (lcp ((Int.tdiv (1000 * (h 99 (h 102 x4))) 60) * 60) (1000 * (h 99 (h 102 x4)))) → ((R64 ((Int.tdiv (1000 * (h 99 (h 102 x4))) 60) - 1)) ∧ Wp X 1 130 21 [vr 89, vi x1, vl ((Int.tdiv (1000 * (h 99 (h 102 x4))) 60) - 1), vu, vi (x4 + 1), vl (1000 * (h 99 (h 102 x4))), vu] [] h Q))))))))))))) : Wp X 1 130 28 [vr 89, vi x1, vl x2, vu, vi x4, zx5, vu] [vi s0, vi s1] h Q := by
  refine wp_icgt (tn := 102) rfl rfl (fun c1 => ?_) (fun c1 => ?_)
  · replace H := H.1 c1
    refine wp_lload rfl rfl ?_
    refine wp_l2i rfl ?_
    have g2 := H.1
    replace H := H.2
    refine Wp.topI (y := x2) (w32_I g2) ?_
    exact wp_iret rfl rfl H
  · replace H := H.2 c1
    refine wp_sipush rfl ?_
    refine wp_aload rfl rfl ?_
    refine wp_getR (r := 98) rfl (congrArg Prod.fst (kf_89 X.1)) rfl ?_
    refine wp_aload rfl rfl ?_
    refine wp_getR (r := 101) rfl (congrArg Prod.fst (kf_89 X.1)) rfl ?_
    refine wp_iload rfl rfl ?_
    have g3 := H.1
    replace H := H.2
    refine wp_iaload rfl (kf_102 X.1) g3 ?_
    have g4 := H.1
    replace H := H.2
    refine wp_iaload rfl (kf_99 X.1) g4 ?_
    refine wp_i2l rfl ?_
    refine wp_lmul rfl ?_
    have g5 := H.1
    replace H := H.2
    refine Wp.topL (y := (1000 * (h 99 (h 102 x4)))) (w64_I g5) ?_
    refine wp_lstore (L2 := [vr 89, vi x1, vl x2, vu, vi x4, vl (1000 * (h 99 (h 102 x4))), vu]) rfl (Nat.le_of_ble_eq_true rfl) rfl ?_
    refine wp_iload rfl rfl ?_
    refine wp_ifne (tn := 66) rfl rfl (fun c6 => ?_) (fun c6 => ?_)
    · replace H := H.1 c6
      refine wp_sipush rfl ?_
      refine wp_lload rfl rfl ?_
      refine wp_lmul rfl ?_
      have g7 := H.1
      replace H := H.2
      refine Wp.topL (y := (480 * x2)) (w64_I g7) ?_
      refine wp_lload rfl rfl ?_
      refine wp_sipush rfl ?_
      refine wp_lload rfl rfl ?_
      refine wp_lmul rfl ?_
      have g8 := H.1
      replace H := H.2
      refine Wp.topL (y := (60 * x2)) (w64_I g8) ?_
      refine wp_lsub rfl ?_
      have g9 := H.1
      replace H := H.2
      refine Wp.topL (y := ((1000 * (h 99 (h 102 x4))) - (60 * x2))) (w64_I g9) ?_
      refine wp_aload rfl rfl ?_
      refine wp_getR (r := 96) rfl (congrArg Prod.fst (kf_89 X.1)) rfl ?_
      refine wp_iconst rfl ?_
      refine wp_iaload rfl (kf_97 X.1) (by decide) ?_
      refine wp_i2l rfl ?_
      refine wp_lmul rfl ?_
      have g10 := H.1
      replace H := H.2
      refine Wp.topL (y := (((1000 * (h 99 (h 102 x4))) - (60 * x2)) * (h 97 7))) (w64_I g10) ?_
      refine wp_ladd rfl ?_
      have g11 := H.1
      replace H := H.2
      refine Wp.topL (y := ((480 * x2) + (((1000 * (h 99 (h 102 x4))) - (60 * x2)) * (h 97 7)))) (w64_I g11) ?_
      refine wp_sipush rfl ?_
      refine wp_call (k := 129) (ρ2 := 0) (L2 := [vl ((480 * x2) + (((1000 * (h 99 (h 102 x4))) - (60 * x2)) * (h 97 7))), vu, vl 480, vu, vu, vu]) rfl rfl rfl (Nat.le_of_ble_eq_true rfl) (Nat.le_of_ble_eq_true rfl) (Nat.le_of_ble_eq_true rfl) (rcv_S rfl) rfl ?_
      refine wp_lload rfl rfl ?_
      refine wp_lload rfl rfl ?_
      refine wp_ldiv rfl (by decide) ?_
      have g12 := H.1
      replace H := H.2
      refine Wp.topL (y := (Int.tdiv ((480 * x2) + (((1000 * (h 99 (h 102 x4))) - (60 * x2)) * (h 97 7))) 480)) (w64_I g12) ?_
      refine wp_lstore (L2 := [vl ((480 * x2) + (((1000 * (h 99 (h 102 x4))) - (60 * x2)) * (h 97 7))), vu, vl 480, vu, vl (Int.tdiv ((480 * x2) + (((1000 * (h 99 (h 102 x4))) - (60 * x2)) * (h 97 7))) 480), vu]) rfl (Nat.le_of_ble_eq_true rfl) rfl ?_
      refine wp_lload rfl rfl ?_
      refine wp_lload rfl rfl ?_
      refine wp_lmul rfl ?_
      have g13 := H.1
      replace H := H.2
      refine Wp.topL (y := ((Int.tdiv ((480 * x2) + (((1000 * (h 99 (h 102 x4))) - (60 * x2)) * (h 97 7))) 480) * 480)) (w64_I g13) ?_
      refine wp_lload rfl rfl ?_
      refine wp_lcmp rfl ?_
      refine wp_ifle (tn := 21) rfl rfl (fun c14 => ?_) (fun c14 => ?_)
      · replace H := H.1 c14
        refine wp_lload rfl rfl ?_
        refine wp_lret rfl rfl ?_
        show Wp X _ 130 95 [vr 89, vi x1, vl x2, vu, vi x4, vl (1000 * (h 99 (h 102 x4))), vu] [vl (Int.tdiv ((480 * x2) + (((1000 * (h 99 (h 102 x4))) - (60 * x2)) * (h 97 7))) 480)] _ _
        refine wp_lstore (L2 := [vr 89, vi x1, vl (Int.tdiv ((480 * x2) + (((1000 * (h 99 (h 102 x4))) - (60 * x2)) * (h 97 7))) 480), vu, vi x4, vl (1000 * (h 99 (h 102 x4))), vu]) rfl (Nat.le_of_ble_eq_true rfl) rfl ?_
        refine wp_iincR (L2 := [vr 89, vi x1, vl (Int.tdiv ((480 * x2) + (((1000 * (h 99 (h 102 x4))) - (60 * x2)) * (h 97 7))) 480), vu, vi (x4 + 1), vl (1000 * (h 99 (h 102 x4))), vu]) rfl rfl (by clear H; unfold R32; omega) rfl ?_
        refine wp_goto (tn := 21) rfl rfl ?_
        exact H
      · replace H := H.2 c14
        refine wp_lload rfl rfl ?_
        refine wp_sipush rfl ?_
        refine wp_lsub rfl ?_
        have g15 := H.1
        replace H := H.2
        refine Wp.topL (y := ((Int.tdiv ((480 * x2) + (((1000 * (h 99 (h 102 x4))) - (60 * x2)) * (h 97 7))) 480) - 1)) (w64_I g15) ?_
        refine wp_goto (tn := 23) rfl rfl ?_
        refine wp_lret rfl rfl ?_
        show Wp X _ 130 95 [vr 89, vi x1, vl x2, vu, vi x4, vl (1000 * (h 99 (h 102 x4))), vu] [vl ((Int.tdiv ((480 * x2) + (((1000 * (h 99 (h 102 x4))) - (60 * x2)) * (h 97 7))) 480) - 1)] _ _
        refine wp_lstore (L2 := [vr 89, vi x1, vl ((Int.tdiv ((480 * x2) + (((1000 * (h 99 (h 102 x4))) - (60 * x2)) * (h 97 7))) 480) - 1), vu, vi x4, vl (1000 * (h 99 (h 102 x4))), vu]) rfl (Nat.le_of_ble_eq_true rfl) rfl ?_
        refine wp_iincR (L2 := [vr 89, vi x1, vl ((Int.tdiv ((480 * x2) + (((1000 * (h 99 (h 102 x4))) - (60 * x2)) * (h 97 7))) 480) - 1), vu, vi (x4 + 1), vl (1000 * (h 99 (h 102 x4))), vu]) rfl rfl (by clear H; unfold R32; omega) rfl ?_
        refine wp_goto (tn := 21) rfl rfl ?_
        exact H
    · replace H := H.2 c6
      refine wp_lload rfl rfl ?_
      refine wp_sipush rfl ?_
      refine wp_call (k := 129) (ρ2 := 0) (L2 := [vl (1000 * (h 99 (h 102 x4))), vu, vl 60, vu, vu, vu]) rfl rfl rfl (Nat.le_of_ble_eq_true rfl) (Nat.le_of_ble_eq_true rfl) (Nat.le_of_ble_eq_true rfl) (rcv_S rfl) rfl ?_
      refine wp_lload rfl rfl ?_
      refine wp_lload rfl rfl ?_
      refine wp_ldiv rfl (by decide) ?_
      have g16 := H.1
      replace H := H.2
      refine Wp.topL (y := (Int.tdiv (1000 * (h 99 (h 102 x4))) 60)) (w64_I g16) ?_
      refine wp_lstore (L2 := [vl (1000 * (h 99 (h 102 x4))), vu, vl 60, vu, vl (Int.tdiv (1000 * (h 99 (h 102 x4))) 60), vu]) rfl (Nat.le_of_ble_eq_true rfl) rfl ?_
      refine wp_lload rfl rfl ?_
      refine wp_lload rfl rfl ?_
      refine wp_lmul rfl ?_
      have g17 := H.1
      replace H := H.2
      refine Wp.topL (y := ((Int.tdiv (1000 * (h 99 (h 102 x4))) 60) * 60)) (w64_I g17) ?_
      refine wp_lload rfl rfl ?_
      refine wp_lcmp rfl ?_
      refine wp_ifle (tn := 21) rfl rfl (fun c18 => ?_) (fun c18 => ?_)
      · replace H := H.1 c18
        refine wp_lload rfl rfl ?_
        refine wp_lret rfl rfl ?_
        show Wp X _ 130 63 [vr 89, vi x1, vl x2, vu, vi x4, vl (1000 * (h 99 (h 102 x4))), vu] [vl (Int.tdiv (1000 * (h 99 (h 102 x4))) 60)] _ _
        refine wp_goto (tn := 95) rfl rfl ?_
        refine wp_lstore (L2 := [vr 89, vi x1, vl (Int.tdiv (1000 * (h 99 (h 102 x4))) 60), vu, vi x4, vl (1000 * (h 99 (h 102 x4))), vu]) rfl (Nat.le_of_ble_eq_true rfl) rfl ?_
        refine wp_iincR (L2 := [vr 89, vi x1, vl (Int.tdiv (1000 * (h 99 (h 102 x4))) 60), vu, vi (x4 + 1), vl (1000 * (h 99 (h 102 x4))), vu]) rfl rfl (by clear H; unfold R32; omega) rfl ?_
        refine wp_goto (tn := 21) rfl rfl ?_
        exact H
      · replace H := H.2 c18
        refine wp_lload rfl rfl ?_
        refine wp_sipush rfl ?_
        refine wp_lsub rfl ?_
        have g19 := H.1
        replace H := H.2
        refine Wp.topL (y := ((Int.tdiv (1000 * (h 99 (h 102 x4))) 60) - 1)) (w64_I g19) ?_
        refine wp_goto (tn := 23) rfl rfl ?_
        refine wp_lret rfl rfl ?_
        show Wp X _ 130 63 [vr 89, vi x1, vl x2, vu, vi x4, vl (1000 * (h 99 (h 102 x4))), vu] [vl ((Int.tdiv (1000 * (h 99 (h 102 x4))) 60) - 1)] _ _
        refine wp_goto (tn := 95) rfl rfl ?_
        refine wp_lstore (L2 := [vr 89, vi x1, vl ((Int.tdiv (1000 * (h 99 (h 102 x4))) 60) - 1), vu, vi x4, vl (1000 * (h 99 (h 102 x4))), vu]) rfl (Nat.le_of_ble_eq_true rfl) rfl ?_
        refine wp_iincR (L2 := [vr 89, vi x1, vl ((Int.tdiv (1000 * (h 99 (h 102 x4))) 60) - 1), vu, vi (x4 + 1), vl (1000 * (h 99 (h 102 x4))), vu]) rfl rfl (by clear H; unfold R32; omega) rfl ?_
        refine wp_goto (tn := 21) rfl rfl ?_
        exact H
/-- WarnLinesModel.smoothed(I)I, from 0 -/
theorem S131_89_0 {X : Nat × (Int → Int)} {h : HP} {Q : bQ} (x1 : Int) (H : ((R32 ((h 89 5) - 1)) ∧ (((lcp x1 0) < 0 → Q (some (vi (-2))) h) ∧ (0 ≤ (lcp x1 0) → ((0 < (lcp x1 ((h 89 5) - 1)) → Q (some (vi (-2))) h) ∧ ((lcp x1 ((h 89 5) - 1)) ≤ 0 → Wp X 1 130 0 [vr 89, vi x1, vu, vu, vu, vu, vu] [] h (fun v h' => Wp X 2 131 13 [vr 89, vi x1] (psh v []) h' Q))))))) : Wp X 2 131 0 [vr 89, vi x1] [] h Q := by
  refine wp_aload rfl rfl ?_
  refine wp_iload rfl rfl ?_
  refine wp_call (k := 62) (ρ2 := 1) (L2 := [vr 89, vi x1]) rfl rfl rfl (Nat.le_of_ble_eq_true rfl) (Nat.le_of_ble_eq_true rfl) (Nat.le_of_ble_eq_true rfl) (rcv_V rfl (congrArg Prod.fst (kf_89 X.1))) rfl ?_
  refine wp_iload rfl rfl ?_
  refine wp_i2l rfl ?_
  refine wp_sipush rfl ?_
  refine wp_aload rfl rfl ?_
  refine wp_getI (j := 5) rfl (congrArg Prod.fst (kf_89 X.1)) rfl ?_
  refine wp_iconst rfl ?_
  refine wp_isub rfl ?_
  have g1 := H.1
  replace H := H.2
  refine Wp.topI (y := ((h 89 5) - 1)) (w32_I g1) ?_
  refine wp_i2l rfl ?_
  refine wp_call (k := 48) (ρ2 := 0) (L2 := [vl x1, vu, vl 0, vu, vl ((h 89 5) - 1), vu]) rfl rfl rfl (Nat.le_of_ble_eq_true rfl) (Nat.le_of_ble_eq_true rfl) (Nat.le_of_ble_eq_true rfl) (rcv_S rfl) rfl ?_
  refine wp_lload rfl rfl ?_
  refine wp_lload rfl rfl ?_
  refine wp_lcmp rfl ?_
  refine wp_iflt (tn := 17) rfl rfl (fun c2 => ?_) (fun c2 => ?_)
  · replace H := H.1 c2
    refine wp_iconst rfl ?_
    refine wp_zret rfl rfl (by decide) ?_
    show Wp X _ 62 13 [vr 89, vi x1] [vi 0] _ _
    refine wp_zret rfl rfl (by decide) ?_
    show Wp X _ 131 5 [vr 89, vi x1] [vi 0] _ _
    refine wp_ifeqT (tn := 16) rfl rfl (by decide) ?_
    refine wp_iconst rfl ?_
    exact wp_iret rfl rfl H
  · replace H := H.2 c2
    refine wp_lload rfl rfl ?_
    refine wp_lload rfl rfl ?_
    refine wp_lcmp rfl ?_
    refine wp_ifgt (tn := 17) rfl rfl (fun c3 => ?_) (fun c3 => ?_)
    · replace H := H.1 c3
      refine wp_iconst rfl ?_
      refine wp_zret rfl rfl (by decide) ?_
      show Wp X _ 62 13 [vr 89, vi x1] [vi 0] _ _
      refine wp_zret rfl rfl (by decide) ?_
      show Wp X _ 131 5 [vr 89, vi x1] [vi 0] _ _
      refine wp_ifeqT (tn := 16) rfl rfl (by decide) ?_
      refine wp_iconst rfl ?_
      exact wp_iret rfl rfl H
    · replace H := H.2 c3
      refine wp_iconst rfl ?_
      refine wp_goto (tn := 18) rfl rfl ?_
      refine wp_zret rfl rfl (by decide) ?_
      show Wp X _ 62 13 [vr 89, vi x1] [vi 1] _ _
      refine wp_zret rfl rfl (by decide) ?_
      show Wp X _ 131 5 [vr 89, vi x1] [vi 1] _ _
      refine wp_ifeqF (tn := 16) rfl rfl (by decide) ?_
      refine wp_aload rfl rfl ?_
      refine wp_iload rfl rfl ?_
      exact wp_call (k := 130) (ρ2 := 1) (L2 := [vr 89, vi x1, vu, vu, vu, vu, vu]) rfl rfl rfl (Nat.le_of_ble_eq_true rfl) (Nat.le_of_ble_eq_true rfl) (Nat.le_of_ble_eq_true rfl) (rcv_V rfl (congrArg Prod.fst (kf_89 X.1))) rfl H
/-- WarnLinesModel.smoothed(I)I, from 13 -/
theorem S131_89_13 {X : Nat × (Int → Int)} {h : HP} {Q : bQ} (zx0 : aV) (zx1 : aV) (s0 : Int) (H : Q (some (vi s0)) h) : Wp X 2 131 13 [zx0, zx1] [vi s0] h Q := by
  refine wp_goto (tn := 18) rfl rfl ?_
  exact wp_iret rfl rfl H
/-- WarnLinesModel.write(I)I, from 0 -/
theorem S132_89_0 {X : Nat × (Int → Int)} {h : HP} {Q : bQ} (x1 : Int) (H : (((lcp x1 0) < 0 → Q (some (vi (-2))) h) ∧ (0 ≤ (lcp x1 0) → ((0 < (lcp x1 3) → Q (some (vi (-2))) h) ∧ ((lcp x1 3) ≤ 0 → ((0 ≤ x1 ∧ x1 < 4) ∧ ((0 ≤ (h 90 x1) → Wp X 3 78 0 [vr 89, vu, vu, vu, vu] [] h (fun v h' => Wp X 4 132 29 [vr 89, vi x1, vu, vu] (psh v []) h' Q)) ∧ ((h 90 x1) < 0 → Q (some (vi (-11))) (upd2 h 89 4 1))))))))) : Wp X 4 132 0 [vr 89, vi x1, vu, vu] [] h Q := by
  refine wp_iload rfl rfl ?_
  refine wp_call (k := 52) (ρ2 := 1) (L2 := [vi x1]) rfl rfl rfl (Nat.le_of_ble_eq_true rfl) (Nat.le_of_ble_eq_true rfl) (Nat.le_of_ble_eq_true rfl) (rcv_S rfl) rfl ?_
  refine wp_iload rfl rfl ?_
  refine wp_i2l rfl ?_
  refine wp_sipush rfl ?_
  refine wp_sipush rfl ?_
  refine wp_call (k := 48) (ρ2 := 0) (L2 := [vl x1, vu, vl 0, vu, vl 3, vu]) rfl rfl rfl (Nat.le_of_ble_eq_true rfl) (Nat.le_of_ble_eq_true rfl) (Nat.le_of_ble_eq_true rfl) (rcv_S rfl) rfl ?_
  refine wp_lload rfl rfl ?_
  refine wp_lload rfl rfl ?_
  refine wp_lcmp rfl ?_
  refine wp_iflt (tn := 17) rfl rfl (fun c1 => ?_) (fun c1 => ?_)
  · replace H := H.1 c1
    refine wp_iconst rfl ?_
    refine wp_zret rfl rfl (by decide) ?_
    show Wp X _ 52 9 [vi x1] [vi 0] _ _
    refine wp_zret rfl rfl (by decide) ?_
    show Wp X _ 132 4 [vr 89, vi x1, vu, vu] [vi 0] _ _
    refine wp_ifneF (tn := 10) rfl rfl (by decide) ?_
    refine wp_iconst rfl ?_
    exact wp_iret rfl rfl H
  · replace H := H.2 c1
    refine wp_lload rfl rfl ?_
    refine wp_lload rfl rfl ?_
    refine wp_lcmp rfl ?_
    refine wp_ifgt (tn := 17) rfl rfl (fun c2 => ?_) (fun c2 => ?_)
    · replace H := H.1 c2
      refine wp_iconst rfl ?_
      refine wp_zret rfl rfl (by decide) ?_
      show Wp X _ 52 9 [vi x1] [vi 0] _ _
      refine wp_zret rfl rfl (by decide) ?_
      show Wp X _ 132 4 [vr 89, vi x1, vu, vu] [vi 0] _ _
      refine wp_ifneF (tn := 10) rfl rfl (by decide) ?_
      refine wp_iconst rfl ?_
      exact wp_iret rfl rfl H
    · replace H := H.2 c2
      refine wp_iconst rfl ?_
      refine wp_goto (tn := 18) rfl rfl ?_
      refine wp_zret rfl rfl (by decide) ?_
      show Wp X _ 52 9 [vi x1] [vi 1] _ _
      refine wp_zret rfl rfl (by decide) ?_
      show Wp X _ 132 4 [vr 89, vi x1, vu, vu] [vi 1] _ _
      refine wp_ifneT (tn := 10) rfl rfl (by decide) ?_
      refine wp_aload rfl rfl ?_
      refine wp_getR (r := 89) rfl (congrArg Prod.fst (kf_89 X.1)) rfl ?_
      refine wp_iload rfl rfl ?_
      have g3 := H.1
      replace H := H.2
      refine wp_iaload rfl (kf_90 X.1) g3 ?_
      refine wp_ifge (tn := 25) rfl rfl (fun c4 => ?_) (fun c4 => ?_)
      · replace H := H.1 c4
        refine wp_aload rfl rfl ?_
        exact wp_call (k := 78) (ρ2 := 3) (L2 := [vr 89, vu, vu, vu, vu]) rfl rfl rfl (Nat.le_of_ble_eq_true rfl) (Nat.le_of_ble_eq_true rfl) (Nat.le_of_ble_eq_true rfl) (rcv_V rfl (congrArg Prod.fst (kf_89 X.1))) rfl H
      · replace H := H.2 c4
        refine wp_aload rfl rfl ?_
        refine wp_iconst rfl ?_
        refine wp_call (k := 51) (ρ2 := 0) (L2 := [vr 89, vi 1]) rfl rfl rfl (Nat.le_of_ble_eq_true rfl) (Nat.le_of_ble_eq_true rfl) (Nat.le_of_ble_eq_true rfl) (rcv_V rfl (congrArg Prod.fst (kf_89 X.1))) rfl ?_
        refine wp_aload rfl rfl ?_
        refine wp_iload rfl rfl ?_
        refine wp_putI (j := 4) rfl (congrArg Prod.fst (kf_89 X.1)) rfl rfl rfl ?_
        refine wp_iconst rfl ?_
        refine wp_iload rfl rfl ?_
        refine wp_isub rfl ?_
        refine Wp.topI (y := (-11)) (by decide) ?_
        refine wp_iret rfl rfl ?_
        show Wp X _ 132 24 [vr 89, vi x1, vu, vu] [vi (-11)] _ _
        exact wp_iret rfl rfl H
/-- WarnLinesModel.write(I)I, from 29 -/
theorem S132_89_29 {X : Nat × (Int → Int)} {h : HP} {Q : bQ} (x1 : Int) (s0 : Int) (H : ((s0 ≠ 0 → ((0 ≤ x1 ∧ x1 < 4) ∧ (((h 89 5) ≤ (h 91 x1) → Wp X 4 132 64 [vr 89, vi x1, vi (h 89 5), vi 0] [] h Q) ∧ ((h 91 x1) < (h 89 5) → Wp X 4 132 64 [vr 89, vi x1, vi (h 91 x1), vi 0] [] h Q)))) ∧ (s0 = 0 → Q (some (vi (-3))) h))) : Wp X 4 132 29 [vr 89, vi x1, vu, vu] [vi s0] h Q := by
  refine wp_ifne (tn := 35) rfl rfl (fun c1 => ?_) (fun c1 => ?_)
  · replace H := H.1 c1
    refine wp_aload rfl rfl ?_
    refine wp_getR (r := 90) rfl (congrArg Prod.fst (kf_89 X.1)) rfl ?_
    refine wp_iload rfl rfl ?_
    have g2 := H.1
    replace H := H.2
    refine wp_iaload rfl (kf_91 X.1) g2 ?_
    refine wp_aload rfl rfl ?_
    refine wp_getI (j := 5) rfl (congrArg Prod.fst (kf_89 X.1)) rfl ?_
    refine wp_icge (tn := 57) rfl rfl (fun c3 => ?_) (fun c3 => ?_)
    · replace H := H.1 c3
      refine wp_aload rfl rfl ?_
      refine wp_getI (j := 5) rfl (congrArg Prod.fst (kf_89 X.1)) rfl ?_
      refine wp_istore (L2 := [vr 89, vi x1, vi (h 89 5), vu]) rfl (Nat.le_of_ble_eq_true rfl) rfl ?_
      refine wp_iconst rfl ?_
      refine wp_istore (L2 := [vr 89, vi x1, vi (h 89 5), vi 0]) rfl (Nat.le_of_ble_eq_true rfl) rfl ?_
      exact H
    · replace H := H.2 c3
      refine wp_aload rfl rfl ?_
      refine wp_getR (r := 90) rfl (congrArg Prod.fst (kf_89 X.1)) rfl ?_
      refine wp_iload rfl rfl ?_
      refine wp_iaload rfl (kf_91 X.1) ⟨g2.1, g2.2⟩ ?_
      refine wp_goto (tn := 61) rfl rfl ?_
      refine wp_istore (L2 := [vr 89, vi x1, vi (h 91 x1), vu]) rfl (Nat.le_of_ble_eq_true rfl) rfl ?_
      refine wp_iconst rfl ?_
      refine wp_istore (L2 := [vr 89, vi x1, vi (h 91 x1), vi 0]) rfl (Nat.le_of_ble_eq_true rfl) rfl ?_
      exact H
  · replace H := H.2 c1
    refine wp_iconst rfl ?_
    exact wp_iret rfl rfl H
/-- WarnLinesModel.write(I)I, from 64 -/
theorem S132_89_64 {X : Nat × (Int → Int)} {h : HP} {Q : bQ} (x1 : Int) (x2 : Int) (x3 : Int) (H : ((x2 ≤ x3 → Q (some (vi x2)) h) ∧ (x3 < x2 → ((R32 (60 * x1)) ∧ ((R32 ((60 * x1) + x3)) ∧ ((0 ≤ x1 ∧ x1 < 4) ∧ ((0 ≤ x3 ∧ x3 < 20) ∧ (((h 101 x3) = 0 → Wp X 2 83 0 [vr 89, vi x3] [] h (fun v h' => Wp X 4 132 103 [vr 89, vi x1, vi x2, vi x3] (psh v [vi (h 90 x1), vi ((60 * x1) + x3), vr 92]) h' Q)) ∧ ((h 101 x3) ≠ 0 → Wp X 4 132 103 [vr 89, vi x1, vi x2, vi x3] [vi (-1), vi (h 90 x1), vi ((60 * x1) + x3), vr 92] h Q))))))))) : Wp X 4 132 64 [vr 89, vi x1, vi x2, vi x3] [] h Q := by
  refine wp_iload rfl rfl ?_
  refine wp_iload rfl rfl ?_
  refine wp_icge (tn := 113) rfl rfl (fun c1 => ?_) (fun c1 => ?_)
  · replace H := H.1 c1
    refine wp_iload rfl rfl ?_
    exact wp_iret rfl rfl H
  · replace H := H.2 c1
    refine wp_aload rfl rfl ?_
    refine wp_getR (r := 91) rfl (congrArg Prod.fst (kf_89 X.1)) rfl ?_
    refine wp_iconst rfl ?_
    refine wp_iload rfl rfl ?_
    refine wp_imul rfl ?_
    have g2 := H.1
    replace H := H.2
    refine Wp.topI (y := (60 * x1)) (w32_I g2) ?_
    refine wp_iload rfl rfl ?_
    refine wp_iadd rfl ?_
    have g3 := H.1
    replace H := H.2
    refine Wp.topI (y := ((60 * x1) + x3)) (w32_I g3) ?_
    refine wp_aload rfl rfl ?_
    refine wp_getR (r := 89) rfl (congrArg Prod.fst (kf_89 X.1)) rfl ?_
    refine wp_iload rfl rfl ?_
    have g4 := H.1
    replace H := H.2
    refine wp_iaload rfl (kf_90 X.1) g4 ?_
    refine wp_aload rfl rfl ?_
    refine wp_getR (r := 100) rfl (congrArg Prod.fst (kf_89 X.1)) rfl ?_
    refine wp_iload rfl rfl ?_
    have g5 := H.1
    replace H := H.2
    refine wp_baload rfl (kf_101 X.1) g5 ?_
    refine wp_ifeq (tn := 98) rfl rfl (fun c6 => ?_) (fun c6 => ?_)
    · replace H := H.1 c6
      refine wp_aload rfl rfl ?_
      refine wp_iload rfl rfl ?_
      exact wp_call (k := 83) (ρ2 := 2) (L2 := [vr 89, vi x3]) rfl rfl rfl (Nat.le_of_ble_eq_true rfl) (Nat.le_of_ble_eq_true rfl) (Nat.le_of_ble_eq_true rfl) (rcv_V rfl (congrArg Prod.fst (kf_89 X.1))) rfl H
    · replace H := H.2 c6
      refine wp_iconst rfl ?_
      refine wp_goto (tn := 103) rfl rfl ?_
      exact H
/-- WarnLinesModel.write(I)I, from 103 -/
theorem S132_89_103 {X : Nat × (Int → Int)} {h : HP} {Q : bQ} (x1 : Int) (x2 : Int) (x3 : Int) (s0 : Int) (s1 : Int) (s2 : Int) (H : ((s1 ≠ 0 → ((s1 ≠ 1 → ((0 ≤ s2 ∧ s2 < 240) ∧ ((R32 (x3 + 1)) ∧ Wp X 4 132 64 [vr 89, vi x1, vi x2, vi (x3 + 1)] [] (upd2 h 92 s2 s0) Q))) ∧ (s1 = 1 → ((0 ≤ s2 ∧ s2 < 240) ∧ ((R32 (x3 + 1)) ∧ Wp X 4 132 64 [vr 89, vi x1, vi x2, vi (x3 + 1)] [] (upd2 h 92 s2 (Int.bmod s0 65536)) Q))))) ∧ (s1 = 0 → ((0 ≤ s2 ∧ s2 < 240) ∧ ((R32 (x3 + 1)) ∧ Wp X 4 132 64 [vr 89, vi x1, vi x2, vi (x3 + 1)] [] (upd2 h 92 s2 (Int.bmod s0 256)) Q))))) : Wp X 4 132 103 [vr 89, vi x1, vi x2, vi x3] [vi s0, vi s1, vi s2, vr 92] h Q := by
  refine wp_call (k := 56) (ρ2 := 0) (L2 := [vi s1, vi s0]) rfl rfl rfl (Nat.le_of_ble_eq_true rfl) (Nat.le_of_ble_eq_true rfl) (Nat.le_of_ble_eq_true rfl) (rcv_S rfl) rfl ?_
  refine wp_iload rfl rfl ?_
  refine wp_ifne (tn := 9) rfl rfl (fun c1 => ?_) (fun c1 => ?_)
  · replace H := H.1 c1
    refine wp_iload rfl rfl ?_
    refine wp_iconst rfl ?_
    refine wp_icne (tn := 19) rfl rfl (fun c2 => ?_) (fun c2 => ?_)
    · replace H := H.1 c2
      refine wp_iload rfl rfl ?_
      refine wp_iret rfl rfl ?_
      show Wp X _ 132 106 [vr 89, vi x1, vi x2, vi x3] [vi s0, vi s2, vr 92] _ _
      have g3 := H.1
      replace H := H.2
      refine wp_iastore rfl (kf_92 X.1) g3 ?_
      have g4 := H.1
      replace H := H.2
      refine wp_iincR (L2 := [vr 89, vi x1, vi x2, vi (x3 + 1)]) rfl rfl g4 rfl ?_
      refine wp_goto (tn := 64) rfl rfl ?_
      exact H
    · replace H := H.2 c2
      refine wp_iload rfl rfl ?_
      refine wp_i2s rfl ?_
      refine wp_goto (tn := 20) rfl rfl ?_
      refine wp_iret rfl rfl ?_
      show Wp X _ 132 106 [vr 89, vi x1, vi x2, vi x3] [vi (Int.bmod s0 65536), vi s2, vr 92] _ _
      have g5 := H.1
      replace H := H.2
      refine wp_iastore rfl (kf_92 X.1) g5 ?_
      have g6 := H.1
      replace H := H.2
      refine wp_iincR (L2 := [vr 89, vi x1, vi x2, vi (x3 + 1)]) rfl rfl g6 rfl ?_
      refine wp_goto (tn := 64) rfl rfl ?_
      exact H
  · replace H := H.2 c1
    refine wp_iload rfl rfl ?_
    refine wp_i2b rfl ?_
    refine wp_goto (tn := 20) rfl rfl ?_
    refine wp_iret rfl rfl ?_
    show Wp X _ 132 106 [vr 89, vi x1, vi x2, vi x3] [vi (Int.bmod s0 256), vi s2, vr 92] _ _
    have g7 := H.1
    replace H := H.2
    refine wp_iastore rfl (kf_92 X.1) g7 ?_
    have g8 := H.1
    replace H := H.2
    refine wp_iincR (L2 := [vr 89, vi x1, vi x2, vi (x3 + 1)]) rfl rfl g8 rfl ?_
    refine wp_goto (tn := 64) rfl rfl ?_
    exact H
/-- WarnLinesModel.count(I)I, from 0 -/
theorem S133_89_0 {X : Nat × (Int → Int)} {h : HP} {Q : bQ} (x1 : Int) (H : ((x1 = 0 → Q (some (vi (h 89 5))) h) ∧ (x1 ≠ 0 → ((x1 = 1 → Wp X 0 70 0 [vr 89, vu, vu, vu, vu, vu, vu, vu] [] h (fun v h' => Wp X 1 133 61 [vr 89, vi x1, vi 0, vu] (psh v []) h' Q)) ∧ (x1 ≠ 1 → ((x1 = 2 → Q (some (vi (h 89 6))) h) ∧ (x1 ≠ 2 → ((x1 = 3 → Wp X 0 70 0 [vr 89, vu, vu, vu, vu, vu, vu, vu] [] h (fun v h' => Wp X 1 133 80 [vr 89, vi x1, vi 0, vu] (psh v []) h' Q)) ∧ (x1 ≠ 3 → ((x1 = 4 → Q (some (vi (h 89 38))) h) ∧ (x1 ≠ 4 → ((x1 = 5 → Q (some (vi (h 104 (x1 - 5)))) h) ∧ (x1 ≠ 5 → ((x1 = 6 → Q (some (vi (h 104 (x1 - 5)))) h) ∧ (x1 ≠ 6 → ((x1 = 7 → Q (some (vi (h 97 3))) h) ∧ (x1 ≠ 7 → ((x1 = 8 → Q (some (vi (h 89 4))) h) ∧ (x1 ≠ 8 → Q (some (vi (-2))) h))))))))))))))))))) : Wp X 1 133 0 [vr 89, vi x1, vu, vu] [] h Q := by
  refine wp_iconst rfl ?_
  refine wp_istore (L2 := [vr 89, vi x1, vi 0, vu]) rfl (Nat.le_of_ble_eq_true rfl) rfl ?_
  refine wp_iload rfl rfl ?_
  by_cases c1 : x1 = 0
  · replace H := H.1 c1
    refine wp_tabIn (tn := 52) rfl (by rw [c1]; decide) (by rw [c1]; rfl) ?_
    refine wp_aload rfl rfl ?_
    refine wp_getI (j := 5) rfl (congrArg Prod.fst (kf_89 X.1)) rfl ?_
    exact wp_iret rfl rfl H
  replace H := H.2 c1
  by_cases c2 : x1 = 1
  · replace H := H.1 c2
    refine wp_tabIn (tn := 57) rfl (by rw [c2]; decide) (by rw [c2]; rfl) ?_
    refine wp_aload rfl rfl ?_
    exact wp_call (k := 70) (ρ2 := 0) (L2 := [vr 89, vu, vu, vu, vu, vu, vu, vu]) rfl rfl rfl (Nat.le_of_ble_eq_true rfl) (Nat.le_of_ble_eq_true rfl) (Nat.le_of_ble_eq_true rfl) (rcv_V rfl (congrArg Prod.fst (kf_89 X.1))) rfl H
  replace H := H.2 c2
  by_cases c3 : x1 = 2
  · replace H := H.1 c3
    refine wp_tabIn (tn := 71) rfl (by rw [c3]; decide) (by rw [c3]; rfl) ?_
    refine wp_aload rfl rfl ?_
    refine wp_getI (j := 6) rfl (congrArg Prod.fst (kf_89 X.1)) rfl ?_
    exact wp_iret rfl rfl H
  replace H := H.2 c3
  by_cases c4 : x1 = 3
  · replace H := H.1 c4
    refine wp_tabIn (tn := 76) rfl (by rw [c4]; decide) (by rw [c4]; rfl) ?_
    refine wp_aload rfl rfl ?_
    exact wp_call (k := 70) (ρ2 := 0) (L2 := [vr 89, vu, vu, vu, vu, vu, vu, vu]) rfl rfl rfl (Nat.le_of_ble_eq_true rfl) (Nat.le_of_ble_eq_true rfl) (Nat.le_of_ble_eq_true rfl) (rcv_V rfl (congrArg Prod.fst (kf_89 X.1))) rfl H
  replace H := H.2 c4
  by_cases c5 : x1 = 4
  · replace H := H.1 c5
    refine wp_tabIn (tn := 114) rfl (by rw [c5]; decide) (by rw [c5]; rfl) ?_
    refine wp_aload rfl rfl ?_
    refine wp_getI (j := 38) rfl (congrArg Prod.fst (kf_89 X.1)) rfl ?_
    exact wp_iret rfl rfl H
  replace H := H.2 c5
  by_cases c6 : x1 = 5
  · replace H := H.1 c6
    refine wp_tabIn (tn := 119) rfl (by rw [c6]; decide) (by rw [c6]; rfl) ?_
    refine wp_aload rfl rfl ?_
    refine wp_getR (r := 103) rfl (congrArg Prod.fst (kf_89 X.1)) rfl ?_
    refine wp_iload rfl rfl ?_
    refine wp_iconst rfl ?_
    refine wp_isub rfl ?_
    refine Wp.topI (y := (x1 - 5)) (w32_I (by clear H; unfold R32; omega)) ?_
    refine wp_iaload rfl (kf_104 X.1) ⟨(by clear H; omega), (by clear H; omega)⟩ ?_
    exact wp_iret rfl rfl H
  replace H := H.2 c6
  by_cases c7 : x1 = 6
  · replace H := H.1 c7
    refine wp_tabIn (tn := 119) rfl (by rw [c7]; decide) (by rw [c7]; rfl) ?_
    refine wp_aload rfl rfl ?_
    refine wp_getR (r := 103) rfl (congrArg Prod.fst (kf_89 X.1)) rfl ?_
    refine wp_iload rfl rfl ?_
    refine wp_iconst rfl ?_
    refine wp_isub rfl ?_
    refine Wp.topI (y := (x1 - 5)) (w32_I (by clear H; unfold R32; omega)) ?_
    refine wp_iaload rfl (kf_104 X.1) ⟨(by clear H; omega), (by clear H; omega)⟩ ?_
    exact wp_iret rfl rfl H
  replace H := H.2 c7
  by_cases c8 : x1 = 7
  · replace H := H.1 c8
    refine wp_tabIn (tn := 128) rfl (by rw [c8]; decide) (by rw [c8]; rfl) ?_
    refine wp_aload rfl rfl ?_
    refine wp_getR (r := 96) rfl (congrArg Prod.fst (kf_89 X.1)) rfl ?_
    refine wp_iconst rfl ?_
    refine wp_iaload rfl (kf_97 X.1) (by decide) ?_
    exact wp_iret rfl rfl H
  replace H := H.2 c8
  by_cases c9 : x1 = 8
  · replace H := H.1 c9
    refine wp_tabIn (tn := 135) rfl (by rw [c9]; decide) (by rw [c9]; rfl) ?_
    refine wp_aload rfl rfl ?_
    refine wp_getI (j := 4) rfl (congrArg Prod.fst (kf_89 X.1)) rfl ?_
    exact wp_iret rfl rfl H
  replace H := H.2 c9
  refine wp_tabOut (tn := 140) rfl (by clear H; omega) rfl ?_
  refine wp_iconst rfl ?_
  exact wp_iret rfl rfl H
/-- WarnLinesModel.count(I)I, from 61 -/
theorem S133_89_61 {X : Nat × (Int → Int)} {h : HP} {Q : bQ} (zx1 : aV) (zx2 : aV) (H : ((R32 ((h 89 5) - (h 89 16))) ∧ Q (some (vi ((h 89 5) - (h 89 16)))) h)) : Wp X 1 133 61 [vr 89, zx1, zx2, vu] [] h Q := by
  refine wp_aload rfl rfl ?_
  refine wp_getI (j := 5) rfl (congrArg Prod.fst (kf_89 X.1)) rfl ?_
  refine wp_aload rfl rfl ?_
  refine wp_getI (j := 16) rfl (congrArg Prod.fst (kf_89 X.1)) rfl ?_
  refine wp_isub rfl ?_
  have g1 := H.1
  replace H := H.2
  refine Wp.topI (y := ((h 89 5) - (h 89 16))) (w32_I g1) ?_
  exact wp_iret rfl rfl H
/-- WarnLinesModel.count(I)I, from 80 -/
theorem S133_89_80 {X : Nat × (Int → Int)} {h : HP} {Q : bQ} (zx1 : aV) (x2 : Int) (H : Wp X 1 133 82 [vr 89, zx1, vi x2, vi 0] [] h Q) : Wp X 1 133 80 [vr 89, zx1, vi x2, vu] [] h Q := by
  refine wp_iconst rfl ?_
  refine wp_istore (L2 := [vr 89, zx1, vi x2, vi 0]) rfl (Nat.le_of_ble_eq_true rfl) rfl ?_
  exact H
/-- WarnLinesModel.count(I)I, from 82 -/
theorem S133_89_82 {X : Nat × (Int → Int)} {h : HP} {Q : bQ} (zx1 : aV) (x2 : Int) (x3 : Int) (H : ((100 ≤ x3 → Q (some (vi x2)) h) ∧ (x3 < 100 → ((0 ≤ x3 ∧ x3 < 100) ∧ (((h 98 x3) ≠ (-1) → ((R32 (x2 + 1)) ∧ Wp X 1 133 82 [vr 89, (clr1 zx1), vi (x2 + 1), vi (x3 + 1)] [] h Q)) ∧ ((h 98 x3) = (-1) → ((R32 (x2 + 0)) ∧ Wp X 1 133 82 [vr 89, (clr1 zx1), vi (x2 + 0), vi (x3 + 1)] [] h Q))))))) : Wp X 1 133 82 [vr 89, zx1, vi x2, vi x3] [] h Q := by
  refine wp_iload rfl rfl ?_
  refine wp_iconst rfl ?_
  refine wp_icge (tn := 112) rfl rfl (fun c1 => ?_) (fun c1 => ?_)
  · replace H := H.1 c1
    refine wp_iload rfl rfl ?_
    exact wp_iret rfl rfl H
  · replace H := H.2 c1
    refine wp_iload rfl rfl ?_
    refine wp_aload rfl rfl ?_
    refine wp_getR (r := 97) rfl (congrArg Prod.fst (kf_89 X.1)) rfl ?_
    refine wp_iload rfl rfl ?_
    have g2 := H.1
    replace H := H.2
    refine wp_iaload rfl (kf_98 X.1) g2 ?_
    refine wp_iconst rfl ?_
    refine wp_icne (tn := 103) rfl rfl (fun c3 => ?_) (fun c3 => ?_)
    · replace H := H.1 c3
      refine wp_iconst rfl ?_
      refine wp_iadd rfl ?_
      have g4 := H.1
      replace H := H.2
      refine Wp.topI (y := (x2 + 1)) (w32_I g4) ?_
      refine wp_istore (L2 := [vr 89, (clr1 zx1), vi (x2 + 1), vi x3]) rfl (Nat.le_of_ble_eq_true rfl) rfl ?_
      refine wp_iincR (L2 := [vr 89, (clr1 zx1), vi (x2 + 1), vi (x3 + 1)]) rfl rfl (by clear H; unfold R32; omega) rfl ?_
      refine wp_goto (tn := 82) rfl rfl ?_
      exact H
    · replace H := H.2 c3
      refine wp_iconst rfl ?_
      refine wp_goto (tn := 104) rfl rfl ?_
      refine wp_iadd rfl ?_
      have g5 := H.1
      replace H := H.2
      refine Wp.topI (y := (x2 + 0)) (w32_I g5) ?_
      refine wp_istore (L2 := [vr 89, (clr1 zx1), vi (x2 + 0), vi x3]) rfl (Nat.le_of_ble_eq_true rfl) rfl ?_
      refine wp_iincR (L2 := [vr 89, (clr1 zx1), vi (x2 + 0), vi (x3 + 1)]) rfl rfl (by clear H; unfold R32; omega) rfl ?_
      refine wp_goto (tn := 82) rfl rfl ?_
      exact H
/-- WarnLinesModel.digest()J, from 0 -/
theorem S134_89_0 {X : Nat × (Int → Int)} {h : HP} {Q : bQ}  (H : Wp X 7 134 6 [vr 89, vl 17, vu, vi 0] [] h Q) : Wp X 7 134 0 [vr 89, vu, vu, vu] [] h Q := by
  refine wp_sipush rfl ?_
  refine wp_lstore (L2 := [vr 89, vl 17, vu, vu]) rfl (Nat.le_of_ble_eq_true rfl) rfl ?_
  refine wp_iconst rfl ?_
  refine wp_istore (L2 := [vr 89, vl 17, vu, vi 0]) rfl (Nat.le_of_ble_eq_true rfl) rfl ?_
  exact H
/-- WarnLinesModel.digest()J, from 6 -/
theorem S134_89_6 {X : Nat × (Int → Int)} {h : HP} {Q : bQ} (x1 : Int) (x3 : Int) (H : ((8 ≤ x3 → Wp X 7 134 33 [vr 89, vl x1, vu, vi 0] [] h Q) ∧ (x3 < 8 → Wp X 1 133 0 [vr 89, vi x3, vu, vu] [] h (fun v h' => Wp X 7 134 22 [vr 89, vl x1, vu, vi x3] (psh v [vl (w64 (31 * x1))]) h' Q)))) : Wp X 7 134 6 [vr 89, vl x1, vu, vi x3] [] h Q := by
  refine wp_iload rfl rfl ?_
  refine wp_iconst rfl ?_
  refine wp_icge (tn := 31) rfl rfl (fun c1 => ?_) (fun c1 => ?_)
  · replace H := H.1 c1
    refine wp_iconst rfl ?_
    refine wp_istore (L2 := [vr 89, vl x1, vu, vi 0]) rfl (Nat.le_of_ble_eq_true rfl) rfl ?_
    exact H
  · replace H := H.2 c1
    refine wp_sipush rfl ?_
    refine wp_lload rfl rfl ?_
    refine wp_lmul rfl ?_
    refine wp_aload rfl rfl ?_
    refine wp_iload rfl rfl ?_
    exact wp_call (k := 133) (ρ2 := 1) (L2 := [vr 89, vi x3, vu, vu]) rfl rfl rfl (Nat.le_of_ble_eq_true rfl) (Nat.le_of_ble_eq_true rfl) (Nat.le_of_ble_eq_true rfl) (rcv_V rfl (congrArg Prod.fst (kf_89 X.1))) rfl H
/-- WarnLinesModel.digest()J, from 22 -/
theorem S134_89_22 {X : Nat × (Int → Int)} {h : HP} {Q : bQ} (zx1 : aV) (x3 : Int) (s0 : Int) (s1 : Int) (H : ((R32 (x3 + 1)) ∧ Wp X 7 134 6 [vr 89, vl (w64 (s1 + s0)), vu, vi (x3 + 1)] [] h Q)) : Wp X 7 134 22 [vr 89, zx1, vu, vi x3] [vi s0, vl s1] h Q := by
  refine wp_i2l rfl ?_
  refine wp_ladd rfl ?_
  refine wp_lstore (L2 := [vr 89, vl (w64 (s1 + s0)), vu, vi x3]) rfl (Nat.le_of_ble_eq_true rfl) rfl ?_
  have g1 := H.1
  replace H := H.2
  refine wp_iincR (L2 := [vr 89, vl (w64 (s1 + s0)), vu, vi (x3 + 1)]) rfl rfl g1 rfl ?_
  refine wp_goto (tn := 6) rfl rfl ?_
  exact H
/-- WarnLinesModel.digest()J, from 33 -/
theorem S134_89_33 {X : Nat × (Int → Int)} {h : HP} {Q : bQ} (x1 : Int) (x3 : Int) (H : ((2 ≤ x3 → Wp X 7 134 59 [vr 89, vl x1, vu, vi 0] [] h Q) ∧ (x3 < 2 → Wp X 3 92 0 [vr 89, vi x3, vu] [] h (fun v h' => Wp X 7 134 48 [vr 89, vl x1, vu, vi x3] (psh v [vl (w64 (31 * x1))]) h' Q)))) : Wp X 7 134 33 [vr 89, vl x1, vu, vi x3] [] h Q := by
  refine wp_iload rfl rfl ?_
  refine wp_iconst rfl ?_
  refine wp_icge (tn := 57) rfl rfl (fun c1 => ?_) (fun c1 => ?_)
  · replace H := H.1 c1
    refine wp_iconst rfl ?_
    refine wp_istore (L2 := [vr 89, vl x1, vu, vi 0]) rfl (Nat.le_of_ble_eq_true rfl) rfl ?_
    exact H
  · replace H := H.2 c1
    refine wp_sipush rfl ?_
    refine wp_lload rfl rfl ?_
    refine wp_lmul rfl ?_
    refine wp_aload rfl rfl ?_
    refine wp_iload rfl rfl ?_
    exact wp_call (k := 92) (ρ2 := 3) (L2 := [vr 89, vi x3, vu]) rfl rfl rfl (Nat.le_of_ble_eq_true rfl) (Nat.le_of_ble_eq_true rfl) (Nat.le_of_ble_eq_true rfl) (rcv_V rfl (congrArg Prod.fst (kf_89 X.1))) rfl H
/-- WarnLinesModel.digest()J, from 48 -/
theorem S134_89_48 {X : Nat × (Int → Int)} {h : HP} {Q : bQ} (zx1 : aV) (x3 : Int) (s0 : Int) (s1 : Int) (H : ((R32 (x3 + 1)) ∧ Wp X 7 134 33 [vr 89, vl (w64 (s1 + s0)), vu, vi (x3 + 1)] [] h Q)) : Wp X 7 134 48 [vr 89, zx1, vu, vi x3] [vi s0, vl s1] h Q := by
  refine wp_i2l rfl ?_
  refine wp_ladd rfl ?_
  refine wp_lstore (L2 := [vr 89, vl (w64 (s1 + s0)), vu, vi x3]) rfl (Nat.le_of_ble_eq_true rfl) rfl ?_
  have g1 := H.1
  replace H := H.2
  refine wp_iincR (L2 := [vr 89, vl (w64 (s1 + s0)), vu, vi (x3 + 1)]) rfl rfl g1 rfl ?_
  refine wp_goto (tn := 33) rfl rfl ?_
  exact H
/-- WarnLinesModel.digest()J, from 59 -/
theorem S134_89_59 {X : Nat × (Int → Int)} {h : HP} {Q : bQ} (x1 : Int) (x3 : Int) (H : ((4 ≤ x3 → Wp X 4 81 0 [vr 89] [] h (fun v h' => Wp X 7 134 96 [vr 89, vl x1, vu, vi x3] (psh v [vl (w64 (31 * x1))]) h' Q)) ∧ (x3 < 4 → ((R32 (Int.tdiv x3 2)) ∧ Wp X 4 79 0 [vr 89, vi (Int.tdiv x3 2), vi (Int.tmod x3 2)] [] h (fun v h' => Wp X 7 134 79 [vr 89, vl x1, vu, vi x3] (psh v [vl (w64 (31 * x1))]) h' Q))))) : Wp X 7 134 59 [vr 89, vl x1, vu, vi x3] [] h Q := by
  refine wp_iload rfl rfl ?_
  refine wp_iconst rfl ?_
  refine wp_icge (tn := 87) rfl rfl (fun c1 => ?_) (fun c1 => ?_)
  · replace H := H.1 c1
    refine wp_sipush rfl ?_
    refine wp_lload rfl rfl ?_
    refine wp_lmul rfl ?_
    refine wp_aload rfl rfl ?_
    exact wp_call (k := 81) (ρ2 := 4) (L2 := [vr 89]) rfl rfl rfl (Nat.le_of_ble_eq_true rfl) (Nat.le_of_ble_eq_true rfl) (Nat.le_of_ble_eq_true rfl) (rcv_V rfl (congrArg Prod.fst (kf_89 X.1))) rfl H
  · replace H := H.2 c1
    refine wp_sipush rfl ?_
    refine wp_lload rfl rfl ?_
    refine wp_lmul rfl ?_
    refine wp_aload rfl rfl ?_
    refine wp_iload rfl rfl ?_
    refine wp_iconst rfl ?_
    refine wp_idiv rfl (by decide) ?_
    have g2 := H.1
    replace H := H.2
    refine Wp.topI (y := (Int.tdiv x3 2)) (w32_I g2) ?_
    refine wp_iload rfl rfl ?_
    refine wp_iconst rfl ?_
    refine wp_irem rfl (by decide) ?_
    exact wp_call (k := 79) (ρ2 := 4) (L2 := [vr 89, vi (Int.tdiv x3 2), vi (Int.tmod x3 2)]) rfl rfl rfl (Nat.le_of_ble_eq_true rfl) (Nat.le_of_ble_eq_true rfl) (Nat.le_of_ble_eq_true rfl) (rcv_V rfl (congrArg Prod.fst (kf_89 X.1))) rfl H
/-- WarnLinesModel.digest()J, from 79 -/
theorem S134_89_79 {X : Nat × (Int → Int)} {h : HP} {Q : bQ} (zx1 : aV) (x3 : Int) (s0 : Int) (s1 : Int) (H : ((R32 (x3 + 1)) ∧ Wp X 7 134 59 [vr 89, vl (w64 (s1 + s0)), vu, vi (x3 + 1)] [] h Q)) : Wp X 7 134 79 [vr 89, zx1, vu, vi x3] [vl s0, vl s1] h Q := by
  refine wp_ladd rfl ?_
  refine wp_lstore (L2 := [vr 89, vl (w64 (s1 + s0)), vu, vi x3]) rfl (Nat.le_of_ble_eq_true rfl) rfl ?_
  have g1 := H.1
  replace H := H.2
  refine wp_iincR (L2 := [vr 89, vl (w64 (s1 + s0)), vu, vi (x3 + 1)]) rfl rfl g1 rfl ?_
  refine wp_goto (tn := 59) rfl rfl ?_
  exact H
/-- WarnLinesModel.digest()J, from 96 -/
theorem S134_89_96 {X : Nat × (Int → Int)} {h : HP} {Q : bQ} (zx1 : aV) (zx3 : aV) (s0 : Int) (s1 : Int) (H : Wp X 7 134 101 [vr 89, vl (w64 (s1 + s0)), vu, vi 0] [] h Q) : Wp X 7 134 96 [vr 89, zx1, vu, zx3] [vi s0, vl s1] h Q := by
  refine wp_i2l rfl ?_
  refine wp_ladd rfl ?_
  refine wp_lstore (L2 := [vr 89, vl (w64 (s1 + s0)), vu, zx3]) rfl (Nat.le_of_ble_eq_true rfl) rfl ?_
  refine wp_iconst rfl ?_
  refine wp_istore (L2 := [vr 89, vl (w64 (s1 + s0)), vu, vi 0]) rfl (Nat.le_of_ble_eq_true rfl) rfl ?_
  exact H
/-- WarnLinesModel.digest()J, from 101 -/
theorem S134_89_101 {X : Nat × (Int → Int)} {h : HP} {Q : bQ} (x1 : Int) (x3 : Int) (H : (((h 89 5) ≤ x3 → Wp X 7 134 172 [vr 89, vl x1, vu, vi 0] [] h Q) ∧ (x3 < (h 89 5) → Wp X 4 84 0 [vr 89, vi x3, vi 2] [] h (fun v h' => Wp X 7 134 120 [vr 89, vl x1, vu, vi x3] (psh v [vl (w64 (31 * x1))]) h' Q)))) : Wp X 7 134 101 [vr 89, vl x1, vu, vi x3] [] h Q := by
  refine wp_iload rfl rfl ?_
  refine wp_aload rfl rfl ?_
  refine wp_getI (j := 5) rfl (congrArg Prod.fst (kf_89 X.1)) rfl ?_
  refine wp_icge (tn := 170) rfl rfl (fun c1 => ?_) (fun c1 => ?_)
  · replace H := H.1 c1
    refine wp_iconst rfl ?_
    refine wp_istore (L2 := [vr 89, vl x1, vu, vi 0]) rfl (Nat.le_of_ble_eq_true rfl) rfl ?_
    exact H
  · replace H := H.2 c1
    refine wp_sipush rfl ?_
    refine wp_lload rfl rfl ?_
    refine wp_lmul rfl ?_
    refine wp_aload rfl rfl ?_
    refine wp_iload rfl rfl ?_
    refine wp_iconst rfl ?_
    exact wp_call (k := 84) (ρ2 := 4) (L2 := [vr 89, vi x3, vi 2]) rfl rfl rfl (Nat.le_of_ble_eq_true rfl) (Nat.le_of_ble_eq_true rfl) (Nat.le_of_ble_eq_true rfl) (rcv_V rfl (congrArg Prod.fst (kf_89 X.1))) rfl H
/-- WarnLinesModel.digest()J, from 120 -/
theorem S134_89_120 {X : Nat × (Int → Int)} {h : HP} {Q : bQ} (zx1 : aV) (x3 : Int) (s0 : Int) (s1 : Int) (H : Wp X 4 100 0 [vr 89, vi 0, vi x3] [] h (fun v h' => Wp X 7 134 134 [vr 89, vl (w64 (s1 + s0)), vu, vi x3] (psh v [vl (w64 (31 * (w64 (s1 + s0))))]) h' Q)) : Wp X 7 134 120 [vr 89, zx1, vu, vi x3] [vi s0, vl s1] h Q := by
  refine wp_i2l rfl ?_
  refine wp_ladd rfl ?_
  refine wp_lstore (L2 := [vr 89, vl (w64 (s1 + s0)), vu, vi x3]) rfl (Nat.le_of_ble_eq_true rfl) rfl ?_
  refine wp_sipush rfl ?_
  refine wp_lload rfl rfl ?_
  refine wp_lmul rfl ?_
  refine wp_aload rfl rfl ?_
  refine wp_iconst rfl ?_
  refine wp_iload rfl rfl ?_
  exact wp_call (k := 100) (ρ2 := 4) (L2 := [vr 89, vi 0, vi x3]) rfl rfl rfl (Nat.le_of_ble_eq_true rfl) (Nat.le_of_ble_eq_true rfl) (Nat.le_of_ble_eq_true rfl) (rcv_V rfl (congrArg Prod.fst (kf_89 X.1))) rfl H
/-- WarnLinesModel.digest()J, from 134 -/
theorem S134_89_134 {X : Nat × (Int → Int)} {h : HP} {Q : bQ} (zx1 : aV) (x3 : Int) (s0 : Int) (s1 : Int) (H : Wp X 4 100 0 [vr 89, vi 1, vi x3] [] h (fun v h' => Wp X 7 134 148 [vr 89, vl (w64 (s1 + s0)), vu, vi x3] (psh v [vl (w64 (31 * (w64 (s1 + s0))))]) h' Q)) : Wp X 7 134 134 [vr 89, zx1, vu, vi x3] [vi s0, vl s1] h Q := by
  refine wp_i2l rfl ?_
  refine wp_ladd rfl ?_
  refine wp_lstore (L2 := [vr 89, vl (w64 (s1 + s0)), vu, vi x3]) rfl (Nat.le_of_ble_eq_true rfl) rfl ?_
  refine wp_sipush rfl ?_
  refine wp_lload rfl rfl ?_
  refine wp_lmul rfl ?_
  refine wp_aload rfl rfl ?_
  refine wp_iconst rfl ?_
  refine wp_iload rfl rfl ?_
  exact wp_call (k := 100) (ρ2 := 4) (L2 := [vr 89, vi 1, vi x3]) rfl rfl rfl (Nat.le_of_ble_eq_true rfl) (Nat.le_of_ble_eq_true rfl) (Nat.le_of_ble_eq_true rfl) (rcv_V rfl (congrArg Prod.fst (kf_89 X.1))) rfl H
/-- WarnLinesModel.digest()J, from 148 -/
theorem S134_89_148 {X : Nat × (Int → Int)} {h : HP} {Q : bQ} (zx1 : aV) (x3 : Int) (s0 : Int) (s1 : Int) (H : Wp X 1 130 0 [vr 89, vi x3, vu, vu, vu, vu, vu] [] h (fun v h' => Wp X 7 134 161 [vr 89, vl (w64 (s1 + s0)), vu, vi x3] (psh v [vl (w64 (31 * (w64 (s1 + s0))))]) h' Q)) : Wp X 7 134 148 [vr 89, zx1, vu, vi x3] [vi s0, vl s1] h Q := by
  refine wp_i2l rfl ?_
  refine wp_ladd rfl ?_
  refine wp_lstore (L2 := [vr 89, vl (w64 (s1 + s0)), vu, vi x3]) rfl (Nat.le_of_ble_eq_true rfl) rfl ?_
  refine wp_sipush rfl ?_
  refine wp_lload rfl rfl ?_
  refine wp_lmul rfl ?_
  refine wp_aload rfl rfl ?_
  refine wp_iload rfl rfl ?_
  exact wp_call (k := 130) (ρ2 := 1) (L2 := [vr 89, vi x3, vu, vu, vu, vu, vu]) rfl rfl rfl (Nat.le_of_ble_eq_true rfl) (Nat.le_of_ble_eq_true rfl) (Nat.le_of_ble_eq_true rfl) (rcv_V rfl (congrArg Prod.fst (kf_89 X.1))) rfl H
/-- WarnLinesModel.digest()J, from 161 -/
theorem S134_89_161 {X : Nat × (Int → Int)} {h : HP} {Q : bQ} (zx1 : aV) (x3 : Int) (s0 : Int) (s1 : Int) (H : ((R32 (x3 + 1)) ∧ Wp X 7 134 101 [vr 89, vl (w64 (s1 + s0)), vu, vi (x3 + 1)] [] h Q)) : Wp X 7 134 161 [vr 89, zx1, vu, vi x3] [vi s0, vl s1] h Q := by
  refine wp_i2l rfl ?_
  refine wp_ladd rfl ?_
  refine wp_lstore (L2 := [vr 89, vl (w64 (s1 + s0)), vu, vi x3]) rfl (Nat.le_of_ble_eq_true rfl) rfl ?_
  have g1 := H.1
  replace H := H.2
  refine wp_iincR (L2 := [vr 89, vl (w64 (s1 + s0)), vu, vi (x3 + 1)]) rfl rfl g1 rfl ?_
  refine wp_goto (tn := 101) rfl rfl ?_
  exact H
/-- WarnLinesModel.digest()J, from 172 -/
theorem S134_89_172 {X : Nat × (Int → Int)} {h : HP} {Q : bQ} (x1 : Int) (x3 : Int) (H : ((2 ≤ x3 → Wp X 7 134 258 [vr 89, vl x1, vu, vi 0] [] h Q) ∧ (x3 < 2 → Wp X 6 106 0 [vr 89, vi x3, vi 0, vu] [] h (fun v h' => Wp X 7 134 188 [vr 89, vl x1, vu, vi x3] (psh v [vl (w64 (31 * x1))]) h' Q)))) : Wp X 7 134 172 [vr 89, vl x1, vu, vi x3] [] h Q := by
  refine wp_iload rfl rfl ?_
  refine wp_iconst rfl ?_
  refine wp_icge (tn := 256) rfl rfl (fun c1 => ?_) (fun c1 => ?_)
  · replace H := H.1 c1
    refine wp_iconst rfl ?_
    refine wp_istore (L2 := [vr 89, vl x1, vu, vi 0]) rfl (Nat.le_of_ble_eq_true rfl) rfl ?_
    exact H
  · replace H := H.2 c1
    refine wp_sipush rfl ?_
    refine wp_lload rfl rfl ?_
    refine wp_lmul rfl ?_
    refine wp_aload rfl rfl ?_
    refine wp_iload rfl rfl ?_
    refine wp_iconst rfl ?_
    exact wp_call (k := 106) (ρ2 := 6) (L2 := [vr 89, vi x3, vi 0, vu]) rfl rfl rfl (Nat.le_of_ble_eq_true rfl) (Nat.le_of_ble_eq_true rfl) (Nat.le_of_ble_eq_true rfl) (rcv_V rfl (congrArg Prod.fst (kf_89 X.1))) rfl H
/-- WarnLinesModel.digest()J, from 188 -/
theorem S134_89_188 {X : Nat × (Int → Int)} {h : HP} {Q : bQ} (zx1 : aV) (x3 : Int) (s0 : Int) (s1 : Int) (H : Wp X 6 106 0 [vr 89, vi x3, vi 1, vu] [] h (fun v h' => Wp X 7 134 202 [vr 89, vl (w64 (s1 + s0)), vu, vi x3] (psh v [vl (w64 (31 * (w64 (s1 + s0))))]) h' Q)) : Wp X 7 134 188 [vr 89, zx1, vu, vi x3] [vi s0, vl s1] h Q := by
  refine wp_i2l rfl ?_
  refine wp_ladd rfl ?_
  refine wp_lstore (L2 := [vr 89, vl (w64 (s1 + s0)), vu, vi x3]) rfl (Nat.le_of_ble_eq_true rfl) rfl ?_
  refine wp_sipush rfl ?_
  refine wp_lload rfl rfl ?_
  refine wp_lmul rfl ?_
  refine wp_aload rfl rfl ?_
  refine wp_iload rfl rfl ?_
  refine wp_iconst rfl ?_
  exact wp_call (k := 106) (ρ2 := 6) (L2 := [vr 89, vi x3, vi 1, vu]) rfl rfl rfl (Nat.le_of_ble_eq_true rfl) (Nat.le_of_ble_eq_true rfl) (Nat.le_of_ble_eq_true rfl) (rcv_V rfl (congrArg Prod.fst (kf_89 X.1))) rfl H
/-- WarnLinesModel.digest()J, from 202 -/
theorem S134_89_202 {X : Nat × (Int → Int)} {h : HP} {Q : bQ} (zx1 : aV) (x3 : Int) (s0 : Int) (s1 : Int) (H : Wp X 5 118 0 [vr 89, vi x3, vi 4, vi 1, vi 0, vi 0] [] h (fun v h' => Wp X 7 134 219 [vr 89, vl (w64 (s1 + s0)), vu, vi x3] (psh v [vl (w64 (31 * (w64 (s1 + s0))))]) h' Q)) : Wp X 7 134 202 [vr 89, zx1, vu, vi x3] [vi s0, vl s1] h Q := by
  refine wp_i2l rfl ?_
  refine wp_ladd rfl ?_
  refine wp_lstore (L2 := [vr 89, vl (w64 (s1 + s0)), vu, vi x3]) rfl (Nat.le_of_ble_eq_true rfl) rfl ?_
  refine wp_sipush rfl ?_
  refine wp_lload rfl rfl ?_
  refine wp_lmul rfl ?_
  refine wp_aload rfl rfl ?_
  refine wp_iload rfl rfl ?_
  refine wp_iconst rfl ?_
  refine wp_iconst rfl ?_
  refine wp_iconst rfl ?_
  refine wp_iconst rfl ?_
  exact wp_call (k := 118) (ρ2 := 5) (L2 := [vr 89, vi x3, vi 4, vi 1, vi 0, vi 0]) rfl rfl rfl (Nat.le_of_ble_eq_true rfl) (Nat.le_of_ble_eq_true rfl) (Nat.le_of_ble_eq_true rfl) (rcv_V rfl (congrArg Prod.fst (kf_89 X.1))) rfl H
/-- WarnLinesModel.digest()J, from 219 -/
theorem S134_89_219 {X : Nat × (Int → Int)} {h : HP} {Q : bQ} (zx1 : aV) (x3 : Int) (s0 : Int) (s1 : Int) (H : Wp X 5 118 0 [vr 89, vi x3, vi 4, vi 1, vi 0, vi 1] [] h (fun v h' => Wp X 7 134 235 [vr 89, vl (w64 (s1 + s0)), vu, vi x3] (psh v [vl (w64 (31 * (w64 (s1 + s0))))]) h' Q)) : Wp X 7 134 219 [vr 89, zx1, vu, vi x3] [vl s0, vl s1] h Q := by
  refine wp_ladd rfl ?_
  refine wp_lstore (L2 := [vr 89, vl (w64 (s1 + s0)), vu, vi x3]) rfl (Nat.le_of_ble_eq_true rfl) rfl ?_
  refine wp_sipush rfl ?_
  refine wp_lload rfl rfl ?_
  refine wp_lmul rfl ?_
  refine wp_aload rfl rfl ?_
  refine wp_iload rfl rfl ?_
  refine wp_iconst rfl ?_
  refine wp_iconst rfl ?_
  refine wp_iconst rfl ?_
  refine wp_iconst rfl ?_
  exact wp_call (k := 118) (ρ2 := 5) (L2 := [vr 89, vi x3, vi 4, vi 1, vi 0, vi 1]) rfl rfl rfl (Nat.le_of_ble_eq_true rfl) (Nat.le_of_ble_eq_true rfl) (Nat.le_of_ble_eq_true rfl) (rcv_V rfl (congrArg Prod.fst (kf_89 X.1))) rfl H
/-- WarnLinesModel.digest()J, from 235 -/
theorem S134_89_235 {X : Nat × (Int → Int)} {h : HP} {Q : bQ} (zx1 : aV) (x3 : Int) (s0 : Int) (s1 : Int) (H : Wp X 4 127 0 [vr 89, vi x3, vu, vu, vu, vu, vu, vu, vu] [] h (fun v h' => Wp X 7 134 247 [vr 89, vl (w64 (s1 + s0)), vu, vi x3] (psh v [vl (w64 (31 * (w64 (s1 + s0))))]) h' Q)) : Wp X 7 134 235 [vr 89, zx1, vu, vi x3] [vl s0, vl s1] h Q := by
  refine wp_ladd rfl ?_
  refine wp_lstore (L2 := [vr 89, vl (w64 (s1 + s0)), vu, vi x3]) rfl (Nat.le_of_ble_eq_true rfl) rfl ?_
  refine wp_sipush rfl ?_
  refine wp_lload rfl rfl ?_
  refine wp_lmul rfl ?_
  refine wp_aload rfl rfl ?_
  refine wp_iload rfl rfl ?_
  exact wp_call (k := 127) (ρ2 := 4) (L2 := [vr 89, vi x3, vu, vu, vu, vu, vu, vu, vu]) rfl rfl rfl (Nat.le_of_ble_eq_true rfl) (Nat.le_of_ble_eq_true rfl) (Nat.le_of_ble_eq_true rfl) (rcv_V rfl (congrArg Prod.fst (kf_89 X.1))) rfl H
/-- WarnLinesModel.digest()J, from 247 -/
theorem S134_89_247 {X : Nat × (Int → Int)} {h : HP} {Q : bQ} (zx1 : aV) (x3 : Int) (s0 : Int) (s1 : Int) (H : ((R32 (x3 + 1)) ∧ Wp X 7 134 172 [vr 89, vl (w64 (s1 + s0)), vu, vi (x3 + 1)] [] h Q)) : Wp X 7 134 247 [vr 89, zx1, vu, vi x3] [vi s0, vl s1] h Q := by
  refine wp_i2l rfl ?_
  refine wp_ladd rfl ?_
  refine wp_lstore (L2 := [vr 89, vl (w64 (s1 + s0)), vu, vi x3]) rfl (Nat.le_of_ble_eq_true rfl) rfl ?_
  have g1 := H.1
  replace H := H.2
  refine wp_iincR (L2 := [vr 89, vl (w64 (s1 + s0)), vu, vi (x3 + 1)]) rfl rfl g1 rfl ?_
  refine wp_goto (tn := 172) rfl rfl ?_
  exact H
/-- WarnLinesModel.digest()J, from 258 -/
theorem S134_89_258 {X : Nat × (Int → Int)} {h : HP} {Q : bQ} (x1 : Int) (x3 : Int) (H : ((4 ≤ x3 → Q (some (vl x1)) h) ∧ (x3 < 4 → Wp X 4 125 0 [vr 89, vi x3, vu, vu, vu, vu, vu, vu, vu, vu] [] h (fun v h' => Wp X 7 134 273 [vr 89, vl x1, vu, vi x3] (psh v [vl (w64 (31 * x1))]) h' Q)))) : Wp X 7 134 258 [vr 89, vl x1, vu, vi x3] [] h Q := by
  refine wp_iload rfl rfl ?_
  refine wp_iconst rfl ?_
  refine wp_icge (tn := 282) rfl rfl (fun c1 => ?_) (fun c1 => ?_)
  · replace H := H.1 c1
    refine wp_lload rfl rfl ?_
    exact wp_lret rfl rfl H
  · replace H := H.2 c1
    refine wp_sipush rfl ?_
    refine wp_lload rfl rfl ?_
    refine wp_lmul rfl ?_
    refine wp_aload rfl rfl ?_
    refine wp_iload rfl rfl ?_
    exact wp_call (k := 125) (ρ2 := 4) (L2 := [vr 89, vi x3, vu, vu, vu, vu, vu, vu, vu, vu]) rfl rfl rfl (Nat.le_of_ble_eq_true rfl) (Nat.le_of_ble_eq_true rfl) (Nat.le_of_ble_eq_true rfl) (rcv_V rfl (congrArg Prod.fst (kf_89 X.1))) rfl H
/-- WarnLinesModel.digest()J, from 273 -/
theorem S134_89_273 {X : Nat × (Int → Int)} {h : HP} {Q : bQ} (zx1 : aV) (x3 : Int) (s0 : Int) (s1 : Int) (H : ((R32 (x3 + 1)) ∧ Wp X 7 134 258 [vr 89, vl (w64 (s1 + s0)), vu, vi (x3 + 1)] [] h Q)) : Wp X 7 134 273 [vr 89, zx1, vu, vi x3] [vi s0, vl s1] h Q := by
  refine wp_i2l rfl ?_
  refine wp_ladd rfl ?_
  refine wp_lstore (L2 := [vr 89, vl (w64 (s1 + s0)), vu, vi x3]) rfl (Nat.le_of_ble_eq_true rfl) rfl ?_
  have g1 := H.1
  replace H := H.2
  refine wp_iincR (L2 := [vr 89, vl (w64 (s1 + s0)), vu, vi (x3 + 1)]) rfl rfl g1 rfl ?_
  refine wp_goto (tn := 258) rfl rfl ?_
  exact H
/-- Causes.nearestKind(I)I, from 0 -/
theorem S139_77_0 {X : Nat × (Int → Int)} {h : HP} {Q : bQ} (x1 : Int) (H : Wp X 0 139 7 [vr 77, vi x1, vi (-1), vi (-1), vi 0] [] h Q) : Wp X 0 139 0 [vr 77, vi x1, vu, vu, vu] [] h Q := by
  refine wp_iconst rfl ?_
  refine wp_istore (L2 := [vr 77, vi x1, vi (-1), vu, vu]) rfl (Nat.le_of_ble_eq_true rfl) rfl ?_
  refine wp_iconst rfl ?_
  refine wp_istore (L2 := [vr 77, vi x1, vi (-1), vi (-1), vu]) rfl (Nat.le_of_ble_eq_true rfl) rfl ?_
  refine wp_iconst rfl ?_
  refine wp_istore (L2 := [vr 77, vi x1, vi (-1), vi (-1), vi 0]) rfl (Nat.le_of_ble_eq_true rfl) rfl ?_
  exact H
/-- Causes.nearestKind(I)I, from 7 -/
theorem S139_77_7 {X : Nat × (Int → Int)} {h : HP} {Q : bQ} (x1 : Int) (x2 : Int) (x3 : Int) (x4 : Int) (H : (((h 77 2) ≤ x4 → Q (some (vi x3)) h) ∧ (x4 < (h 77 2) → ((0 ≤ x4 ∧ x4 < 12) ∧ ((x1 < (h 79 x4) → Wp X 0 139 7 [vr 77, vi x1, vi x2, vi x3, vi (x4 + 1)] [] h Q) ∧ ((h 79 x4) ≤ x1 → (((h 79 x4) < x2 → Wp X 0 139 7 [vr 77, vi x1, vi x2, vi x3, vi (x4 + 1)] [] h Q) ∧ (x2 ≤ (h 79 x4) → Wp X 0 139 7 [vr 77, vi x1, vi (h 79 x4), vi (h 78 x4), vi (x4 + 1)] [] h Q)))))))) : Wp X 0 139 7 [vr 77, vi x1, vi x2, vi x3, vi x4] [] h Q := by
  refine wp_iload rfl rfl ?_
  refine wp_aload rfl rfl ?_
  refine wp_getI (j := 2) rfl (congrArg Prod.fst (kf_77 X.1)) rfl ?_
  refine wp_icge (tn := 60) rfl rfl (fun c1 => ?_) (fun c1 => ?_)
  · replace H := H.1 c1
    refine wp_iload rfl rfl ?_
    exact wp_iret rfl rfl H
  · replace H := H.2 c1
    refine wp_aload rfl rfl ?_
    refine wp_getR (r := 78) rfl (congrArg Prod.fst (kf_77 X.1)) rfl ?_
    refine wp_iload rfl rfl ?_
    have g2 := H.1
    replace H := H.2
    refine wp_iaload rfl (kf_79 X.1) g2 ?_
    refine wp_iload rfl rfl ?_
    refine wp_icgt (tn := 54) rfl rfl (fun c3 => ?_) (fun c3 => ?_)
    · replace H := H.1 c3
      refine wp_iincR (L2 := [vr 77, vi x1, vi x2, vi x3, vi (x4 + 1)]) rfl rfl (by clear H; unfold R32; omega) rfl ?_
      refine wp_goto (tn := 7) rfl rfl ?_
      exact H
    · replace H := H.2 c3
      refine wp_aload rfl rfl ?_
      refine wp_getR (r := 78) rfl (congrArg Prod.fst (kf_77 X.1)) rfl ?_
      refine wp_iload rfl rfl ?_
      refine wp_iaload rfl (kf_79 X.1) ⟨g2.1, g2.2⟩ ?_
      refine wp_iload rfl rfl ?_
      refine wp_iclt (tn := 54) rfl rfl (fun c4 => ?_) (fun c4 => ?_)
      · replace H := H.1 c4
        refine wp_iincR (L2 := [vr 77, vi x1, vi x2, vi x3, vi (x4 + 1)]) rfl rfl (by clear H; unfold R32; omega) rfl ?_
        refine wp_goto (tn := 7) rfl rfl ?_
        exact H
      · replace H := H.2 c4
        refine wp_aload rfl rfl ?_
        refine wp_getR (r := 78) rfl (congrArg Prod.fst (kf_77 X.1)) rfl ?_
        refine wp_iload rfl rfl ?_
        refine wp_iaload rfl (kf_79 X.1) ⟨g2.1, g2.2⟩ ?_
        refine wp_istore (L2 := [vr 77, vi x1, vi (h 79 x4), vi x3, vi x4]) rfl (Nat.le_of_ble_eq_true rfl) rfl ?_
        refine wp_aload rfl rfl ?_
        refine wp_getR (r := 77) rfl (congrArg Prod.fst (kf_77 X.1)) rfl ?_
        refine wp_iload rfl rfl ?_
        refine wp_iaload rfl (kf_78 X.1) ⟨g2.1, g2.2⟩ ?_
        refine wp_istore (L2 := [vr 77, vi x1, vi (h 79 x4), vi (h 78 x4), vi x4]) rfl (Nat.le_of_ble_eq_true rfl) rfl ?_
        refine wp_iincR (L2 := [vr 77, vi x1, vi (h 79 x4), vi (h 78 x4), vi (x4 + 1)]) rfl rfl (by clear H; unfold R32; omega) rfl ?_
        refine wp_goto (tn := 7) rfl rfl ?_
        exact H
/-- Causes.has(III)Z, from 0 -/
theorem S140_77_0 {X : Nat × (Int → Int)} {h : HP} {Q : bQ} (x1 : Int) (x2 : Int) (x3 : Int) (H : Wp X 0 140 3 [vr 77, vi x1, vi x2, vi x3, vi 0] [] h Q) : Wp X 0 140 0 [vr 77, vi x1, vi x2, vi x3, vu] [] h Q := by
  refine wp_iconst rfl ?_
  refine wp_istore (L2 := [vr 77, vi x1, vi x2, vi x3, vi 0]) rfl (Nat.le_of_ble_eq_true rfl) rfl ?_
  exact H
/-- Causes.has(III)Z, from 3 -/
theorem S140_77_3 {X : Nat × (Int → Int)} {h : HP} {Q : bQ} (x1 : Int) (x2 : Int) (x3 : Int) (x4 : Int) (H : (((h 77 2) ≤ x4 → Q (some (vi 0)) h) ∧ (x4 < (h 77 2) → ((0 ≤ x4 ∧ x4 < 12) ∧ (((h 78 x4) ≠ x1 → Wp X 0 140 3 [vr 77, vi x1, vi x2, vi x3, vi (x4 + 1)] [] h Q) ∧ ((h 78 x4) = x1 → (((h 79 x4) < x2 → Wp X 0 140 3 [vr 77, vi x1, vi x2, vi x3, vi (x4 + 1)] [] h Q) ∧ (x2 ≤ (h 79 x4) → ((x3 < (h 79 x4) → Wp X 0 140 3 [vr 77, vi x1, vi x2, vi x3, vi (x4 + 1)] [] h Q) ∧ ((h 79 x4) ≤ x3 → Q (some (vi 1)) h)))))))))) : Wp X 0 140 3 [vr 77, vi x1, vi x2, vi x3, vi x4] [] h Q := by
  refine wp_iload rfl rfl ?_
  refine wp_aload rfl rfl ?_
  refine wp_getI (j := 2) rfl (congrArg Prod.fst (kf_77 X.1)) rfl ?_
  refine wp_icge (tn := 53) rfl rfl (fun c1 => ?_) (fun c1 => ?_)
  · replace H := H.1 c1
    refine wp_iconst rfl ?_
    exact wp_zret rfl rfl (by decide) H
  · replace H := H.2 c1
    refine wp_aload rfl rfl ?_
    refine wp_getR (r := 77) rfl (congrArg Prod.fst (kf_77 X.1)) rfl ?_
    refine wp_iload rfl rfl ?_
    have g2 := H.1
    replace H := H.2
    refine wp_iaload rfl (kf_78 X.1) g2 ?_
    refine wp_iload rfl rfl ?_
    refine wp_icne (tn := 47) rfl rfl (fun c3 => ?_) (fun c3 => ?_)
    · replace H := H.1 c3
      refine wp_iincR (L2 := [vr 77, vi x1, vi x2, vi x3, vi (x4 + 1)]) rfl rfl (by clear H; unfold R32; omega) rfl ?_
      refine wp_goto (tn := 3) rfl rfl ?_
      exact H
    · replace H := H.2 c3
      refine wp_aload rfl rfl ?_
      refine wp_getR (r := 78) rfl (congrArg Prod.fst (kf_77 X.1)) rfl ?_
      refine wp_iload rfl rfl ?_
      refine wp_iaload rfl (kf_79 X.1) ⟨g2.1, g2.2⟩ ?_
      refine wp_iload rfl rfl ?_
      refine wp_iclt (tn := 47) rfl rfl (fun c4 => ?_) (fun c4 => ?_)
      · replace H := H.1 c4
        refine wp_iincR (L2 := [vr 77, vi x1, vi x2, vi x3, vi (x4 + 1)]) rfl rfl (by clear H; unfold R32; omega) rfl ?_
        refine wp_goto (tn := 3) rfl rfl ?_
        exact H
      · replace H := H.2 c4
        refine wp_aload rfl rfl ?_
        refine wp_getR (r := 78) rfl (congrArg Prod.fst (kf_77 X.1)) rfl ?_
        refine wp_iload rfl rfl ?_
        refine wp_iaload rfl (kf_79 X.1) ⟨g2.1, g2.2⟩ ?_
        refine wp_iload rfl rfl ?_
        refine wp_icgt (tn := 47) rfl rfl (fun c5 => ?_) (fun c5 => ?_)
        · replace H := H.1 c5
          refine wp_iincR (L2 := [vr 77, vi x1, vi x2, vi x3, vi (x4 + 1)]) rfl rfl (by clear H; unfold R32; omega) rfl ?_
          refine wp_goto (tn := 3) rfl rfl ?_
          exact H
        · replace H := H.2 c5
          refine wp_iconst rfl ?_
          exact wp_zret rfl rfl (by decide) H
/-- Groups.append()V, from 0 -/
theorem S152_8_0 {X : Nat × (Int → Int)} {h : HP} {Q : bQ}  (H : ((20 ≤ (h 8 8) → Q none h) ∧ ((h 8 8) < 20 → Wp X 0 156 0 [vr 8, vi (h 8 8), vu] [] h (fun v h' => Wp X 1 152 17 [vr 8] (psh v []) h' Q)))) : Wp X 1 152 0 [vr 8] [] h Q := by
  refine wp_aload rfl rfl ?_
  refine wp_getI (j := 8) rfl (congrArg Prod.fst (kf_8 X.1)) rfl ?_
  refine wp_iconst rfl ?_
  refine wp_icge (tn := 27) rfl rfl (fun c1 => ?_) (fun c1 => ?_)
  · replace H := H.1 c1
    exact wp_vret rfl rfl H
  · replace H := H.2 c1
    refine wp_aload rfl rfl ?_
    refine wp_aload rfl rfl ?_
    refine wp_getI (j := 8) rfl (congrArg Prod.fst (kf_8 X.1)) rfl ?_
    exact wp_call (k := 156) (ρ2 := 0) (L2 := [vr 8, vi (h 8 8), vu]) rfl rfl rfl (Nat.le_of_ble_eq_true rfl) (Nat.le_of_ble_eq_true rfl) (Nat.le_of_ble_eq_true rfl) (rcv_V rfl (congrArg Prod.fst (kf_8 X.1))) rfl H
/-- Groups.append()V, from 17 -/
theorem S152_8_17 {X : Nat × (Int → Int)} {h : HP} {Q : bQ}  (H : ((R32 ((h 8 8) + 1)) ∧ Q none (upd2 h 8 8 ((h 8 8) + 1)))) : Wp X 1 152 17 [vr 8] [] h Q := by
  refine wp_aload rfl rfl ?_
  refine wp_dupR rfl ?_
  refine wp_getI (j := 8) rfl (congrArg Prod.fst (kf_8 X.1)) rfl ?_
  refine wp_iconst rfl ?_
  refine wp_iadd rfl ?_
  have g1 := H.1
  replace H := H.2
  refine Wp.topI (y := ((h 8 8) + 1)) (w32_I g1) ?_
  refine wp_putI (j := 8) rfl (congrArg Prod.fst (kf_8 X.1)) rfl rfl rfl ?_
  exact wp_vret rfl rfl H
/-- Groups.lookBack(I)V, from 0 -/
theorem S154_8_0 {X : Nat × (Int → Int)} {h : HP} {Q : bQ} (x1 : Int) (H : Wp X 2 154 2 [vr 8, vi x1, vi 0] [] h Q) : Wp X 2 154 0 [vr 8, vi x1, vu] [] h Q := by
  refine wp_iconst rfl ?_
  refine wp_istore (L2 := [vr 8, vi x1, vi 0]) rfl (Nat.le_of_ble_eq_true rfl) rfl ?_
  exact H
/-- Groups.lookBack(I)V, from 2 -/
theorem S154_8_2 {X : Nat × (Int → Int)} {h : HP} {Q : bQ} (x1 : Int) (x2 : Int) (H : (((h 8 8) ≤ x2 → Wp X 2 154 23 [vr 8, vi x1, vi 0] [] h Q) ∧ (x2 < (h 8 8) → Wp X 0 156 0 [vr 8, vi x2, vu] [] h (fun v h' => Wp X 2 154 15 [vr 8, vi x1, vi x2] (psh v []) h' Q)))) : Wp X 2 154 2 [vr 8, vi x1, vi x2] [] h Q := by
  refine wp_iload rfl rfl ?_
  refine wp_aload rfl rfl ?_
  refine wp_getI (j := 8) rfl (congrArg Prod.fst (kf_8 X.1)) rfl ?_
  refine wp_icge (tn := 21) rfl rfl (fun c1 => ?_) (fun c1 => ?_)
  · replace H := H.1 c1
    refine wp_iconst rfl ?_
    refine wp_istore (L2 := [vr 8, vi x1, vi 0]) rfl (Nat.le_of_ble_eq_true rfl) rfl ?_
    exact H
  · replace H := H.2 c1
    refine wp_aload rfl rfl ?_
    refine wp_iload rfl rfl ?_
    exact wp_call (k := 156) (ρ2 := 0) (L2 := [vr 8, vi x2, vu]) rfl rfl rfl (Nat.le_of_ble_eq_true rfl) (Nat.le_of_ble_eq_true rfl) (Nat.le_of_ble_eq_true rfl) (rcv_V rfl (congrArg Prod.fst (kf_8 X.1))) rfl H
/-- Groups.lookBack(I)V, from 15 -/
theorem S154_8_15 {X : Nat × (Int → Int)} {h : HP} {Q : bQ} (x1 : Int) (x2 : Int) (H : ((R32 (x2 + 1)) ∧ Wp X 2 154 2 [vr 8, vi x1, vi (x2 + 1)] [] h Q)) : Wp X 2 154 15 [vr 8, vi x1, vi x2] [] h Q := by
  have g1 := H.1
  replace H := H.2
  refine wp_iincR (L2 := [vr 8, vi x1, vi (x2 + 1)]) rfl rfl g1 rfl ?_
  refine wp_goto (tn := 2) rfl rfl ?_
  exact H
/-- Groups.lookBack(I)V, from 23 -/
theorem S154_8_23 {X : Nat × (Int → Int)} {h : HP} {Q : bQ} (x1 : Int) (x2 : Int) (H : (((h 8 7) ≤ x2 → Wp X 2 154 76 [vr 8, vi x1, vi 0] [] (upd2 h 8 9 0) Q) ∧ (x2 < (h 8 7) → ((0 ≤ x2 ∧ x2 < 100) ∧ ((x1 < (h 12 x2) → Wp X 2 154 76 [vr 8, vi x1, vi 0] [] (upd2 h 8 9 0) Q) ∧ ((h 12 x2) ≤ x1 → (((h 9 x2) < 0 → Wp X 2 154 23 [vr 8, vi x1, vi (x2 + 1)] [] h Q) ∧ (0 ≤ (h 9 x2) → (((h 8 8) ≤ (h 9 x2) → Wp X 2 154 23 [vr 8, vi x1, vi (x2 + 1)] [] h Q) ∧ ((h 9 x2) < (h 8 8) → (((h 10 x2) < 0 → Wp X 2 154 23 [vr 8, vi x1, vi (x2 + 1)] [] h Q) ∧ (0 ≤ (h 10 x2) → ((5 ≤ (h 10 x2) → Wp X 2 154 23 [vr 8, vi x1, vi (x2 + 1)] [] h Q) ∧ ((h 10 x2) < 5 → ((0 ≤ (h 9 x2) ∧ (h 9 x2) < 20) ∧ Wp X 2 154 23 [vr 8, vi x1, vi (x2 + 1)] [] (upd2 h (14 + Int.toNat (h 9 x2)) (h 10 x2) (h 11 x2)) Q))))))))))))))) : Wp X 2 154 23 [vr 8, vi x1, vi x2] [] h Q := by
  refine wp_iload rfl rfl ?_
  refine wp_aload rfl rfl ?_
  refine wp_getI (j := 7) rfl (congrArg Prod.fst (kf_8 X.1)) rfl ?_
  refine wp_icge (tn := 69) rfl rfl (fun c1 => ?_) (fun c1 => ?_)
  · replace H := H.1 c1
    refine wp_aload rfl rfl ?_
    refine wp_iconst rfl ?_
    refine wp_putI (j := 9) rfl (congrArg Prod.fst (kf_8 X.1)) rfl rfl rfl ?_
    refine wp_iconst rfl ?_
    refine wp_istore (L2 := [vr 8, vi x1, vi 0]) rfl (Nat.le_of_ble_eq_true rfl) rfl ?_
    exact H
  · replace H := H.2 c1
    refine wp_aload rfl rfl ?_
    refine wp_getR (r := 11) rfl (congrArg Prod.fst (kf_8 X.1)) rfl ?_
    refine wp_iload rfl rfl ?_
    have g2 := H.1
    replace H := H.2
    refine wp_iaload rfl (kf_12 X.1) g2 ?_
    refine wp_iload rfl rfl ?_
    refine wp_icgt (tn := 69) rfl rfl (fun c3 => ?_) (fun c3 => ?_)
    · replace H := H.1 c3
      refine wp_aload rfl rfl ?_
      refine wp_iconst rfl ?_
      refine wp_putI (j := 9) rfl (congrArg Prod.fst (kf_8 X.1)) rfl rfl rfl ?_
      refine wp_iconst rfl ?_
      refine wp_istore (L2 := [vr 8, vi x1, vi 0]) rfl (Nat.le_of_ble_eq_true rfl) rfl ?_
      exact H
    · replace H := H.2 c3
      refine wp_aload rfl rfl ?_
      refine wp_aload rfl rfl ?_
      refine wp_getR (r := 8) rfl (congrArg Prod.fst (kf_8 X.1)) rfl ?_
      refine wp_iload rfl rfl ?_
      refine wp_iaload rfl (kf_9 X.1) ⟨g2.1, g2.2⟩ ?_
      refine wp_aload rfl rfl ?_
      refine wp_getR (r := 9) rfl (congrArg Prod.fst (kf_8 X.1)) rfl ?_
      refine wp_iload rfl rfl ?_
      refine wp_iaload rfl (kf_10 X.1) ⟨g2.1, g2.2⟩ ?_
      refine wp_aload rfl rfl ?_
      refine wp_getR (r := 10) rfl (congrArg Prod.fst (kf_8 X.1)) rfl ?_
      refine wp_iload rfl rfl ?_
      refine wp_iaload rfl (kf_11 X.1) ⟨g2.1, g2.2⟩ ?_
      refine wp_call (k := 155) (ρ2 := 1) (L2 := [vr 8, vi (h 9 x2), vi (h 10 x2), vi (h 11 x2)]) rfl rfl rfl (Nat.le_of_ble_eq_true rfl) (Nat.le_of_ble_eq_true rfl) (Nat.le_of_ble_eq_true rfl) (rcv_V rfl (congrArg Prod.fst (kf_8 X.1))) rfl ?_
      refine wp_aload rfl rfl ?_
      refine wp_iload rfl rfl ?_
      refine wp_call (k := 145) (ρ2 := 0) (L2 := [vr 8, vi (h 9 x2)]) rfl rfl rfl (Nat.le_of_ble_eq_true rfl) (Nat.le_of_ble_eq_true rfl) (Nat.le_of_ble_eq_true rfl) (rcv_V rfl (congrArg Prod.fst (kf_8 X.1))) rfl ?_
      refine wp_iload rfl rfl ?_
      refine wp_iflt (tn := 16) rfl rfl (fun c4 => ?_) (fun c4 => ?_)
      · replace H := H.1 c4
        refine wp_iconst rfl ?_
        refine wp_zret rfl rfl (by decide) ?_
        show Wp X _ 155 5 [vr 8, vi (h 9 x2), vi (h 10 x2), vi (h 11 x2)] [vi 0] _ _
        refine wp_ifeqT (tn := 26) rfl rfl (by decide) ?_
        refine wp_vret rfl rfl ?_
        show Wp X _ 154 63 [vr 8, vi x1, vi x2] [] _ _
        refine wp_iincR (L2 := [vr 8, vi x1, vi (x2 + 1)]) rfl rfl (by clear H; unfold R32; omega) rfl ?_
        refine wp_goto (tn := 23) rfl rfl ?_
        exact H
      · replace H := H.2 c4
        refine wp_iload rfl rfl ?_
        refine wp_aload rfl rfl ?_
        refine wp_getI (j := 8) rfl (congrArg Prod.fst (kf_8 X.1)) rfl ?_
        refine wp_icge (tn := 16) rfl rfl (fun c5 => ?_) (fun c5 => ?_)
        · replace H := H.1 c5
          refine wp_iconst rfl ?_
          refine wp_zret rfl rfl (by decide) ?_
          show Wp X _ 155 5 [vr 8, vi (h 9 x2), vi (h 10 x2), vi (h 11 x2)] [vi 0] _ _
          refine wp_ifeqT (tn := 26) rfl rfl (by decide) ?_
          refine wp_vret rfl rfl ?_
          show Wp X _ 154 63 [vr 8, vi x1, vi x2] [] _ _
          refine wp_iincR (L2 := [vr 8, vi x1, vi (x2 + 1)]) rfl rfl (by clear H; unfold R32; omega) rfl ?_
          refine wp_goto (tn := 23) rfl rfl ?_
          exact H
        · replace H := H.2 c5
          refine wp_iconst rfl ?_
          refine wp_goto (tn := 17) rfl rfl ?_
          refine wp_zret rfl rfl (by decide) ?_
          show Wp X _ 155 5 [vr 8, vi (h 9 x2), vi (h 10 x2), vi (h 11 x2)] [vi 1] _ _
          refine wp_ifeqF (tn := 26) rfl rfl (by decide) ?_
          refine wp_iload rfl rfl ?_
          refine wp_iflt (tn := 26) rfl rfl (fun c6 => ?_) (fun c6 => ?_)
          · replace H := H.1 c6
            refine wp_vret rfl rfl ?_
            show Wp X _ 154 63 [vr 8, vi x1, vi x2] [] _ _
            refine wp_iincR (L2 := [vr 8, vi x1, vi (x2 + 1)]) rfl rfl (by clear H; unfold R32; omega) rfl ?_
            refine wp_goto (tn := 23) rfl rfl ?_
            exact H
          · replace H := H.2 c6
            refine wp_iload rfl rfl ?_
            refine wp_iconst rfl ?_
            refine wp_icge (tn := 26) rfl rfl (fun c7 => ?_) (fun c7 => ?_)
            · replace H := H.1 c7
              refine wp_vret rfl rfl ?_
              show Wp X _ 154 63 [vr 8, vi x1, vi x2] [] _ _
              refine wp_iincR (L2 := [vr 8, vi x1, vi (x2 + 1)]) rfl rfl (by clear H; unfold R32; omega) rfl ?_
              refine wp_goto (tn := 23) rfl rfl ?_
              exact H
            · replace H := H.2 c7
              refine wp_aload rfl rfl ?_
              refine wp_getR (r := 12) rfl (congrArg Prod.fst (kf_8 X.1)) rfl ?_
              refine wp_iload rfl rfl ?_
              have g8 := H.1
              replace H := H.2
              refine wp_known rfl g8 ?_
              refine wp_iload rfl rfl ?_
              refine wp_iload rfl rfl ?_
              refine wp_iastore rfl (kf_kn (by clear H; omega)) ⟨c6, c7⟩ ?_
              refine wp_vret rfl rfl ?_
              show Wp X _ 154 63 [vr 8, vi x1, vi x2] [] _ _
              refine wp_iincR (L2 := [vr 8, vi x1, vi (x2 + 1)]) rfl rfl (by clear H; unfold R32; omega) rfl ?_
              refine wp_goto (tn := 23) rfl rfl ?_
              exact H
/-- Groups.lookBack(I)V, from 76 -/
theorem S154_8_76 {X : Nat × (Int → Int)} {h : HP} {Q : bQ} (zx1 : aV) (x2 : Int) (H : (((h 8 8) ≤ x2 → Q none h) ∧ (x2 < (h 8 8) → Wp X 1 157 0 [vr 8, vi x2, vu, vu, vu, vu, vu, vu] [] h (fun v h' => Wp X 2 154 89 [vr 8, zx1, vi x2] (psh v []) h' Q)))) : Wp X 2 154 76 [vr 8, zx1, vi x2] [] h Q := by
  refine wp_iload rfl rfl ?_
  refine wp_aload rfl rfl ?_
  refine wp_getI (j := 8) rfl (congrArg Prod.fst (kf_8 X.1)) rfl ?_
  refine wp_icge (tn := 95) rfl rfl (fun c1 => ?_) (fun c1 => ?_)
  · replace H := H.1 c1
    exact wp_vret rfl rfl H
  · replace H := H.2 c1
    refine wp_aload rfl rfl ?_
    refine wp_iload rfl rfl ?_
    exact wp_call (k := 157) (ρ2 := 1) (L2 := [vr 8, vi x2, vu, vu, vu, vu, vu, vu]) rfl rfl rfl (Nat.le_of_ble_eq_true rfl) (Nat.le_of_ble_eq_true rfl) (Nat.le_of_ble_eq_true rfl) (rcv_V rfl (congrArg Prod.fst (kf_8 X.1))) rfl H
/-- Groups.lookBack(I)V, from 89 -/
theorem S154_8_89 {X : Nat × (Int → Int)} {h : HP} {Q : bQ} (zx1 : aV) (x2 : Int) (H : ((R32 (x2 + 1)) ∧ Wp X 2 154 76 [vr 8, (clr1 zx1), vi (x2 + 1)] [] h Q)) : Wp X 2 154 89 [vr 8, zx1, vi x2] [] h Q := by
  have g1 := H.1
  replace H := H.2
  refine wp_iincR (L2 := [vr 8, (clr1 zx1), vi (x2 + 1)]) rfl rfl g1 rfl ?_
  refine wp_goto (tn := 76) rfl rfl ?_
  exact H
/-- Groups.forget(I)V, from 0 -/
theorem S156_8_0 {X : Nat × (Int → Int)} {h : HP} {Q : bQ} (x1 : Int) (H : ((x1 < 0 → Q none h) ∧ (0 ≤ x1 → ((x1 < 20 → Wp X 0 156 13 [vr 8, vi x1, vi 0] [] h Q) ∧ (20 ≤ x1 → Q none h))))) : Wp X 0 156 0 [vr 8, vi x1, vu] [] h Q := by
  refine wp_iload rfl rfl ?_
  refine wp_iflt (tn := 10) rfl rfl (fun c1 => ?_) (fun c1 => ?_)
  · replace H := H.1 c1
    exact wp_vret rfl rfl H
  · replace H := H.2 c1
    refine wp_iload rfl rfl ?_
    refine wp_iconst rfl ?_
    refine wp_iclt (tn := 11) rfl rfl (fun c2 => ?_) (fun c2 => ?_)
    · replace H := H.1 c2
      refine wp_iconst rfl ?_
      refine wp_istore (L2 := [vr 8, vi x1, vi 0]) rfl (Nat.le_of_ble_eq_true rfl) rfl ?_
      exact H
    · replace H := H.2 c2
      exact wp_vret rfl rfl H
/-- Groups.forget(I)V, from 13 -/
theorem S156_8_13 {X : Nat × (Int → Int)} {h : HP} {Q : bQ} (x1 : Int) (x2 : Int) (H : ((5 ≤ x2 → ((0 ≤ x1 ∧ x1 < 20) ∧ Q none (upd2 (upd2 h 34 x1 (-1)) 35 x1 0))) ∧ (x2 < 5 → ((0 ≤ x1 ∧ x1 < 20) ∧ ((0 ≤ x2 ∧ x2 < 5) ∧ Wp X 0 156 13 [vr 8, vi x1, vi (x2 + 1)] [] (upd2 h (14 + Int.toNat x1) x2 (-1)) Q))))) : Wp X 0 156 13 [vr 8, vi x1, vi x2] [] h Q := by
  refine wp_iload rfl rfl ?_
  refine wp_iconst rfl ?_
  refine wp_icge (tn := 33) rfl rfl (fun c1 => ?_) (fun c1 => ?_)
  · replace H := H.1 c1
    refine wp_aload rfl rfl ?_
    refine wp_getR (r := 33) rfl (congrArg Prod.fst (kf_8 X.1)) rfl ?_
    refine wp_iload rfl rfl ?_
    refine wp_iconst rfl ?_
    have g2 := H.1
    replace H := H.2
    refine wp_iastore rfl (kf_34 X.1) g2 ?_
    refine wp_aload rfl rfl ?_
    refine wp_getR (r := 34) rfl (congrArg Prod.fst (kf_8 X.1)) rfl ?_
    refine wp_iload rfl rfl ?_
    refine wp_iconst rfl ?_
    refine wp_iastore rfl (kf_35 X.1) ⟨g2.1, g2.2⟩ ?_
    exact wp_vret rfl rfl H
  · replace H := H.2 c1
    refine wp_aload rfl rfl ?_
    refine wp_getR (r := 12) rfl (congrArg Prod.fst (kf_8 X.1)) rfl ?_
    refine wp_iload rfl rfl ?_
    have g3 := H.1
    replace H := H.2
    refine wp_known rfl g3 ?_
    refine wp_iload rfl rfl ?_
    refine wp_iconst rfl ?_
    have g4 := H.1
    replace H := H.2
    refine wp_iastore rfl (kf_kn (by clear H; omega)) g4 ?_
    refine wp_iincR (L2 := [vr 8, vi x1, vi (x2 + 1)]) rfl rfl (by clear H; unfold R32; omega) rfl ?_
    refine wp_goto (tn := 13) rfl rfl ?_
    exact H
/-- Groups.measure(I)V, from 0 -/
theorem S157_8_0 {X : Nat × (Int → Int)} {h : HP} {Q : bQ} (x1 : Int) (H : ((x1 < 0 → Q none h) ∧ (0 ≤ x1 → (((h 8 8) ≤ x1 → Q none h) ∧ (x1 < (h 8 8) → Wp X 1 157 24 [vr 8, vi x1, vi 0, vi 0, vi 999, vi 0, vi 0, vu] [] h Q))))) : Wp X 1 157 0 [vr 8, vi x1, vu, vu, vu, vu, vu, vu] [] h Q := by
  refine wp_aload rfl rfl ?_
  refine wp_iload rfl rfl ?_
  refine wp_call (k := 145) (ρ2 := 0) (L2 := [vr 8, vi x1]) rfl rfl rfl (Nat.le_of_ble_eq_true rfl) (Nat.le_of_ble_eq_true rfl) (Nat.le_of_ble_eq_true rfl) (rcv_V rfl (congrArg Prod.fst (kf_8 X.1))) rfl ?_
  refine wp_iload rfl rfl ?_
  refine wp_iflt (tn := 16) rfl rfl (fun c1 => ?_) (fun c1 => ?_)
  · replace H := H.1 c1
    refine wp_iconst rfl ?_
    refine wp_zret rfl rfl (by decide) ?_
    show Wp X _ 157 5 [vr 8, vi x1, vu, vu, vu, vu, vu, vu] [vi 0] _ _
    refine wp_ifneF (tn := 9) rfl rfl (by decide) ?_
    exact wp_vret rfl rfl H
  · replace H := H.2 c1
    refine wp_iload rfl rfl ?_
    refine wp_aload rfl rfl ?_
    refine wp_getI (j := 8) rfl (congrArg Prod.fst (kf_8 X.1)) rfl ?_
    refine wp_icge (tn := 16) rfl rfl (fun c2 => ?_) (fun c2 => ?_)
    · replace H := H.1 c2
      refine wp_iconst rfl ?_
      refine wp_zret rfl rfl (by decide) ?_
      show Wp X _ 157 5 [vr 8, vi x1, vu, vu, vu, vu, vu, vu] [vi 0] _ _
      refine wp_ifneF (tn := 9) rfl rfl (by decide) ?_
      exact wp_vret rfl rfl H
    · replace H := H.2 c2
      refine wp_iconst rfl ?_
      refine wp_goto (tn := 17) rfl rfl ?_
      refine wp_zret rfl rfl (by decide) ?_
      show Wp X _ 157 5 [vr 8, vi x1, vu, vu, vu, vu, vu, vu] [vi 1] _ _
      refine wp_ifneT (tn := 9) rfl rfl (by decide) ?_
      refine wp_iconst rfl ?_
      refine wp_istore (L2 := [vr 8, vi x1, vi 0, vu, vu, vu, vu, vu]) rfl (Nat.le_of_ble_eq_true rfl) rfl ?_
      refine wp_iconst rfl ?_
      refine wp_istore (L2 := [vr 8, vi x1, vi 0, vi 0, vu, vu, vu, vu]) rfl (Nat.le_of_ble_eq_true rfl) rfl ?_
      refine wp_iconst rfl ?_
      refine wp_istore (L2 := [vr 8, vi x1, vi 0, vi 0, vi 999, vu, vu, vu]) rfl (Nat.le_of_ble_eq_true rfl) rfl ?_
      refine wp_iconst rfl ?_
      refine wp_istore (L2 := [vr 8, vi x1, vi 0, vi 0, vi 999, vi 0, vu, vu]) rfl (Nat.le_of_ble_eq_true rfl) rfl ?_
      refine wp_iconst rfl ?_
      refine wp_istore (L2 := [vr 8, vi x1, vi 0, vi 0, vi 999, vi 0, vi 0, vu]) rfl (Nat.le_of_ble_eq_true rfl) rfl ?_
      exact H
/-- Groups.measure(I)V, from 24 -/
theorem S157_8_24 {X : Nat × (Int → Int)} {h : HP} {Q : bQ} (x1 : Int) (x2 : Int) (x3 : Int) (x4 : Int) (x5 : Int) (x6 : Int) (zx7 : aV) (H : ((5 ≤ x6 → ((R32 ((h 8 9) + x2)) ∧ ((x2 ≤ 0 → Q none (upd2 h 8 9 ((h 8 9) + x2))) ∧ (0 < x2 → ((R32 (Int.tdiv 60 x2)) ∧ ((R32 (x3 * (Int.tdiv 60 x2))) ∧ ((0 ≤ x1 ∧ x1 < 20) ∧ ((R32 (x5 - x4)) ∧ Q none (upd2 (upd2 (upd2 h 8 9 ((h 8 9) + x2)) 34 x1 (x3 * (Int.tdiv 60 x2))) 35 x1 (x5 - x4)))))))))) ∧ (x6 < 5 → ((0 ≤ x1 ∧ x1 < 20) ∧ ((0 ≤ x6 ∧ x6 < 5) ∧ (((h (14 + Int.toNat x1) x6) = (-1) → Wp X 1 157 24 [vr 8, vi x1, vi x2, vi x3, vi x4, vi x5, vi (x6 + 1), vi (h (14 + Int.toNat x1) x6)] [] h Q) ∧ ((h (14 + Int.toNat x1) x6) ≠ (-1) → ((R32 (x2 + 1)) ∧ ((R32 (x3 + (h (14 + Int.toNat x1) x6))) ∧ (((h (14 + Int.toNat x1) x6) < x4 → ((x5 < (h (14 + Int.toNat x1) x6) → Wp X 1 157 24 [vr 8, vi x1, vi (x2 + 1), vi (x3 + (h (14 + Int.toNat x1) x6)), vi (h (14 + Int.toNat x1) x6), vi (h (14 + Int.toNat x1) x6), vi (x6 + 1), vi (h (14 + Int.toNat x1) x6)] [] h Q) ∧ ((h (14 + Int.toNat x1) x6) ≤ x5 → Wp X 1 157 24 [vr 8, vi x1, vi (x2 + 1), vi (x3 + (h (14 + Int.toNat x1) x6)), vi (h (14 + Int.toNat x1) x6), vi x5, vi (x6 + 1), vi (h (14 + Int.toNat x1) x6)] [] h Q))) ∧ (x4 ≤ (h (14 + Int.toNat x1) x6) → ((x5 < (h (14 + Int.toNat x1) x6) → Wp X 1 157 24 [vr 8, vi x1, vi (x2 + 1), vi (x3 + (h (14 + Int.toNat x1) x6)), vi x4, vi (h (14 + Int.toNat x1) x6), vi (x6 + 1), vi (h (14 + Int.toNat x1) x6)] [] h Q) ∧ ((h (14 + Int.toNat x1) x6) ≤ x5 → Wp X 1 157 24 [vr 8, vi x1, vi (x2 + 1), vi (x3 + (h (14 + Int.toNat x1) x6)), vi x4, vi x5, vi (x6 + 1), vi (h (14 + Int.toNat x1) x6)] [] h Q))))))))))))) : Wp X 1 157 24 [vr 8, vi x1, vi x2, vi x3, vi x4, vi x5, vi x6, zx7] [] h Q := by
  refine wp_iload rfl rfl ?_
  refine wp_iconst rfl ?_
  refine wp_icge (tn := 79) rfl rfl (fun c1 => ?_) (fun c1 => ?_)
  · replace H := H.1 c1
    refine wp_aload rfl rfl ?_
    refine wp_dupR rfl ?_
    refine wp_getI (j := 9) rfl (congrArg Prod.fst (kf_8 X.1)) rfl ?_
    refine wp_iload rfl rfl ?_
    refine wp_iadd rfl ?_
    have g2 := H.1
    replace H := H.2
    refine Wp.topI (y := ((h 8 9) + x2)) (w32_I g2) ?_
    refine wp_putI (j := 9) rfl (congrArg Prod.fst (kf_8 X.1)) rfl rfl rfl ?_
    refine wp_iload rfl rfl ?_
    refine wp_ifle (tn := 116) rfl rfl (fun c3 => ?_) (fun c3 => ?_)
    · replace H := H.1 c3
      exact wp_vret rfl rfl H
    · replace H := H.2 c3
      refine wp_aload rfl rfl ?_
      refine wp_getR (r := 33) rfl (congrArg Prod.fst (kf_8 X.1)) rfl ?_
      refine wp_iload rfl rfl ?_
      refine wp_iload rfl rfl ?_
      refine wp_iconst rfl ?_
      refine wp_iload rfl rfl ?_
      refine wp_idiv rfl (by clear H; omega) ?_
      have g4 := H.1
      replace H := H.2
      refine Wp.topI (y := (Int.tdiv 60 x2)) (w32_I g4) ?_
      refine wp_imul rfl ?_
      have g5 := H.1
      replace H := H.2
      refine Wp.topI (y := (x3 * (Int.tdiv 60 x2))) (w32_I g5) ?_
      have g6 := H.1
      replace H := H.2
      refine wp_iastore rfl (kf_34 X.1) g6 ?_
      refine wp_aload rfl rfl ?_
      refine wp_getR (r := 34) rfl (congrArg Prod.fst (kf_8 X.1)) rfl ?_
      refine wp_iload rfl rfl ?_
      refine wp_iload rfl rfl ?_
      refine wp_iload rfl rfl ?_
      refine wp_isub rfl ?_
      have g7 := H.1
      replace H := H.2
      refine Wp.topI (y := (x5 - x4)) (w32_I g7) ?_
      refine wp_iastore rfl (kf_35 X.1) ⟨g6.1, g6.2⟩ ?_
      exact wp_vret rfl rfl H
  · replace H := H.2 c1
    refine wp_aload rfl rfl ?_
    refine wp_getR (r := 12) rfl (congrArg Prod.fst (kf_8 X.1)) rfl ?_
    refine wp_iload rfl rfl ?_
    have g8 := H.1
    replace H := H.2
    refine wp_known rfl g8 ?_
    refine wp_iload rfl rfl ?_
    have g9 := H.1
    replace H := H.2
    refine wp_iaload rfl (kf_kn (by clear H; omega)) g9 ?_
    refine wp_istore (L2 := [vr 8, vi x1, vi x2, vi x3, vi x4, vi x5, vi x6, vi (h (14 + Int.toNat x1) x6)]) rfl (Nat.le_of_ble_eq_true rfl) rfl ?_
    refine wp_iload rfl rfl ?_
    refine wp_iconst rfl ?_
    refine wp_iceq (tn := 73) rfl rfl (fun c10 => ?_) (fun c10 => ?_)
    · replace H := H.1 c10
      refine wp_iincR (L2 := [vr 8, vi x1, vi x2, vi x3, vi x4, vi x5, vi (x6 + 1), vi (h (14 + Int.toNat x1) x6)]) rfl rfl (by clear H; unfold R32; omega) rfl ?_
      refine wp_goto (tn := 24) rfl rfl ?_
      exact H
    · replace H := H.2 c10
      have g11 := H.1
      replace H := H.2
      refine wp_iincR (L2 := [vr 8, vi x1, vi (x2 + 1), vi x3, vi x4, vi x5, vi x6, vi (h (14 + Int.toNat x1) x6)]) rfl rfl g11 rfl ?_
      refine wp_iload rfl rfl ?_
      refine wp_iload rfl rfl ?_
      refine wp_iadd rfl ?_
      have g12 := H.1
      replace H := H.2
      refine Wp.topI (y := (x3 + (h (14 + Int.toNat x1) x6))) (w32_I g12) ?_
      refine wp_istore (L2 := [vr 8, vi x1, vi (x2 + 1), vi (x3 + (h (14 + Int.toNat x1) x6)), vi x4, vi x5, vi x6, vi (h (14 + Int.toNat x1) x6)]) rfl (Nat.le_of_ble_eq_true rfl) rfl ?_
      refine wp_iload rfl rfl ?_
      refine wp_iload rfl rfl ?_
      refine wp_call (k := 253) (ρ2 := 0) (L2 := [vi x4, vi (h (14 + Int.toNat x1) x6)]) rfl rfl rfl (Nat.le_of_ble_eq_true rfl) (Nat.le_of_ble_eq_true rfl) (Nat.le_of_ble_eq_true rfl) (rcv_S rfl) rfl ?_
      refine wp_iload rfl rfl ?_
      refine wp_iload rfl rfl ?_
      refine wp_icgt (tn := 9) rfl rfl (fun c13 => ?_) (fun c13 => ?_)
      · replace H := H.1 c13
        refine wp_iload rfl rfl ?_
        refine wp_iret rfl rfl ?_
        show Wp X _ 157 62 [vr 8, vi x1, vi (x2 + 1), vi (x3 + (h (14 + Int.toNat x1) x6)), vi x4, vi x5, vi x6, vi (h (14 + Int.toNat x1) x6)] [vi (h (14 + Int.toNat x1) x6)] _ _
        refine wp_istore (L2 := [vr 8, vi x1, vi (x2 + 1), vi (x3 + (h (14 + Int.toNat x1) x6)), vi (h (14 + Int.toNat x1) x6), vi x5, vi x6, vi (h (14 + Int.toNat x1) x6)]) rfl (Nat.le_of_ble_eq_true rfl) rfl ?_
        refine wp_iload rfl rfl ?_
        refine wp_iload rfl rfl ?_
        refine wp_call (k := 252) (ρ2 := 0) (L2 := [vi x5, vi (h (14 + Int.toNat x1) x6)]) rfl rfl rfl (Nat.le_of_ble_eq_true rfl) (Nat.le_of_ble_eq_true rfl) (Nat.le_of_ble_eq_true rfl) (rcv_S rfl) rfl ?_
        refine wp_iload rfl rfl ?_
        refine wp_iload rfl rfl ?_
        refine wp_iclt (tn := 9) rfl rfl (fun c14 => ?_) (fun c14 => ?_)
        · replace H := H.1 c14
          refine wp_iload rfl rfl ?_
          refine wp_iret rfl rfl ?_
          show Wp X _ 157 71 [vr 8, vi x1, vi (x2 + 1), vi (x3 + (h (14 + Int.toNat x1) x6)), vi (h (14 + Int.toNat x1) x6), vi x5, vi x6, vi (h (14 + Int.toNat x1) x6)] [vi (h (14 + Int.toNat x1) x6)] _ _
          refine wp_istore (L2 := [vr 8, vi x1, vi (x2 + 1), vi (x3 + (h (14 + Int.toNat x1) x6)), vi (h (14 + Int.toNat x1) x6), vi (h (14 + Int.toNat x1) x6), vi x6, vi (h (14 + Int.toNat x1) x6)]) rfl (Nat.le_of_ble_eq_true rfl) rfl ?_
          refine wp_iincR (L2 := [vr 8, vi x1, vi (x2 + 1), vi (x3 + (h (14 + Int.toNat x1) x6)), vi (h (14 + Int.toNat x1) x6), vi (h (14 + Int.toNat x1) x6), vi (x6 + 1), vi (h (14 + Int.toNat x1) x6)]) rfl rfl (by clear H; unfold R32; omega) rfl ?_
          refine wp_goto (tn := 24) rfl rfl ?_
          exact H
        · replace H := H.2 c14
          refine wp_iload rfl rfl ?_
          refine wp_goto (tn := 10) rfl rfl ?_
          refine wp_iret rfl rfl ?_
          show Wp X _ 157 71 [vr 8, vi x1, vi (x2 + 1), vi (x3 + (h (14 + Int.toNat x1) x6)), vi (h (14 + Int.toNat x1) x6), vi x5, vi x6, vi (h (14 + Int.toNat x1) x6)] [vi x5] _ _
          refine wp_istore (L2 := [vr 8, vi x1, vi (x2 + 1), vi (x3 + (h (14 + Int.toNat x1) x6)), vi (h (14 + Int.toNat x1) x6), vi x5, vi x6, vi (h (14 + Int.toNat x1) x6)]) rfl (Nat.le_of_ble_eq_true rfl) rfl ?_
          refine wp_iincR (L2 := [vr 8, vi x1, vi (x2 + 1), vi (x3 + (h (14 + Int.toNat x1) x6)), vi (h (14 + Int.toNat x1) x6), vi x5, vi (x6 + 1), vi (h (14 + Int.toNat x1) x6)]) rfl rfl (by clear H; unfold R32; omega) rfl ?_
          refine wp_goto (tn := 24) rfl rfl ?_
          exact H
      · replace H := H.2 c13
        refine wp_iload rfl rfl ?_
        refine wp_goto (tn := 10) rfl rfl ?_
        refine wp_iret rfl rfl ?_
        show Wp X _ 157 62 [vr 8, vi x1, vi (x2 + 1), vi (x3 + (h (14 + Int.toNat x1) x6)), vi x4, vi x5, vi x6, vi (h (14 + Int.toNat x1) x6)] [vi x4] _ _
        refine wp_istore (L2 := [vr 8, vi x1, vi (x2 + 1), vi (x3 + (h (14 + Int.toNat x1) x6)), vi x4, vi x5, vi x6, vi (h (14 + Int.toNat x1) x6)]) rfl (Nat.le_of_ble_eq_true rfl) rfl ?_
        refine wp_iload rfl rfl ?_
        refine wp_iload rfl rfl ?_
        refine wp_call (k := 252) (ρ2 := 0) (L2 := [vi x5, vi (h (14 + Int.toNat x1) x6)]) rfl rfl rfl (Nat.le_of_ble_eq_true rfl) (Nat.le_of_ble_eq_true rfl) (Nat.le_of_ble_eq_true rfl) (rcv_S rfl) rfl ?_
        refine wp_iload rfl rfl ?_
        refine wp_iload rfl rfl ?_
        refine wp_iclt (tn := 9) rfl rfl (fun c15 => ?_) (fun c15 => ?_)
        · replace H := H.1 c15
          refine wp_iload rfl rfl ?_
          refine wp_iret rfl rfl ?_
          show Wp X _ 157 71 [vr 8, vi x1, vi (x2 + 1), vi (x3 + (h (14 + Int.toNat x1) x6)), vi x4, vi x5, vi x6, vi (h (14 + Int.toNat x1) x6)] [vi (h (14 + Int.toNat x1) x6)] _ _
          refine wp_istore (L2 := [vr 8, vi x1, vi (x2 + 1), vi (x3 + (h (14 + Int.toNat x1) x6)), vi x4, vi (h (14 + Int.toNat x1) x6), vi x6, vi (h (14 + Int.toNat x1) x6)]) rfl (Nat.le_of_ble_eq_true rfl) rfl ?_
          refine wp_iincR (L2 := [vr 8, vi x1, vi (x2 + 1), vi (x3 + (h (14 + Int.toNat x1) x6)), vi x4, vi (h (14 + Int.toNat x1) x6), vi (x6 + 1), vi (h (14 + Int.toNat x1) x6)]) rfl rfl (by clear H; unfold R32; omega) rfl ?_
          refine wp_goto (tn := 24) rfl rfl ?_
          exact H
        · replace H := H.2 c15
          refine wp_iload rfl rfl ?_
          refine wp_goto (tn := 10) rfl rfl ?_
          refine wp_iret rfl rfl ?_
          show Wp X _ 157 71 [vr 8, vi x1, vi (x2 + 1), vi (x3 + (h (14 + Int.toNat x1) x6)), vi x4, vi x5, vi x6, vi (h (14 + Int.toNat x1) x6)] [vi x5] _ _
          refine wp_istore (L2 := [vr 8, vi x1, vi (x2 + 1), vi (x3 + (h (14 + Int.toNat x1) x6)), vi x4, vi x5, vi x6, vi (h (14 + Int.toNat x1) x6)]) rfl (Nat.le_of_ble_eq_true rfl) rfl ?_
          refine wp_iincR (L2 := [vr 8, vi x1, vi (x2 + 1), vi (x3 + (h (14 + Int.toNat x1) x6)), vi x4, vi x5, vi (x6 + 1), vi (h (14 + Int.toNat x1) x6)]) rfl rfl (by clear H; unfold R32; omega) rfl ?_
          refine wp_goto (tn := 24) rfl rfl ?_
          exact H
/-- Lines.draw(L$Groups;III)V, from 0 -/
theorem S165_36_8_0 {X : Nat × (Int → Int)} {h : HP} {Q : bQ} (x2 : Int) (x3 : Int) (x4 : Int) (H : Wp X 4 165 14 [vr 36, vr 8, vi x2, vi x3, vi x4, vi 0, vu] [] (upd2 (upd2 h 36 3 x4) 36 4 0) Q) : Wp X 4 165 0 [vr 36, vr 8, vi x2, vi x3, vi x4, vu, vu] [] h Q := by
  refine wp_aload rfl rfl ?_
  refine wp_iload rfl rfl ?_
  refine wp_putI (j := 3) rfl (congrArg Prod.fst (kf_36 X.1)) rfl rfl rfl ?_
  refine wp_aload rfl rfl ?_
  refine wp_iconst rfl ?_
  refine wp_putI (j := 4) rfl (congrArg Prod.fst (kf_36 X.1)) rfl rfl rfl ?_
  refine wp_iconst rfl ?_
  refine wp_istore (L2 := [vr 36, vr 8, vi x2, vi x3, vi x4, vi 0, vu]) rfl (Nat.le_of_ble_eq_true rfl) rfl ?_
  exact H
/-- Lines.draw(L$Groups;III)V, from 14 -/
theorem S165_36_8_14 {X : Nat × (Int → Int)} {h : HP} {Q : bQ} (x2 : Int) (x3 : Int) (zx4 : aV) (x5 : Int) (zx6 : aV) (H : ((20 < x5 → Q none h) ∧ (x5 ≤ 20 → Wp X 3 166 0 [vr 36, vr 8, vi x2, vi x3, vu] [] h (fun v h' => Wp X 4 165 28 [vr 36, vr 8, vi x2, vi x3, zx4, vi x5, zx6] (psh v []) h' Q)))) : Wp X 4 165 14 [vr 36, vr 8, vi x2, vi x3, zx4, vi x5, zx6] [] h Q := by
  refine wp_iload rfl rfl ?_
  refine wp_iconst rfl ?_
  refine wp_icgt (tn := 74) rfl rfl (fun c1 => ?_) (fun c1 => ?_)
  · replace H := H.1 c1
    exact wp_vret rfl rfl H
  · replace H := H.2 c1
    refine wp_aload rfl rfl ?_
    refine wp_aload rfl rfl ?_
    refine wp_iload rfl rfl ?_
    refine wp_iload rfl rfl ?_
    exact wp_call (k := 166) (ρ2 := 3) (L2 := [vr 36, vr 8, vi x2, vi x3, vu]) rfl rfl rfl (Nat.le_of_ble_eq_true rfl) (Nat.le_of_ble_eq_true rfl) (Nat.le_of_ble_eq_true rfl) (rcv_V rfl (congrArg Prod.fst (kf_36 X.1))) rfl H
/-- Lines.draw(L$Groups;III)V, from 28 -/
theorem S165_36_8_28 {X : Nat × (Int → Int)} {h : HP} {Q : bQ} (x2 : Int) (x3 : Int) (zx4 : aV) (x5 : Int) (zx6 : aV) (H : Wp X 3 167 0 [vr 36, vr 8, vi x2, vi x3, vu, vu] [] h (fun v h' => Wp X 4 165 35 [vr 36, vr 8, vi x2, vi x3, zx4, vi x5, zx6] (psh v []) h' Q)) : Wp X 4 165 28 [vr 36, vr 8, vi x2, vi x3, zx4, vi x5, zx6] [] h Q := by
  refine wp_aload rfl rfl ?_
  refine wp_aload rfl rfl ?_
  refine wp_iload rfl rfl ?_
  refine wp_iload rfl rfl ?_
  exact wp_call (k := 167) (ρ2 := 3) (L2 := [vr 36, vr 8, vi x2, vi x3, vu, vu]) rfl rfl rfl (Nat.le_of_ble_eq_true rfl) (Nat.le_of_ble_eq_true rfl) (Nat.le_of_ble_eq_true rfl) (rcv_V rfl (congrArg Prod.fst (kf_36 X.1))) rfl H
/-- Lines.draw(L$Groups;III)V, from 35 -/
theorem S165_36_8_35 {X : Nat × (Int → Int)} {h : HP} {Q : bQ} (x2 : Int) (x3 : Int) (zx4 : aV) (x5 : Int) (zx6 : aV) (s0 : Int) (H : ((s0 = 0 → Q none h) ∧ (s0 ≠ 0 → Wp X 0 248 0 [vi s0] [] h (fun v h' => Wp X 4 165 51 [vr 36, vr 8, vi x2, vi x3, zx4, vi x5, vi s0] (psh v [vi (h 36 0)]) h' Q)))) : Wp X 4 165 35 [vr 36, vr 8, vi x2, vi x3, zx4, vi x5, zx6] [vi s0] h Q := by
  refine wp_istore (L2 := [vr 36, vr 8, vi x2, vi x3, zx4, vi x5, vi s0]) rfl (Nat.le_of_ble_eq_true rfl) rfl ?_
  refine wp_iload rfl rfl ?_
  refine wp_ifeq (tn := 56) rfl rfl (fun c1 => ?_) (fun c1 => ?_)
  · replace H := H.1 c1
    exact wp_vret rfl rfl H
  · replace H := H.2 c1
    refine wp_aload rfl rfl ?_
    refine wp_getI (j := 0) rfl (congrArg Prod.fst (kf_36 X.1)) rfl ?_
    refine wp_iload rfl rfl ?_
    exact wp_call (k := 248) (ρ2 := 0) (L2 := [vi s0]) rfl rfl rfl (Nat.le_of_ble_eq_true rfl) (Nat.le_of_ble_eq_true rfl) (Nat.le_of_ble_eq_true rfl) (rcv_S rfl) rfl H
/-- Lines.draw(L$Groups;III)V, from 51 -/
theorem S165_36_8_51 {X : Nat × (Int → Int)} {h : HP} {Q : bQ} (x2 : Int) (x3 : Int) (zx4 : aV) (x5 : Int) (x6 : Int) (s0 : Int) (s1 : Int) (H : ((R32 (s1 - s0)) ∧ ((2 ≤ (s1 - s0) → ((R32 (x5 + 1)) ∧ Wp X 4 165 14 [vr 36, vr 8, vi x2, vi x3, (clr1 zx4), vi (x5 + 1), vi x6] [] (upd2 h 36 4 ((i32 (h 36 4) ||| i32 x6).toInt)) Q)) ∧ ((s1 - s0) < 2 → Q none h)))) : Wp X 4 165 51 [vr 36, vr 8, vi x2, vi x3, zx4, vi x5, vi x6] [vi s0, vi s1] h Q := by
  refine wp_isub rfl ?_
  have g1 := H.1
  replace H := H.2
  refine Wp.topI (y := (s1 - s0)) (w32_I g1) ?_
  refine wp_iconst rfl ?_
  refine wp_icge (tn := 57) rfl rfl (fun c2 => ?_) (fun c2 => ?_)
  · replace H := H.1 c2
    refine wp_aload rfl rfl ?_
    refine wp_dupR rfl ?_
    refine wp_getI (j := 4) rfl (congrArg Prod.fst (kf_36 X.1)) rfl ?_
    refine wp_iload rfl rfl ?_
    refine wp_ior rfl ?_
    refine wp_putI (j := 4) rfl (congrArg Prod.fst (kf_36 X.1)) rfl rfl rfl ?_
    have g3 := H.1
    replace H := H.2
    refine wp_iincR (L2 := [vr 36, vr 8, vi x2, vi x3, (clr1 zx4), vi (x5 + 1), vi x6]) rfl rfl g3 rfl ?_
    refine wp_goto (tn := 14) rfl rfl ?_
    exact H
  · replace H := H.2 c2
    exact wp_vret rfl rfl H
/-- Lines.gather(L$Groups;II)V, from 0 -/
theorem S166_36_8_0 {X : Nat × (Int → Int)} {h : HP} {Q : bQ} (x2 : Int) (x3 : Int) (H : Wp X 3 166 18 [vr 36, vr 8, vi x2, vi x3, vi x2] [] (upd2 (upd2 (upd2 h 36 0 0) 36 1 0) 36 2 0) Q) : Wp X 3 166 0 [vr 36, vr 8, vi x2, vi x3, vu] [] h Q := by
  refine wp_aload rfl rfl ?_
  refine wp_iconst rfl ?_
  refine wp_putI (j := 0) rfl (congrArg Prod.fst (kf_36 X.1)) rfl rfl rfl ?_
  refine wp_aload rfl rfl ?_
  refine wp_iconst rfl ?_
  refine wp_putI (j := 1) rfl (congrArg Prod.fst (kf_36 X.1)) rfl rfl rfl ?_
  refine wp_aload rfl rfl ?_
  refine wp_iconst rfl ?_
  refine wp_putI (j := 2) rfl (congrArg Prod.fst (kf_36 X.1)) rfl rfl rfl ?_
  refine wp_iload rfl rfl ?_
  refine wp_istore (L2 := [vr 36, vr 8, vi x2, vi x3, vi x2]) rfl (Nat.le_of_ble_eq_true rfl) rfl ?_
  exact H
/-- Lines.gather(L$Groups;II)V, from 18 -/
theorem S166_36_8_18 {X : Nat × (Int → Int)} {h : HP} {Q : bQ} (zx2 : aV) (x3 : Int) (x4 : Int) (H : ((x3 < x4 → Q none h) ∧ (x4 ≤ x3 → ((20 ≤ x4 → Q none h) ∧ (x4 < 20 → ((x4 < 0 → ((R32 (x4 + 1)) ∧ Wp X 3 166 18 [vr 36, vr 8, zx2, vi x3, vi (x4 + 1)] [] h Q)) ∧ (0 ≤ x4 → (((h 8 8) ≤ x4 → Wp X 3 166 18 [vr 36, vr 8, zx2, vi x3, vi (x4 + 1)] [] h Q) ∧ (x4 < (h 8 8) → (((h 34 x4) ≠ (-1) → ((((i32 ((i32 (h 36 4) >>> (i32 x4 &&& 31)).toInt) &&& i32 1).toInt) ≠ 0 → Wp X 3 166 18 [vr 36, vr 8, zx2, vi x3, vi (x4 + 1)] [] h Q) ∧ (((i32 ((i32 (h 36 4) >>> (i32 x4 &&& 31)).toInt) &&& i32 1).toInt) = 0 → ((R32 ((h 36 0) + 1)) ∧ ((R32 ((h 36 1) + (h 34 x4))) ∧ ((R32 ((h 36 2) + (h 35 x4))) ∧ Wp X 3 166 18 [vr 36, vr 8, zx2, vi x3, vi (x4 + 1)] [] (upd2 (upd2 (upd2 h 36 0 ((h 36 0) + 1)) 36 1 ((h 36 1) + (h 34 x4))) 36 2 ((h 36 2) + (h 35 x4))) Q)))))) ∧ ((h 34 x4) = (-1) → Wp X 3 166 18 [vr 36, vr 8, zx2, vi x3, vi (x4 + 1)] [] h Q))))))))))) : Wp X 3 166 18 [vr 36, vr 8, zx2, vi x3, vi x4] [] h Q := by
  refine wp_iload rfl rfl ?_
  refine wp_iload rfl rfl ?_
  refine wp_icgt (tn := 87) rfl rfl (fun c1 => ?_) (fun c1 => ?_)
  · replace H := H.1 c1
    exact wp_vret rfl rfl H
  · replace H := H.2 c1
    refine wp_iload rfl rfl ?_
    refine wp_iconst rfl ?_
    refine wp_icge (tn := 87) rfl rfl (fun c2 => ?_) (fun c2 => ?_)
    · replace H := H.1 c2
      exact wp_vret rfl rfl H
    · replace H := H.2 c2
      refine wp_aload rfl rfl ?_
      refine wp_aload rfl rfl ?_
      refine wp_iload rfl rfl ?_
      refine wp_call (k := 168) (ρ2 := 2) (L2 := [vr 36, vr 8, vi x4]) rfl rfl rfl (Nat.le_of_ble_eq_true rfl) (Nat.le_of_ble_eq_true rfl) (Nat.le_of_ble_eq_true rfl) (rcv_V rfl (congrArg Prod.fst (kf_36 X.1))) rfl ?_
      refine wp_aload rfl rfl ?_
      refine wp_iload rfl rfl ?_
      refine wp_call (k := 149) (ρ2 := 1) (L2 := [vr 8, vi x4]) rfl rfl rfl (Nat.le_of_ble_eq_true rfl) (Nat.le_of_ble_eq_true rfl) (Nat.le_of_ble_eq_true rfl) (rcv_V rfl (congrArg Prod.fst (kf_8 X.1))) rfl ?_
      refine wp_aload rfl rfl ?_
      refine wp_iload rfl rfl ?_
      refine wp_call (k := 145) (ρ2 := 0) (L2 := [vr 8, vi x4]) rfl rfl rfl (Nat.le_of_ble_eq_true rfl) (Nat.le_of_ble_eq_true rfl) (Nat.le_of_ble_eq_true rfl) (rcv_V rfl (congrArg Prod.fst (kf_8 X.1))) rfl ?_
      refine wp_iload rfl rfl ?_
      refine wp_iflt (tn := 16) rfl rfl (fun c3 => ?_) (fun c3 => ?_)
      · replace H := H.1 c3
        refine wp_iconst rfl ?_
        refine wp_zret rfl rfl (by decide) ?_
        show Wp X _ 149 5 [vr 8, vi x4] [vi 0] _ _
        refine wp_ifeqT (tn := 18) rfl rfl (by decide) ?_
        refine wp_iconst rfl ?_
        refine wp_goto (tn := 23) rfl rfl ?_
        refine wp_zret rfl rfl (by decide) ?_
        show Wp X _ 168 5 [vr 36, vr 8, vi x4] [vi 1] _ _
        refine wp_ifneT (tn := 23) rfl rfl (by decide) ?_
        refine wp_iconst rfl ?_
        refine wp_zret rfl rfl (by decide) ?_
        show Wp X _ 166 38 [vr 36, vr 8, zx2, vi x3, vi x4] [vi 0] _ _
        refine wp_ifeqT (tn := 81) rfl rfl (by decide) ?_
        have g4 := H.1
        replace H := H.2
        refine wp_iincR (L2 := [vr 36, vr 8, zx2, vi x3, vi (x4 + 1)]) rfl rfl g4 rfl ?_
        refine wp_goto (tn := 18) rfl rfl ?_
        exact H
      · replace H := H.2 c3
        refine wp_iload rfl rfl ?_
        refine wp_aload rfl rfl ?_
        refine wp_getI (j := 8) rfl (congrArg Prod.fst (kf_8 X.1)) rfl ?_
        refine wp_icge (tn := 16) rfl rfl (fun c5 => ?_) (fun c5 => ?_)
        · replace H := H.1 c5
          refine wp_iconst rfl ?_
          refine wp_zret rfl rfl (by decide) ?_
          show Wp X _ 149 5 [vr 8, vi x4] [vi 0] _ _
          refine wp_ifeqT (tn := 18) rfl rfl (by decide) ?_
          refine wp_iconst rfl ?_
          refine wp_goto (tn := 23) rfl rfl ?_
          refine wp_zret rfl rfl (by decide) ?_
          show Wp X _ 168 5 [vr 36, vr 8, vi x4] [vi 1] _ _
          refine wp_ifneT (tn := 23) rfl rfl (by decide) ?_
          refine wp_iconst rfl ?_
          refine wp_zret rfl rfl (by decide) ?_
          show Wp X _ 166 38 [vr 36, vr 8, zx2, vi x3, vi x4] [vi 0] _ _
          refine wp_ifeqT (tn := 81) rfl rfl (by decide) ?_
          refine wp_iincR (L2 := [vr 36, vr 8, zx2, vi x3, vi (x4 + 1)]) rfl rfl (by clear H; unfold R32; omega) rfl ?_
          refine wp_goto (tn := 18) rfl rfl ?_
          exact H
        · replace H := H.2 c5
          refine wp_iconst rfl ?_
          refine wp_goto (tn := 17) rfl rfl ?_
          refine wp_zret rfl rfl (by decide) ?_
          show Wp X _ 149 5 [vr 8, vi x4] [vi 1] _ _
          refine wp_ifeqF (tn := 18) rfl rfl (by decide) ?_
          refine wp_aload rfl rfl ?_
          refine wp_getR (r := 33) rfl (congrArg Prod.fst (kf_8 X.1)) rfl ?_
          refine wp_iload rfl rfl ?_
          refine wp_iaload rfl (kf_34 X.1) ⟨c3, c2⟩ ?_
          refine wp_iconst rfl ?_
          refine wp_icne (tn := 22) rfl rfl (fun c6 => ?_) (fun c6 => ?_)
          · replace H := H.1 c6
            refine wp_iconst rfl ?_
            refine wp_zret rfl rfl (by decide) ?_
            show Wp X _ 168 5 [vr 36, vr 8, vi x4] [vi 0] _ _
            refine wp_ifneF (tn := 23) rfl rfl (by decide) ?_
            refine wp_aload rfl rfl ?_
            refine wp_getI (j := 4) rfl (congrArg Prod.fst (kf_36 X.1)) rfl ?_
            refine wp_iload rfl rfl ?_
            refine wp_ishr rfl ?_
            refine wp_iconst rfl ?_
            refine wp_iand rfl ?_
            refine wp_ifne (tn := 23) rfl rfl (fun c7 => ?_) (fun c7 => ?_)
            · replace H := H.1 c7
              refine wp_iconst rfl ?_
              refine wp_zret rfl rfl (by decide) ?_
              show Wp X _ 166 38 [vr 36, vr 8, zx2, vi x3, vi x4] [vi 0] _ _
              refine wp_ifeqT (tn := 81) rfl rfl (by decide) ?_
              refine wp_iincR (L2 := [vr 36, vr 8, zx2, vi x3, vi (x4 + 1)]) rfl rfl (by clear H; unfold R32; omega) rfl ?_
              refine wp_goto (tn := 18) rfl rfl ?_
              exact H
            · replace H := H.2 c7
              refine wp_iconst rfl ?_
              refine wp_goto (tn := 24) rfl rfl ?_
              refine wp_zret rfl rfl (by decide) ?_
              show Wp X _ 166 38 [vr 36, vr 8, zx2, vi x3, vi x4] [vi 1] _ _
              refine wp_ifeqF (tn := 81) rfl rfl (by decide) ?_
              refine wp_aload rfl rfl ?_
              refine wp_dupR rfl ?_
              refine wp_getI (j := 0) rfl (congrArg Prod.fst (kf_36 X.1)) rfl ?_
              refine wp_iconst rfl ?_
              refine wp_iadd rfl ?_
              have g8 := H.1
              replace H := H.2
              refine Wp.topI (y := ((h 36 0) + 1)) (w32_I g8) ?_
              refine wp_putI (j := 0) rfl (congrArg Prod.fst (kf_36 X.1)) rfl rfl rfl ?_
              refine wp_aload rfl rfl ?_
              refine wp_dupR rfl ?_
              refine wp_getI (j := 1) rfl (congrArg Prod.fst (kf_36 X.1)) rfl ?_
              refine Wp.topI (y := (h 36 1)) (upd2_o (by decide)) ?_
              refine wp_aload rfl rfl ?_
              refine wp_iload rfl rfl ?_
              refine wp_call (k := 150) (ρ2 := 1) (L2 := [vr 8, vi x4]) rfl rfl rfl (Nat.le_of_ble_eq_true rfl) (Nat.le_of_ble_eq_true rfl) (Nat.le_of_ble_eq_true rfl) (rcv_V rfl (congrArg Prod.fst (kf_8 X.1))) rfl ?_
              refine wp_aload rfl rfl ?_
              refine wp_iload rfl rfl ?_
              refine wp_call (k := 145) (ρ2 := 0) (L2 := [vr 8, vi x4]) rfl rfl rfl (Nat.le_of_ble_eq_true rfl) (Nat.le_of_ble_eq_true rfl) (Nat.le_of_ble_eq_true rfl) (rcv_V rfl (congrArg Prod.fst (kf_8 X.1))) rfl ?_
              refine wp_iload rfl rfl ?_
              refine wp_ifltF (tn := 16) rfl rfl c3 ?_
              refine wp_iload rfl rfl ?_
              refine wp_aload rfl rfl ?_
              refine wp_getI (j := 8) rfl (congrArg Prod.fst (kf_8 X.1)) rfl ?_
              refine Wp.topI (y := (h 8 8)) (congrFun (upd2_ne (by decide)) _) ?_
              refine wp_icgeF (tn := 16) rfl rfl c5 ?_
              refine wp_iconst rfl ?_
              refine wp_goto (tn := 17) rfl rfl ?_
              refine wp_zret rfl rfl (by decide) ?_
              show Wp X _ 150 5 [vr 8, vi x4] [vi 1] _ _
              refine wp_ifeqF (tn := 17) rfl rfl (by decide) ?_
              refine wp_aload rfl rfl ?_
              refine wp_getR (r := 33) rfl (congrArg Prod.fst (kf_8 X.1)) rfl ?_
              refine wp_iload rfl rfl ?_
              refine wp_iaload rfl (kf_34 X.1) ⟨c3, c2⟩ ?_
              refine Wp.topI (y := (h 34 x4)) (congrFun (upd2_ne (by decide)) _) ?_
              refine wp_goto (tn := 18) rfl rfl ?_
              refine wp_iret rfl rfl ?_
              show Wp X _ 166 62 [vr 36, vr 8, zx2, vi x3, vi x4] [vi (h 34 x4), vi (h 36 1), vr 36] _ _
              refine wp_iadd rfl ?_
              have g9 := H.1
              replace H := H.2
              refine Wp.topI (y := ((h 36 1) + (h 34 x4))) (w32_I g9) ?_
              refine wp_putI (j := 1) rfl (congrArg Prod.fst (kf_36 X.1)) rfl rfl rfl ?_
              refine wp_aload rfl rfl ?_
              refine wp_dupR rfl ?_
              refine wp_getI (j := 2) rfl (congrArg Prod.fst (kf_36 X.1)) rfl ?_
              refine Wp.topI (y := (h 36 2)) ((upd2_o (by decide)).trans (upd2_o (by decide))) ?_
              refine wp_aload rfl rfl ?_
              refine wp_iload rfl rfl ?_
              refine wp_call (k := 151) (ρ2 := 1) (L2 := [vr 8, vi x4]) rfl rfl rfl (Nat.le_of_ble_eq_true rfl) (Nat.le_of_ble_eq_true rfl) (Nat.le_of_ble_eq_true rfl) (rcv_V rfl (congrArg Prod.fst (kf_8 X.1))) rfl ?_
              refine wp_aload rfl rfl ?_
              refine wp_iload rfl rfl ?_
              refine wp_call (k := 145) (ρ2 := 0) (L2 := [vr 8, vi x4]) rfl rfl rfl (Nat.le_of_ble_eq_true rfl) (Nat.le_of_ble_eq_true rfl) (Nat.le_of_ble_eq_true rfl) (rcv_V rfl (congrArg Prod.fst (kf_8 X.1))) rfl ?_
              refine wp_iload rfl rfl ?_
              refine wp_ifltF (tn := 16) rfl rfl c3 ?_
              refine wp_iload rfl rfl ?_
              refine wp_aload rfl rfl ?_
              refine wp_getI (j := 8) rfl (congrArg Prod.fst (kf_8 X.1)) rfl ?_
              refine Wp.topI (y := (h 8 8)) (congrFun ((upd2_ne (by decide)).trans (upd2_ne (by decide))) _) ?_
              refine wp_icgeF (tn := 16) rfl rfl c5 ?_
              refine wp_iconst rfl ?_
              refine wp_goto (tn := 17) rfl rfl ?_
              refine wp_zret rfl rfl (by decide) ?_
              show Wp X _ 151 5 [vr 8, vi x4] [vi 1] _ _
              refine wp_ifeqF (tn := 17) rfl rfl (by decide) ?_
              refine wp_aload rfl rfl ?_
              refine wp_getR (r := 34) rfl (congrArg Prod.fst (kf_8 X.1)) rfl ?_
              refine wp_iload rfl rfl ?_
              refine wp_iaload rfl (kf_35 X.1) ⟨c3, c2⟩ ?_
              refine Wp.topI (y := (h 35 x4)) (congrFun ((upd2_ne (by decide)).trans (upd2_ne (by decide))) _) ?_
              refine wp_goto (tn := 18) rfl rfl ?_
              refine wp_iret rfl rfl ?_
              show Wp X _ 166 77 [vr 36, vr 8, zx2, vi x3, vi x4] [vi (h 35 x4), vi (h 36 2), vr 36] _ _
              refine wp_iadd rfl ?_
              have g10 := H.1
              replace H := H.2
              refine Wp.topI (y := ((h 36 2) + (h 35 x4))) (w32_I g10) ?_
              refine wp_putI (j := 2) rfl (congrArg Prod.fst (kf_36 X.1)) rfl rfl rfl ?_
              refine wp_iincR (L2 := [vr 36, vr 8, zx2, vi x3, vi (x4 + 1)]) rfl rfl (by clear H; unfold R32; omega) rfl ?_
              refine wp_goto (tn := 18) rfl rfl ?_
              exact H
          · replace H := H.2 c6
            refine wp_iconst rfl ?_
            refine wp_goto (tn := 23) rfl rfl ?_
            refine wp_zret rfl rfl (by decide) ?_
            show Wp X _ 168 5 [vr 36, vr 8, vi x4] [vi 1] _ _
            refine wp_ifneT (tn := 23) rfl rfl (by decide) ?_
            refine wp_iconst rfl ?_
            refine wp_zret rfl rfl (by decide) ?_
            show Wp X _ 166 38 [vr 36, vr 8, zx2, vi x3, vi x4] [vi 0] _ _
            refine wp_ifeqT (tn := 81) rfl rfl (by decide) ?_
            refine wp_iincR (L2 := [vr 36, vr 8, zx2, vi x3, vi (x4 + 1)]) rfl rfl (by clear H; unfold R32; omega) rfl ?_
            refine wp_goto (tn := 18) rfl rfl ?_
            exact H
/-- Lines.farOnes(L$Groups;II)I, from 0 -/
theorem S167_36_8_0 {X : Nat × (Int → Int)} {h : HP} {Q : bQ} (x2 : Int) (x3 : Int) (H : Wp X 3 167 6 [vr 36, vr 8, vi x2, vi x3, vi 0, vi x2] [] h Q) : Wp X 3 167 0 [vr 36, vr 8, vi x2, vi x3, vu, vu] [] h Q := by
  refine wp_iconst rfl ?_
  refine wp_istore (L2 := [vr 36, vr 8, vi x2, vi x3, vi 0, vu]) rfl (Nat.le_of_ble_eq_true rfl) rfl ?_
  refine wp_iload rfl rfl ?_
  refine wp_istore (L2 := [vr 36, vr 8, vi x2, vi x3, vi 0, vi x2]) rfl (Nat.le_of_ble_eq_true rfl) rfl ?_
  exact H
/-- Lines.farOnes(L$Groups;II)I, from 6 -/
theorem S167_36_8_6 {X : Nat × (Int → Int)} {h : HP} {Q : bQ} (zx2 : aV) (x3 : Int) (x4 : Int) (x5 : Int) (H : ((x3 < x5 → Q (some (vi x4)) h) ∧ (x5 ≤ x3 → ((20 ≤ x5 → Q (some (vi x4)) h) ∧ (x5 < 20 → ((x5 < 0 → ((R32 (x5 + 1)) ∧ Wp X 3 167 6 [vr 36, vr 8, zx2, vi x3, vi x4, vi (x5 + 1)] [] h Q)) ∧ (0 ≤ x5 → (((h 8 8) ≤ x5 → Wp X 3 167 6 [vr 36, vr 8, zx2, vi x3, vi x4, vi (x5 + 1)] [] h Q) ∧ (x5 < (h 8 8) → (((h 34 x5) ≠ (-1) → ((((i32 ((i32 (h 36 4) >>> (i32 x5 &&& 31)).toInt) &&& i32 1).toInt) ≠ 0 → Wp X 3 167 6 [vr 36, vr 8, zx2, vi x3, vi x4, vi (x5 + 1)] [] h Q) ∧ (((i32 ((i32 (h 36 4) >>> (i32 x5 &&& 31)).toInt) &&& i32 1).toInt) = 0 → Wp X 1 171 0 [vr 36, vi (h 34 x5), vu, vu] [] h (fun v h' => Wp X 3 167 39 [vr 36, vr 8, zx2, vi x3, vi x4, vi x5] (psh v []) h' Q)))) ∧ ((h 34 x5) = (-1) → Wp X 3 167 6 [vr 36, vr 8, zx2, vi x3, vi x4, vi (x5 + 1)] [] h Q))))))))))) : Wp X 3 167 6 [vr 36, vr 8, zx2, vi x3, vi x4, vi x5] [] h Q := by
  refine wp_iload rfl rfl ?_
  refine wp_iload rfl rfl ?_
  refine wp_icgt (tn := 58) rfl rfl (fun c1 => ?_) (fun c1 => ?_)
  · replace H := H.1 c1
    refine wp_iload rfl rfl ?_
    exact wp_iret rfl rfl H
  · replace H := H.2 c1
    refine wp_iload rfl rfl ?_
    refine wp_iconst rfl ?_
    refine wp_icge (tn := 58) rfl rfl (fun c2 => ?_) (fun c2 => ?_)
    · replace H := H.1 c2
      refine wp_iload rfl rfl ?_
      exact wp_iret rfl rfl H
    · replace H := H.2 c2
      refine wp_aload rfl rfl ?_
      refine wp_aload rfl rfl ?_
      refine wp_iload rfl rfl ?_
      refine wp_call (k := 168) (ρ2 := 2) (L2 := [vr 36, vr 8, vi x5]) rfl rfl rfl (Nat.le_of_ble_eq_true rfl) (Nat.le_of_ble_eq_true rfl) (Nat.le_of_ble_eq_true rfl) (rcv_V rfl (congrArg Prod.fst (kf_36 X.1))) rfl ?_
      refine wp_aload rfl rfl ?_
      refine wp_iload rfl rfl ?_
      refine wp_call (k := 149) (ρ2 := 1) (L2 := [vr 8, vi x5]) rfl rfl rfl (Nat.le_of_ble_eq_true rfl) (Nat.le_of_ble_eq_true rfl) (Nat.le_of_ble_eq_true rfl) (rcv_V rfl (congrArg Prod.fst (kf_8 X.1))) rfl ?_
      refine wp_aload rfl rfl ?_
      refine wp_iload rfl rfl ?_
      refine wp_call (k := 145) (ρ2 := 0) (L2 := [vr 8, vi x5]) rfl rfl rfl (Nat.le_of_ble_eq_true rfl) (Nat.le_of_ble_eq_true rfl) (Nat.le_of_ble_eq_true rfl) (rcv_V rfl (congrArg Prod.fst (kf_8 X.1))) rfl ?_
      refine wp_iload rfl rfl ?_
      refine wp_iflt (tn := 16) rfl rfl (fun c3 => ?_) (fun c3 => ?_)
      · replace H := H.1 c3
        refine wp_iconst rfl ?_
        refine wp_zret rfl rfl (by decide) ?_
        show Wp X _ 149 5 [vr 8, vi x5] [vi 0] _ _
        refine wp_ifeqT (tn := 18) rfl rfl (by decide) ?_
        refine wp_iconst rfl ?_
        refine wp_goto (tn := 23) rfl rfl ?_
        refine wp_zret rfl rfl (by decide) ?_
        show Wp X _ 168 5 [vr 36, vr 8, vi x5] [vi 1] _ _
        refine wp_ifneT (tn := 23) rfl rfl (by decide) ?_
        refine wp_iconst rfl ?_
        refine wp_zret rfl rfl (by decide) ?_
        show Wp X _ 167 26 [vr 36, vr 8, zx2, vi x3, vi x4, vi x5] [vi 0] _ _
        refine wp_ifeqT (tn := 52) rfl rfl (by decide) ?_
        have g4 := H.1
        replace H := H.2
        refine wp_iincR (L2 := [vr 36, vr 8, zx2, vi x3, vi x4, vi (x5 + 1)]) rfl rfl g4 rfl ?_
        refine wp_goto (tn := 6) rfl rfl ?_
        exact H
      · replace H := H.2 c3
        refine wp_iload rfl rfl ?_
        refine wp_aload rfl rfl ?_
        refine wp_getI (j := 8) rfl (congrArg Prod.fst (kf_8 X.1)) rfl ?_
        refine wp_icge (tn := 16) rfl rfl (fun c5 => ?_) (fun c5 => ?_)
        · replace H := H.1 c5
          refine wp_iconst rfl ?_
          refine wp_zret rfl rfl (by decide) ?_
          show Wp X _ 149 5 [vr 8, vi x5] [vi 0] _ _
          refine wp_ifeqT (tn := 18) rfl rfl (by decide) ?_
          refine wp_iconst rfl ?_
          refine wp_goto (tn := 23) rfl rfl ?_
          refine wp_zret rfl rfl (by decide) ?_
          show Wp X _ 168 5 [vr 36, vr 8, vi x5] [vi 1] _ _
          refine wp_ifneT (tn := 23) rfl rfl (by decide) ?_
          refine wp_iconst rfl ?_
          refine wp_zret rfl rfl (by decide) ?_
          show Wp X _ 167 26 [vr 36, vr 8, zx2, vi x3, vi x4, vi x5] [vi 0] _ _
          refine wp_ifeqT (tn := 52) rfl rfl (by decide) ?_
          refine wp_iincR (L2 := [vr 36, vr 8, zx2, vi x3, vi x4, vi (x5 + 1)]) rfl rfl (by clear H; unfold R32; omega) rfl ?_
          refine wp_goto (tn := 6) rfl rfl ?_
          exact H
        · replace H := H.2 c5
          refine wp_iconst rfl ?_
          refine wp_goto (tn := 17) rfl rfl ?_
          refine wp_zret rfl rfl (by decide) ?_
          show Wp X _ 149 5 [vr 8, vi x5] [vi 1] _ _
          refine wp_ifeqF (tn := 18) rfl rfl (by decide) ?_
          refine wp_aload rfl rfl ?_
          refine wp_getR (r := 33) rfl (congrArg Prod.fst (kf_8 X.1)) rfl ?_
          refine wp_iload rfl rfl ?_
          refine wp_iaload rfl (kf_34 X.1) ⟨c3, c2⟩ ?_
          refine wp_iconst rfl ?_
          refine wp_icne (tn := 22) rfl rfl (fun c6 => ?_) (fun c6 => ?_)
          · replace H := H.1 c6
            refine wp_iconst rfl ?_
            refine wp_zret rfl rfl (by decide) ?_
            show Wp X _ 168 5 [vr 36, vr 8, vi x5] [vi 0] _ _
            refine wp_ifneF (tn := 23) rfl rfl (by decide) ?_
            refine wp_aload rfl rfl ?_
            refine wp_getI (j := 4) rfl (congrArg Prod.fst (kf_36 X.1)) rfl ?_
            refine wp_iload rfl rfl ?_
            refine wp_ishr rfl ?_
            refine wp_iconst rfl ?_
            refine wp_iand rfl ?_
            refine wp_ifne (tn := 23) rfl rfl (fun c7 => ?_) (fun c7 => ?_)
            · replace H := H.1 c7
              refine wp_iconst rfl ?_
              refine wp_zret rfl rfl (by decide) ?_
              show Wp X _ 167 26 [vr 36, vr 8, zx2, vi x3, vi x4, vi x5] [vi 0] _ _
              refine wp_ifeqT (tn := 52) rfl rfl (by decide) ?_
              refine wp_iincR (L2 := [vr 36, vr 8, zx2, vi x3, vi x4, vi (x5 + 1)]) rfl rfl (by clear H; unfold R32; omega) rfl ?_
              refine wp_goto (tn := 6) rfl rfl ?_
              exact H
            · replace H := H.2 c7
              refine wp_iconst rfl ?_
              refine wp_goto (tn := 24) rfl rfl ?_
              refine wp_zret rfl rfl (by decide) ?_
              show Wp X _ 167 26 [vr 36, vr 8, zx2, vi x3, vi x4, vi x5] [vi 1] _ _
              refine wp_ifeqF (tn := 52) rfl rfl (by decide) ?_
              refine wp_aload rfl rfl ?_
              refine wp_aload rfl rfl ?_
              refine wp_iload rfl rfl ?_
              refine wp_call (k := 150) (ρ2 := 1) (L2 := [vr 8, vi x5]) rfl rfl rfl (Nat.le_of_ble_eq_true rfl) (Nat.le_of_ble_eq_true rfl) (Nat.le_of_ble_eq_true rfl) (rcv_V rfl (congrArg Prod.fst (kf_8 X.1))) rfl ?_
              refine wp_aload rfl rfl ?_
              refine wp_iload rfl rfl ?_
              refine wp_call (k := 145) (ρ2 := 0) (L2 := [vr 8, vi x5]) rfl rfl rfl (Nat.le_of_ble_eq_true rfl) (Nat.le_of_ble_eq_true rfl) (Nat.le_of_ble_eq_true rfl) (rcv_V rfl (congrArg Prod.fst (kf_8 X.1))) rfl ?_
              refine wp_iload rfl rfl ?_
              refine wp_ifltF (tn := 16) rfl rfl c3 ?_
              refine wp_iload rfl rfl ?_
              refine wp_aload rfl rfl ?_
              refine wp_getI (j := 8) rfl (congrArg Prod.fst (kf_8 X.1)) rfl ?_
              refine wp_icgeF (tn := 16) rfl rfl c5 ?_
              refine wp_iconst rfl ?_
              refine wp_goto (tn := 17) rfl rfl ?_
              refine wp_zret rfl rfl (by decide) ?_
              show Wp X _ 150 5 [vr 8, vi x5] [vi 1] _ _
              refine wp_ifeqF (tn := 17) rfl rfl (by decide) ?_
              refine wp_aload rfl rfl ?_
              refine wp_getR (r := 33) rfl (congrArg Prod.fst (kf_8 X.1)) rfl ?_
              refine wp_iload rfl rfl ?_
              refine wp_iaload rfl (kf_34 X.1) ⟨c3, c2⟩ ?_
              refine wp_goto (tn := 18) rfl rfl ?_
              refine wp_iret rfl rfl ?_
              show Wp X _ 167 36 [vr 36, vr 8, zx2, vi x3, vi x4, vi x5] [vi (h 34 x5), vr 36] _ _
              exact wp_call (k := 171) (ρ2 := 1) (L2 := [vr 36, vi (h 34 x5), vu, vu]) rfl rfl rfl (Nat.le_of_ble_eq_true rfl) (Nat.le_of_ble_eq_true rfl) (Nat.le_of_ble_eq_true rfl) (rcv_V rfl (congrArg Prod.fst (kf_36 X.1))) rfl H
          · replace H := H.2 c6
            refine wp_iconst rfl ?_
            refine wp_goto (tn := 23) rfl rfl ?_
            refine wp_zret rfl rfl (by decide) ?_
            show Wp X _ 168 5 [vr 36, vr 8, vi x5] [vi 1] _ _
            refine wp_ifneT (tn := 23) rfl rfl (by decide) ?_
            refine wp_iconst rfl ?_
            refine wp_zret rfl rfl (by decide) ?_
            show Wp X _ 167 26 [vr 36, vr 8, zx2, vi x3, vi x4, vi x5] [vi 0] _ _
            refine wp_ifeqT (tn := 52) rfl rfl (by decide) ?_
            refine wp_iincR (L2 := [vr 36, vr 8, zx2, vi x3, vi x4, vi (x5 + 1)]) rfl rfl (by clear H; unfold R32; omega) rfl ?_
            refine wp_goto (tn := 6) rfl rfl ?_
            exact H
/-- Lines.farOnes(L$Groups;II)I, from 39 -/
theorem S167_36_8_39 {X : Nat × (Int → Int)} {h : HP} {Q : bQ} (zx2 : aV) (x3 : Int) (x4 : Int) (x5 : Int) (s0 : Int) (H : ((s0 ≠ 3 → ((R32 (x5 + 1)) ∧ Wp X 3 167 6 [vr 36, vr 8, zx2, vi x3, vi x4, vi (x5 + 1)] [] h Q)) ∧ (s0 = 3 → ((R32 (x5 + 1)) ∧ Wp X 3 167 6 [vr 36, vr 8, zx2, vi x3, vi ((i32 x4 ||| i32 ((i32 1 <<< (i32 x5 &&& 31)).toInt)).toInt), vi (x5 + 1)] [] h Q)))) : Wp X 3 167 39 [vr 36, vr 8, zx2, vi x3, vi x4, vi x5] [vi s0] h Q := by
  refine wp_iconst rfl ?_
  refine wp_icne (tn := 52) rfl rfl (fun c1 => ?_) (fun c1 => ?_)
  · replace H := H.1 c1
    have g2 := H.1
    replace H := H.2
    refine wp_iincR (L2 := [vr 36, vr 8, zx2, vi x3, vi x4, vi (x5 + 1)]) rfl rfl g2 rfl ?_
    refine wp_goto (tn := 6) rfl rfl ?_
    exact H
  · replace H := H.2 c1
    refine wp_iload rfl rfl ?_
    refine wp_iconst rfl ?_
    refine wp_iload rfl rfl ?_
    refine wp_ishl rfl ?_
    refine wp_ior rfl ?_
    refine wp_istore (L2 := [vr 36, vr 8, zx2, vi x3, vi ((i32 x4 ||| i32 ((i32 1 <<< (i32 x5 &&& 31)).toInt)).toInt), vi x5]) rfl (Nat.le_of_ble_eq_true rfl) rfl ?_
    have g3 := H.1
    replace H := H.2
    refine wp_iincR (L2 := [vr 36, vr 8, zx2, vi x3, vi ((i32 x4 ||| i32 ((i32 1 <<< (i32 x5 &&& 31)).toInt)).toInt), vi (x5 + 1)]) rfl rfl g3 rfl ?_
    refine wp_goto (tn := 6) rfl rfl ?_
    exact H
/-- Lines.linesBeyond(I)I, from 0 -/
theorem S171_36_0 {X : Nat × (Int → Int)} {h : HP} {Q : bQ} (x1 : Int) (H : ((R32 (x1 * (h 36 0))) ∧ ((R32 ((x1 * (h 36 0)) - (h 36 1))) ∧ ((0 ≤ ((x1 * (h 36 0)) - (h 36 1)) → ((R32 (((x1 * (h 36 0)) - (h 36 1)) * 5)) ∧ Wp X 1 171 13 [vr 36, vi x1, vi (((x1 * (h 36 0)) - (h 36 1)) * 5), vi 0] [] h Q)) ∧ (((x1 * (h 36 0)) - (h 36 1)) < 0 → ((R32 (-((x1 * (h 36 0)) - (h 36 1)))) ∧ ((R32 ((-((x1 * (h 36 0)) - (h 36 1))) * 5)) ∧ Wp X 1 171 13 [vr 36, vi x1, vi ((-((x1 * (h 36 0)) - (h 36 1))) * 5), vi 0] [] h Q))))))) : Wp X 1 171 0 [vr 36, vi x1, vu, vu] [] h Q := by
  refine wp_aload rfl rfl ?_
  refine wp_iload rfl rfl ?_
  refine wp_call (k := 169) (ρ2 := 0) (L2 := [vr 36, vi x1]) rfl rfl rfl (Nat.le_of_ble_eq_true rfl) (Nat.le_of_ble_eq_true rfl) (Nat.le_of_ble_eq_true rfl) (rcv_V rfl (congrArg Prod.fst (kf_36 X.1))) rfl ?_
  refine wp_iload rfl rfl ?_
  refine wp_aload rfl rfl ?_
  refine wp_getI (j := 0) rfl (congrArg Prod.fst (kf_36 X.1)) rfl ?_
  refine wp_imul rfl ?_
  have g1 := H.1
  replace H := H.2
  refine Wp.topI (y := (x1 * (h 36 0))) (w32_I g1) ?_
  refine wp_aload rfl rfl ?_
  refine wp_getI (j := 1) rfl (congrArg Prod.fst (kf_36 X.1)) rfl ?_
  refine wp_isub rfl ?_
  have g2 := H.1
  replace H := H.2
  refine Wp.topI (y := ((x1 * (h 36 0)) - (h 36 1))) (w32_I g2) ?_
  refine wp_iret rfl rfl ?_
  show Wp X _ 171 5 [vr 36, vi x1, vu, vu] [vi ((x1 * (h 36 0)) - (h 36 1))] _ _
  refine wp_call (k := 250) (ρ2 := 0) (L2 := [vi ((x1 * (h 36 0)) - (h 36 1))]) rfl rfl rfl (Nat.le_of_ble_eq_true rfl) (Nat.le_of_ble_eq_true rfl) (Nat.le_of_ble_eq_true rfl) (rcv_S rfl) rfl ?_
  refine wp_iload rfl rfl ?_
  refine wp_ifge (tn := 9) rfl rfl (fun c3 => ?_) (fun c3 => ?_)
  · replace H := H.1 c3
    refine wp_iload rfl rfl ?_
    refine wp_iret rfl rfl ?_
    show Wp X _ 171 8 [vr 36, vi x1, vu, vu] [vi ((x1 * (h 36 0)) - (h 36 1))] _ _
    refine wp_iconst rfl ?_
    refine wp_imul rfl ?_
    have g4 := H.1
    replace H := H.2
    refine Wp.topI (y := (((x1 * (h 36 0)) - (h 36 1)) * 5)) (w32_I g4) ?_
    refine wp_istore (L2 := [vr 36, vi x1, vi (((x1 * (h 36 0)) - (h 36 1)) * 5), vu]) rfl (Nat.le_of_ble_eq_true rfl) rfl ?_
    refine wp_iconst rfl ?_
    refine wp_istore (L2 := [vr 36, vi x1, vi (((x1 * (h 36 0)) - (h 36 1)) * 5), vi 0]) rfl (Nat.le_of_ble_eq_true rfl) rfl ?_
    exact H
  · replace H := H.2 c3
    refine wp_iload rfl rfl ?_
    refine wp_ineg rfl ?_
    have g5 := H.1
    replace H := H.2
    refine Wp.topI (y := (-((x1 * (h 36 0)) - (h 36 1)))) (w32_I g5) ?_
    refine wp_goto (tn := 10) rfl rfl ?_
    refine wp_iret rfl rfl ?_
    show Wp X _ 171 8 [vr 36, vi x1, vu, vu] [vi (-((x1 * (h 36 0)) - (h 36 1)))] _ _
    refine wp_iconst rfl ?_
    refine wp_imul rfl ?_
    have g6 := H.1
    replace H := H.2
    refine Wp.topI (y := ((-((x1 * (h 36 0)) - (h 36 1))) * 5)) (w32_I g6) ?_
    refine wp_istore (L2 := [vr 36, vi x1, vi ((-((x1 * (h 36 0)) - (h 36 1))) * 5), vu]) rfl (Nat.le_of_ble_eq_true rfl) rfl ?_
    refine wp_iconst rfl ?_
    refine wp_istore (L2 := [vr 36, vi x1, vi ((-((x1 * (h 36 0)) - (h 36 1))) * 5), vi 0]) rfl (Nat.le_of_ble_eq_true rfl) rfl ?_
    exact H
/-- Lines.linesBeyond(I)I, from 13 -/
theorem S171_36_13 {X : Nat × (Int → Int)} {h : HP} {Q : bQ} (zx1 : aV) (x2 : Int) (x3 : Int) (H : ((3 ≤ x3 → Q (some (vi x3)) h) ∧ (x3 < 3 → ((R32 (x3 + 1)) ∧ ((R32 ((h 36 2) * (h 36 3))) ∧ ((R32 ((x3 + 1) * ((h 36 2) * (h 36 3)))) ∧ ((x2 ≤ ((x3 + 1) * ((h 36 2) * (h 36 3))) → Q (some (vi x3)) h) ∧ (((x3 + 1) * ((h 36 2) * (h 36 3))) < x2 → Wp X 1 171 13 [vr 36, zx1, vi x2, vi (x3 + 1)] [] h Q)))))))) : Wp X 1 171 13 [vr 36, zx1, vi x2, vi x3] [] h Q := by
  refine wp_iload rfl rfl ?_
  refine wp_iconst rfl ?_
  refine wp_icge (tn := 36) rfl rfl (fun c1 => ?_) (fun c1 => ?_)
  · replace H := H.1 c1
    refine wp_iload rfl rfl ?_
    exact wp_iret rfl rfl H
  · replace H := H.2 c1
    refine wp_iload rfl rfl ?_
    refine wp_iload rfl rfl ?_
    refine wp_iconst rfl ?_
    refine wp_iadd rfl ?_
    have g2 := H.1
    replace H := H.2
    refine Wp.topI (y := (x3 + 1)) (w32_I g2) ?_
    refine wp_aload rfl rfl ?_
    refine wp_call (k := 163) (ρ2 := 0) (L2 := [vr 36]) rfl rfl rfl (Nat.le_of_ble_eq_true rfl) (Nat.le_of_ble_eq_true rfl) (Nat.le_of_ble_eq_true rfl) (rcv_V rfl (congrArg Prod.fst (kf_36 X.1))) rfl ?_
    refine wp_aload rfl rfl ?_
    refine wp_getI (j := 2) rfl (congrArg Prod.fst (kf_36 X.1)) rfl ?_
    refine wp_aload rfl rfl ?_
    refine wp_getI (j := 3) rfl (congrArg Prod.fst (kf_36 X.1)) rfl ?_
    refine wp_imul rfl ?_
    have g3 := H.1
    replace H := H.2
    refine Wp.topI (y := ((h 36 2) * (h 36 3))) (w32_I g3) ?_
    refine wp_iret rfl rfl ?_
    show Wp X _ 171 26 [vr 36, zx1, vi x2, vi x3] [vi ((h 36 2) * (h 36 3)), vi (x3 + 1), vi x2] _ _
    refine wp_imul rfl ?_
    have g4 := H.1
    replace H := H.2
    refine Wp.topI (y := ((x3 + 1) * ((h 36 2) * (h 36 3)))) (w32_I g4) ?_
    refine wp_icle (tn := 36) rfl rfl (fun c5 => ?_) (fun c5 => ?_)
    · replace H := H.1 c5
      refine wp_iload rfl rfl ?_
      exact wp_iret rfl rfl H
    · replace H := H.2 c5
      refine wp_iincR (L2 := [vr 36, zx1, vi x2, vi (x3 + 1)]) rfl rfl g2 rfl ?_
      refine wp_goto (tn := 13) rfl rfl ?_
      exact H
/-- Lines.standingOf(I)I, from 0 -/
theorem S172_36_0 {X : Nat × (Int → Int)} {h : HP} {Q : bQ} (x1 : Int) (H : (((h 36 0) ≤ 0 → Q (some (vi 8)) h) ∧ (0 < (h 36 0) → ((R32 (x1 * (h 36 0))) ∧ ((R32 ((x1 * (h 36 0)) - (h 36 1))) ∧ ((0 ≤ ((x1 * (h 36 0)) - (h 36 1)) → ((((x1 * (h 36 0)) - (h 36 1)) ≠ 0 → Wp X 1 171 0 [vr 36, vi x1, vu, vu] [] h (fun v h' => Wp X 2 172 29 [vr 36, vi x1, vi 1, vu] (psh v []) h' Q)) ∧ (((x1 * (h 36 0)) - (h 36 1)) = 0 → Q (some (vi 8)) h))) ∧ (((x1 * (h 36 0)) - (h 36 1)) < 0 → Wp X 1 171 0 [vr 36, vi x1, vu, vu] [] h (fun v h' => Wp X 2 172 29 [vr 36, vi x1, vi (-1), vu] (psh v []) h' Q)))))))) : Wp X 2 172 0 [vr 36, vi x1, vu, vu] [] h Q := by
  refine wp_aload rfl rfl ?_
  refine wp_call (k := 159) (ρ2 := 0) (L2 := [vr 36]) rfl rfl rfl (Nat.le_of_ble_eq_true rfl) (Nat.le_of_ble_eq_true rfl) (Nat.le_of_ble_eq_true rfl) (rcv_V rfl (congrArg Prod.fst (kf_36 X.1))) rfl ?_
  refine wp_aload rfl rfl ?_
  refine wp_getI (j := 0) rfl (congrArg Prod.fst (kf_36 X.1)) rfl ?_
  refine wp_ifle (tn := 11) rfl rfl (fun c1 => ?_) (fun c1 => ?_)
  · replace H := H.1 c1
    refine wp_iconst rfl ?_
    refine wp_zret rfl rfl (by decide) ?_
    show Wp X _ 172 4 [vr 36, vi x1, vu, vu] [vi 0] _ _
    refine wp_ifeqT (tn := 15) rfl rfl (by decide) ?_
    refine wp_iconst rfl ?_
    refine wp_istore (L2 := [vr 36, vi x1, vi 0, vu]) rfl (Nat.le_of_ble_eq_true rfl) rfl ?_
    refine wp_iload rfl rfl ?_
    refine wp_ifneF (tn := 24) rfl rfl (by decide) ?_
    refine wp_iconst rfl ?_
    exact wp_iret rfl rfl H
  · replace H := H.2 c1
    refine wp_iconst rfl ?_
    refine wp_goto (tn := 12) rfl rfl ?_
    refine wp_zret rfl rfl (by decide) ?_
    show Wp X _ 172 4 [vr 36, vi x1, vu, vu] [vi 1] _ _
    refine wp_ifeqF (tn := 15) rfl rfl (by decide) ?_
    refine wp_aload rfl rfl ?_
    refine wp_iload rfl rfl ?_
    refine wp_call (k := 170) (ρ2 := 1) (L2 := [vr 36, vi x1]) rfl rfl rfl (Nat.le_of_ble_eq_true rfl) (Nat.le_of_ble_eq_true rfl) (Nat.le_of_ble_eq_true rfl) (rcv_V rfl (congrArg Prod.fst (kf_36 X.1))) rfl ?_
    refine wp_aload rfl rfl ?_
    refine wp_iload rfl rfl ?_
    refine wp_call (k := 169) (ρ2 := 0) (L2 := [vr 36, vi x1]) rfl rfl rfl (Nat.le_of_ble_eq_true rfl) (Nat.le_of_ble_eq_true rfl) (Nat.le_of_ble_eq_true rfl) (rcv_V rfl (congrArg Prod.fst (kf_36 X.1))) rfl ?_
    refine wp_iload rfl rfl ?_
    refine wp_aload rfl rfl ?_
    refine wp_getI (j := 0) rfl (congrArg Prod.fst (kf_36 X.1)) rfl ?_
    refine wp_imul rfl ?_
    have g2 := H.1
    replace H := H.2
    refine Wp.topI (y := (x1 * (h 36 0))) (w32_I g2) ?_
    refine wp_aload rfl rfl ?_
    refine wp_getI (j := 1) rfl (congrArg Prod.fst (kf_36 X.1)) rfl ?_
    refine wp_isub rfl ?_
    have g3 := H.1
    replace H := H.2
    refine Wp.topI (y := ((x1 * (h 36 0)) - (h 36 1))) (w32_I g3) ?_
    refine wp_iret rfl rfl ?_
    show Wp X _ 170 5 [vr 36, vi x1] [vi ((x1 * (h 36 0)) - (h 36 1))] _ _
    refine wp_iconst rfl ?_
    refine wp_call (k := 249) (ρ2 := 0) (L2 := [vi ((x1 * (h 36 0)) - (h 36 1)), vi 0]) rfl rfl rfl (Nat.le_of_ble_eq_true rfl) (Nat.le_of_ble_eq_true rfl) (Nat.le_of_ble_eq_true rfl) (rcv_S rfl) rfl ?_
    refine wp_iload rfl rfl ?_
    refine wp_iload rfl rfl ?_
    refine wp_icge (tn := 9) rfl rfl (fun c4 => ?_) (fun c4 => ?_)
    · replace H := H.1 c4
      refine wp_iload rfl rfl ?_
      refine wp_iload rfl rfl ?_
      refine wp_icne (tn := 18) rfl rfl (fun c5 => ?_) (fun c5 => ?_)
      · replace H := H.1 c5
        refine wp_iconst rfl ?_
        refine wp_iret rfl rfl ?_
        show Wp X _ 170 9 [vr 36, vi x1] [vi 1] _ _
        refine wp_iret rfl rfl ?_
        show Wp X _ 172 12 [vr 36, vi x1, vu, vu] [vi 1] _ _
        refine wp_goto (tn := 16) rfl rfl ?_
        refine wp_istore (L2 := [vr 36, vi x1, vi 1, vu]) rfl (Nat.le_of_ble_eq_true rfl) rfl ?_
        refine wp_iload rfl rfl ?_
        refine wp_ifneT (tn := 24) rfl rfl (by decide) ?_
        refine wp_aload rfl rfl ?_
        refine wp_iload rfl rfl ?_
        exact wp_call (k := 171) (ρ2 := 1) (L2 := [vr 36, vi x1, vu, vu]) rfl rfl rfl (Nat.le_of_ble_eq_true rfl) (Nat.le_of_ble_eq_true rfl) (Nat.le_of_ble_eq_true rfl) (rcv_V rfl (congrArg Prod.fst (kf_36 X.1))) rfl H
      · replace H := H.2 c5
        refine wp_iconst rfl ?_
        refine wp_goto (tn := 19) rfl rfl ?_
        refine wp_iret rfl rfl ?_
        show Wp X _ 170 9 [vr 36, vi x1] [vi 0] _ _
        refine wp_iret rfl rfl ?_
        show Wp X _ 172 12 [vr 36, vi x1, vu, vu] [vi 0] _ _
        refine wp_goto (tn := 16) rfl rfl ?_
        refine wp_istore (L2 := [vr 36, vi x1, vi 0, vu]) rfl (Nat.le_of_ble_eq_true rfl) rfl ?_
        refine wp_iload rfl rfl ?_
        refine wp_ifneF (tn := 24) rfl rfl (by decide) ?_
        refine wp_iconst rfl ?_
        exact wp_iret rfl rfl H
    · replace H := H.2 c4
      refine wp_iconst rfl ?_
      refine wp_goto (tn := 19) rfl rfl ?_
      refine wp_iret rfl rfl ?_
      show Wp X _ 170 9 [vr 36, vi x1] [vi (-1)] _ _
      refine wp_iret rfl rfl ?_
      show Wp X _ 172 12 [vr 36, vi x1, vu, vu] [vi (-1)] _ _
      refine wp_goto (tn := 16) rfl rfl ?_
      refine wp_istore (L2 := [vr 36, vi x1, vi (-1), vu]) rfl (Nat.le_of_ble_eq_true rfl) rfl ?_
      refine wp_iload rfl rfl ?_
      refine wp_ifneT (tn := 24) rfl rfl (by decide) ?_
      refine wp_aload rfl rfl ?_
      refine wp_iload rfl rfl ?_
      exact wp_call (k := 171) (ρ2 := 1) (L2 := [vr 36, vi x1, vu, vu]) rfl rfl rfl (Nat.le_of_ble_eq_true rfl) (Nat.le_of_ble_eq_true rfl) (Nat.le_of_ble_eq_true rfl) (rcv_V rfl (congrArg Prod.fst (kf_36 X.1))) rfl H
/-- Lines.standingOf(I)I, from 29 -/
theorem S172_36_29 {X : Nat × (Int → Int)} {h : HP} {Q : bQ} (zx0 : aV) (zx1 : aV) (x2 : Int) (s0 : Int) (H : ((x2 ≤ 0 → ((R32 (3 - s0)) ∧ Q (some (vi (3 - s0))) h)) ∧ (0 < x2 → ((R32 (4 + s0)) ∧ Q (some (vi (4 + s0))) h)))) : Wp X 2 172 29 [zx0, zx1, vi x2, vu] [vi s0] h Q := by
  refine wp_istore (L2 := [zx0, zx1, vi x2, vi s0]) rfl (Nat.le_of_ble_eq_true rfl) rfl ?_
  refine wp_iload rfl rfl ?_
  refine wp_ifle (tn := 40) rfl rfl (fun c1 => ?_) (fun c1 => ?_)
  · replace H := H.1 c1
    refine wp_iconst rfl ?_
    refine wp_iload rfl rfl ?_
    refine wp_isub rfl ?_
    have g2 := H.1
    replace H := H.2
    refine Wp.topI (y := (3 - s0)) (w32_I g2) ?_
    exact wp_iret rfl rfl H
  · replace H := H.2 c1
    refine wp_iconst rfl ?_
    refine wp_iload rfl rfl ?_
    refine wp_iadd rfl ?_
    have g3 := H.1
    replace H := H.2
    refine Wp.topI (y := (4 + s0)) (w32_I g3) ?_
    refine wp_goto (tn := 43) rfl rfl ?_
    exact wp_iret rfl rfl H
/-- Odds.take(L$Sheet;)Z, from 0 -/
theorem S178_69_81_0 {X : Nat × (Int → Int)} {h : HP} {Q : bQ}  (H : Wp X 2 178 5 [vr 69, vr 81, vl 0, vu, vi 0] [] h Q) : Wp X 2 178 0 [vr 69, vr 81, vu, vu, vu] [] h Q := by
  refine wp_sipush rfl ?_
  refine wp_lstore (L2 := [vr 69, vr 81, vl 0, vu, vu]) rfl (Nat.le_of_ble_eq_true rfl) rfl ?_
  refine wp_iconst rfl ?_
  refine wp_istore (L2 := [vr 69, vr 81, vl 0, vu, vi 0]) rfl (Nat.le_of_ble_eq_true rfl) rfl ?_
  exact H
/-- Odds.take(L$Sheet;)Z, from 5 -/
theorem S178_69_81_5 {X : Nat × (Int → Int)} {h : HP} {Q : bQ} (x2 : Int) (x4 : Int) (H : ((8 ≤ x4 → (((lcp x2 64) = 0 → Wp X 2 178 52 [vr 69, vr 81, vl x2, vu, vi 0] [] h Q) ∧ ((lcp x2 64) ≠ 0 → Q (some (vi 0)) h))) ∧ (x4 < 8 → ((x4 < 0 → ((R64 (x2 + 0)) ∧ ((R32 (x4 + 1)) ∧ Wp X 2 178 5 [vr 69, vr 81, vl (x2 + 0), vu, vi (x4 + 1)] [] h Q))) ∧ (0 ≤ x4 → ((R32 ((h 81 2) - 1)) ∧ ((((h 81 2) - 1) < x4 → ((R64 (x2 + 0)) ∧ Wp X 2 178 5 [vr 69, vr 81, vl (x2 + 0), vu, vi (x4 + 1)] [] h Q)) ∧ (x4 ≤ ((h 81 2) - 1) → ((0 ≤ (h 82 x4) → ((R64 (x2 + (h 82 x4))) ∧ Wp X 2 178 5 [vr 69, vr 81, vl (x2 + (h 82 x4)), vu, vi (x4 + 1)] [] h Q)) ∧ ((h 82 x4) < 0 → Q (some (vi 0)) h)))))))))) : Wp X 2 178 5 [vr 69, vr 81, vl x2, vu, vi x4] [] h Q := by
  refine wp_iload rfl rfl ?_
  refine wp_iconst rfl ?_
  refine wp_icge (tn := 39) rfl rfl (fun c1 => ?_) (fun c1 => ?_)
  · replace H := H.1 c1
    refine wp_lload rfl rfl ?_
    refine wp_sipush rfl ?_
    refine wp_lcmp rfl ?_
    refine wp_ifeq (tn := 49) rfl rfl (fun c2 => ?_) (fun c2 => ?_)
    · replace H := H.1 c2
      refine wp_iconst rfl ?_
      refine wp_istore (L2 := [vr 69, vr 81, vl x2, vu, vi 0]) rfl (Nat.le_of_ble_eq_true rfl) rfl ?_
      exact H
    · replace H := H.2 c2
      refine wp_iconst rfl ?_
      exact wp_zret rfl rfl (by decide) H
  · replace H := H.2 c1
    refine wp_aload rfl rfl ?_
    refine wp_iload rfl rfl ?_
    refine wp_call (k := 227) (ρ2 := 1) (L2 := [vr 81, vi x4]) rfl rfl rfl (Nat.le_of_ble_eq_true rfl) (Nat.le_of_ble_eq_true rfl) (Nat.le_of_ble_eq_true rfl) (rcv_V rfl (congrArg Prod.fst (kf_81 X.1))) rfl ?_
    refine wp_aload rfl rfl ?_
    refine wp_iload rfl rfl ?_
    refine wp_iconst rfl ?_
    refine wp_call (k := 226) (ρ2 := 0) (L2 := [vr 81, vi x4, vi 1]) rfl rfl rfl (Nat.le_of_ble_eq_true rfl) (Nat.le_of_ble_eq_true rfl) (Nat.le_of_ble_eq_true rfl) (rcv_V rfl (congrArg Prod.fst (kf_81 X.1))) rfl ?_
    refine wp_iload rfl rfl ?_
    refine wp_iflt (tn := 22) rfl rfl (fun c3 => ?_) (fun c3 => ?_)
    · replace H := H.1 c3
      refine wp_iconst rfl ?_
      refine wp_zret rfl rfl (by decide) ?_
      show Wp X _ 227 6 [vr 81, vi x4] [vi 0] _ _
      refine wp_ifeqT (tn := 18) rfl rfl (by decide) ?_
      refine wp_iconst rfl ?_
      refine wp_iret rfl rfl ?_
      show Wp X _ 178 18 [vr 69, vr 81, vl x2, vu, vi x4] [vi 0] _ _
      refine wp_ifgeT (tn := 23) rfl rfl (by decide) ?_
      refine wp_lload rfl rfl ?_
      refine wp_aload rfl rfl ?_
      refine wp_iload rfl rfl ?_
      refine wp_call (k := 227) (ρ2 := 1) (L2 := [vr 81, vi x4]) rfl rfl rfl (Nat.le_of_ble_eq_true rfl) (Nat.le_of_ble_eq_true rfl) (Nat.le_of_ble_eq_true rfl) (rcv_V rfl (congrArg Prod.fst (kf_81 X.1))) rfl ?_
      refine wp_aload rfl rfl ?_
      refine wp_iload rfl rfl ?_
      refine wp_iconst rfl ?_
      refine wp_call (k := 226) (ρ2 := 0) (L2 := [vr 81, vi x4, vi 1]) rfl rfl rfl (Nat.le_of_ble_eq_true rfl) (Nat.le_of_ble_eq_true rfl) (Nat.le_of_ble_eq_true rfl) (rcv_V rfl (congrArg Prod.fst (kf_81 X.1))) rfl ?_
      refine wp_iload rfl rfl ?_
      refine wp_ifltT (tn := 22) rfl rfl c3 ?_
      refine wp_iconst rfl ?_
      refine wp_zret rfl rfl (by decide) ?_
      show Wp X _ 227 6 [vr 81, vi x4] [vi 0] _ _
      refine wp_ifeqT (tn := 18) rfl rfl (by decide) ?_
      refine wp_iconst rfl ?_
      refine wp_iret rfl rfl ?_
      show Wp X _ 178 30 [vr 69, vr 81, vl x2, vu, vi x4] [vi 0, vl x2] _ _
      refine wp_i2l rfl ?_
      refine wp_ladd rfl ?_
      have g4 := H.1
      replace H := H.2
      refine Wp.topL (y := (x2 + 0)) (w64_I g4) ?_
      refine wp_lstore (L2 := [vr 69, vr 81, vl (x2 + 0), vu, vi x4]) rfl (Nat.le_of_ble_eq_true rfl) rfl ?_
      have g5 := H.1
      replace H := H.2
      refine wp_iincR (L2 := [vr 69, vr 81, vl (x2 + 0), vu, vi (x4 + 1)]) rfl rfl g5 rfl ?_
      refine wp_goto (tn := 5) rfl rfl ?_
      exact H
    · replace H := H.2 c3
      refine wp_iload rfl rfl ?_
      refine wp_ifltF (tn := 22) rfl rfl (by decide) ?_
      refine wp_iload rfl rfl ?_
      refine wp_aload rfl rfl ?_
      refine wp_getI (j := 2) rfl (congrArg Prod.fst (kf_81 X.1)) rfl ?_
      refine wp_iload rfl rfl ?_
      refine wp_isub rfl ?_
      have g6 := H.1
      replace H := H.2
      refine Wp.topI (y := ((h 81 2) - 1)) (w32_I g6) ?_
      refine wp_icgt (tn := 22) rfl rfl (fun c7 => ?_) (fun c7 => ?_)
      · replace H := H.1 c7
        refine wp_iconst rfl ?_
        refine wp_zret rfl rfl (by decide) ?_
        show Wp X _ 227 6 [vr 81, vi x4] [vi 0] _ _
        refine wp_ifeqT (tn := 18) rfl rfl (by decide) ?_
        refine wp_iconst rfl ?_
        refine wp_iret rfl rfl ?_
        show Wp X _ 178 18 [vr 69, vr 81, vl x2, vu, vi x4] [vi 0] _ _
        refine wp_ifgeT (tn := 23) rfl rfl (by decide) ?_
        refine wp_lload rfl rfl ?_
        refine wp_aload rfl rfl ?_
        refine wp_iload rfl rfl ?_
        refine wp_call (k := 227) (ρ2 := 1) (L2 := [vr 81, vi x4]) rfl rfl rfl (Nat.le_of_ble_eq_true rfl) (Nat.le_of_ble_eq_true rfl) (Nat.le_of_ble_eq_true rfl) (rcv_V rfl (congrArg Prod.fst (kf_81 X.1))) rfl ?_
        refine wp_aload rfl rfl ?_
        refine wp_iload rfl rfl ?_
        refine wp_iconst rfl ?_
        refine wp_call (k := 226) (ρ2 := 0) (L2 := [vr 81, vi x4, vi 1]) rfl rfl rfl (Nat.le_of_ble_eq_true rfl) (Nat.le_of_ble_eq_true rfl) (Nat.le_of_ble_eq_true rfl) (rcv_V rfl (congrArg Prod.fst (kf_81 X.1))) rfl ?_
        refine wp_iload rfl rfl ?_
        refine wp_ifltF (tn := 22) rfl rfl c3 ?_
        refine wp_iload rfl rfl ?_
        refine wp_ifltF (tn := 22) rfl rfl (by decide) ?_
        refine wp_iload rfl rfl ?_
        refine wp_aload rfl rfl ?_
        refine wp_getI (j := 2) rfl (congrArg Prod.fst (kf_81 X.1)) rfl ?_
        refine wp_iload rfl rfl ?_
        refine wp_isub rfl ?_
        refine Wp.topI (y := ((h 81 2) - 1)) (w32_I g6) ?_
        refine wp_icgtT (tn := 22) rfl rfl c7 ?_
        refine wp_iconst rfl ?_
        refine wp_zret rfl rfl (by decide) ?_
        show Wp X _ 227 6 [vr 81, vi x4] [vi 0] _ _
        refine wp_ifeqT (tn := 18) rfl rfl (by decide) ?_
        refine wp_iconst rfl ?_
        refine wp_iret rfl rfl ?_
        show Wp X _ 178 30 [vr 69, vr 81, vl x2, vu, vi x4] [vi 0, vl x2] _ _
        refine wp_i2l rfl ?_
        refine wp_ladd rfl ?_
        have g8 := H.1
        replace H := H.2
        refine Wp.topL (y := (x2 + 0)) (w64_I g8) ?_
        refine wp_lstore (L2 := [vr 69, vr 81, vl (x2 + 0), vu, vi x4]) rfl (Nat.le_of_ble_eq_true rfl) rfl ?_
        refine wp_iincR (L2 := [vr 69, vr 81, vl (x2 + 0), vu, vi (x4 + 1)]) rfl rfl (by clear H; unfold R32; omega) rfl ?_
        refine wp_goto (tn := 5) rfl rfl ?_
        exact H
      · replace H := H.2 c7
        refine wp_iconst rfl ?_
        refine wp_goto (tn := 23) rfl rfl ?_
        refine wp_zret rfl rfl (by decide) ?_
        show Wp X _ 227 6 [vr 81, vi x4] [vi 1] _ _
        refine wp_ifeqF (tn := 18) rfl rfl (by decide) ?_
        refine wp_aload rfl rfl ?_
        refine wp_getR (r := 81) rfl (congrArg Prod.fst (kf_81 X.1)) rfl ?_
        refine wp_iload rfl rfl ?_
        refine wp_iaload rfl (kf_82 X.1) ⟨c3, (by clear H; omega)⟩ ?_
        refine wp_goto (tn := 19) rfl rfl ?_
        refine wp_iret rfl rfl ?_
        show Wp X _ 178 18 [vr 69, vr 81, vl x2, vu, vi x4] [vi (h 82 x4)] _ _
        refine wp_ifge (tn := 23) rfl rfl (fun c9 => ?_) (fun c9 => ?_)
        · replace H := H.1 c9
          refine wp_lload rfl rfl ?_
          refine wp_aload rfl rfl ?_
          refine wp_iload rfl rfl ?_
          refine wp_call (k := 227) (ρ2 := 1) (L2 := [vr 81, vi x4]) rfl rfl rfl (Nat.le_of_ble_eq_true rfl) (Nat.le_of_ble_eq_true rfl) (Nat.le_of_ble_eq_true rfl) (rcv_V rfl (congrArg Prod.fst (kf_81 X.1))) rfl ?_
          refine wp_aload rfl rfl ?_
          refine wp_iload rfl rfl ?_
          refine wp_iconst rfl ?_
          refine wp_call (k := 226) (ρ2 := 0) (L2 := [vr 81, vi x4, vi 1]) rfl rfl rfl (Nat.le_of_ble_eq_true rfl) (Nat.le_of_ble_eq_true rfl) (Nat.le_of_ble_eq_true rfl) (rcv_V rfl (congrArg Prod.fst (kf_81 X.1))) rfl ?_
          refine wp_iload rfl rfl ?_
          refine wp_ifltF (tn := 22) rfl rfl c3 ?_
          refine wp_iload rfl rfl ?_
          refine wp_ifltF (tn := 22) rfl rfl (by decide) ?_
          refine wp_iload rfl rfl ?_
          refine wp_aload rfl rfl ?_
          refine wp_getI (j := 2) rfl (congrArg Prod.fst (kf_81 X.1)) rfl ?_
          refine wp_iload rfl rfl ?_
          refine wp_isub rfl ?_
          refine Wp.topI (y := ((h 81 2) - 1)) (w32_I g6) ?_
          refine wp_icgtF (tn := 22) rfl rfl c7 ?_
          refine wp_iconst rfl ?_
          refine wp_goto (tn := 23) rfl rfl ?_
          refine wp_zret rfl rfl (by decide) ?_
          show Wp X _ 227 6 [vr 81, vi x4] [vi 1] _ _
          refine wp_ifeqF (tn := 18) rfl rfl (by decide) ?_
          refine wp_aload rfl rfl ?_
          refine wp_getR (r := 81) rfl (congrArg Prod.fst (kf_81 X.1)) rfl ?_
          refine wp_iload rfl rfl ?_
          refine wp_iaload rfl (kf_82 X.1) ⟨c3, (by clear H; omega)⟩ ?_
          refine wp_goto (tn := 19) rfl rfl ?_
          refine wp_iret rfl rfl ?_
          show Wp X _ 178 30 [vr 69, vr 81, vl x2, vu, vi x4] [vi (h 82 x4), vl x2] _ _
          refine wp_i2l rfl ?_
          refine wp_ladd rfl ?_
          have g10 := H.1
          replace H := H.2
          refine Wp.topL (y := (x2 + (h 82 x4))) (w64_I g10) ?_
          refine wp_lstore (L2 := [vr 69, vr 81, vl (x2 + (h 82 x4)), vu, vi x4]) rfl (Nat.le_of_ble_eq_true rfl) rfl ?_
          refine wp_iincR (L2 := [vr 69, vr 81, vl (x2 + (h 82 x4)), vu, vi (x4 + 1)]) rfl rfl (by clear H; unfold R32; omega) rfl ?_
          refine wp_goto (tn := 5) rfl rfl ?_
          exact H
        · replace H := H.2 c9
          refine wp_iconst rfl ?_
          exact wp_zret rfl rfl (by decide) H
/-- Odds.take(L$Sheet;)Z, from 52 -/
theorem S178_69_81_52 {X : Nat × (Int → Int)} {h : HP} {Q : bQ} (zx2 : aV) (x4 : Int) (H : ((8 ≤ x4 → Q (some (vi 1)) h) ∧ (x4 < 8 → ((x4 < 0 → ((0 ≤ x4 ∧ x4 < 8) ∧ Wp X 2 178 52 [vr 69, vr 81, zx2, vu, vi (x4 + 1)] [] (upd2 h 70 x4 0) Q)) ∧ (0 ≤ x4 → ((R32 ((h 81 2) - 1)) ∧ ((((h 81 2) - 1) < x4 → Wp X 2 178 52 [vr 69, vr 81, zx2, vu, vi (x4 + 1)] [] (upd2 h 70 x4 0) Q) ∧ (x4 ≤ ((h 81 2) - 1) → Wp X 2 178 52 [vr 69, vr 81, zx2, vu, vi (x4 + 1)] [] (upd2 h 70 x4 (h 82 x4)) Q)))))))) : Wp X 2 178 52 [vr 69, vr 81, zx2, vu, vi x4] [] h Q := by
  refine wp_iload rfl rfl ?_
  refine wp_iconst rfl ?_
  refine wp_icge (tn := 78) rfl rfl (fun c1 => ?_) (fun c1 => ?_)
  · replace H := H.1 c1
    refine wp_iconst rfl ?_
    exact wp_zret rfl rfl (by decide) H
  · replace H := H.2 c1
    refine wp_aload rfl rfl ?_
    refine wp_getR (r := 69) rfl (congrArg Prod.fst (kf_69 X.1)) rfl ?_
    refine wp_iload rfl rfl ?_
    refine wp_aload rfl rfl ?_
    refine wp_iload rfl rfl ?_
    refine wp_call (k := 227) (ρ2 := 1) (L2 := [vr 81, vi x4]) rfl rfl rfl (Nat.le_of_ble_eq_true rfl) (Nat.le_of_ble_eq_true rfl) (Nat.le_of_ble_eq_true rfl) (rcv_V rfl (congrArg Prod.fst (kf_81 X.1))) rfl ?_
    refine wp_aload rfl rfl ?_
    refine wp_iload rfl rfl ?_
    refine wp_iconst rfl ?_
    refine wp_call (k := 226) (ρ2 := 0) (L2 := [vr 81, vi x4, vi 1]) rfl rfl rfl (Nat.le_of_ble_eq_true rfl) (Nat.le_of_ble_eq_true rfl) (Nat.le_of_ble_eq_true rfl) (rcv_V rfl (congrArg Prod.fst (kf_81 X.1))) rfl ?_
    refine wp_iload rfl rfl ?_
    refine wp_iflt (tn := 22) rfl rfl (fun c2 => ?_) (fun c2 => ?_)
    · replace H := H.1 c2
      refine wp_iconst rfl ?_
      refine wp_zret rfl rfl (by decide) ?_
      show Wp X _ 227 6 [vr 81, vi x4] [vi 0] _ _
      refine wp_ifeqT (tn := 18) rfl rfl (by decide) ?_
      refine wp_iconst rfl ?_
      refine wp_iret rfl rfl ?_
      show Wp X _ 178 71 [vr 69, vr 81, zx2, vu, vi x4] [vi 0, vi x4, vr 70] _ _
      have g3 := H.1
      replace H := H.2
      refine wp_iastore rfl (kf_70 X.1) g3 ?_
      refine wp_iincR (L2 := [vr 69, vr 81, zx2, vu, vi (x4 + 1)]) rfl rfl (by clear H; unfold R32; omega) rfl ?_
      refine wp_goto (tn := 52) rfl rfl ?_
      exact H
    · replace H := H.2 c2
      refine wp_iload rfl rfl ?_
      refine wp_ifltF (tn := 22) rfl rfl (by decide) ?_
      refine wp_iload rfl rfl ?_
      refine wp_aload rfl rfl ?_
      refine wp_getI (j := 2) rfl (congrArg Prod.fst (kf_81 X.1)) rfl ?_
      refine wp_iload rfl rfl ?_
      refine wp_isub rfl ?_
      have g4 := H.1
      replace H := H.2
      refine Wp.topI (y := ((h 81 2) - 1)) (w32_I g4) ?_
      refine wp_icgt (tn := 22) rfl rfl (fun c5 => ?_) (fun c5 => ?_)
      · replace H := H.1 c5
        refine wp_iconst rfl ?_
        refine wp_zret rfl rfl (by decide) ?_
        show Wp X _ 227 6 [vr 81, vi x4] [vi 0] _ _
        refine wp_ifeqT (tn := 18) rfl rfl (by decide) ?_
        refine wp_iconst rfl ?_
        refine wp_iret rfl rfl ?_
        show Wp X _ 178 71 [vr 69, vr 81, zx2, vu, vi x4] [vi 0, vi x4, vr 70] _ _
        refine wp_iastore rfl (kf_70 X.1) ⟨c2, c1⟩ ?_
        refine wp_iincR (L2 := [vr 69, vr 81, zx2, vu, vi (x4 + 1)]) rfl rfl (by clear H; unfold R32; omega) rfl ?_
        refine wp_goto (tn := 52) rfl rfl ?_
        exact H
      · replace H := H.2 c5
        refine wp_iconst rfl ?_
        refine wp_goto (tn := 23) rfl rfl ?_
        refine wp_zret rfl rfl (by decide) ?_
        show Wp X _ 227 6 [vr 81, vi x4] [vi 1] _ _
        refine wp_ifeqF (tn := 18) rfl rfl (by decide) ?_
        refine wp_aload rfl rfl ?_
        refine wp_getR (r := 81) rfl (congrArg Prod.fst (kf_81 X.1)) rfl ?_
        refine wp_iload rfl rfl ?_
        refine wp_iaload rfl (kf_82 X.1) ⟨c2, (by clear H; omega)⟩ ?_
        refine wp_goto (tn := 19) rfl rfl ?_
        refine wp_iret rfl rfl ?_
        show Wp X _ 178 71 [vr 69, vr 81, zx2, vu, vi x4] [vi (h 82 x4), vi x4, vr 70] _ _
        refine wp_iastore rfl (kf_70 X.1) ⟨c2, c1⟩ ?_
        refine wp_iincR (L2 := [vr 69, vr 81, zx2, vu, vi (x4 + 1)]) rfl rfl (by clear H; unfold R32; omega) rfl ?_
        refine wp_goto (tn := 52) rfl rfl ?_
        exact H
/-- Odds.take(L$Sheet;)Z, from 0 -/
theorem S178_69_83_0 {X : Nat × (Int → Int)} {h : HP} {Q : bQ}  (H : Wp X 2 178 5 [vr 69, vr 83, vl 0, vu, vi 0] [] h Q) : Wp X 2 178 0 [vr 69, vr 83, vu, vu, vu] [] h Q := by
  refine wp_sipush rfl ?_
  refine wp_lstore (L2 := [vr 69, vr 83, vl 0, vu, vu]) rfl (Nat.le_of_ble_eq_true rfl) rfl ?_
  refine wp_iconst rfl ?_
  refine wp_istore (L2 := [vr 69, vr 83, vl 0, vu, vi 0]) rfl (Nat.le_of_ble_eq_true rfl) rfl ?_
  exact H
/-- Odds.take(L$Sheet;)Z, from 5 -/
theorem S178_69_83_5 {X : Nat × (Int → Int)} {h : HP} {Q : bQ} (x2 : Int) (x4 : Int) (H : ((8 ≤ x4 → (((lcp x2 64) = 0 → Wp X 2 178 52 [vr 69, vr 83, vl x2, vu, vi 0] [] h Q) ∧ ((lcp x2 64) ≠ 0 → Q (some (vi 0)) h))) ∧ (x4 < 8 → ((x4 < 0 → ((R64 (x2 + 0)) ∧ ((R32 (x4 + 1)) ∧ Wp X 2 178 5 [vr 69, vr 83, vl (x2 + 0), vu, vi (x4 + 1)] [] h Q))) ∧ (0 ≤ x4 → ((R32 ((h 83 2) - 1)) ∧ ((((h 83 2) - 1) < x4 → ((R64 (x2 + 0)) ∧ Wp X 2 178 5 [vr 69, vr 83, vl (x2 + 0), vu, vi (x4 + 1)] [] h Q)) ∧ (x4 ≤ ((h 83 2) - 1) → ((0 ≤ (h 84 x4) → ((R64 (x2 + (h 84 x4))) ∧ Wp X 2 178 5 [vr 69, vr 83, vl (x2 + (h 84 x4)), vu, vi (x4 + 1)] [] h Q)) ∧ ((h 84 x4) < 0 → Q (some (vi 0)) h)))))))))) : Wp X 2 178 5 [vr 69, vr 83, vl x2, vu, vi x4] [] h Q := by
  refine wp_iload rfl rfl ?_
  refine wp_iconst rfl ?_
  refine wp_icge (tn := 39) rfl rfl (fun c1 => ?_) (fun c1 => ?_)
  · replace H := H.1 c1
    refine wp_lload rfl rfl ?_
    refine wp_sipush rfl ?_
    refine wp_lcmp rfl ?_
    refine wp_ifeq (tn := 49) rfl rfl (fun c2 => ?_) (fun c2 => ?_)
    · replace H := H.1 c2
      refine wp_iconst rfl ?_
      refine wp_istore (L2 := [vr 69, vr 83, vl x2, vu, vi 0]) rfl (Nat.le_of_ble_eq_true rfl) rfl ?_
      exact H
    · replace H := H.2 c2
      refine wp_iconst rfl ?_
      exact wp_zret rfl rfl (by decide) H
  · replace H := H.2 c1
    refine wp_aload rfl rfl ?_
    refine wp_iload rfl rfl ?_
    refine wp_call (k := 227) (ρ2 := 1) (L2 := [vr 83, vi x4]) rfl rfl rfl (Nat.le_of_ble_eq_true rfl) (Nat.le_of_ble_eq_true rfl) (Nat.le_of_ble_eq_true rfl) (rcv_V rfl (congrArg Prod.fst (kf_83 X.1))) rfl ?_
    refine wp_aload rfl rfl ?_
    refine wp_iload rfl rfl ?_
    refine wp_iconst rfl ?_
    refine wp_call (k := 226) (ρ2 := 0) (L2 := [vr 83, vi x4, vi 1]) rfl rfl rfl (Nat.le_of_ble_eq_true rfl) (Nat.le_of_ble_eq_true rfl) (Nat.le_of_ble_eq_true rfl) (rcv_V rfl (congrArg Prod.fst (kf_83 X.1))) rfl ?_
    refine wp_iload rfl rfl ?_
    refine wp_iflt (tn := 22) rfl rfl (fun c3 => ?_) (fun c3 => ?_)
    · replace H := H.1 c3
      refine wp_iconst rfl ?_
      refine wp_zret rfl rfl (by decide) ?_
      show Wp X _ 227 6 [vr 83, vi x4] [vi 0] _ _
      refine wp_ifeqT (tn := 18) rfl rfl (by decide) ?_
      refine wp_iconst rfl ?_
      refine wp_iret rfl rfl ?_
      show Wp X _ 178 18 [vr 69, vr 83, vl x2, vu, vi x4] [vi 0] _ _
      refine wp_ifgeT (tn := 23) rfl rfl (by decide) ?_
      refine wp_lload rfl rfl ?_
      refine wp_aload rfl rfl ?_
      refine wp_iload rfl rfl ?_
      refine wp_call (k := 227) (ρ2 := 1) (L2 := [vr 83, vi x4]) rfl rfl rfl (Nat.le_of_ble_eq_true rfl) (Nat.le_of_ble_eq_true rfl) (Nat.le_of_ble_eq_true rfl) (rcv_V rfl (congrArg Prod.fst (kf_83 X.1))) rfl ?_
      refine wp_aload rfl rfl ?_
      refine wp_iload rfl rfl ?_
      refine wp_iconst rfl ?_
      refine wp_call (k := 226) (ρ2 := 0) (L2 := [vr 83, vi x4, vi 1]) rfl rfl rfl (Nat.le_of_ble_eq_true rfl) (Nat.le_of_ble_eq_true rfl) (Nat.le_of_ble_eq_true rfl) (rcv_V rfl (congrArg Prod.fst (kf_83 X.1))) rfl ?_
      refine wp_iload rfl rfl ?_
      refine wp_ifltT (tn := 22) rfl rfl c3 ?_
      refine wp_iconst rfl ?_
      refine wp_zret rfl rfl (by decide) ?_
      show Wp X _ 227 6 [vr 83, vi x4] [vi 0] _ _
      refine wp_ifeqT (tn := 18) rfl rfl (by decide) ?_
      refine wp_iconst rfl ?_
      refine wp_iret rfl rfl ?_
      show Wp X _ 178 30 [vr 69, vr 83, vl x2, vu, vi x4] [vi 0, vl x2] _ _
      refine wp_i2l rfl ?_
      refine wp_ladd rfl ?_
      have g4 := H.1
      replace H := H.2
      refine Wp.topL (y := (x2 + 0)) (w64_I g4) ?_
      refine wp_lstore (L2 := [vr 69, vr 83, vl (x2 + 0), vu, vi x4]) rfl (Nat.le_of_ble_eq_true rfl) rfl ?_
      have g5 := H.1
      replace H := H.2
      refine wp_iincR (L2 := [vr 69, vr 83, vl (x2 + 0), vu, vi (x4 + 1)]) rfl rfl g5 rfl ?_
      refine wp_goto (tn := 5) rfl rfl ?_
      exact H
    · replace H := H.2 c3
      refine wp_iload rfl rfl ?_
      refine wp_ifltF (tn := 22) rfl rfl (by decide) ?_
      refine wp_iload rfl rfl ?_
      refine wp_aload rfl rfl ?_
      refine wp_getI (j := 2) rfl (congrArg Prod.fst (kf_83 X.1)) rfl ?_
      refine wp_iload rfl rfl ?_
      refine wp_isub rfl ?_
      have g6 := H.1
      replace H := H.2
      refine Wp.topI (y := ((h 83 2) - 1)) (w32_I g6) ?_
      refine wp_icgt (tn := 22) rfl rfl (fun c7 => ?_) (fun c7 => ?_)
      · replace H := H.1 c7
        refine wp_iconst rfl ?_
        refine wp_zret rfl rfl (by decide) ?_
        show Wp X _ 227 6 [vr 83, vi x4] [vi 0] _ _
        refine wp_ifeqT (tn := 18) rfl rfl (by decide) ?_
        refine wp_iconst rfl ?_
        refine wp_iret rfl rfl ?_
        show Wp X _ 178 18 [vr 69, vr 83, vl x2, vu, vi x4] [vi 0] _ _
        refine wp_ifgeT (tn := 23) rfl rfl (by decide) ?_
        refine wp_lload rfl rfl ?_
        refine wp_aload rfl rfl ?_
        refine wp_iload rfl rfl ?_
        refine wp_call (k := 227) (ρ2 := 1) (L2 := [vr 83, vi x4]) rfl rfl rfl (Nat.le_of_ble_eq_true rfl) (Nat.le_of_ble_eq_true rfl) (Nat.le_of_ble_eq_true rfl) (rcv_V rfl (congrArg Prod.fst (kf_83 X.1))) rfl ?_
        refine wp_aload rfl rfl ?_
        refine wp_iload rfl rfl ?_
        refine wp_iconst rfl ?_
        refine wp_call (k := 226) (ρ2 := 0) (L2 := [vr 83, vi x4, vi 1]) rfl rfl rfl (Nat.le_of_ble_eq_true rfl) (Nat.le_of_ble_eq_true rfl) (Nat.le_of_ble_eq_true rfl) (rcv_V rfl (congrArg Prod.fst (kf_83 X.1))) rfl ?_
        refine wp_iload rfl rfl ?_
        refine wp_ifltF (tn := 22) rfl rfl c3 ?_
        refine wp_iload rfl rfl ?_
        refine wp_ifltF (tn := 22) rfl rfl (by decide) ?_
        refine wp_iload rfl rfl ?_
        refine wp_aload rfl rfl ?_
        refine wp_getI (j := 2) rfl (congrArg Prod.fst (kf_83 X.1)) rfl ?_
        refine wp_iload rfl rfl ?_
        refine wp_isub rfl ?_
        refine Wp.topI (y := ((h 83 2) - 1)) (w32_I g6) ?_
        refine wp_icgtT (tn := 22) rfl rfl c7 ?_
        refine wp_iconst rfl ?_
        refine wp_zret rfl rfl (by decide) ?_
        show Wp X _ 227 6 [vr 83, vi x4] [vi 0] _ _
        refine wp_ifeqT (tn := 18) rfl rfl (by decide) ?_
        refine wp_iconst rfl ?_
        refine wp_iret rfl rfl ?_
        show Wp X _ 178 30 [vr 69, vr 83, vl x2, vu, vi x4] [vi 0, vl x2] _ _
        refine wp_i2l rfl ?_
        refine wp_ladd rfl ?_
        have g8 := H.1
        replace H := H.2
        refine Wp.topL (y := (x2 + 0)) (w64_I g8) ?_
        refine wp_lstore (L2 := [vr 69, vr 83, vl (x2 + 0), vu, vi x4]) rfl (Nat.le_of_ble_eq_true rfl) rfl ?_
        refine wp_iincR (L2 := [vr 69, vr 83, vl (x2 + 0), vu, vi (x4 + 1)]) rfl rfl (by clear H; unfold R32; omega) rfl ?_
        refine wp_goto (tn := 5) rfl rfl ?_
        exact H
      · replace H := H.2 c7
        refine wp_iconst rfl ?_
        refine wp_goto (tn := 23) rfl rfl ?_
        refine wp_zret rfl rfl (by decide) ?_
        show Wp X _ 227 6 [vr 83, vi x4] [vi 1] _ _
        refine wp_ifeqF (tn := 18) rfl rfl (by decide) ?_
        refine wp_aload rfl rfl ?_
        refine wp_getR (r := 83) rfl (congrArg Prod.fst (kf_83 X.1)) rfl ?_
        refine wp_iload rfl rfl ?_
        refine wp_iaload rfl (kf_84 X.1) ⟨c3, (by clear H; omega)⟩ ?_
        refine wp_goto (tn := 19) rfl rfl ?_
        refine wp_iret rfl rfl ?_
        show Wp X _ 178 18 [vr 69, vr 83, vl x2, vu, vi x4] [vi (h 84 x4)] _ _
        refine wp_ifge (tn := 23) rfl rfl (fun c9 => ?_) (fun c9 => ?_)
        · replace H := H.1 c9
          refine wp_lload rfl rfl ?_
          refine wp_aload rfl rfl ?_
          refine wp_iload rfl rfl ?_
          refine wp_call (k := 227) (ρ2 := 1) (L2 := [vr 83, vi x4]) rfl rfl rfl (Nat.le_of_ble_eq_true rfl) (Nat.le_of_ble_eq_true rfl) (Nat.le_of_ble_eq_true rfl) (rcv_V rfl (congrArg Prod.fst (kf_83 X.1))) rfl ?_
          refine wp_aload rfl rfl ?_
          refine wp_iload rfl rfl ?_
          refine wp_iconst rfl ?_
          refine wp_call (k := 226) (ρ2 := 0) (L2 := [vr 83, vi x4, vi 1]) rfl rfl rfl (Nat.le_of_ble_eq_true rfl) (Nat.le_of_ble_eq_true rfl) (Nat.le_of_ble_eq_true rfl) (rcv_V rfl (congrArg Prod.fst (kf_83 X.1))) rfl ?_
          refine wp_iload rfl rfl ?_
          refine wp_ifltF (tn := 22) rfl rfl c3 ?_
          refine wp_iload rfl rfl ?_
          refine wp_ifltF (tn := 22) rfl rfl (by decide) ?_
          refine wp_iload rfl rfl ?_
          refine wp_aload rfl rfl ?_
          refine wp_getI (j := 2) rfl (congrArg Prod.fst (kf_83 X.1)) rfl ?_
          refine wp_iload rfl rfl ?_
          refine wp_isub rfl ?_
          refine Wp.topI (y := ((h 83 2) - 1)) (w32_I g6) ?_
          refine wp_icgtF (tn := 22) rfl rfl c7 ?_
          refine wp_iconst rfl ?_
          refine wp_goto (tn := 23) rfl rfl ?_
          refine wp_zret rfl rfl (by decide) ?_
          show Wp X _ 227 6 [vr 83, vi x4] [vi 1] _ _
          refine wp_ifeqF (tn := 18) rfl rfl (by decide) ?_
          refine wp_aload rfl rfl ?_
          refine wp_getR (r := 83) rfl (congrArg Prod.fst (kf_83 X.1)) rfl ?_
          refine wp_iload rfl rfl ?_
          refine wp_iaload rfl (kf_84 X.1) ⟨c3, (by clear H; omega)⟩ ?_
          refine wp_goto (tn := 19) rfl rfl ?_
          refine wp_iret rfl rfl ?_
          show Wp X _ 178 30 [vr 69, vr 83, vl x2, vu, vi x4] [vi (h 84 x4), vl x2] _ _
          refine wp_i2l rfl ?_
          refine wp_ladd rfl ?_
          have g10 := H.1
          replace H := H.2
          refine Wp.topL (y := (x2 + (h 84 x4))) (w64_I g10) ?_
          refine wp_lstore (L2 := [vr 69, vr 83, vl (x2 + (h 84 x4)), vu, vi x4]) rfl (Nat.le_of_ble_eq_true rfl) rfl ?_
          refine wp_iincR (L2 := [vr 69, vr 83, vl (x2 + (h 84 x4)), vu, vi (x4 + 1)]) rfl rfl (by clear H; unfold R32; omega) rfl ?_
          refine wp_goto (tn := 5) rfl rfl ?_
          exact H
        · replace H := H.2 c9
          refine wp_iconst rfl ?_
          exact wp_zret rfl rfl (by decide) H
/-- Odds.take(L$Sheet;)Z, from 52 -/
theorem S178_69_83_52 {X : Nat × (Int → Int)} {h : HP} {Q : bQ} (zx2 : aV) (x4 : Int) (H : ((8 ≤ x4 → Q (some (vi 1)) h) ∧ (x4 < 8 → ((x4 < 0 → ((0 ≤ x4 ∧ x4 < 8) ∧ Wp X 2 178 52 [vr 69, vr 83, zx2, vu, vi (x4 + 1)] [] (upd2 h 70 x4 0) Q)) ∧ (0 ≤ x4 → ((R32 ((h 83 2) - 1)) ∧ ((((h 83 2) - 1) < x4 → Wp X 2 178 52 [vr 69, vr 83, zx2, vu, vi (x4 + 1)] [] (upd2 h 70 x4 0) Q) ∧ (x4 ≤ ((h 83 2) - 1) → Wp X 2 178 52 [vr 69, vr 83, zx2, vu, vi (x4 + 1)] [] (upd2 h 70 x4 (h 84 x4)) Q)))))))) : Wp X 2 178 52 [vr 69, vr 83, zx2, vu, vi x4] [] h Q := by
  refine wp_iload rfl rfl ?_
  refine wp_iconst rfl ?_
  refine wp_icge (tn := 78) rfl rfl (fun c1 => ?_) (fun c1 => ?_)
  · replace H := H.1 c1
    refine wp_iconst rfl ?_
    exact wp_zret rfl rfl (by decide) H
  · replace H := H.2 c1
    refine wp_aload rfl rfl ?_
    refine wp_getR (r := 69) rfl (congrArg Prod.fst (kf_69 X.1)) rfl ?_
    refine wp_iload rfl rfl ?_
    refine wp_aload rfl rfl ?_
    refine wp_iload rfl rfl ?_
    refine wp_call (k := 227) (ρ2 := 1) (L2 := [vr 83, vi x4]) rfl rfl rfl (Nat.le_of_ble_eq_true rfl) (Nat.le_of_ble_eq_true rfl) (Nat.le_of_ble_eq_true rfl) (rcv_V rfl (congrArg Prod.fst (kf_83 X.1))) rfl ?_
    refine wp_aload rfl rfl ?_
    refine wp_iload rfl rfl ?_
    refine wp_iconst rfl ?_
    refine wp_call (k := 226) (ρ2 := 0) (L2 := [vr 83, vi x4, vi 1]) rfl rfl rfl (Nat.le_of_ble_eq_true rfl) (Nat.le_of_ble_eq_true rfl) (Nat.le_of_ble_eq_true rfl) (rcv_V rfl (congrArg Prod.fst (kf_83 X.1))) rfl ?_
    refine wp_iload rfl rfl ?_
    refine wp_iflt (tn := 22) rfl rfl (fun c2 => ?_) (fun c2 => ?_)
    · replace H := H.1 c2
      refine wp_iconst rfl ?_
      refine wp_zret rfl rfl (by decide) ?_
      show Wp X _ 227 6 [vr 83, vi x4] [vi 0] _ _
      refine wp_ifeqT (tn := 18) rfl rfl (by decide) ?_
      refine wp_iconst rfl ?_
      refine wp_iret rfl rfl ?_
      show Wp X _ 178 71 [vr 69, vr 83, zx2, vu, vi x4] [vi 0, vi x4, vr 70] _ _
      have g3 := H.1
      replace H := H.2
      refine wp_iastore rfl (kf_70 X.1) g3 ?_
      refine wp_iincR (L2 := [vr 69, vr 83, zx2, vu, vi (x4 + 1)]) rfl rfl (by clear H; unfold R32; omega) rfl ?_
      refine wp_goto (tn := 52) rfl rfl ?_
      exact H
    · replace H := H.2 c2
      refine wp_iload rfl rfl ?_
      refine wp_ifltF (tn := 22) rfl rfl (by decide) ?_
      refine wp_iload rfl rfl ?_
      refine wp_aload rfl rfl ?_
      refine wp_getI (j := 2) rfl (congrArg Prod.fst (kf_83 X.1)) rfl ?_
      refine wp_iload rfl rfl ?_
      refine wp_isub rfl ?_
      have g4 := H.1
      replace H := H.2
      refine Wp.topI (y := ((h 83 2) - 1)) (w32_I g4) ?_
      refine wp_icgt (tn := 22) rfl rfl (fun c5 => ?_) (fun c5 => ?_)
      · replace H := H.1 c5
        refine wp_iconst rfl ?_
        refine wp_zret rfl rfl (by decide) ?_
        show Wp X _ 227 6 [vr 83, vi x4] [vi 0] _ _
        refine wp_ifeqT (tn := 18) rfl rfl (by decide) ?_
        refine wp_iconst rfl ?_
        refine wp_iret rfl rfl ?_
        show Wp X _ 178 71 [vr 69, vr 83, zx2, vu, vi x4] [vi 0, vi x4, vr 70] _ _
        refine wp_iastore rfl (kf_70 X.1) ⟨c2, c1⟩ ?_
        refine wp_iincR (L2 := [vr 69, vr 83, zx2, vu, vi (x4 + 1)]) rfl rfl (by clear H; unfold R32; omega) rfl ?_
        refine wp_goto (tn := 52) rfl rfl ?_
        exact H
      · replace H := H.2 c5
        refine wp_iconst rfl ?_
        refine wp_goto (tn := 23) rfl rfl ?_
        refine wp_zret rfl rfl (by decide) ?_
        show Wp X _ 227 6 [vr 83, vi x4] [vi 1] _ _
        refine wp_ifeqF (tn := 18) rfl rfl (by decide) ?_
        refine wp_aload rfl rfl ?_
        refine wp_getR (r := 83) rfl (congrArg Prod.fst (kf_83 X.1)) rfl ?_
        refine wp_iload rfl rfl ?_
        refine wp_iaload rfl (kf_84 X.1) ⟨c2, (by clear H; omega)⟩ ?_
        refine wp_goto (tn := 19) rfl rfl ?_
        refine wp_iret rfl rfl ?_
        show Wp X _ 178 71 [vr 69, vr 83, zx2, vu, vi x4] [vi (h 84 x4), vi x4, vr 70] _ _
        refine wp_iastore rfl (kf_70 X.1) ⟨c2, c1⟩ ?_
        refine wp_iincR (L2 := [vr 69, vr 83, zx2, vu, vi (x4 + 1)]) rfl rfl (by clear H; unfold R32; omega) rfl ?_
        refine wp_goto (tn := 52) rfl rfl ?_
        exact H
/-- Odds.take(L$Sheet;)Z, from 0 -/
theorem S178_69_85_0 {X : Nat × (Int → Int)} {h : HP} {Q : bQ}  (H : Wp X 2 178 5 [vr 69, vr 85, vl 0, vu, vi 0] [] h Q) : Wp X 2 178 0 [vr 69, vr 85, vu, vu, vu] [] h Q := by
  refine wp_sipush rfl ?_
  refine wp_lstore (L2 := [vr 69, vr 85, vl 0, vu, vu]) rfl (Nat.le_of_ble_eq_true rfl) rfl ?_
  refine wp_iconst rfl ?_
  refine wp_istore (L2 := [vr 69, vr 85, vl 0, vu, vi 0]) rfl (Nat.le_of_ble_eq_true rfl) rfl ?_
  exact H
/-- Odds.take(L$Sheet;)Z, from 5 -/
theorem S178_69_85_5 {X : Nat × (Int → Int)} {h : HP} {Q : bQ} (x2 : Int) (x4 : Int) (H : ((8 ≤ x4 → (((lcp x2 64) = 0 → Wp X 2 178 52 [vr 69, vr 85, vl x2, vu, vi 0] [] h Q) ∧ ((lcp x2 64) ≠ 0 → Q (some (vi 0)) h))) ∧ (x4 < 8 → ((x4 < 0 → ((R64 (x2 + 0)) ∧ ((R32 (x4 + 1)) ∧ Wp X 2 178 5 [vr 69, vr 85, vl (x2 + 0), vu, vi (x4 + 1)] [] h Q))) ∧ (0 ≤ x4 → ((R32 ((h 85 2) - 1)) ∧ ((((h 85 2) - 1) < x4 → ((R64 (x2 + 0)) ∧ Wp X 2 178 5 [vr 69, vr 85, vl (x2 + 0), vu, vi (x4 + 1)] [] h Q)) ∧ (x4 ≤ ((h 85 2) - 1) → ((0 ≤ (h 86 x4) → ((R64 (x2 + (h 86 x4))) ∧ Wp X 2 178 5 [vr 69, vr 85, vl (x2 + (h 86 x4)), vu, vi (x4 + 1)] [] h Q)) ∧ ((h 86 x4) < 0 → Q (some (vi 0)) h)))))))))) : Wp X 2 178 5 [vr 69, vr 85, vl x2, vu, vi x4] [] h Q := by
  refine wp_iload rfl rfl ?_
  refine wp_iconst rfl ?_
  refine wp_icge (tn := 39) rfl rfl (fun c1 => ?_) (fun c1 => ?_)
  · replace H := H.1 c1
    refine wp_lload rfl rfl ?_
    refine wp_sipush rfl ?_
    refine wp_lcmp rfl ?_
    refine wp_ifeq (tn := 49) rfl rfl (fun c2 => ?_) (fun c2 => ?_)
    · replace H := H.1 c2
      refine wp_iconst rfl ?_
      refine wp_istore (L2 := [vr 69, vr 85, vl x2, vu, vi 0]) rfl (Nat.le_of_ble_eq_true rfl) rfl ?_
      exact H
    · replace H := H.2 c2
      refine wp_iconst rfl ?_
      exact wp_zret rfl rfl (by decide) H
  · replace H := H.2 c1
    refine wp_aload rfl rfl ?_
    refine wp_iload rfl rfl ?_
    refine wp_call (k := 227) (ρ2 := 1) (L2 := [vr 85, vi x4]) rfl rfl rfl (Nat.le_of_ble_eq_true rfl) (Nat.le_of_ble_eq_true rfl) (Nat.le_of_ble_eq_true rfl) (rcv_V rfl (congrArg Prod.fst (kf_85 X.1))) rfl ?_
    refine wp_aload rfl rfl ?_
    refine wp_iload rfl rfl ?_
    refine wp_iconst rfl ?_
    refine wp_call (k := 226) (ρ2 := 0) (L2 := [vr 85, vi x4, vi 1]) rfl rfl rfl (Nat.le_of_ble_eq_true rfl) (Nat.le_of_ble_eq_true rfl) (Nat.le_of_ble_eq_true rfl) (rcv_V rfl (congrArg Prod.fst (kf_85 X.1))) rfl ?_
    refine wp_iload rfl rfl ?_
    refine wp_iflt (tn := 22) rfl rfl (fun c3 => ?_) (fun c3 => ?_)
    · replace H := H.1 c3
      refine wp_iconst rfl ?_
      refine wp_zret rfl rfl (by decide) ?_
      show Wp X _ 227 6 [vr 85, vi x4] [vi 0] _ _
      refine wp_ifeqT (tn := 18) rfl rfl (by decide) ?_
      refine wp_iconst rfl ?_
      refine wp_iret rfl rfl ?_
      show Wp X _ 178 18 [vr 69, vr 85, vl x2, vu, vi x4] [vi 0] _ _
      refine wp_ifgeT (tn := 23) rfl rfl (by decide) ?_
      refine wp_lload rfl rfl ?_
      refine wp_aload rfl rfl ?_
      refine wp_iload rfl rfl ?_
      refine wp_call (k := 227) (ρ2 := 1) (L2 := [vr 85, vi x4]) rfl rfl rfl (Nat.le_of_ble_eq_true rfl) (Nat.le_of_ble_eq_true rfl) (Nat.le_of_ble_eq_true rfl) (rcv_V rfl (congrArg Prod.fst (kf_85 X.1))) rfl ?_
      refine wp_aload rfl rfl ?_
      refine wp_iload rfl rfl ?_
      refine wp_iconst rfl ?_
      refine wp_call (k := 226) (ρ2 := 0) (L2 := [vr 85, vi x4, vi 1]) rfl rfl rfl (Nat.le_of_ble_eq_true rfl) (Nat.le_of_ble_eq_true rfl) (Nat.le_of_ble_eq_true rfl) (rcv_V rfl (congrArg Prod.fst (kf_85 X.1))) rfl ?_
      refine wp_iload rfl rfl ?_
      refine wp_ifltT (tn := 22) rfl rfl c3 ?_
      refine wp_iconst rfl ?_
      refine wp_zret rfl rfl (by decide) ?_
      show Wp X _ 227 6 [vr 85, vi x4] [vi 0] _ _
      refine wp_ifeqT (tn := 18) rfl rfl (by decide) ?_
      refine wp_iconst rfl ?_
      refine wp_iret rfl rfl ?_
      show Wp X _ 178 30 [vr 69, vr 85, vl x2, vu, vi x4] [vi 0, vl x2] _ _
      refine wp_i2l rfl ?_
      refine wp_ladd rfl ?_
      have g4 := H.1
      replace H := H.2
      refine Wp.topL (y := (x2 + 0)) (w64_I g4) ?_
      refine wp_lstore (L2 := [vr 69, vr 85, vl (x2 + 0), vu, vi x4]) rfl (Nat.le_of_ble_eq_true rfl) rfl ?_
      have g5 := H.1
      replace H := H.2
      refine wp_iincR (L2 := [vr 69, vr 85, vl (x2 + 0), vu, vi (x4 + 1)]) rfl rfl g5 rfl ?_
      refine wp_goto (tn := 5) rfl rfl ?_
      exact H
    · replace H := H.2 c3
      refine wp_iload rfl rfl ?_
      refine wp_ifltF (tn := 22) rfl rfl (by decide) ?_
      refine wp_iload rfl rfl ?_
      refine wp_aload rfl rfl ?_
      refine wp_getI (j := 2) rfl (congrArg Prod.fst (kf_85 X.1)) rfl ?_
      refine wp_iload rfl rfl ?_
      refine wp_isub rfl ?_
      have g6 := H.1
      replace H := H.2
      refine Wp.topI (y := ((h 85 2) - 1)) (w32_I g6) ?_
      refine wp_icgt (tn := 22) rfl rfl (fun c7 => ?_) (fun c7 => ?_)
      · replace H := H.1 c7
        refine wp_iconst rfl ?_
        refine wp_zret rfl rfl (by decide) ?_
        show Wp X _ 227 6 [vr 85, vi x4] [vi 0] _ _
        refine wp_ifeqT (tn := 18) rfl rfl (by decide) ?_
        refine wp_iconst rfl ?_
        refine wp_iret rfl rfl ?_
        show Wp X _ 178 18 [vr 69, vr 85, vl x2, vu, vi x4] [vi 0] _ _
        refine wp_ifgeT (tn := 23) rfl rfl (by decide) ?_
        refine wp_lload rfl rfl ?_
        refine wp_aload rfl rfl ?_
        refine wp_iload rfl rfl ?_
        refine wp_call (k := 227) (ρ2 := 1) (L2 := [vr 85, vi x4]) rfl rfl rfl (Nat.le_of_ble_eq_true rfl) (Nat.le_of_ble_eq_true rfl) (Nat.le_of_ble_eq_true rfl) (rcv_V rfl (congrArg Prod.fst (kf_85 X.1))) rfl ?_
        refine wp_aload rfl rfl ?_
        refine wp_iload rfl rfl ?_
        refine wp_iconst rfl ?_
        refine wp_call (k := 226) (ρ2 := 0) (L2 := [vr 85, vi x4, vi 1]) rfl rfl rfl (Nat.le_of_ble_eq_true rfl) (Nat.le_of_ble_eq_true rfl) (Nat.le_of_ble_eq_true rfl) (rcv_V rfl (congrArg Prod.fst (kf_85 X.1))) rfl ?_
        refine wp_iload rfl rfl ?_
        refine wp_ifltF (tn := 22) rfl rfl c3 ?_
        refine wp_iload rfl rfl ?_
        refine wp_ifltF (tn := 22) rfl rfl (by decide) ?_
        refine wp_iload rfl rfl ?_
        refine wp_aload rfl rfl ?_
        refine wp_getI (j := 2) rfl (congrArg Prod.fst (kf_85 X.1)) rfl ?_
        refine wp_iload rfl rfl ?_
        refine wp_isub rfl ?_
        refine Wp.topI (y := ((h 85 2) - 1)) (w32_I g6) ?_
        refine wp_icgtT (tn := 22) rfl rfl c7 ?_
        refine wp_iconst rfl ?_
        refine wp_zret rfl rfl (by decide) ?_
        show Wp X _ 227 6 [vr 85, vi x4] [vi 0] _ _
        refine wp_ifeqT (tn := 18) rfl rfl (by decide) ?_
        refine wp_iconst rfl ?_
        refine wp_iret rfl rfl ?_
        show Wp X _ 178 30 [vr 69, vr 85, vl x2, vu, vi x4] [vi 0, vl x2] _ _
        refine wp_i2l rfl ?_
        refine wp_ladd rfl ?_
        have g8 := H.1
        replace H := H.2
        refine Wp.topL (y := (x2 + 0)) (w64_I g8) ?_
        refine wp_lstore (L2 := [vr 69, vr 85, vl (x2 + 0), vu, vi x4]) rfl (Nat.le_of_ble_eq_true rfl) rfl ?_
        refine wp_iincR (L2 := [vr 69, vr 85, vl (x2 + 0), vu, vi (x4 + 1)]) rfl rfl (by clear H; unfold R32; omega) rfl ?_
        refine wp_goto (tn := 5) rfl rfl ?_
        exact H
      · replace H := H.2 c7
        refine wp_iconst rfl ?_
        refine wp_goto (tn := 23) rfl rfl ?_
        refine wp_zret rfl rfl (by decide) ?_
        show Wp X _ 227 6 [vr 85, vi x4] [vi 1] _ _
        refine wp_ifeqF (tn := 18) rfl rfl (by decide) ?_
        refine wp_aload rfl rfl ?_
        refine wp_getR (r := 85) rfl (congrArg Prod.fst (kf_85 X.1)) rfl ?_
        refine wp_iload rfl rfl ?_
        refine wp_iaload rfl (kf_86 X.1) ⟨c3, (by clear H; omega)⟩ ?_
        refine wp_goto (tn := 19) rfl rfl ?_
        refine wp_iret rfl rfl ?_
        show Wp X _ 178 18 [vr 69, vr 85, vl x2, vu, vi x4] [vi (h 86 x4)] _ _
        refine wp_ifge (tn := 23) rfl rfl (fun c9 => ?_) (fun c9 => ?_)
        · replace H := H.1 c9
          refine wp_lload rfl rfl ?_
          refine wp_aload rfl rfl ?_
          refine wp_iload rfl rfl ?_
          refine wp_call (k := 227) (ρ2 := 1) (L2 := [vr 85, vi x4]) rfl rfl rfl (Nat.le_of_ble_eq_true rfl) (Nat.le_of_ble_eq_true rfl) (Nat.le_of_ble_eq_true rfl) (rcv_V rfl (congrArg Prod.fst (kf_85 X.1))) rfl ?_
          refine wp_aload rfl rfl ?_
          refine wp_iload rfl rfl ?_
          refine wp_iconst rfl ?_
          refine wp_call (k := 226) (ρ2 := 0) (L2 := [vr 85, vi x4, vi 1]) rfl rfl rfl (Nat.le_of_ble_eq_true rfl) (Nat.le_of_ble_eq_true rfl) (Nat.le_of_ble_eq_true rfl) (rcv_V rfl (congrArg Prod.fst (kf_85 X.1))) rfl ?_
          refine wp_iload rfl rfl ?_
          refine wp_ifltF (tn := 22) rfl rfl c3 ?_
          refine wp_iload rfl rfl ?_
          refine wp_ifltF (tn := 22) rfl rfl (by decide) ?_
          refine wp_iload rfl rfl ?_
          refine wp_aload rfl rfl ?_
          refine wp_getI (j := 2) rfl (congrArg Prod.fst (kf_85 X.1)) rfl ?_
          refine wp_iload rfl rfl ?_
          refine wp_isub rfl ?_
          refine Wp.topI (y := ((h 85 2) - 1)) (w32_I g6) ?_
          refine wp_icgtF (tn := 22) rfl rfl c7 ?_
          refine wp_iconst rfl ?_
          refine wp_goto (tn := 23) rfl rfl ?_
          refine wp_zret rfl rfl (by decide) ?_
          show Wp X _ 227 6 [vr 85, vi x4] [vi 1] _ _
          refine wp_ifeqF (tn := 18) rfl rfl (by decide) ?_
          refine wp_aload rfl rfl ?_
          refine wp_getR (r := 85) rfl (congrArg Prod.fst (kf_85 X.1)) rfl ?_
          refine wp_iload rfl rfl ?_
          refine wp_iaload rfl (kf_86 X.1) ⟨c3, (by clear H; omega)⟩ ?_
          refine wp_goto (tn := 19) rfl rfl ?_
          refine wp_iret rfl rfl ?_
          show Wp X _ 178 30 [vr 69, vr 85, vl x2, vu, vi x4] [vi (h 86 x4), vl x2] _ _
          refine wp_i2l rfl ?_
          refine wp_ladd rfl ?_
          have g10 := H.1
          replace H := H.2
          refine Wp.topL (y := (x2 + (h 86 x4))) (w64_I g10) ?_
          refine wp_lstore (L2 := [vr 69, vr 85, vl (x2 + (h 86 x4)), vu, vi x4]) rfl (Nat.le_of_ble_eq_true rfl) rfl ?_
          refine wp_iincR (L2 := [vr 69, vr 85, vl (x2 + (h 86 x4)), vu, vi (x4 + 1)]) rfl rfl (by clear H; unfold R32; omega) rfl ?_
          refine wp_goto (tn := 5) rfl rfl ?_
          exact H
        · replace H := H.2 c9
          refine wp_iconst rfl ?_
          exact wp_zret rfl rfl (by decide) H
/-- Odds.take(L$Sheet;)Z, from 52 -/
theorem S178_69_85_52 {X : Nat × (Int → Int)} {h : HP} {Q : bQ} (zx2 : aV) (x4 : Int) (H : ((8 ≤ x4 → Q (some (vi 1)) h) ∧ (x4 < 8 → ((x4 < 0 → ((0 ≤ x4 ∧ x4 < 8) ∧ Wp X 2 178 52 [vr 69, vr 85, zx2, vu, vi (x4 + 1)] [] (upd2 h 70 x4 0) Q)) ∧ (0 ≤ x4 → ((R32 ((h 85 2) - 1)) ∧ ((((h 85 2) - 1) < x4 → Wp X 2 178 52 [vr 69, vr 85, zx2, vu, vi (x4 + 1)] [] (upd2 h 70 x4 0) Q) ∧ (x4 ≤ ((h 85 2) - 1) → Wp X 2 178 52 [vr 69, vr 85, zx2, vu, vi (x4 + 1)] [] (upd2 h 70 x4 (h 86 x4)) Q)))))))) : Wp X 2 178 52 [vr 69, vr 85, zx2, vu, vi x4] [] h Q := by
  refine wp_iload rfl rfl ?_
  refine wp_iconst rfl ?_
  refine wp_icge (tn := 78) rfl rfl (fun c1 => ?_) (fun c1 => ?_)
  · replace H := H.1 c1
    refine wp_iconst rfl ?_
    exact wp_zret rfl rfl (by decide) H
  · replace H := H.2 c1
    refine wp_aload rfl rfl ?_
    refine wp_getR (r := 69) rfl (congrArg Prod.fst (kf_69 X.1)) rfl ?_
    refine wp_iload rfl rfl ?_
    refine wp_aload rfl rfl ?_
    refine wp_iload rfl rfl ?_
    refine wp_call (k := 227) (ρ2 := 1) (L2 := [vr 85, vi x4]) rfl rfl rfl (Nat.le_of_ble_eq_true rfl) (Nat.le_of_ble_eq_true rfl) (Nat.le_of_ble_eq_true rfl) (rcv_V rfl (congrArg Prod.fst (kf_85 X.1))) rfl ?_
    refine wp_aload rfl rfl ?_
    refine wp_iload rfl rfl ?_
    refine wp_iconst rfl ?_
    refine wp_call (k := 226) (ρ2 := 0) (L2 := [vr 85, vi x4, vi 1]) rfl rfl rfl (Nat.le_of_ble_eq_true rfl) (Nat.le_of_ble_eq_true rfl) (Nat.le_of_ble_eq_true rfl) (rcv_V rfl (congrArg Prod.fst (kf_85 X.1))) rfl ?_
    refine wp_iload rfl rfl ?_
    refine wp_iflt (tn := 22) rfl rfl (fun c2 => ?_) (fun c2 => ?_)
    · replace H := H.1 c2
      refine wp_iconst rfl ?_
      refine wp_zret rfl rfl (by decide) ?_
      show Wp X _ 227 6 [vr 85, vi x4] [vi 0] _ _
      refine wp_ifeqT (tn := 18) rfl rfl (by decide) ?_
      refine wp_iconst rfl ?_
      refine wp_iret rfl rfl ?_
      show Wp X _ 178 71 [vr 69, vr 85, zx2, vu, vi x4] [vi 0, vi x4, vr 70] _ _
      have g3 := H.1
      replace H := H.2
      refine wp_iastore rfl (kf_70 X.1) g3 ?_
      refine wp_iincR (L2 := [vr 69, vr 85, zx2, vu, vi (x4 + 1)]) rfl rfl (by clear H; unfold R32; omega) rfl ?_
      refine wp_goto (tn := 52) rfl rfl ?_
      exact H
    · replace H := H.2 c2
      refine wp_iload rfl rfl ?_
      refine wp_ifltF (tn := 22) rfl rfl (by decide) ?_
      refine wp_iload rfl rfl ?_
      refine wp_aload rfl rfl ?_
      refine wp_getI (j := 2) rfl (congrArg Prod.fst (kf_85 X.1)) rfl ?_
      refine wp_iload rfl rfl ?_
      refine wp_isub rfl ?_
      have g4 := H.1
      replace H := H.2
      refine Wp.topI (y := ((h 85 2) - 1)) (w32_I g4) ?_
      refine wp_icgt (tn := 22) rfl rfl (fun c5 => ?_) (fun c5 => ?_)
      · replace H := H.1 c5
        refine wp_iconst rfl ?_
        refine wp_zret rfl rfl (by decide) ?_
        show Wp X _ 227 6 [vr 85, vi x4] [vi 0] _ _
        refine wp_ifeqT (tn := 18) rfl rfl (by decide) ?_
        refine wp_iconst rfl ?_
        refine wp_iret rfl rfl ?_
        show Wp X _ 178 71 [vr 69, vr 85, zx2, vu, vi x4] [vi 0, vi x4, vr 70] _ _
        refine wp_iastore rfl (kf_70 X.1) ⟨c2, c1⟩ ?_
        refine wp_iincR (L2 := [vr 69, vr 85, zx2, vu, vi (x4 + 1)]) rfl rfl (by clear H; unfold R32; omega) rfl ?_
        refine wp_goto (tn := 52) rfl rfl ?_
        exact H
      · replace H := H.2 c5
        refine wp_iconst rfl ?_
        refine wp_goto (tn := 23) rfl rfl ?_
        refine wp_zret rfl rfl (by decide) ?_
        show Wp X _ 227 6 [vr 85, vi x4] [vi 1] _ _
        refine wp_ifeqF (tn := 18) rfl rfl (by decide) ?_
        refine wp_aload rfl rfl ?_
        refine wp_getR (r := 85) rfl (congrArg Prod.fst (kf_85 X.1)) rfl ?_
        refine wp_iload rfl rfl ?_
        refine wp_iaload rfl (kf_86 X.1) ⟨c2, (by clear H; omega)⟩ ?_
        refine wp_goto (tn := 19) rfl rfl ?_
        refine wp_iret rfl rfl ?_
        show Wp X _ 178 71 [vr 69, vr 85, zx2, vu, vi x4] [vi (h 86 x4), vi x4, vr 70] _ _
        refine wp_iastore rfl (kf_70 X.1) ⟨c2, c1⟩ ?_
        refine wp_iincR (L2 := [vr 69, vr 85, zx2, vu, vi (x4 + 1)]) rfl rfl (by clear H; unfold R32; omega) rfl ?_
        refine wp_goto (tn := 52) rfl rfl ?_
        exact H
/-- Odds.take(L$Sheet;)Z, from 0 -/
theorem S178_69_87_0 {X : Nat × (Int → Int)} {h : HP} {Q : bQ}  (H : Wp X 2 178 5 [vr 69, vr 87, vl 0, vu, vi 0] [] h Q) : Wp X 2 178 0 [vr 69, vr 87, vu, vu, vu] [] h Q := by
  refine wp_sipush rfl ?_
  refine wp_lstore (L2 := [vr 69, vr 87, vl 0, vu, vu]) rfl (Nat.le_of_ble_eq_true rfl) rfl ?_
  refine wp_iconst rfl ?_
  refine wp_istore (L2 := [vr 69, vr 87, vl 0, vu, vi 0]) rfl (Nat.le_of_ble_eq_true rfl) rfl ?_
  exact H
/-- Odds.take(L$Sheet;)Z, from 5 -/
theorem S178_69_87_5 {X : Nat × (Int → Int)} {h : HP} {Q : bQ} (x2 : Int) (x4 : Int) (H : ((8 ≤ x4 → (((lcp x2 64) = 0 → Wp X 2 178 52 [vr 69, vr 87, vl x2, vu, vi 0] [] h Q) ∧ ((lcp x2 64) ≠ 0 → Q (some (vi 0)) h))) ∧ (x4 < 8 → ((x4 < 0 → ((R64 (x2 + 0)) ∧ ((R32 (x4 + 1)) ∧ Wp X 2 178 5 [vr 69, vr 87, vl (x2 + 0), vu, vi (x4 + 1)] [] h Q))) ∧ (0 ≤ x4 → ((R32 ((h 87 2) - 1)) ∧ ((((h 87 2) - 1) < x4 → ((R64 (x2 + 0)) ∧ Wp X 2 178 5 [vr 69, vr 87, vl (x2 + 0), vu, vi (x4 + 1)] [] h Q)) ∧ (x4 ≤ ((h 87 2) - 1) → ((0 ≤ (h 88 x4) → ((R64 (x2 + (h 88 x4))) ∧ Wp X 2 178 5 [vr 69, vr 87, vl (x2 + (h 88 x4)), vu, vi (x4 + 1)] [] h Q)) ∧ ((h 88 x4) < 0 → Q (some (vi 0)) h)))))))))) : Wp X 2 178 5 [vr 69, vr 87, vl x2, vu, vi x4] [] h Q := by
  refine wp_iload rfl rfl ?_
  refine wp_iconst rfl ?_
  refine wp_icge (tn := 39) rfl rfl (fun c1 => ?_) (fun c1 => ?_)
  · replace H := H.1 c1
    refine wp_lload rfl rfl ?_
    refine wp_sipush rfl ?_
    refine wp_lcmp rfl ?_
    refine wp_ifeq (tn := 49) rfl rfl (fun c2 => ?_) (fun c2 => ?_)
    · replace H := H.1 c2
      refine wp_iconst rfl ?_
      refine wp_istore (L2 := [vr 69, vr 87, vl x2, vu, vi 0]) rfl (Nat.le_of_ble_eq_true rfl) rfl ?_
      exact H
    · replace H := H.2 c2
      refine wp_iconst rfl ?_
      exact wp_zret rfl rfl (by decide) H
  · replace H := H.2 c1
    refine wp_aload rfl rfl ?_
    refine wp_iload rfl rfl ?_
    refine wp_call (k := 227) (ρ2 := 1) (L2 := [vr 87, vi x4]) rfl rfl rfl (Nat.le_of_ble_eq_true rfl) (Nat.le_of_ble_eq_true rfl) (Nat.le_of_ble_eq_true rfl) (rcv_V rfl (congrArg Prod.fst (kf_87 X.1))) rfl ?_
    refine wp_aload rfl rfl ?_
    refine wp_iload rfl rfl ?_
    refine wp_iconst rfl ?_
    refine wp_call (k := 226) (ρ2 := 0) (L2 := [vr 87, vi x4, vi 1]) rfl rfl rfl (Nat.le_of_ble_eq_true rfl) (Nat.le_of_ble_eq_true rfl) (Nat.le_of_ble_eq_true rfl) (rcv_V rfl (congrArg Prod.fst (kf_87 X.1))) rfl ?_
    refine wp_iload rfl rfl ?_
    refine wp_iflt (tn := 22) rfl rfl (fun c3 => ?_) (fun c3 => ?_)
    · replace H := H.1 c3
      refine wp_iconst rfl ?_
      refine wp_zret rfl rfl (by decide) ?_
      show Wp X _ 227 6 [vr 87, vi x4] [vi 0] _ _
      refine wp_ifeqT (tn := 18) rfl rfl (by decide) ?_
      refine wp_iconst rfl ?_
      refine wp_iret rfl rfl ?_
      show Wp X _ 178 18 [vr 69, vr 87, vl x2, vu, vi x4] [vi 0] _ _
      refine wp_ifgeT (tn := 23) rfl rfl (by decide) ?_
      refine wp_lload rfl rfl ?_
      refine wp_aload rfl rfl ?_
      refine wp_iload rfl rfl ?_
      refine wp_call (k := 227) (ρ2 := 1) (L2 := [vr 87, vi x4]) rfl rfl rfl (Nat.le_of_ble_eq_true rfl) (Nat.le_of_ble_eq_true rfl) (Nat.le_of_ble_eq_true rfl) (rcv_V rfl (congrArg Prod.fst (kf_87 X.1))) rfl ?_
      refine wp_aload rfl rfl ?_
      refine wp_iload rfl rfl ?_
      refine wp_iconst rfl ?_
      refine wp_call (k := 226) (ρ2 := 0) (L2 := [vr 87, vi x4, vi 1]) rfl rfl rfl (Nat.le_of_ble_eq_true rfl) (Nat.le_of_ble_eq_true rfl) (Nat.le_of_ble_eq_true rfl) (rcv_V rfl (congrArg Prod.fst (kf_87 X.1))) rfl ?_
      refine wp_iload rfl rfl ?_
      refine wp_ifltT (tn := 22) rfl rfl c3 ?_
      refine wp_iconst rfl ?_
      refine wp_zret rfl rfl (by decide) ?_
      show Wp X _ 227 6 [vr 87, vi x4] [vi 0] _ _
      refine wp_ifeqT (tn := 18) rfl rfl (by decide) ?_
      refine wp_iconst rfl ?_
      refine wp_iret rfl rfl ?_
      show Wp X _ 178 30 [vr 69, vr 87, vl x2, vu, vi x4] [vi 0, vl x2] _ _
      refine wp_i2l rfl ?_
      refine wp_ladd rfl ?_
      have g4 := H.1
      replace H := H.2
      refine Wp.topL (y := (x2 + 0)) (w64_I g4) ?_
      refine wp_lstore (L2 := [vr 69, vr 87, vl (x2 + 0), vu, vi x4]) rfl (Nat.le_of_ble_eq_true rfl) rfl ?_
      have g5 := H.1
      replace H := H.2
      refine wp_iincR (L2 := [vr 69, vr 87, vl (x2 + 0), vu, vi (x4 + 1)]) rfl rfl g5 rfl ?_
      refine wp_goto (tn := 5) rfl rfl ?_
      exact H
    · replace H := H.2 c3
      refine wp_iload rfl rfl ?_
      refine wp_ifltF (tn := 22) rfl rfl (by decide) ?_
      refine wp_iload rfl rfl ?_
      refine wp_aload rfl rfl ?_
      refine wp_getI (j := 2) rfl (congrArg Prod.fst (kf_87 X.1)) rfl ?_
      refine wp_iload rfl rfl ?_
      refine wp_isub rfl ?_
      have g6 := H.1
      replace H := H.2
      refine Wp.topI (y := ((h 87 2) - 1)) (w32_I g6) ?_
      refine wp_icgt (tn := 22) rfl rfl (fun c7 => ?_) (fun c7 => ?_)
      · replace H := H.1 c7
        refine wp_iconst rfl ?_
        refine wp_zret rfl rfl (by decide) ?_
        show Wp X _ 227 6 [vr 87, vi x4] [vi 0] _ _
        refine wp_ifeqT (tn := 18) rfl rfl (by decide) ?_
        refine wp_iconst rfl ?_
        refine wp_iret rfl rfl ?_
        show Wp X _ 178 18 [vr 69, vr 87, vl x2, vu, vi x4] [vi 0] _ _
        refine wp_ifgeT (tn := 23) rfl rfl (by decide) ?_
        refine wp_lload rfl rfl ?_
        refine wp_aload rfl rfl ?_
        refine wp_iload rfl rfl ?_
        refine wp_call (k := 227) (ρ2 := 1) (L2 := [vr 87, vi x4]) rfl rfl rfl (Nat.le_of_ble_eq_true rfl) (Nat.le_of_ble_eq_true rfl) (Nat.le_of_ble_eq_true rfl) (rcv_V rfl (congrArg Prod.fst (kf_87 X.1))) rfl ?_
        refine wp_aload rfl rfl ?_
        refine wp_iload rfl rfl ?_
        refine wp_iconst rfl ?_
        refine wp_call (k := 226) (ρ2 := 0) (L2 := [vr 87, vi x4, vi 1]) rfl rfl rfl (Nat.le_of_ble_eq_true rfl) (Nat.le_of_ble_eq_true rfl) (Nat.le_of_ble_eq_true rfl) (rcv_V rfl (congrArg Prod.fst (kf_87 X.1))) rfl ?_
        refine wp_iload rfl rfl ?_
        refine wp_ifltF (tn := 22) rfl rfl c3 ?_
        refine wp_iload rfl rfl ?_
        refine wp_ifltF (tn := 22) rfl rfl (by decide) ?_
        refine wp_iload rfl rfl ?_
        refine wp_aload rfl rfl ?_
        refine wp_getI (j := 2) rfl (congrArg Prod.fst (kf_87 X.1)) rfl ?_
        refine wp_iload rfl rfl ?_
        refine wp_isub rfl ?_
        refine Wp.topI (y := ((h 87 2) - 1)) (w32_I g6) ?_
        refine wp_icgtT (tn := 22) rfl rfl c7 ?_
        refine wp_iconst rfl ?_
        refine wp_zret rfl rfl (by decide) ?_
        show Wp X _ 227 6 [vr 87, vi x4] [vi 0] _ _
        refine wp_ifeqT (tn := 18) rfl rfl (by decide) ?_
        refine wp_iconst rfl ?_
        refine wp_iret rfl rfl ?_
        show Wp X _ 178 30 [vr 69, vr 87, vl x2, vu, vi x4] [vi 0, vl x2] _ _
        refine wp_i2l rfl ?_
        refine wp_ladd rfl ?_
        have g8 := H.1
        replace H := H.2
        refine Wp.topL (y := (x2 + 0)) (w64_I g8) ?_
        refine wp_lstore (L2 := [vr 69, vr 87, vl (x2 + 0), vu, vi x4]) rfl (Nat.le_of_ble_eq_true rfl) rfl ?_
        refine wp_iincR (L2 := [vr 69, vr 87, vl (x2 + 0), vu, vi (x4 + 1)]) rfl rfl (by clear H; unfold R32; omega) rfl ?_
        refine wp_goto (tn := 5) rfl rfl ?_
        exact H
      · replace H := H.2 c7
        refine wp_iconst rfl ?_
        refine wp_goto (tn := 23) rfl rfl ?_
        refine wp_zret rfl rfl (by decide) ?_
        show Wp X _ 227 6 [vr 87, vi x4] [vi 1] _ _
        refine wp_ifeqF (tn := 18) rfl rfl (by decide) ?_
        refine wp_aload rfl rfl ?_
        refine wp_getR (r := 87) rfl (congrArg Prod.fst (kf_87 X.1)) rfl ?_
        refine wp_iload rfl rfl ?_
        refine wp_iaload rfl (kf_88 X.1) ⟨c3, (by clear H; omega)⟩ ?_
        refine wp_goto (tn := 19) rfl rfl ?_
        refine wp_iret rfl rfl ?_
        show Wp X _ 178 18 [vr 69, vr 87, vl x2, vu, vi x4] [vi (h 88 x4)] _ _
        refine wp_ifge (tn := 23) rfl rfl (fun c9 => ?_) (fun c9 => ?_)
        · replace H := H.1 c9
          refine wp_lload rfl rfl ?_
          refine wp_aload rfl rfl ?_
          refine wp_iload rfl rfl ?_
          refine wp_call (k := 227) (ρ2 := 1) (L2 := [vr 87, vi x4]) rfl rfl rfl (Nat.le_of_ble_eq_true rfl) (Nat.le_of_ble_eq_true rfl) (Nat.le_of_ble_eq_true rfl) (rcv_V rfl (congrArg Prod.fst (kf_87 X.1))) rfl ?_
          refine wp_aload rfl rfl ?_
          refine wp_iload rfl rfl ?_
          refine wp_iconst rfl ?_
          refine wp_call (k := 226) (ρ2 := 0) (L2 := [vr 87, vi x4, vi 1]) rfl rfl rfl (Nat.le_of_ble_eq_true rfl) (Nat.le_of_ble_eq_true rfl) (Nat.le_of_ble_eq_true rfl) (rcv_V rfl (congrArg Prod.fst (kf_87 X.1))) rfl ?_
          refine wp_iload rfl rfl ?_
          refine wp_ifltF (tn := 22) rfl rfl c3 ?_
          refine wp_iload rfl rfl ?_
          refine wp_ifltF (tn := 22) rfl rfl (by decide) ?_
          refine wp_iload rfl rfl ?_
          refine wp_aload rfl rfl ?_
          refine wp_getI (j := 2) rfl (congrArg Prod.fst (kf_87 X.1)) rfl ?_
          refine wp_iload rfl rfl ?_
          refine wp_isub rfl ?_
          refine Wp.topI (y := ((h 87 2) - 1)) (w32_I g6) ?_
          refine wp_icgtF (tn := 22) rfl rfl c7 ?_
          refine wp_iconst rfl ?_
          refine wp_goto (tn := 23) rfl rfl ?_
          refine wp_zret rfl rfl (by decide) ?_
          show Wp X _ 227 6 [vr 87, vi x4] [vi 1] _ _
          refine wp_ifeqF (tn := 18) rfl rfl (by decide) ?_
          refine wp_aload rfl rfl ?_
          refine wp_getR (r := 87) rfl (congrArg Prod.fst (kf_87 X.1)) rfl ?_
          refine wp_iload rfl rfl ?_
          refine wp_iaload rfl (kf_88 X.1) ⟨c3, (by clear H; omega)⟩ ?_
          refine wp_goto (tn := 19) rfl rfl ?_
          refine wp_iret rfl rfl ?_
          show Wp X _ 178 30 [vr 69, vr 87, vl x2, vu, vi x4] [vi (h 88 x4), vl x2] _ _
          refine wp_i2l rfl ?_
          refine wp_ladd rfl ?_
          have g10 := H.1
          replace H := H.2
          refine Wp.topL (y := (x2 + (h 88 x4))) (w64_I g10) ?_
          refine wp_lstore (L2 := [vr 69, vr 87, vl (x2 + (h 88 x4)), vu, vi x4]) rfl (Nat.le_of_ble_eq_true rfl) rfl ?_
          refine wp_iincR (L2 := [vr 69, vr 87, vl (x2 + (h 88 x4)), vu, vi (x4 + 1)]) rfl rfl (by clear H; unfold R32; omega) rfl ?_
          refine wp_goto (tn := 5) rfl rfl ?_
          exact H
        · replace H := H.2 c9
          refine wp_iconst rfl ?_
          exact wp_zret rfl rfl (by decide) H
/-- Odds.take(L$Sheet;)Z, from 52 -/
theorem S178_69_87_52 {X : Nat × (Int → Int)} {h : HP} {Q : bQ} (zx2 : aV) (x4 : Int) (H : ((8 ≤ x4 → Q (some (vi 1)) h) ∧ (x4 < 8 → ((x4 < 0 → ((0 ≤ x4 ∧ x4 < 8) ∧ Wp X 2 178 52 [vr 69, vr 87, zx2, vu, vi (x4 + 1)] [] (upd2 h 70 x4 0) Q)) ∧ (0 ≤ x4 → ((R32 ((h 87 2) - 1)) ∧ ((((h 87 2) - 1) < x4 → Wp X 2 178 52 [vr 69, vr 87, zx2, vu, vi (x4 + 1)] [] (upd2 h 70 x4 0) Q) ∧ (x4 ≤ ((h 87 2) - 1) → Wp X 2 178 52 [vr 69, vr 87, zx2, vu, vi (x4 + 1)] [] (upd2 h 70 x4 (h 88 x4)) Q)))))))) : Wp X 2 178 52 [vr 69, vr 87, zx2, vu, vi x4] [] h Q := by
  refine wp_iload rfl rfl ?_
  refine wp_iconst rfl ?_
  refine wp_icge (tn := 78) rfl rfl (fun c1 => ?_) (fun c1 => ?_)
  · replace H := H.1 c1
    refine wp_iconst rfl ?_
    exact wp_zret rfl rfl (by decide) H
  · replace H := H.2 c1
    refine wp_aload rfl rfl ?_
    refine wp_getR (r := 69) rfl (congrArg Prod.fst (kf_69 X.1)) rfl ?_
    refine wp_iload rfl rfl ?_
    refine wp_aload rfl rfl ?_
    refine wp_iload rfl rfl ?_
    refine wp_call (k := 227) (ρ2 := 1) (L2 := [vr 87, vi x4]) rfl rfl rfl (Nat.le_of_ble_eq_true rfl) (Nat.le_of_ble_eq_true rfl) (Nat.le_of_ble_eq_true rfl) (rcv_V rfl (congrArg Prod.fst (kf_87 X.1))) rfl ?_
    refine wp_aload rfl rfl ?_
    refine wp_iload rfl rfl ?_
    refine wp_iconst rfl ?_
    refine wp_call (k := 226) (ρ2 := 0) (L2 := [vr 87, vi x4, vi 1]) rfl rfl rfl (Nat.le_of_ble_eq_true rfl) (Nat.le_of_ble_eq_true rfl) (Nat.le_of_ble_eq_true rfl) (rcv_V rfl (congrArg Prod.fst (kf_87 X.1))) rfl ?_
    refine wp_iload rfl rfl ?_
    refine wp_iflt (tn := 22) rfl rfl (fun c2 => ?_) (fun c2 => ?_)
    · replace H := H.1 c2
      refine wp_iconst rfl ?_
      refine wp_zret rfl rfl (by decide) ?_
      show Wp X _ 227 6 [vr 87, vi x4] [vi 0] _ _
      refine wp_ifeqT (tn := 18) rfl rfl (by decide) ?_
      refine wp_iconst rfl ?_
      refine wp_iret rfl rfl ?_
      show Wp X _ 178 71 [vr 69, vr 87, zx2, vu, vi x4] [vi 0, vi x4, vr 70] _ _
      have g3 := H.1
      replace H := H.2
      refine wp_iastore rfl (kf_70 X.1) g3 ?_
      refine wp_iincR (L2 := [vr 69, vr 87, zx2, vu, vi (x4 + 1)]) rfl rfl (by clear H; unfold R32; omega) rfl ?_
      refine wp_goto (tn := 52) rfl rfl ?_
      exact H
    · replace H := H.2 c2
      refine wp_iload rfl rfl ?_
      refine wp_ifltF (tn := 22) rfl rfl (by decide) ?_
      refine wp_iload rfl rfl ?_
      refine wp_aload rfl rfl ?_
      refine wp_getI (j := 2) rfl (congrArg Prod.fst (kf_87 X.1)) rfl ?_
      refine wp_iload rfl rfl ?_
      refine wp_isub rfl ?_
      have g4 := H.1
      replace H := H.2
      refine Wp.topI (y := ((h 87 2) - 1)) (w32_I g4) ?_
      refine wp_icgt (tn := 22) rfl rfl (fun c5 => ?_) (fun c5 => ?_)
      · replace H := H.1 c5
        refine wp_iconst rfl ?_
        refine wp_zret rfl rfl (by decide) ?_
        show Wp X _ 227 6 [vr 87, vi x4] [vi 0] _ _
        refine wp_ifeqT (tn := 18) rfl rfl (by decide) ?_
        refine wp_iconst rfl ?_
        refine wp_iret rfl rfl ?_
        show Wp X _ 178 71 [vr 69, vr 87, zx2, vu, vi x4] [vi 0, vi x4, vr 70] _ _
        refine wp_iastore rfl (kf_70 X.1) ⟨c2, c1⟩ ?_
        refine wp_iincR (L2 := [vr 69, vr 87, zx2, vu, vi (x4 + 1)]) rfl rfl (by clear H; unfold R32; omega) rfl ?_
        refine wp_goto (tn := 52) rfl rfl ?_
        exact H
      · replace H := H.2 c5
        refine wp_iconst rfl ?_
        refine wp_goto (tn := 23) rfl rfl ?_
        refine wp_zret rfl rfl (by decide) ?_
        show Wp X _ 227 6 [vr 87, vi x4] [vi 1] _ _
        refine wp_ifeqF (tn := 18) rfl rfl (by decide) ?_
        refine wp_aload rfl rfl ?_
        refine wp_getR (r := 87) rfl (congrArg Prod.fst (kf_87 X.1)) rfl ?_
        refine wp_iload rfl rfl ?_
        refine wp_iaload rfl (kf_88 X.1) ⟨c2, (by clear H; omega)⟩ ?_
        refine wp_goto (tn := 19) rfl rfl ?_
        refine wp_iret rfl rfl ?_
        show Wp X _ 178 71 [vr 69, vr 87, zx2, vu, vi x4] [vi (h 88 x4), vi x4, vr 70] _ _
        refine wp_iastore rfl (kf_70 X.1) ⟨c2, c1⟩ ?_
        refine wp_iincR (L2 := [vr 69, vr 87, zx2, vu, vi (x4 + 1)]) rfl rfl (by clear H; unfold R32; omega) rfl ?_
        refine wp_goto (tn := 52) rfl rfl ?_
        exact H
/-- Odds.follow(L$ZoneRules;II)V, from 0 -/
theorem S179_69_49_0 {X : Nat × (Int → Int)} {h : HP} {Q : bQ} (x2 : Int) (x3 : Int) (H : Wp X 2 180 0 [vr 69, vr 49, vi x3, vu, vu, vu] [] h (fun v h' => Wp X 3 179 6 [vr 69, vr 49, vi x2, vi x3, vu, vu] (psh v []) h' Q)) : Wp X 3 179 0 [vr 69, vr 49, vi x2, vi x3, vu, vu] [] h Q := by
  refine wp_aload rfl rfl ?_
  refine wp_aload rfl rfl ?_
  refine wp_iload rfl rfl ?_
  exact wp_call (k := 180) (ρ2 := 2) (L2 := [vr 69, vr 49, vi x3, vu, vu, vu]) rfl rfl rfl (Nat.le_of_ble_eq_true rfl) (Nat.le_of_ble_eq_true rfl) (Nat.le_of_ble_eq_true rfl) (rcv_V rfl (congrArg Prod.fst (kf_69 X.1))) rfl H
/-- Odds.follow(L$ZoneRules;II)V, from 6 -/
theorem S179_69_49_6 {X : Nat × (Int → Int)} {h : HP} {Q : bQ} (x2 : Int) (zx3 : aV) (H : ((R32 ((h 49 4) - 1)) ∧ ((0 < ((h 49 4) - 1) → (((h 69 2) = 72 ∨ (h 69 2) = 73) ∧ (((h 69 2) = 72 → Wp X 3 179 38 [vr 69, vr 49, vi x2, (clr1 zx3), vi ((h 49 4) - 1), vi 0] [] (upd2 (upd2 (upd2 h 72 0 1) 69 5 0) 69 6 1) Q) ∧ ((h 69 2) = 73 → Wp X 3 179 38 [vr 69, vr 49, vi x2, (clr1 zx3), vi ((h 49 4) - 1), vi 0] [] (upd2 (upd2 (upd2 h 73 0 1) 69 5 0) 69 6 1) Q)))) ∧ (((h 49 4) - 1) ≤ 0 → (((h 69 2) = 72 ∨ (h 69 2) = 73) ∧ (((h 69 2) = 72 → Wp X 3 179 38 [vr 69, vr 49, vi x2, (clr1 zx3), vi 0, vi 0] [] (upd2 (upd2 (upd2 h 72 0 1) 69 5 0) 69 6 1) Q) ∧ ((h 69 2) = 73 → Wp X 3 179 38 [vr 69, vr 49, vi x2, (clr1 zx3), vi 0, vi 0] [] (upd2 (upd2 (upd2 h 73 0 1) 69 5 0) 69 6 1) Q))))))) : Wp X 3 179 6 [vr 69, vr 49, vi x2, zx3, vu, vu] [] h Q := by
  refine wp_iconst rfl ?_
  refine wp_aload rfl rfl ?_
  refine wp_call (k := 237) (ρ2 := 0) (L2 := [vr 49]) rfl rfl rfl (Nat.le_of_ble_eq_true rfl) (Nat.le_of_ble_eq_true rfl) (Nat.le_of_ble_eq_true rfl) (rcv_V rfl (congrArg Prod.fst (kf_49 X.1))) rfl ?_
  refine wp_aload rfl rfl ?_
  refine wp_getI (j := 4) rfl (congrArg Prod.fst (kf_49 X.1)) rfl ?_
  refine wp_iret rfl rfl ?_
  show Wp X _ 179 11 [vr 69, vr 49, vi x2, zx3, vu, vu] [vi (h 49 4), vi 0] _ _
  refine wp_iconst rfl ?_
  refine wp_isub rfl ?_
  have g1 := H.1
  replace H := H.2
  refine Wp.topI (y := ((h 49 4) - 1)) (w32_I g1) ?_
  refine wp_call (k := 252) (ρ2 := 0) (L2 := [vi 0, vi ((h 49 4) - 1)]) rfl rfl rfl (Nat.le_of_ble_eq_true rfl) (Nat.le_of_ble_eq_true rfl) (Nat.le_of_ble_eq_true rfl) (rcv_S rfl) rfl ?_
  refine wp_iload rfl rfl ?_
  refine wp_iload rfl rfl ?_
  refine wp_iclt (tn := 9) rfl rfl (fun c2 => ?_) (fun c2 => ?_)
  · replace H := H.1 c2
    refine wp_iload rfl rfl ?_
    refine wp_iret rfl rfl ?_
    show Wp X _ 179 16 [vr 69, vr 49, vi x2, zx3, vu, vu] [vi ((h 49 4) - 1)] _ _
    refine wp_istore (L2 := [vr 69, vr 49, vi x2, (clr1 zx3), vi ((h 49 4) - 1), vu]) rfl (Nat.le_of_ble_eq_true rfl) rfl ?_
    refine wp_aload rfl rfl ?_
    have g3 := H.1
    replace H := H.2
    rcases g3 with c4 | c4
    · replace H := H.1 c4
      refine wp_getM (j := 2) (r := 72) rfl (congrArg Prod.fst (kf_69 X.1)) rfl c4 ?_
      refine wp_iconst rfl ?_
      refine wp_sipush rfl ?_
      refine wp_lastore rfl (kf_72 X.1) (by decide) ?_
      refine wp_aload rfl rfl ?_
      refine wp_sipush rfl ?_
      refine wp_putL (j := 5) rfl (congrArg Prod.fst (kf_69 X.1)) rfl rfl rfl ?_
      refine wp_aload rfl rfl ?_
      refine wp_sipush rfl ?_
      refine wp_putL (j := 6) rfl (congrArg Prod.fst (kf_69 X.1)) rfl rfl rfl ?_
      refine wp_iconst rfl ?_
      refine wp_istore (L2 := [vr 69, vr 49, vi x2, (clr1 zx3), vi ((h 49 4) - 1), vi 0]) rfl (Nat.le_of_ble_eq_true rfl) rfl ?_
      exact H
    · replace H := H.2 c4
      refine wp_getM (j := 2) (r := 73) rfl (congrArg Prod.fst (kf_69 X.1)) rfl c4 ?_
      refine wp_iconst rfl ?_
      refine wp_sipush rfl ?_
      refine wp_lastore rfl (kf_73 X.1) (by decide) ?_
      refine wp_aload rfl rfl ?_
      refine wp_sipush rfl ?_
      refine wp_putL (j := 5) rfl (congrArg Prod.fst (kf_69 X.1)) rfl rfl rfl ?_
      refine wp_aload rfl rfl ?_
      refine wp_sipush rfl ?_
      refine wp_putL (j := 6) rfl (congrArg Prod.fst (kf_69 X.1)) rfl rfl rfl ?_
      refine wp_iconst rfl ?_
      refine wp_istore (L2 := [vr 69, vr 49, vi x2, (clr1 zx3), vi ((h 49 4) - 1), vi 0]) rfl (Nat.le_of_ble_eq_true rfl) rfl ?_
      exact H
  · replace H := H.2 c2
    refine wp_iload rfl rfl ?_
    refine wp_goto (tn := 10) rfl rfl ?_
    refine wp_iret rfl rfl ?_
    show Wp X _ 179 16 [vr 69, vr 49, vi x2, zx3, vu, vu] [vi 0] _ _
    refine wp_istore (L2 := [vr 69, vr 49, vi x2, (clr1 zx3), vi 0, vu]) rfl (Nat.le_of_ble_eq_true rfl) rfl ?_
    refine wp_aload rfl rfl ?_
    have g5 := H.1
    replace H := H.2
    rcases g5 with c6 | c6
    · replace H := H.1 c6
      refine wp_getM (j := 2) (r := 72) rfl (congrArg Prod.fst (kf_69 X.1)) rfl c6 ?_
      refine wp_iconst rfl ?_
      refine wp_sipush rfl ?_
      refine wp_lastore rfl (kf_72 X.1) (by decide) ?_
      refine wp_aload rfl rfl ?_
      refine wp_sipush rfl ?_
      refine wp_putL (j := 5) rfl (congrArg Prod.fst (kf_69 X.1)) rfl rfl rfl ?_
      refine wp_aload rfl rfl ?_
      refine wp_sipush rfl ?_
      refine wp_putL (j := 6) rfl (congrArg Prod.fst (kf_69 X.1)) rfl rfl rfl ?_
      refine wp_iconst rfl ?_
      refine wp_istore (L2 := [vr 69, vr 49, vi x2, (clr1 zx3), vi 0, vi 0]) rfl (Nat.le_of_ble_eq_true rfl) rfl ?_
      exact H
    · replace H := H.2 c6
      refine wp_getM (j := 2) (r := 73) rfl (congrArg Prod.fst (kf_69 X.1)) rfl c6 ?_
      refine wp_iconst rfl ?_
      refine wp_sipush rfl ?_
      refine wp_lastore rfl (kf_73 X.1) (by decide) ?_
      refine wp_aload rfl rfl ?_
      refine wp_sipush rfl ?_
      refine wp_putL (j := 5) rfl (congrArg Prod.fst (kf_69 X.1)) rfl rfl rfl ?_
      refine wp_aload rfl rfl ?_
      refine wp_sipush rfl ?_
      refine wp_putL (j := 6) rfl (congrArg Prod.fst (kf_69 X.1)) rfl rfl rfl ?_
      refine wp_iconst rfl ?_
      refine wp_istore (L2 := [vr 69, vr 49, vi x2, (clr1 zx3), vi 0, vi 0]) rfl (Nat.le_of_ble_eq_true rfl) rfl ?_
      exact H
/-- Odds.follow(L$ZoneRules;II)V, from 38 -/
theorem S179_69_49_38 {X : Nat × (Int → Int)} {h : HP} {Q : bQ} (x2 : Int) (zx3 : aV) (x4 : Int) (x5 : Int) (H : ((x2 ≤ x5 → Q none h) ∧ (x5 < x2 → ((x4 < x5 → ((R32 (x5 + 1)) ∧ ((x4 < (x5 + 1) → Wp X 2 181 0 [vr 69, vr 49, vi x4, vi x4, vu, vu, vu] [] h (fun v h' => Wp X 3 179 65 [vr 69, vr 49, vi x2, zx3, vi x4, vi x5] (psh v []) h' Q)) ∧ ((x5 + 1) ≤ x4 → Wp X 2 181 0 [vr 69, vr 49, vi x4, vi (x5 + 1), vu, vu, vu] [] h (fun v h' => Wp X 3 179 65 [vr 69, vr 49, vi x2, zx3, vi x4, vi x5] (psh v []) h' Q))))) ∧ (x5 ≤ x4 → ((R32 (x5 + 1)) ∧ ((x4 < (x5 + 1) → Wp X 2 181 0 [vr 69, vr 49, vi x5, vi x4, vu, vu, vu] [] h (fun v h' => Wp X 3 179 65 [vr 69, vr 49, vi x2, zx3, vi x4, vi x5] (psh v []) h' Q)) ∧ ((x5 + 1) ≤ x4 → Wp X 2 181 0 [vr 69, vr 49, vi x5, vi (x5 + 1), vu, vu, vu] [] h (fun v h' => Wp X 3 179 65 [vr 69, vr 49, vi x2, zx3, vi x4, vi x5] (psh v []) h' Q))))))))) : Wp X 3 179 38 [vr 69, vr 49, vi x2, zx3, vi x4, vi x5] [] h Q := by
  refine wp_iload rfl rfl ?_
  refine wp_iload rfl rfl ?_
  refine wp_icge (tn := 100) rfl rfl (fun c1 => ?_) (fun c1 => ?_)
  · replace H := H.1 c1
    exact wp_vret rfl rfl H
  · replace H := H.2 c1
    refine wp_aload rfl rfl ?_
    refine wp_aload rfl rfl ?_
    refine wp_iload rfl rfl ?_
    refine wp_iload rfl rfl ?_
    refine wp_call (k := 253) (ρ2 := 0) (L2 := [vi x5, vi x4]) rfl rfl rfl (Nat.le_of_ble_eq_true rfl) (Nat.le_of_ble_eq_true rfl) (Nat.le_of_ble_eq_true rfl) (rcv_S rfl) rfl ?_
    refine wp_iload rfl rfl ?_
    refine wp_iload rfl rfl ?_
    refine wp_icgt (tn := 9) rfl rfl (fun c2 => ?_) (fun c2 => ?_)
    · replace H := H.1 c2
      refine wp_iload rfl rfl ?_
      refine wp_iret rfl rfl ?_
      show Wp X _ 179 53 [vr 69, vr 49, vi x2, zx3, vi x4, vi x5] [vi x4, vr 49, vr 69] _ _
      refine wp_iload rfl rfl ?_
      refine wp_iconst rfl ?_
      refine wp_iadd rfl ?_
      have g3 := H.1
      replace H := H.2
      refine Wp.topI (y := (x5 + 1)) (w32_I g3) ?_
      refine wp_iload rfl rfl ?_
      refine wp_call (k := 253) (ρ2 := 0) (L2 := [vi (x5 + 1), vi x4]) rfl rfl rfl (Nat.le_of_ble_eq_true rfl) (Nat.le_of_ble_eq_true rfl) (Nat.le_of_ble_eq_true rfl) (rcv_S rfl) rfl ?_
      refine wp_iload rfl rfl ?_
      refine wp_iload rfl rfl ?_
      refine wp_icgt (tn := 9) rfl rfl (fun c4 => ?_) (fun c4 => ?_)
      · replace H := H.1 c4
        refine wp_iload rfl rfl ?_
        refine wp_iret rfl rfl ?_
        show Wp X _ 179 62 [vr 69, vr 49, vi x2, zx3, vi x4, vi x5] [vi x4, vi x4, vr 49, vr 69] _ _
        exact wp_call (k := 181) (ρ2 := 2) (L2 := [vr 69, vr 49, vi x4, vi x4, vu, vu, vu]) rfl rfl rfl (Nat.le_of_ble_eq_true rfl) (Nat.le_of_ble_eq_true rfl) (Nat.le_of_ble_eq_true rfl) (rcv_V rfl (congrArg Prod.fst (kf_69 X.1))) rfl H
      · replace H := H.2 c4
        refine wp_iload rfl rfl ?_
        refine wp_goto (tn := 10) rfl rfl ?_
        refine wp_iret rfl rfl ?_
        show Wp X _ 179 62 [vr 69, vr 49, vi x2, zx3, vi x4, vi x5] [vi (x5 + 1), vi x4, vr 49, vr 69] _ _
        exact wp_call (k := 181) (ρ2 := 2) (L2 := [vr 69, vr 49, vi x4, vi (x5 + 1), vu, vu, vu]) rfl rfl rfl (Nat.le_of_ble_eq_true rfl) (Nat.le_of_ble_eq_true rfl) (Nat.le_of_ble_eq_true rfl) (rcv_V rfl (congrArg Prod.fst (kf_69 X.1))) rfl H
    · replace H := H.2 c2
      refine wp_iload rfl rfl ?_
      refine wp_goto (tn := 10) rfl rfl ?_
      refine wp_iret rfl rfl ?_
      show Wp X _ 179 53 [vr 69, vr 49, vi x2, zx3, vi x4, vi x5] [vi x5, vr 49, vr 69] _ _
      refine wp_iload rfl rfl ?_
      refine wp_iconst rfl ?_
      refine wp_iadd rfl ?_
      have g5 := H.1
      replace H := H.2
      refine Wp.topI (y := (x5 + 1)) (w32_I g5) ?_
      refine wp_iload rfl rfl ?_
      refine wp_call (k := 253) (ρ2 := 0) (L2 := [vi (x5 + 1), vi x4]) rfl rfl rfl (Nat.le_of_ble_eq_true rfl) (Nat.le_of_ble_eq_true rfl) (Nat.le_of_ble_eq_true rfl) (rcv_S rfl) rfl ?_
      refine wp_iload rfl rfl ?_
      refine wp_iload rfl rfl ?_
      refine wp_icgt (tn := 9) rfl rfl (fun c6 => ?_) (fun c6 => ?_)
      · replace H := H.1 c6
        refine wp_iload rfl rfl ?_
        refine wp_iret rfl rfl ?_
        show Wp X _ 179 62 [vr 69, vr 49, vi x2, zx3, vi x4, vi x5] [vi x4, vi x5, vr 49, vr 69] _ _
        exact wp_call (k := 181) (ρ2 := 2) (L2 := [vr 69, vr 49, vi x5, vi x4, vu, vu, vu]) rfl rfl rfl (Nat.le_of_ble_eq_true rfl) (Nat.le_of_ble_eq_true rfl) (Nat.le_of_ble_eq_true rfl) (rcv_V rfl (congrArg Prod.fst (kf_69 X.1))) rfl H
      · replace H := H.2 c6
        refine wp_iload rfl rfl ?_
        refine wp_goto (tn := 10) rfl rfl ?_
        refine wp_iret rfl rfl ?_
        show Wp X _ 179 62 [vr 69, vr 49, vi x2, zx3, vi x4, vi x5] [vi (x5 + 1), vi x5, vr 49, vr 69] _ _
        exact wp_call (k := 181) (ρ2 := 2) (L2 := [vr 69, vr 49, vi x5, vi (x5 + 1), vu, vu, vu]) rfl rfl rfl (Nat.le_of_ble_eq_true rfl) (Nat.le_of_ble_eq_true rfl) (Nat.le_of_ble_eq_true rfl) (rcv_V rfl (congrArg Prod.fst (kf_69 X.1))) rfl H
/-- Odds.follow(L$ZoneRules;II)V, from 65 -/
theorem S179_69_49_65 {X : Nat × (Int → Int)} {h : HP} {Q : bQ} (x2 : Int) (zx3 : aV) (x4 : Int) (x5 : Int) (H : ((R64 ((h 69 5) * 64)) ∧ ((R64 (((h 69 5) * 64) + (h 69 4))) ∧ ((R64 ((h 69 6) * 64)) ∧ ((R32 (x5 + 1)) ∧ Wp X 3 179 38 [vr 69, vr 49, vi x2, zx3, vi x4, vi (x5 + 1)] [] (upd2 (upd2 h 69 5 (((h 69 5) * 64) + (h 69 4))) 69 6 ((h 69 6) * 64)) Q))))) : Wp X 3 179 65 [vr 69, vr 49, vi x2, zx3, vi x4, vi x5] [] h Q := by
  refine wp_aload rfl rfl ?_
  refine wp_aload rfl rfl ?_
  refine wp_getL (j := 5) rfl (congrArg Prod.fst (kf_69 X.1)) rfl ?_
  refine wp_sipush rfl ?_
  refine wp_lmul rfl ?_
  have g1 := H.1
  replace H := H.2
  refine Wp.topL (y := ((h 69 5) * 64)) (w64_I g1) ?_
  refine wp_aload rfl rfl ?_
  refine wp_getL (j := 4) rfl (congrArg Prod.fst (kf_69 X.1)) rfl ?_
  refine wp_ladd rfl ?_
  have g2 := H.1
  replace H := H.2
  refine Wp.topL (y := (((h 69 5) * 64) + (h 69 4))) (w64_I g2) ?_
  refine wp_putL (j := 5) rfl (congrArg Prod.fst (kf_69 X.1)) rfl rfl rfl ?_
  refine wp_aload rfl rfl ?_
  refine wp_dupR rfl ?_
  refine wp_getL (j := 6) rfl (congrArg Prod.fst (kf_69 X.1)) rfl ?_
  refine Wp.topL (y := (h 69 6)) (upd2_o (by decide)) ?_
  refine wp_sipush rfl ?_
  refine wp_lmul rfl ?_
  have g3 := H.1
  replace H := H.2
  refine Wp.topL (y := ((h 69 6) * 64)) (w64_I g3) ?_
  refine wp_putL (j := 6) rfl (congrArg Prod.fst (kf_69 X.1)) rfl rfl rfl ?_
  have g4 := H.1
  replace H := H.2
  refine wp_iincR (L2 := [vr 69, vr 49, vi x2, zx3, vi x4, vi (x5 + 1)]) rfl rfl g4 rfl ?_
  refine wp_goto (tn := 38) rfl rfl ?_
  exact H
/-- Odds.follow(L$ZoneRules;II)V, from 0 -/
theorem S179_69_57_0 {X : Nat × (Int → Int)} {h : HP} {Q : bQ} (x2 : Int) (x3 : Int) (H : Wp X 2 180 0 [vr 69, vr 57, vi x3, vu, vu, vu] [] h (fun v h' => Wp X 3 179 6 [vr 69, vr 57, vi x2, vi x3, vu, vu] (psh v []) h' Q)) : Wp X 3 179 0 [vr 69, vr 57, vi x2, vi x3, vu, vu] [] h Q := by
  refine wp_aload rfl rfl ?_
  refine wp_aload rfl rfl ?_
  refine wp_iload rfl rfl ?_
  exact wp_call (k := 180) (ρ2 := 2) (L2 := [vr 69, vr 57, vi x3, vu, vu, vu]) rfl rfl rfl (Nat.le_of_ble_eq_true rfl) (Nat.le_of_ble_eq_true rfl) (Nat.le_of_ble_eq_true rfl) (rcv_V rfl (congrArg Prod.fst (kf_69 X.1))) rfl H
/-- Odds.follow(L$ZoneRules;II)V, from 6 -/
theorem S179_69_57_6 {X : Nat × (Int → Int)} {h : HP} {Q : bQ} (x2 : Int) (zx3 : aV) (H : ((R32 ((h 57 4) - 1)) ∧ ((0 < ((h 57 4) - 1) → (((h 69 2) = 72 ∨ (h 69 2) = 73) ∧ (((h 69 2) = 72 → Wp X 3 179 38 [vr 69, vr 57, vi x2, (clr1 zx3), vi ((h 57 4) - 1), vi 0] [] (upd2 (upd2 (upd2 h 72 0 1) 69 5 0) 69 6 1) Q) ∧ ((h 69 2) = 73 → Wp X 3 179 38 [vr 69, vr 57, vi x2, (clr1 zx3), vi ((h 57 4) - 1), vi 0] [] (upd2 (upd2 (upd2 h 73 0 1) 69 5 0) 69 6 1) Q)))) ∧ (((h 57 4) - 1) ≤ 0 → (((h 69 2) = 72 ∨ (h 69 2) = 73) ∧ (((h 69 2) = 72 → Wp X 3 179 38 [vr 69, vr 57, vi x2, (clr1 zx3), vi 0, vi 0] [] (upd2 (upd2 (upd2 h 72 0 1) 69 5 0) 69 6 1) Q) ∧ ((h 69 2) = 73 → Wp X 3 179 38 [vr 69, vr 57, vi x2, (clr1 zx3), vi 0, vi 0] [] (upd2 (upd2 (upd2 h 73 0 1) 69 5 0) 69 6 1) Q))))))) : Wp X 3 179 6 [vr 69, vr 57, vi x2, zx3, vu, vu] [] h Q := by
  refine wp_iconst rfl ?_
  refine wp_aload rfl rfl ?_
  refine wp_call (k := 237) (ρ2 := 0) (L2 := [vr 57]) rfl rfl rfl (Nat.le_of_ble_eq_true rfl) (Nat.le_of_ble_eq_true rfl) (Nat.le_of_ble_eq_true rfl) (rcv_V rfl (congrArg Prod.fst (kf_57 X.1))) rfl ?_
  refine wp_aload rfl rfl ?_
  refine wp_getI (j := 4) rfl (congrArg Prod.fst (kf_57 X.1)) rfl ?_
  refine wp_iret rfl rfl ?_
  show Wp X _ 179 11 [vr 69, vr 57, vi x2, zx3, vu, vu] [vi (h 57 4), vi 0] _ _
  refine wp_iconst rfl ?_
  refine wp_isub rfl ?_
  have g1 := H.1
  replace H := H.2
  refine Wp.topI (y := ((h 57 4) - 1)) (w32_I g1) ?_
  refine wp_call (k := 252) (ρ2 := 0) (L2 := [vi 0, vi ((h 57 4) - 1)]) rfl rfl rfl (Nat.le_of_ble_eq_true rfl) (Nat.le_of_ble_eq_true rfl) (Nat.le_of_ble_eq_true rfl) (rcv_S rfl) rfl ?_
  refine wp_iload rfl rfl ?_
  refine wp_iload rfl rfl ?_
  refine wp_iclt (tn := 9) rfl rfl (fun c2 => ?_) (fun c2 => ?_)
  · replace H := H.1 c2
    refine wp_iload rfl rfl ?_
    refine wp_iret rfl rfl ?_
    show Wp X _ 179 16 [vr 69, vr 57, vi x2, zx3, vu, vu] [vi ((h 57 4) - 1)] _ _
    refine wp_istore (L2 := [vr 69, vr 57, vi x2, (clr1 zx3), vi ((h 57 4) - 1), vu]) rfl (Nat.le_of_ble_eq_true rfl) rfl ?_
    refine wp_aload rfl rfl ?_
    have g3 := H.1
    replace H := H.2
    rcases g3 with c4 | c4
    · replace H := H.1 c4
      refine wp_getM (j := 2) (r := 72) rfl (congrArg Prod.fst (kf_69 X.1)) rfl c4 ?_
      refine wp_iconst rfl ?_
      refine wp_sipush rfl ?_
      refine wp_lastore rfl (kf_72 X.1) (by decide) ?_
      refine wp_aload rfl rfl ?_
      refine wp_sipush rfl ?_
      refine wp_putL (j := 5) rfl (congrArg Prod.fst (kf_69 X.1)) rfl rfl rfl ?_
      refine wp_aload rfl rfl ?_
      refine wp_sipush rfl ?_
      refine wp_putL (j := 6) rfl (congrArg Prod.fst (kf_69 X.1)) rfl rfl rfl ?_
      refine wp_iconst rfl ?_
      refine wp_istore (L2 := [vr 69, vr 57, vi x2, (clr1 zx3), vi ((h 57 4) - 1), vi 0]) rfl (Nat.le_of_ble_eq_true rfl) rfl ?_
      exact H
    · replace H := H.2 c4
      refine wp_getM (j := 2) (r := 73) rfl (congrArg Prod.fst (kf_69 X.1)) rfl c4 ?_
      refine wp_iconst rfl ?_
      refine wp_sipush rfl ?_
      refine wp_lastore rfl (kf_73 X.1) (by decide) ?_
      refine wp_aload rfl rfl ?_
      refine wp_sipush rfl ?_
      refine wp_putL (j := 5) rfl (congrArg Prod.fst (kf_69 X.1)) rfl rfl rfl ?_
      refine wp_aload rfl rfl ?_
      refine wp_sipush rfl ?_
      refine wp_putL (j := 6) rfl (congrArg Prod.fst (kf_69 X.1)) rfl rfl rfl ?_
      refine wp_iconst rfl ?_
      refine wp_istore (L2 := [vr 69, vr 57, vi x2, (clr1 zx3), vi ((h 57 4) - 1), vi 0]) rfl (Nat.le_of_ble_eq_true rfl) rfl ?_
      exact H
  · replace H := H.2 c2
    refine wp_iload rfl rfl ?_
    refine wp_goto (tn := 10) rfl rfl ?_
    refine wp_iret rfl rfl ?_
    show Wp X _ 179 16 [vr 69, vr 57, vi x2, zx3, vu, vu] [vi 0] _ _
    refine wp_istore (L2 := [vr 69, vr 57, vi x2, (clr1 zx3), vi 0, vu]) rfl (Nat.le_of_ble_eq_true rfl) rfl ?_
    refine wp_aload rfl rfl ?_
    have g5 := H.1
    replace H := H.2
    rcases g5 with c6 | c6
    · replace H := H.1 c6
      refine wp_getM (j := 2) (r := 72) rfl (congrArg Prod.fst (kf_69 X.1)) rfl c6 ?_
      refine wp_iconst rfl ?_
      refine wp_sipush rfl ?_
      refine wp_lastore rfl (kf_72 X.1) (by decide) ?_
      refine wp_aload rfl rfl ?_
      refine wp_sipush rfl ?_
      refine wp_putL (j := 5) rfl (congrArg Prod.fst (kf_69 X.1)) rfl rfl rfl ?_
      refine wp_aload rfl rfl ?_
      refine wp_sipush rfl ?_
      refine wp_putL (j := 6) rfl (congrArg Prod.fst (kf_69 X.1)) rfl rfl rfl ?_
      refine wp_iconst rfl ?_
      refine wp_istore (L2 := [vr 69, vr 57, vi x2, (clr1 zx3), vi 0, vi 0]) rfl (Nat.le_of_ble_eq_true rfl) rfl ?_
      exact H
    · replace H := H.2 c6
      refine wp_getM (j := 2) (r := 73) rfl (congrArg Prod.fst (kf_69 X.1)) rfl c6 ?_
      refine wp_iconst rfl ?_
      refine wp_sipush rfl ?_
      refine wp_lastore rfl (kf_73 X.1) (by decide) ?_
      refine wp_aload rfl rfl ?_
      refine wp_sipush rfl ?_
      refine wp_putL (j := 5) rfl (congrArg Prod.fst (kf_69 X.1)) rfl rfl rfl ?_
      refine wp_aload rfl rfl ?_
      refine wp_sipush rfl ?_
      refine wp_putL (j := 6) rfl (congrArg Prod.fst (kf_69 X.1)) rfl rfl rfl ?_
      refine wp_iconst rfl ?_
      refine wp_istore (L2 := [vr 69, vr 57, vi x2, (clr1 zx3), vi 0, vi 0]) rfl (Nat.le_of_ble_eq_true rfl) rfl ?_
      exact H
/-- Odds.follow(L$ZoneRules;II)V, from 38 -/
theorem S179_69_57_38 {X : Nat × (Int → Int)} {h : HP} {Q : bQ} (x2 : Int) (zx3 : aV) (x4 : Int) (x5 : Int) (H : ((x2 ≤ x5 → Q none h) ∧ (x5 < x2 → ((x4 < x5 → ((R32 (x5 + 1)) ∧ ((x4 < (x5 + 1) → Wp X 2 181 0 [vr 69, vr 57, vi x4, vi x4, vu, vu, vu] [] h (fun v h' => Wp X 3 179 65 [vr 69, vr 57, vi x2, zx3, vi x4, vi x5] (psh v []) h' Q)) ∧ ((x5 + 1) ≤ x4 → Wp X 2 181 0 [vr 69, vr 57, vi x4, vi (x5 + 1), vu, vu, vu] [] h (fun v h' => Wp X 3 179 65 [vr 69, vr 57, vi x2, zx3, vi x4, vi x5] (psh v []) h' Q))))) ∧ (x5 ≤ x4 → ((R32 (x5 + 1)) ∧ ((x4 < (x5 + 1) → Wp X 2 181 0 [vr 69, vr 57, vi x5, vi x4, vu, vu, vu] [] h (fun v h' => Wp X 3 179 65 [vr 69, vr 57, vi x2, zx3, vi x4, vi x5] (psh v []) h' Q)) ∧ ((x5 + 1) ≤ x4 → Wp X 2 181 0 [vr 69, vr 57, vi x5, vi (x5 + 1), vu, vu, vu] [] h (fun v h' => Wp X 3 179 65 [vr 69, vr 57, vi x2, zx3, vi x4, vi x5] (psh v []) h' Q))))))))) : Wp X 3 179 38 [vr 69, vr 57, vi x2, zx3, vi x4, vi x5] [] h Q := by
  refine wp_iload rfl rfl ?_
  refine wp_iload rfl rfl ?_
  refine wp_icge (tn := 100) rfl rfl (fun c1 => ?_) (fun c1 => ?_)
  · replace H := H.1 c1
    exact wp_vret rfl rfl H
  · replace H := H.2 c1
    refine wp_aload rfl rfl ?_
    refine wp_aload rfl rfl ?_
    refine wp_iload rfl rfl ?_
    refine wp_iload rfl rfl ?_
    refine wp_call (k := 253) (ρ2 := 0) (L2 := [vi x5, vi x4]) rfl rfl rfl (Nat.le_of_ble_eq_true rfl) (Nat.le_of_ble_eq_true rfl) (Nat.le_of_ble_eq_true rfl) (rcv_S rfl) rfl ?_
    refine wp_iload rfl rfl ?_
    refine wp_iload rfl rfl ?_
    refine wp_icgt (tn := 9) rfl rfl (fun c2 => ?_) (fun c2 => ?_)
    · replace H := H.1 c2
      refine wp_iload rfl rfl ?_
      refine wp_iret rfl rfl ?_
      show Wp X _ 179 53 [vr 69, vr 57, vi x2, zx3, vi x4, vi x5] [vi x4, vr 57, vr 69] _ _
      refine wp_iload rfl rfl ?_
      refine wp_iconst rfl ?_
      refine wp_iadd rfl ?_
      have g3 := H.1
      replace H := H.2
      refine Wp.topI (y := (x5 + 1)) (w32_I g3) ?_
      refine wp_iload rfl rfl ?_
      refine wp_call (k := 253) (ρ2 := 0) (L2 := [vi (x5 + 1), vi x4]) rfl rfl rfl (Nat.le_of_ble_eq_true rfl) (Nat.le_of_ble_eq_true rfl) (Nat.le_of_ble_eq_true rfl) (rcv_S rfl) rfl ?_
      refine wp_iload rfl rfl ?_
      refine wp_iload rfl rfl ?_
      refine wp_icgt (tn := 9) rfl rfl (fun c4 => ?_) (fun c4 => ?_)
      · replace H := H.1 c4
        refine wp_iload rfl rfl ?_
        refine wp_iret rfl rfl ?_
        show Wp X _ 179 62 [vr 69, vr 57, vi x2, zx3, vi x4, vi x5] [vi x4, vi x4, vr 57, vr 69] _ _
        exact wp_call (k := 181) (ρ2 := 2) (L2 := [vr 69, vr 57, vi x4, vi x4, vu, vu, vu]) rfl rfl rfl (Nat.le_of_ble_eq_true rfl) (Nat.le_of_ble_eq_true rfl) (Nat.le_of_ble_eq_true rfl) (rcv_V rfl (congrArg Prod.fst (kf_69 X.1))) rfl H
      · replace H := H.2 c4
        refine wp_iload rfl rfl ?_
        refine wp_goto (tn := 10) rfl rfl ?_
        refine wp_iret rfl rfl ?_
        show Wp X _ 179 62 [vr 69, vr 57, vi x2, zx3, vi x4, vi x5] [vi (x5 + 1), vi x4, vr 57, vr 69] _ _
        exact wp_call (k := 181) (ρ2 := 2) (L2 := [vr 69, vr 57, vi x4, vi (x5 + 1), vu, vu, vu]) rfl rfl rfl (Nat.le_of_ble_eq_true rfl) (Nat.le_of_ble_eq_true rfl) (Nat.le_of_ble_eq_true rfl) (rcv_V rfl (congrArg Prod.fst (kf_69 X.1))) rfl H
    · replace H := H.2 c2
      refine wp_iload rfl rfl ?_
      refine wp_goto (tn := 10) rfl rfl ?_
      refine wp_iret rfl rfl ?_
      show Wp X _ 179 53 [vr 69, vr 57, vi x2, zx3, vi x4, vi x5] [vi x5, vr 57, vr 69] _ _
      refine wp_iload rfl rfl ?_
      refine wp_iconst rfl ?_
      refine wp_iadd rfl ?_
      have g5 := H.1
      replace H := H.2
      refine Wp.topI (y := (x5 + 1)) (w32_I g5) ?_
      refine wp_iload rfl rfl ?_
      refine wp_call (k := 253) (ρ2 := 0) (L2 := [vi (x5 + 1), vi x4]) rfl rfl rfl (Nat.le_of_ble_eq_true rfl) (Nat.le_of_ble_eq_true rfl) (Nat.le_of_ble_eq_true rfl) (rcv_S rfl) rfl ?_
      refine wp_iload rfl rfl ?_
      refine wp_iload rfl rfl ?_
      refine wp_icgt (tn := 9) rfl rfl (fun c6 => ?_) (fun c6 => ?_)
      · replace H := H.1 c6
        refine wp_iload rfl rfl ?_
        refine wp_iret rfl rfl ?_
        show Wp X _ 179 62 [vr 69, vr 57, vi x2, zx3, vi x4, vi x5] [vi x4, vi x5, vr 57, vr 69] _ _
        exact wp_call (k := 181) (ρ2 := 2) (L2 := [vr 69, vr 57, vi x5, vi x4, vu, vu, vu]) rfl rfl rfl (Nat.le_of_ble_eq_true rfl) (Nat.le_of_ble_eq_true rfl) (Nat.le_of_ble_eq_true rfl) (rcv_V rfl (congrArg Prod.fst (kf_69 X.1))) rfl H
      · replace H := H.2 c6
        refine wp_iload rfl rfl ?_
        refine wp_goto (tn := 10) rfl rfl ?_
        refine wp_iret rfl rfl ?_
        show Wp X _ 179 62 [vr 69, vr 57, vi x2, zx3, vi x4, vi x5] [vi (x5 + 1), vi x5, vr 57, vr 69] _ _
        exact wp_call (k := 181) (ρ2 := 2) (L2 := [vr 69, vr 57, vi x5, vi (x5 + 1), vu, vu, vu]) rfl rfl rfl (Nat.le_of_ble_eq_true rfl) (Nat.le_of_ble_eq_true rfl) (Nat.le_of_ble_eq_true rfl) (rcv_V rfl (congrArg Prod.fst (kf_69 X.1))) rfl H
/-- Odds.follow(L$ZoneRules;II)V, from 65 -/
theorem S179_69_57_65 {X : Nat × (Int → Int)} {h : HP} {Q : bQ} (x2 : Int) (zx3 : aV) (x4 : Int) (x5 : Int) (H : ((R64 ((h 69 5) * 64)) ∧ ((R64 (((h 69 5) * 64) + (h 69 4))) ∧ ((R64 ((h 69 6) * 64)) ∧ ((R32 (x5 + 1)) ∧ Wp X 3 179 38 [vr 69, vr 57, vi x2, zx3, vi x4, vi (x5 + 1)] [] (upd2 (upd2 h 69 5 (((h 69 5) * 64) + (h 69 4))) 69 6 ((h 69 6) * 64)) Q))))) : Wp X 3 179 65 [vr 69, vr 57, vi x2, zx3, vi x4, vi x5] [] h Q := by
  refine wp_aload rfl rfl ?_
  refine wp_aload rfl rfl ?_
  refine wp_getL (j := 5) rfl (congrArg Prod.fst (kf_69 X.1)) rfl ?_
  refine wp_sipush rfl ?_
  refine wp_lmul rfl ?_
  have g1 := H.1
  replace H := H.2
  refine Wp.topL (y := ((h 69 5) * 64)) (w64_I g1) ?_
  refine wp_aload rfl rfl ?_
  refine wp_getL (j := 4) rfl (congrArg Prod.fst (kf_69 X.1)) rfl ?_
  refine wp_ladd rfl ?_
  have g2 := H.1
  replace H := H.2
  refine Wp.topL (y := (((h 69 5) * 64) + (h 69 4))) (w64_I g2) ?_
  refine wp_putL (j := 5) rfl (congrArg Prod.fst (kf_69 X.1)) rfl rfl rfl ?_
  refine wp_aload rfl rfl ?_
  refine wp_dupR rfl ?_
  refine wp_getL (j := 6) rfl (congrArg Prod.fst (kf_69 X.1)) rfl ?_
  refine Wp.topL (y := (h 69 6)) (upd2_o (by decide)) ?_
  refine wp_sipush rfl ?_
  refine wp_lmul rfl ?_
  have g3 := H.1
  replace H := H.2
  refine Wp.topL (y := ((h 69 6) * 64)) (w64_I g3) ?_
  refine wp_putL (j := 6) rfl (congrArg Prod.fst (kf_69 X.1)) rfl rfl rfl ?_
  have g4 := H.1
  replace H := H.2
  refine wp_iincR (L2 := [vr 69, vr 57, vi x2, zx3, vi x4, vi (x5 + 1)]) rfl rfl g4 rfl ?_
  refine wp_goto (tn := 38) rfl rfl ?_
  exact H
/-- Odds.weigh(L$ZoneRules;I)V, from 0 -/
theorem S180_69_49_0 {X : Nat × (Int → Int)} {h : HP} {Q : bQ} (x2 : Int) (H : Wp X 2 180 2 [vr 69, vr 49, vi x2, vi 0, vu, vu] [] h Q) : Wp X 2 180 0 [vr 69, vr 49, vi x2, vu, vu, vu] [] h Q := by
  refine wp_iconst rfl ?_
  refine wp_istore (L2 := [vr 69, vr 49, vi x2, vi 0, vu, vu]) rfl (Nat.le_of_ble_eq_true rfl) rfl ?_
  exact H
/-- Odds.weigh(L$ZoneRules;I)V, from 2 -/
theorem S180_69_49_2 {X : Nat × (Int → Int)} {h : HP} {Q : bQ} (x2 : Int) (x3 : Int) (H : ((8 ≤ x3 → Wp X 2 180 23 [vr 69, vr 49, vi x2, vi 0, vu, vu] [] h Q) ∧ (x3 < 8 → ((0 ≤ x3 ∧ x3 < 8) ∧ Wp X 2 180 2 [vr 69, vr 49, vi x2, vi (x3 + 1), vu, vu] [] (upd2 h 71 x3 0) Q)))) : Wp X 2 180 2 [vr 69, vr 49, vi x2, vi x3, vu, vu] [] h Q := by
  refine wp_iload rfl rfl ?_
  refine wp_iconst rfl ?_
  refine wp_icge (tn := 21) rfl rfl (fun c1 => ?_) (fun c1 => ?_)
  · replace H := H.1 c1
    refine wp_iconst rfl ?_
    refine wp_istore (L2 := [vr 69, vr 49, vi x2, vi 0, vu, vu]) rfl (Nat.le_of_ble_eq_true rfl) rfl ?_
    exact H
  · replace H := H.2 c1
    refine wp_aload rfl rfl ?_
    refine wp_getR (r := 70) rfl (congrArg Prod.fst (kf_69 X.1)) rfl ?_
    refine wp_iload rfl rfl ?_
    refine wp_iconst rfl ?_
    have g2 := H.1
    replace H := H.2
    refine wp_iastore rfl (kf_71 X.1) g2 ?_
    refine wp_iincR (L2 := [vr 69, vr 49, vi x2, vi (x3 + 1), vu, vu]) rfl rfl (by clear H; unfold R32; omega) rfl ?_
    refine wp_goto (tn := 2) rfl rfl ?_
    exact H
/-- Odds.weigh(L$ZoneRules;I)V, from 23 -/
theorem S180_69_49_23 {X : Nat × (Int → Int)} {h : HP} {Q : bQ} (x2 : Int) (x3 : Int) (zx4 : aV) (zx5 : aV) (H : ((8 ≤ x3 → Q none h) ∧ (x3 < 8 → ((R32 (x3 + x2)) ∧ (((x3 + x2) < 7 → ((0 < (x3 + x2) → Wp X 2 180 46 [vr 69, vr 49, vi x2, vi x3, vi (x3 + x2), vi 0] [] h Q) ∧ ((x3 + x2) ≤ 0 → Wp X 2 180 46 [vr 69, vr 49, vi x2, vi x3, vi 0, vi 0] [] h Q))) ∧ (7 ≤ (x3 + x2) → Wp X 2 180 46 [vr 69, vr 49, vi x2, vi x3, vi 7, vi 0] [] h Q)))))) : Wp X 2 180 23 [vr 69, vr 49, vi x2, vi x3, zx4, zx5] [] h Q := by
  refine wp_iload rfl rfl ?_
  refine wp_iconst rfl ?_
  refine wp_icge (tn := 92) rfl rfl (fun c1 => ?_) (fun c1 => ?_)
  · replace H := H.1 c1
    exact wp_vret rfl rfl H
  · replace H := H.2 c1
    refine wp_iconst rfl ?_
    refine wp_iconst rfl ?_
    refine wp_iload rfl rfl ?_
    refine wp_iload rfl rfl ?_
    refine wp_iadd rfl ?_
    have g2 := H.1
    replace H := H.2
    refine Wp.topI (y := (x3 + x2)) (w32_I g2) ?_
    refine wp_call (k := 253) (ρ2 := 0) (L2 := [vi 7, vi (x3 + x2)]) rfl rfl rfl (Nat.le_of_ble_eq_true rfl) (Nat.le_of_ble_eq_true rfl) (Nat.le_of_ble_eq_true rfl) (rcv_S rfl) rfl ?_
    refine wp_iload rfl rfl ?_
    refine wp_iload rfl rfl ?_
    refine wp_icgt (tn := 9) rfl rfl (fun c3 => ?_) (fun c3 => ?_)
    · replace H := H.1 c3
      refine wp_iload rfl rfl ?_
      refine wp_iret rfl rfl ?_
      show Wp X _ 180 38 [vr 69, vr 49, vi x2, vi x3, zx4, zx5] [vi (x3 + x2), vi 0] _ _
      refine wp_call (k := 252) (ρ2 := 0) (L2 := [vi 0, vi (x3 + x2)]) rfl rfl rfl (Nat.le_of_ble_eq_true rfl) (Nat.le_of_ble_eq_true rfl) (Nat.le_of_ble_eq_true rfl) (rcv_S rfl) rfl ?_
      refine wp_iload rfl rfl ?_
      refine wp_iload rfl rfl ?_
      refine wp_iclt (tn := 9) rfl rfl (fun c4 => ?_) (fun c4 => ?_)
      · replace H := H.1 c4
        refine wp_iload rfl rfl ?_
        refine wp_iret rfl rfl ?_
        show Wp X _ 180 41 [vr 69, vr 49, vi x2, vi x3, zx4, zx5] [vi (x3 + x2)] _ _
        refine wp_istore (L2 := [vr 69, vr 49, vi x2, vi x3, vi (x3 + x2), zx5]) rfl (Nat.le_of_ble_eq_true rfl) rfl ?_
        refine wp_iconst rfl ?_
        refine wp_istore (L2 := [vr 69, vr 49, vi x2, vi x3, vi (x3 + x2), vi 0]) rfl (Nat.le_of_ble_eq_true rfl) rfl ?_
        exact H
      · replace H := H.2 c4
        refine wp_iload rfl rfl ?_
        refine wp_goto (tn := 10) rfl rfl ?_
        refine wp_iret rfl rfl ?_
        show Wp X _ 180 41 [vr 69, vr 49, vi x2, vi x3, zx4, zx5] [vi 0] _ _
        refine wp_istore (L2 := [vr 69, vr 49, vi x2, vi x3, vi 0, zx5]) rfl (Nat.le_of_ble_eq_true rfl) rfl ?_
        refine wp_iconst rfl ?_
        refine wp_istore (L2 := [vr 69, vr 49, vi x2, vi x3, vi 0, vi 0]) rfl (Nat.le_of_ble_eq_true rfl) rfl ?_
        exact H
    · replace H := H.2 c3
      refine wp_iload rfl rfl ?_
      refine wp_goto (tn := 10) rfl rfl ?_
      refine wp_iret rfl rfl ?_
      show Wp X _ 180 38 [vr 69, vr 49, vi x2, vi x3, zx4, zx5] [vi 7, vi 0] _ _
      refine wp_call (k := 252) (ρ2 := 0) (L2 := [vi 0, vi 7]) rfl rfl rfl (Nat.le_of_ble_eq_true rfl) (Nat.le_of_ble_eq_true rfl) (Nat.le_of_ble_eq_true rfl) (rcv_S rfl) rfl ?_
      refine wp_iload rfl rfl ?_
      refine wp_iload rfl rfl ?_
      refine wp_icltT (tn := 9) rfl rfl (by decide) ?_
      refine wp_iload rfl rfl ?_
      refine wp_iret rfl rfl ?_
      show Wp X _ 180 41 [vr 69, vr 49, vi x2, vi x3, zx4, zx5] [vi 7] _ _
      refine wp_istore (L2 := [vr 69, vr 49, vi x2, vi x3, vi 7, zx5]) rfl (Nat.le_of_ble_eq_true rfl) rfl ?_
      refine wp_iconst rfl ?_
      refine wp_istore (L2 := [vr 69, vr 49, vi x2, vi x3, vi 7, vi 0]) rfl (Nat.le_of_ble_eq_true rfl) rfl ?_
      exact H
/-- Odds.weigh(L$ZoneRules;I)V, from 46 -/
theorem S180_69_49_46 {X : Nat × (Int → Int)} {h : HP} {Q : bQ} (x2 : Int) (x3 : Int) (x4 : Int) (x5 : Int) (H : ((x4 ≤ x5 → ((0 ≤ x5 ∧ x5 < 8) ∧ ((0 ≤ x3 ∧ x3 < 8) ∧ ((R32 ((h 71 x5) + (h 70 x3))) ∧ Wp X 2 180 23 [vr 69, vr 49, vi x2, vi (x3 + 1), vi x4, vi x5] [] (upd2 h 71 x5 ((h 71 x5) + (h 70 x3))) Q)))) ∧ (x5 < x4 → ((x5 < 0 → ((x4 < 0 → (((lcp 0 0) ≠ 0 → ((R32 (x5 + 1)) ∧ Wp X 2 180 46 [vr 69, vr 49, vi x2, vi x3, vi x4, vi (x5 + 1)] [] h Q)) ∧ ((lcp 0 0) = 0 → ((0 ≤ x5 ∧ x5 < 8) ∧ ((0 ≤ x3 ∧ x3 < 8) ∧ ((R32 ((h 71 x5) + (h 70 x3))) ∧ Wp X 2 180 23 [vr 69, vr 49, vi x2, vi (x3 + 1), vi x4, vi x5] [] (upd2 h 71 x5 ((h 71 x5) + (h 70 x3))) Q)))))) ∧ (0 ≤ x4 → ((9 ≤ x4 → (((lcp 0 0) ≠ 0 → ((R32 (x5 + 1)) ∧ Wp X 2 180 46 [vr 69, vr 49, vi x2, vi x3, vi x4, vi (x5 + 1)] [] h Q)) ∧ ((lcp 0 0) = 0 → ((0 ≤ x5 ∧ x5 < 8) ∧ ((0 ≤ x3 ∧ x3 < 8) ∧ ((R32 ((h 71 x5) + (h 70 x3))) ∧ Wp X 2 180 23 [vr 69, vr 49, vi x2, vi (x3 + 1), vi x4, vi x5] [] (upd2 h 71 x5 ((h 71 x5) + (h 70 x3))) Q)))))) ∧ (x4 < 9 → (((lcp 0 ((i64 (h 50 x4) &&& i64 (h 52 0)).toInt)) ≠ 0 → ((R32 (x5 + 1)) ∧ Wp X 2 180 46 [vr 69, vr 49, vi x2, vi x3, vi x4, vi (x5 + 1)] [] h Q)) ∧ ((lcp 0 ((i64 (h 50 x4) &&& i64 (h 52 0)).toInt)) = 0 → (((lcp 0 ((i64 (h 51 x4) &&& i64 (h 52 0)).toInt)) ≠ 0 → ((R32 (x5 + 1)) ∧ Wp X 2 180 46 [vr 69, vr 49, vi x2, vi x3, vi x4, vi (x5 + 1)] [] h Q)) ∧ ((lcp 0 ((i64 (h 51 x4) &&& i64 (h 52 0)).toInt)) = 0 → ((0 ≤ x5 ∧ x5 < 8) ∧ ((0 ≤ x3 ∧ x3 < 8) ∧ ((R32 ((h 71 x5) + (h 70 x3))) ∧ Wp X 2 180 23 [vr 69, vr 49, vi x2, vi (x3 + 1), vi x4, vi x5] [] (upd2 h 71 x5 ((h 71 x5) + (h 70 x3))) Q)))))))))))) ∧ (0 ≤ x5 → ((9 ≤ x5 → ((x4 < 0 → (((lcp 0 0) ≠ 0 → ((R32 (x5 + 1)) ∧ Wp X 2 180 46 [vr 69, vr 49, vi x2, vi x3, vi x4, vi (x5 + 1)] [] h Q)) ∧ ((lcp 0 0) = 0 → ((0 ≤ x5 ∧ x5 < 8) ∧ ((0 ≤ x3 ∧ x3 < 8) ∧ ((R32 ((h 71 x5) + (h 70 x3))) ∧ Wp X 2 180 23 [vr 69, vr 49, vi x2, vi (x3 + 1), vi x4, vi x5] [] (upd2 h 71 x5 ((h 71 x5) + (h 70 x3))) Q)))))) ∧ (0 ≤ x4 → ((9 ≤ x4 → (((lcp 0 0) ≠ 0 → ((R32 (x5 + 1)) ∧ Wp X 2 180 46 [vr 69, vr 49, vi x2, vi x3, vi x4, vi (x5 + 1)] [] h Q)) ∧ ((lcp 0 0) = 0 → ((0 ≤ x5 ∧ x5 < 8) ∧ ((0 ≤ x3 ∧ x3 < 8) ∧ ((R32 ((h 71 x5) + (h 70 x3))) ∧ Wp X 2 180 23 [vr 69, vr 49, vi x2, vi (x3 + 1), vi x4, vi x5] [] (upd2 h 71 x5 ((h 71 x5) + (h 70 x3))) Q)))))) ∧ (x4 < 9 → (((lcp 0 ((i64 (h 50 x4) &&& i64 (h 52 0)).toInt)) ≠ 0 → ((R32 (x5 + 1)) ∧ Wp X 2 180 46 [vr 69, vr 49, vi x2, vi x3, vi x4, vi (x5 + 1)] [] h Q)) ∧ ((lcp 0 ((i64 (h 50 x4) &&& i64 (h 52 0)).toInt)) = 0 → (((lcp 0 ((i64 (h 51 x4) &&& i64 (h 52 0)).toInt)) ≠ 0 → ((R32 (x5 + 1)) ∧ Wp X 2 180 46 [vr 69, vr 49, vi x2, vi x3, vi x4, vi (x5 + 1)] [] h Q)) ∧ ((lcp 0 ((i64 (h 51 x4) &&& i64 (h 52 0)).toInt)) = 0 → ((0 ≤ x5 ∧ x5 < 8) ∧ ((0 ≤ x3 ∧ x3 < 8) ∧ ((R32 ((h 71 x5) + (h 70 x3))) ∧ Wp X 2 180 23 [vr 69, vr 49, vi x2, vi (x3 + 1), vi x4, vi x5] [] (upd2 h 71 x5 ((h 71 x5) + (h 70 x3))) Q)))))))))))) ∧ (x5 < 9 → ((x4 < 0 → (((lcp ((i64 (h 50 x5) &&& i64 (h 52 0)).toInt) 0) ≠ 0 → Wp X 2 180 46 [vr 69, vr 49, vi x2, vi x3, vi x4, vi (x5 + 1)] [] h Q) ∧ ((lcp ((i64 (h 50 x5) &&& i64 (h 52 0)).toInt) 0) = 0 → (((lcp ((i64 (h 51 x5) &&& i64 (h 52 0)).toInt) 0) ≠ 0 → Wp X 2 180 46 [vr 69, vr 49, vi x2, vi x3, vi x4, vi (x5 + 1)] [] h Q) ∧ ((lcp ((i64 (h 51 x5) &&& i64 (h 52 0)).toInt) 0) = 0 → ((0 ≤ x5 ∧ x5 < 8) ∧ ((0 ≤ x3 ∧ x3 < 8) ∧ ((R32 ((h 71 x5) + (h 70 x3))) ∧ Wp X 2 180 23 [vr 69, vr 49, vi x2, vi (x3 + 1), vi x4, vi x5] [] (upd2 h 71 x5 ((h 71 x5) + (h 70 x3))) Q)))))))) ∧ (0 ≤ x4 → ((9 ≤ x4 → (((lcp ((i64 (h 50 x5) &&& i64 (h 52 0)).toInt) 0) ≠ 0 → Wp X 2 180 46 [vr 69, vr 49, vi x2, vi x3, vi x4, vi (x5 + 1)] [] h Q) ∧ ((lcp ((i64 (h 50 x5) &&& i64 (h 52 0)).toInt) 0) = 0 → (((lcp ((i64 (h 51 x5) &&& i64 (h 52 0)).toInt) 0) ≠ 0 → Wp X 2 180 46 [vr 69, vr 49, vi x2, vi x3, vi x4, vi (x5 + 1)] [] h Q) ∧ ((lcp ((i64 (h 51 x5) &&& i64 (h 52 0)).toInt) 0) = 0 → ((0 ≤ x5 ∧ x5 < 8) ∧ ((0 ≤ x3 ∧ x3 < 8) ∧ ((R32 ((h 71 x5) + (h 70 x3))) ∧ Wp X 2 180 23 [vr 69, vr 49, vi x2, vi (x3 + 1), vi x4, vi x5] [] (upd2 h 71 x5 ((h 71 x5) + (h 70 x3))) Q)))))))) ∧ (x4 < 9 → (((lcp ((i64 (h 50 x5) &&& i64 (h 52 0)).toInt) ((i64 (h 50 x4) &&& i64 (h 52 0)).toInt)) ≠ 0 → Wp X 2 180 46 [vr 69, vr 49, vi x2, vi x3, vi x4, vi (x5 + 1)] [] h Q) ∧ ((lcp ((i64 (h 50 x5) &&& i64 (h 52 0)).toInt) ((i64 (h 50 x4) &&& i64 (h 52 0)).toInt)) = 0 → (((lcp ((i64 (h 51 x5) &&& i64 (h 52 0)).toInt) ((i64 (h 51 x4) &&& i64 (h 52 0)).toInt)) ≠ 0 → Wp X 2 180 46 [vr 69, vr 49, vi x2, vi x3, vi x4, vi (x5 + 1)] [] h Q) ∧ ((lcp ((i64 (h 51 x5) &&& i64 (h 52 0)).toInt) ((i64 (h 51 x4) &&& i64 (h 52 0)).toInt)) = 0 → ((0 ≤ x5 ∧ x5 < 8) ∧ ((0 ≤ x3 ∧ x3 < 8) ∧ ((R32 ((h 71 x5) + (h 70 x3))) ∧ Wp X 2 180 23 [vr 69, vr 49, vi x2, vi (x3 + 1), vi x4, vi x5] [] (upd2 h 71 x5 ((h 71 x5) + (h 70 x3))) Q)))))))))))))))))) : Wp X 2 180 46 [vr 69, vr 49, vi x2, vi x3, vi x4, vi x5] [] h Q := by
  refine wp_iload rfl rfl ?_
  refine wp_iload rfl rfl ?_
  refine wp_icge (tn := 70) rfl rfl (fun c1 => ?_) (fun c1 => ?_)
  · replace H := H.1 c1
    refine wp_aload rfl rfl ?_
    refine wp_getR (r := 70) rfl (congrArg Prod.fst (kf_69 X.1)) rfl ?_
    refine wp_iload rfl rfl ?_
    refine wp_dup2 rfl ?_
    have g2 := H.1
    replace H := H.2
    refine wp_iaload rfl (kf_71 X.1) g2 ?_
    refine wp_aload rfl rfl ?_
    refine wp_getR (r := 69) rfl (congrArg Prod.fst (kf_69 X.1)) rfl ?_
    refine wp_iload rfl rfl ?_
    have g3 := H.1
    replace H := H.2
    refine wp_iaload rfl (kf_70 X.1) g3 ?_
    refine wp_iadd rfl ?_
    have g4 := H.1
    replace H := H.2
    refine Wp.topI (y := ((h 71 x5) + (h 70 x3))) (w32_I g4) ?_
    refine wp_iastore rfl (kf_71 X.1) ⟨g2.1, g2.2⟩ ?_
    refine wp_iincR (L2 := [vr 69, vr 49, vi x2, vi (x3 + 1), vi x4, vi x5]) rfl rfl (by clear H; unfold R32; omega) rfl ?_
    refine wp_goto (tn := 23) rfl rfl ?_
    exact H
  · replace H := H.2 c1
    refine wp_aload rfl rfl ?_
    refine wp_iload rfl rfl ?_
    refine wp_iload rfl rfl ?_
    refine wp_call (k := 241) (ρ2 := 1) (L2 := [vr 49, vi x5, vi x4]) rfl rfl rfl (Nat.le_of_ble_eq_true rfl) (Nat.le_of_ble_eq_true rfl) (Nat.le_of_ble_eq_true rfl) (rcv_V rfl (congrArg Prod.fst (kf_49 X.1))) rfl ?_
    refine wp_aload rfl rfl ?_
    refine wp_iload rfl rfl ?_
    refine wp_iconst rfl ?_
    refine wp_call (k := 239) (ρ2 := 0) (L2 := [vr 49, vi x5, vi 0]) rfl rfl rfl (Nat.le_of_ble_eq_true rfl) (Nat.le_of_ble_eq_true rfl) (Nat.le_of_ble_eq_true rfl) (rcv_V rfl (congrArg Prod.fst (kf_49 X.1))) rfl ?_
    refine wp_iload rfl rfl ?_
    refine wp_iflt (tn := 19) rfl rfl (fun c5 => ?_) (fun c5 => ?_)
    · replace H := H.1 c5
      refine wp_sipush rfl ?_
      refine wp_lret rfl rfl ?_
      show Wp X _ 241 6 [vr 49, vi x5, vi x4] [vl 0] _ _
      refine wp_aload rfl rfl ?_
      refine wp_iload rfl rfl ?_
      refine wp_iconst rfl ?_
      refine wp_call (k := 239) (ρ2 := 0) (L2 := [vr 49, vi x4, vi 0]) rfl rfl rfl (Nat.le_of_ble_eq_true rfl) (Nat.le_of_ble_eq_true rfl) (Nat.le_of_ble_eq_true rfl) (rcv_V rfl (congrArg Prod.fst (kf_49 X.1))) rfl ?_
      refine wp_iload rfl rfl ?_
      refine wp_iflt (tn := 19) rfl rfl (fun c6 => ?_) (fun c6 => ?_)
      · replace H := H.1 c6
        refine wp_sipush rfl ?_
        refine wp_lret rfl rfl ?_
        show Wp X _ 241 12 [vr 49, vi x5, vi x4] [vl 0, vl 0] _ _
        refine wp_lcmp rfl ?_
        refine wp_ifne (tn := 36) rfl rfl (fun c7 => ?_) (fun c7 => ?_)
        · replace H := H.1 c7
          refine wp_iconst rfl ?_
          refine wp_zret rfl rfl (by decide) ?_
          show Wp X _ 180 61 [vr 69, vr 49, vi x2, vi x3, vi x4, vi x5] [vi 0] _ _
          refine wp_ifneF (tn := 70) rfl rfl (by decide) ?_
          have g8 := H.1
          replace H := H.2
          refine wp_iincR (L2 := [vr 69, vr 49, vi x2, vi x3, vi x4, vi (x5 + 1)]) rfl rfl g8 rfl ?_
          refine wp_goto (tn := 46) rfl rfl ?_
          exact H
        · replace H := H.2 c7
          refine wp_aload rfl rfl ?_
          refine wp_iload rfl rfl ?_
          refine wp_iconst rfl ?_
          refine wp_call (k := 240) (ρ2 := 0) (L2 := [vr 49, vi x5, vi 0]) rfl rfl rfl (Nat.le_of_ble_eq_true rfl) (Nat.le_of_ble_eq_true rfl) (Nat.le_of_ble_eq_true rfl) (rcv_V rfl (congrArg Prod.fst (kf_49 X.1))) rfl ?_
          refine wp_iload rfl rfl ?_
          refine wp_ifltT (tn := 19) rfl rfl c5 ?_
          refine wp_sipush rfl ?_
          refine wp_lret rfl rfl ?_
          show Wp X _ 241 22 [vr 49, vi x5, vi x4] [vl 0] _ _
          refine wp_aload rfl rfl ?_
          refine wp_iload rfl rfl ?_
          refine wp_iconst rfl ?_
          refine wp_call (k := 240) (ρ2 := 0) (L2 := [vr 49, vi x4, vi 0]) rfl rfl rfl (Nat.le_of_ble_eq_true rfl) (Nat.le_of_ble_eq_true rfl) (Nat.le_of_ble_eq_true rfl) (rcv_V rfl (congrArg Prod.fst (kf_49 X.1))) rfl ?_
          refine wp_iload rfl rfl ?_
          refine wp_ifltT (tn := 19) rfl rfl c6 ?_
          refine wp_sipush rfl ?_
          refine wp_lret rfl rfl ?_
          show Wp X _ 241 28 [vr 49, vi x5, vi x4] [vl 0, vl 0] _ _
          refine wp_lcmp rfl ?_
          refine wp_ifneF (tn := 36) rfl rfl c7 ?_
          refine wp_iconst rfl ?_
          refine wp_goto (tn := 37) rfl rfl ?_
          refine wp_zret rfl rfl (by decide) ?_
          show Wp X _ 180 61 [vr 69, vr 49, vi x2, vi x3, vi x4, vi x5] [vi 1] _ _
          refine wp_ifneT (tn := 70) rfl rfl (by decide) ?_
          refine wp_aload rfl rfl ?_
          refine wp_getR (r := 70) rfl (congrArg Prod.fst (kf_69 X.1)) rfl ?_
          refine wp_iload rfl rfl ?_
          refine wp_dup2 rfl ?_
          have g9 := H.1
          replace H := H.2
          refine wp_iaload rfl (kf_71 X.1) g9 ?_
          refine wp_aload rfl rfl ?_
          refine wp_getR (r := 69) rfl (congrArg Prod.fst (kf_69 X.1)) rfl ?_
          refine wp_iload rfl rfl ?_
          have g10 := H.1
          replace H := H.2
          refine wp_iaload rfl (kf_70 X.1) g10 ?_
          refine wp_iadd rfl ?_
          have g11 := H.1
          replace H := H.2
          refine Wp.topI (y := ((h 71 x5) + (h 70 x3))) (w32_I g11) ?_
          refine wp_iastore rfl (kf_71 X.1) ⟨g9.1, g9.2⟩ ?_
          refine wp_iincR (L2 := [vr 69, vr 49, vi x2, vi (x3 + 1), vi x4, vi x5]) rfl rfl (by clear H; unfold R32; omega) rfl ?_
          refine wp_goto (tn := 23) rfl rfl ?_
          exact H
      · replace H := H.2 c6
        refine wp_iload rfl rfl ?_
        refine wp_iconst rfl ?_
        refine wp_icge (tn := 19) rfl rfl (fun c12 => ?_) (fun c12 => ?_)
        · replace H := H.1 c12
          refine wp_sipush rfl ?_
          refine wp_lret rfl rfl ?_
          show Wp X _ 241 12 [vr 49, vi x5, vi x4] [vl 0, vl 0] _ _
          refine wp_lcmp rfl ?_
          refine wp_ifne (tn := 36) rfl rfl (fun c13 => ?_) (fun c13 => ?_)
          · replace H := H.1 c13
            refine wp_iconst rfl ?_
            refine wp_zret rfl rfl (by decide) ?_
            show Wp X _ 180 61 [vr 69, vr 49, vi x2, vi x3, vi x4, vi x5] [vi 0] _ _
            refine wp_ifneF (tn := 70) rfl rfl (by decide) ?_
            have g14 := H.1
            replace H := H.2
            refine wp_iincR (L2 := [vr 69, vr 49, vi x2, vi x3, vi x4, vi (x5 + 1)]) rfl rfl g14 rfl ?_
            refine wp_goto (tn := 46) rfl rfl ?_
            exact H
          · replace H := H.2 c13
            refine wp_aload rfl rfl ?_
            refine wp_iload rfl rfl ?_
            refine wp_iconst rfl ?_
            refine wp_call (k := 240) (ρ2 := 0) (L2 := [vr 49, vi x5, vi 0]) rfl rfl rfl (Nat.le_of_ble_eq_true rfl) (Nat.le_of_ble_eq_true rfl) (Nat.le_of_ble_eq_true rfl) (rcv_V rfl (congrArg Prod.fst (kf_49 X.1))) rfl ?_
            refine wp_iload rfl rfl ?_
            refine wp_ifltT (tn := 19) rfl rfl c5 ?_
            refine wp_sipush rfl ?_
            refine wp_lret rfl rfl ?_
            show Wp X _ 241 22 [vr 49, vi x5, vi x4] [vl 0] _ _
            refine wp_aload rfl rfl ?_
            refine wp_iload rfl rfl ?_
            refine wp_iconst rfl ?_
            refine wp_call (k := 240) (ρ2 := 0) (L2 := [vr 49, vi x4, vi 0]) rfl rfl rfl (Nat.le_of_ble_eq_true rfl) (Nat.le_of_ble_eq_true rfl) (Nat.le_of_ble_eq_true rfl) (rcv_V rfl (congrArg Prod.fst (kf_49 X.1))) rfl ?_
            refine wp_iload rfl rfl ?_
            refine wp_ifltF (tn := 19) rfl rfl c6 ?_
            refine wp_iload rfl rfl ?_
            refine wp_iconst rfl ?_
            refine wp_icgeT (tn := 19) rfl rfl c12 ?_
            refine wp_sipush rfl ?_
            refine wp_lret rfl rfl ?_
            show Wp X _ 241 28 [vr 49, vi x5, vi x4] [vl 0, vl 0] _ _
            refine wp_lcmp rfl ?_
            refine wp_ifneF (tn := 36) rfl rfl c13 ?_
            refine wp_iconst rfl ?_
            refine wp_goto (tn := 37) rfl rfl ?_
            refine wp_zret rfl rfl (by decide) ?_
            show Wp X _ 180 61 [vr 69, vr 49, vi x2, vi x3, vi x4, vi x5] [vi 1] _ _
            refine wp_ifneT (tn := 70) rfl rfl (by decide) ?_
            refine wp_aload rfl rfl ?_
            refine wp_getR (r := 70) rfl (congrArg Prod.fst (kf_69 X.1)) rfl ?_
            refine wp_iload rfl rfl ?_
            refine wp_dup2 rfl ?_
            have g15 := H.1
            replace H := H.2
            refine wp_iaload rfl (kf_71 X.1) g15 ?_
            refine wp_aload rfl rfl ?_
            refine wp_getR (r := 69) rfl (congrArg Prod.fst (kf_69 X.1)) rfl ?_
            refine wp_iload rfl rfl ?_
            have g16 := H.1
            replace H := H.2
            refine wp_iaload rfl (kf_70 X.1) g16 ?_
            refine wp_iadd rfl ?_
            have g17 := H.1
            replace H := H.2
            refine Wp.topI (y := ((h 71 x5) + (h 70 x3))) (w32_I g17) ?_
            refine wp_iastore rfl (kf_71 X.1) ⟨g15.1, g15.2⟩ ?_
            refine wp_iincR (L2 := [vr 69, vr 49, vi x2, vi (x3 + 1), vi x4, vi x5]) rfl rfl (by clear H; unfold R32; omega) rfl ?_
            refine wp_goto (tn := 23) rfl rfl ?_
            exact H
        · replace H := H.2 c12
          refine wp_iload rfl rfl ?_
          refine wp_ifltF (tn := 19) rfl rfl (by decide) ?_
          refine wp_iload rfl rfl ?_
          refine wp_iconst rfl ?_
          refine wp_icltT (tn := 21) rfl rfl (by decide) ?_
          refine wp_aload rfl rfl ?_
          refine wp_getR (r := 49) rfl (congrArg Prod.fst (kf_49 X.1)) rfl ?_
          refine wp_iload rfl rfl ?_
          refine wp_laload rfl (kf_50 X.1) ⟨c6, c12⟩ ?_
          refine wp_aload rfl rfl ?_
          refine wp_getR (r := 51) rfl (congrArg Prod.fst (kf_49 X.1)) rfl ?_
          refine wp_iload rfl rfl ?_
          refine wp_laload rfl (kf_52 X.1) (by decide) ?_
          refine wp_land rfl ?_
          refine wp_lret rfl rfl ?_
          show Wp X _ 241 12 [vr 49, vi x5, vi x4] [vl ((i64 (h 50 x4) &&& i64 (h 52 0)).toInt), vl 0] _ _
          refine wp_lcmp rfl ?_
          refine wp_ifne (tn := 36) rfl rfl (fun c18 => ?_) (fun c18 => ?_)
          · replace H := H.1 c18
            refine wp_iconst rfl ?_
            refine wp_zret rfl rfl (by decide) ?_
            show Wp X _ 180 61 [vr 69, vr 49, vi x2, vi x3, vi x4, vi x5] [vi 0] _ _
            refine wp_ifneF (tn := 70) rfl rfl (by decide) ?_
            have g19 := H.1
            replace H := H.2
            refine wp_iincR (L2 := [vr 69, vr 49, vi x2, vi x3, vi x4, vi (x5 + 1)]) rfl rfl g19 rfl ?_
            refine wp_goto (tn := 46) rfl rfl ?_
            exact H
          · replace H := H.2 c18
            refine wp_aload rfl rfl ?_
            refine wp_iload rfl rfl ?_
            refine wp_iconst rfl ?_
            refine wp_call (k := 240) (ρ2 := 0) (L2 := [vr 49, vi x5, vi 0]) rfl rfl rfl (Nat.le_of_ble_eq_true rfl) (Nat.le_of_ble_eq_true rfl) (Nat.le_of_ble_eq_true rfl) (rcv_V rfl (congrArg Prod.fst (kf_49 X.1))) rfl ?_
            refine wp_iload rfl rfl ?_
            refine wp_ifltT (tn := 19) rfl rfl c5 ?_
            refine wp_sipush rfl ?_
            refine wp_lret rfl rfl ?_
            show Wp X _ 241 22 [vr 49, vi x5, vi x4] [vl 0] _ _
            refine wp_aload rfl rfl ?_
            refine wp_iload rfl rfl ?_
            refine wp_iconst rfl ?_
            refine wp_call (k := 240) (ρ2 := 0) (L2 := [vr 49, vi x4, vi 0]) rfl rfl rfl (Nat.le_of_ble_eq_true rfl) (Nat.le_of_ble_eq_true rfl) (Nat.le_of_ble_eq_true rfl) (rcv_V rfl (congrArg Prod.fst (kf_49 X.1))) rfl ?_
            refine wp_iload rfl rfl ?_
            refine wp_ifltF (tn := 19) rfl rfl c6 ?_
            refine wp_iload rfl rfl ?_
            refine wp_iconst rfl ?_
            refine wp_icgeF (tn := 19) rfl rfl c12 ?_
            refine wp_iload rfl rfl ?_
            refine wp_ifltF (tn := 19) rfl rfl (by decide) ?_
            refine wp_iload rfl rfl ?_
            refine wp_iconst rfl ?_
            refine wp_icltT (tn := 21) rfl rfl (by decide) ?_
            refine wp_aload rfl rfl ?_
            refine wp_getR (r := 50) rfl (congrArg Prod.fst (kf_49 X.1)) rfl ?_
            refine wp_iload rfl rfl ?_
            refine wp_laload rfl (kf_51 X.1) ⟨c6, c12⟩ ?_
            refine wp_aload rfl rfl ?_
            refine wp_getR (r := 51) rfl (congrArg Prod.fst (kf_49 X.1)) rfl ?_
            refine wp_iload rfl rfl ?_
            refine wp_laload rfl (kf_52 X.1) (by decide) ?_
            refine wp_land rfl ?_
            refine wp_lret rfl rfl ?_
            show Wp X _ 241 28 [vr 49, vi x5, vi x4] [vl ((i64 (h 51 x4) &&& i64 (h 52 0)).toInt), vl 0] _ _
            refine wp_lcmp rfl ?_
            refine wp_ifne (tn := 36) rfl rfl (fun c20 => ?_) (fun c20 => ?_)
            · replace H := H.1 c20
              refine wp_iconst rfl ?_
              refine wp_zret rfl rfl (by decide) ?_
              show Wp X _ 180 61 [vr 69, vr 49, vi x2, vi x3, vi x4, vi x5] [vi 0] _ _
              refine wp_ifneF (tn := 70) rfl rfl (by decide) ?_
              have g21 := H.1
              replace H := H.2
              refine wp_iincR (L2 := [vr 69, vr 49, vi x2, vi x3, vi x4, vi (x5 + 1)]) rfl rfl g21 rfl ?_
              refine wp_goto (tn := 46) rfl rfl ?_
              exact H
            · replace H := H.2 c20
              refine wp_iconst rfl ?_
              refine wp_goto (tn := 37) rfl rfl ?_
              refine wp_zret rfl rfl (by decide) ?_
              show Wp X _ 180 61 [vr 69, vr 49, vi x2, vi x3, vi x4, vi x5] [vi 1] _ _
              refine wp_ifneT (tn := 70) rfl rfl (by decide) ?_
              refine wp_aload rfl rfl ?_
              refine wp_getR (r := 70) rfl (congrArg Prod.fst (kf_69 X.1)) rfl ?_
              refine wp_iload rfl rfl ?_
              refine wp_dup2 rfl ?_
              have g22 := H.1
              replace H := H.2
              refine wp_iaload rfl (kf_71 X.1) g22 ?_
              refine wp_aload rfl rfl ?_
              refine wp_getR (r := 69) rfl (congrArg Prod.fst (kf_69 X.1)) rfl ?_
              refine wp_iload rfl rfl ?_
              have g23 := H.1
              replace H := H.2
              refine wp_iaload rfl (kf_70 X.1) g23 ?_
              refine wp_iadd rfl ?_
              have g24 := H.1
              replace H := H.2
              refine Wp.topI (y := ((h 71 x5) + (h 70 x3))) (w32_I g24) ?_
              refine wp_iastore rfl (kf_71 X.1) ⟨g22.1, g22.2⟩ ?_
              refine wp_iincR (L2 := [vr 69, vr 49, vi x2, vi (x3 + 1), vi x4, vi x5]) rfl rfl (by clear H; unfold R32; omega) rfl ?_
              refine wp_goto (tn := 23) rfl rfl ?_
              exact H
    · replace H := H.2 c5
      refine wp_iload rfl rfl ?_
      refine wp_iconst rfl ?_
      refine wp_icge (tn := 19) rfl rfl (fun c25 => ?_) (fun c25 => ?_)
      · replace H := H.1 c25
        refine wp_sipush rfl ?_
        refine wp_lret rfl rfl ?_
        show Wp X _ 241 6 [vr 49, vi x5, vi x4] [vl 0] _ _
        refine wp_aload rfl rfl ?_
        refine wp_iload rfl rfl ?_
        refine wp_iconst rfl ?_
        refine wp_call (k := 239) (ρ2 := 0) (L2 := [vr 49, vi x4, vi 0]) rfl rfl rfl (Nat.le_of_ble_eq_true rfl) (Nat.le_of_ble_eq_true rfl) (Nat.le_of_ble_eq_true rfl) (rcv_V rfl (congrArg Prod.fst (kf_49 X.1))) rfl ?_
        refine wp_iload rfl rfl ?_
        refine wp_iflt (tn := 19) rfl rfl (fun c26 => ?_) (fun c26 => ?_)
        · replace H := H.1 c26
          refine wp_sipush rfl ?_
          refine wp_lret rfl rfl ?_
          show Wp X _ 241 12 [vr 49, vi x5, vi x4] [vl 0, vl 0] _ _
          refine wp_lcmp rfl ?_
          refine wp_ifne (tn := 36) rfl rfl (fun c27 => ?_) (fun c27 => ?_)
          · replace H := H.1 c27
            refine wp_iconst rfl ?_
            refine wp_zret rfl rfl (by decide) ?_
            show Wp X _ 180 61 [vr 69, vr 49, vi x2, vi x3, vi x4, vi x5] [vi 0] _ _
            refine wp_ifneF (tn := 70) rfl rfl (by decide) ?_
            have g28 := H.1
            replace H := H.2
            refine wp_iincR (L2 := [vr 69, vr 49, vi x2, vi x3, vi x4, vi (x5 + 1)]) rfl rfl g28 rfl ?_
            refine wp_goto (tn := 46) rfl rfl ?_
            exact H
          · replace H := H.2 c27
            refine wp_aload rfl rfl ?_
            refine wp_iload rfl rfl ?_
            refine wp_iconst rfl ?_
            refine wp_call (k := 240) (ρ2 := 0) (L2 := [vr 49, vi x5, vi 0]) rfl rfl rfl (Nat.le_of_ble_eq_true rfl) (Nat.le_of_ble_eq_true rfl) (Nat.le_of_ble_eq_true rfl) (rcv_V rfl (congrArg Prod.fst (kf_49 X.1))) rfl ?_
            refine wp_iload rfl rfl ?_
            refine wp_ifltF (tn := 19) rfl rfl c5 ?_
            refine wp_iload rfl rfl ?_
            refine wp_iconst rfl ?_
            refine wp_icgeT (tn := 19) rfl rfl c25 ?_
            refine wp_sipush rfl ?_
            refine wp_lret rfl rfl ?_
            show Wp X _ 241 22 [vr 49, vi x5, vi x4] [vl 0] _ _
            refine wp_aload rfl rfl ?_
            refine wp_iload rfl rfl ?_
            refine wp_iconst rfl ?_
            refine wp_call (k := 240) (ρ2 := 0) (L2 := [vr 49, vi x4, vi 0]) rfl rfl rfl (Nat.le_of_ble_eq_true rfl) (Nat.le_of_ble_eq_true rfl) (Nat.le_of_ble_eq_true rfl) (rcv_V rfl (congrArg Prod.fst (kf_49 X.1))) rfl ?_
            refine wp_iload rfl rfl ?_
            refine wp_ifltT (tn := 19) rfl rfl c26 ?_
            refine wp_sipush rfl ?_
            refine wp_lret rfl rfl ?_
            show Wp X _ 241 28 [vr 49, vi x5, vi x4] [vl 0, vl 0] _ _
            refine wp_lcmp rfl ?_
            refine wp_ifneF (tn := 36) rfl rfl c27 ?_
            refine wp_iconst rfl ?_
            refine wp_goto (tn := 37) rfl rfl ?_
            refine wp_zret rfl rfl (by decide) ?_
            show Wp X _ 180 61 [vr 69, vr 49, vi x2, vi x3, vi x4, vi x5] [vi 1] _ _
            refine wp_ifneT (tn := 70) rfl rfl (by decide) ?_
            refine wp_aload rfl rfl ?_
            refine wp_getR (r := 70) rfl (congrArg Prod.fst (kf_69 X.1)) rfl ?_
            refine wp_iload rfl rfl ?_
            refine wp_dup2 rfl ?_
            have g29 := H.1
            replace H := H.2
            refine wp_iaload rfl (kf_71 X.1) g29 ?_
            refine wp_aload rfl rfl ?_
            refine wp_getR (r := 69) rfl (congrArg Prod.fst (kf_69 X.1)) rfl ?_
            refine wp_iload rfl rfl ?_
            have g30 := H.1
            replace H := H.2
            refine wp_iaload rfl (kf_70 X.1) g30 ?_
            refine wp_iadd rfl ?_
            have g31 := H.1
            replace H := H.2
            refine Wp.topI (y := ((h 71 x5) + (h 70 x3))) (w32_I g31) ?_
            refine wp_iastore rfl (kf_71 X.1) ⟨g29.1, g29.2⟩ ?_
            refine wp_iincR (L2 := [vr 69, vr 49, vi x2, vi (x3 + 1), vi x4, vi x5]) rfl rfl (by clear H; unfold R32; omega) rfl ?_
            refine wp_goto (tn := 23) rfl rfl ?_
            exact H
        · replace H := H.2 c26
          refine wp_iload rfl rfl ?_
          refine wp_iconst rfl ?_
          refine wp_icge (tn := 19) rfl rfl (fun c32 => ?_) (fun c32 => ?_)
          · replace H := H.1 c32
            refine wp_sipush rfl ?_
            refine wp_lret rfl rfl ?_
            show Wp X _ 241 12 [vr 49, vi x5, vi x4] [vl 0, vl 0] _ _
            refine wp_lcmp rfl ?_
            refine wp_ifne (tn := 36) rfl rfl (fun c33 => ?_) (fun c33 => ?_)
            · replace H := H.1 c33
              refine wp_iconst rfl ?_
              refine wp_zret rfl rfl (by decide) ?_
              show Wp X _ 180 61 [vr 69, vr 49, vi x2, vi x3, vi x4, vi x5] [vi 0] _ _
              refine wp_ifneF (tn := 70) rfl rfl (by decide) ?_
              have g34 := H.1
              replace H := H.2
              refine wp_iincR (L2 := [vr 69, vr 49, vi x2, vi x3, vi x4, vi (x5 + 1)]) rfl rfl g34 rfl ?_
              refine wp_goto (tn := 46) rfl rfl ?_
              exact H
            · replace H := H.2 c33
              refine wp_aload rfl rfl ?_
              refine wp_iload rfl rfl ?_
              refine wp_iconst rfl ?_
              refine wp_call (k := 240) (ρ2 := 0) (L2 := [vr 49, vi x5, vi 0]) rfl rfl rfl (Nat.le_of_ble_eq_true rfl) (Nat.le_of_ble_eq_true rfl) (Nat.le_of_ble_eq_true rfl) (rcv_V rfl (congrArg Prod.fst (kf_49 X.1))) rfl ?_
              refine wp_iload rfl rfl ?_
              refine wp_ifltF (tn := 19) rfl rfl c5 ?_
              refine wp_iload rfl rfl ?_
              refine wp_iconst rfl ?_
              refine wp_icgeT (tn := 19) rfl rfl c25 ?_
              refine wp_sipush rfl ?_
              refine wp_lret rfl rfl ?_
              show Wp X _ 241 22 [vr 49, vi x5, vi x4] [vl 0] _ _
              refine wp_aload rfl rfl ?_
              refine wp_iload rfl rfl ?_
              refine wp_iconst rfl ?_
              refine wp_call (k := 240) (ρ2 := 0) (L2 := [vr 49, vi x4, vi 0]) rfl rfl rfl (Nat.le_of_ble_eq_true rfl) (Nat.le_of_ble_eq_true rfl) (Nat.le_of_ble_eq_true rfl) (rcv_V rfl (congrArg Prod.fst (kf_49 X.1))) rfl ?_
              refine wp_iload rfl rfl ?_
              refine wp_ifltF (tn := 19) rfl rfl c26 ?_
              refine wp_iload rfl rfl ?_
              refine wp_iconst rfl ?_
              refine wp_icgeT (tn := 19) rfl rfl c32 ?_
              refine wp_sipush rfl ?_
              refine wp_lret rfl rfl ?_
              show Wp X _ 241 28 [vr 49, vi x5, vi x4] [vl 0, vl 0] _ _
              refine wp_lcmp rfl ?_
              refine wp_ifneF (tn := 36) rfl rfl c33 ?_
              refine wp_iconst rfl ?_
              refine wp_goto (tn := 37) rfl rfl ?_
              refine wp_zret rfl rfl (by decide) ?_
              show Wp X _ 180 61 [vr 69, vr 49, vi x2, vi x3, vi x4, vi x5] [vi 1] _ _
              refine wp_ifneT (tn := 70) rfl rfl (by decide) ?_
              refine wp_aload rfl rfl ?_
              refine wp_getR (r := 70) rfl (congrArg Prod.fst (kf_69 X.1)) rfl ?_
              refine wp_iload rfl rfl ?_
              refine wp_dup2 rfl ?_
              have g35 := H.1
              replace H := H.2
              refine wp_iaload rfl (kf_71 X.1) g35 ?_
              refine wp_aload rfl rfl ?_
              refine wp_getR (r := 69) rfl (congrArg Prod.fst (kf_69 X.1)) rfl ?_
              refine wp_iload rfl rfl ?_
              have g36 := H.1
              replace H := H.2
              refine wp_iaload rfl (kf_70 X.1) g36 ?_
              refine wp_iadd rfl ?_
              have g37 := H.1
              replace H := H.2
              refine Wp.topI (y := ((h 71 x5) + (h 70 x3))) (w32_I g37) ?_
              refine wp_iastore rfl (kf_71 X.1) ⟨g35.1, g35.2⟩ ?_
              refine wp_iincR (L2 := [vr 69, vr 49, vi x2, vi (x3 + 1), vi x4, vi x5]) rfl rfl (by clear H; unfold R32; omega) rfl ?_
              refine wp_goto (tn := 23) rfl rfl ?_
              exact H
          · replace H := H.2 c32
            refine wp_iload rfl rfl ?_
            refine wp_ifltF (tn := 19) rfl rfl (by decide) ?_
            refine wp_iload rfl rfl ?_
            refine wp_iconst rfl ?_
            refine wp_icltT (tn := 21) rfl rfl (by decide) ?_
            refine wp_aload rfl rfl ?_
            refine wp_getR (r := 49) rfl (congrArg Prod.fst (kf_49 X.1)) rfl ?_
            refine wp_iload rfl rfl ?_
            refine wp_laload rfl (kf_50 X.1) ⟨c26, c32⟩ ?_
            refine wp_aload rfl rfl ?_
            refine wp_getR (r := 51) rfl (congrArg Prod.fst (kf_49 X.1)) rfl ?_
            refine wp_iload rfl rfl ?_
            refine wp_laload rfl (kf_52 X.1) (by decide) ?_
            refine wp_land rfl ?_
            refine wp_lret rfl rfl ?_
            show Wp X _ 241 12 [vr 49, vi x5, vi x4] [vl ((i64 (h 50 x4) &&& i64 (h 52 0)).toInt), vl 0] _ _
            refine wp_lcmp rfl ?_
            refine wp_ifne (tn := 36) rfl rfl (fun c38 => ?_) (fun c38 => ?_)
            · replace H := H.1 c38
              refine wp_iconst rfl ?_
              refine wp_zret rfl rfl (by decide) ?_
              show Wp X _ 180 61 [vr 69, vr 49, vi x2, vi x3, vi x4, vi x5] [vi 0] _ _
              refine wp_ifneF (tn := 70) rfl rfl (by decide) ?_
              have g39 := H.1
              replace H := H.2
              refine wp_iincR (L2 := [vr 69, vr 49, vi x2, vi x3, vi x4, vi (x5 + 1)]) rfl rfl g39 rfl ?_
              refine wp_goto (tn := 46) rfl rfl ?_
              exact H
            · replace H := H.2 c38
              refine wp_aload rfl rfl ?_
              refine wp_iload rfl rfl ?_
              refine wp_iconst rfl ?_
              refine wp_call (k := 240) (ρ2 := 0) (L2 := [vr 49, vi x5, vi 0]) rfl rfl rfl (Nat.le_of_ble_eq_true rfl) (Nat.le_of_ble_eq_true rfl) (Nat.le_of_ble_eq_true rfl) (rcv_V rfl (congrArg Prod.fst (kf_49 X.1))) rfl ?_
              refine wp_iload rfl rfl ?_
              refine wp_ifltF (tn := 19) rfl rfl c5 ?_
              refine wp_iload rfl rfl ?_
              refine wp_iconst rfl ?_
              refine wp_icgeT (tn := 19) rfl rfl c25 ?_
              refine wp_sipush rfl ?_
              refine wp_lret rfl rfl ?_
              show Wp X _ 241 22 [vr 49, vi x5, vi x4] [vl 0] _ _
              refine wp_aload rfl rfl ?_
              refine wp_iload rfl rfl ?_
              refine wp_iconst rfl ?_
              refine wp_call (k := 240) (ρ2 := 0) (L2 := [vr 49, vi x4, vi 0]) rfl rfl rfl (Nat.le_of_ble_eq_true rfl) (Nat.le_of_ble_eq_true rfl) (Nat.le_of_ble_eq_true rfl) (rcv_V rfl (congrArg Prod.fst (kf_49 X.1))) rfl ?_
              refine wp_iload rfl rfl ?_
              refine wp_ifltF (tn := 19) rfl rfl c26 ?_
              refine wp_iload rfl rfl ?_
              refine wp_iconst rfl ?_
              refine wp_icgeF (tn := 19) rfl rfl c32 ?_
              refine wp_iload rfl rfl ?_
              refine wp_ifltF (tn := 19) rfl rfl (by decide) ?_
              refine wp_iload rfl rfl ?_
              refine wp_iconst rfl ?_
              refine wp_icltT (tn := 21) rfl rfl (by decide) ?_
              refine wp_aload rfl rfl ?_
              refine wp_getR (r := 50) rfl (congrArg Prod.fst (kf_49 X.1)) rfl ?_
              refine wp_iload rfl rfl ?_
              refine wp_laload rfl (kf_51 X.1) ⟨c26, c32⟩ ?_
              refine wp_aload rfl rfl ?_
              refine wp_getR (r := 51) rfl (congrArg Prod.fst (kf_49 X.1)) rfl ?_
              refine wp_iload rfl rfl ?_
              refine wp_laload rfl (kf_52 X.1) (by decide) ?_
              refine wp_land rfl ?_
              refine wp_lret rfl rfl ?_
              show Wp X _ 241 28 [vr 49, vi x5, vi x4] [vl ((i64 (h 51 x4) &&& i64 (h 52 0)).toInt), vl 0] _ _
              refine wp_lcmp rfl ?_
              refine wp_ifne (tn := 36) rfl rfl (fun c40 => ?_) (fun c40 => ?_)
              · replace H := H.1 c40
                refine wp_iconst rfl ?_
                refine wp_zret rfl rfl (by decide) ?_
                show Wp X _ 180 61 [vr 69, vr 49, vi x2, vi x3, vi x4, vi x5] [vi 0] _ _
                refine wp_ifneF (tn := 70) rfl rfl (by decide) ?_
                have g41 := H.1
                replace H := H.2
                refine wp_iincR (L2 := [vr 69, vr 49, vi x2, vi x3, vi x4, vi (x5 + 1)]) rfl rfl g41 rfl ?_
                refine wp_goto (tn := 46) rfl rfl ?_
                exact H
              · replace H := H.2 c40
                refine wp_iconst rfl ?_
                refine wp_goto (tn := 37) rfl rfl ?_
                refine wp_zret rfl rfl (by decide) ?_
                show Wp X _ 180 61 [vr 69, vr 49, vi x2, vi x3, vi x4, vi x5] [vi 1] _ _
                refine wp_ifneT (tn := 70) rfl rfl (by decide) ?_
                refine wp_aload rfl rfl ?_
                refine wp_getR (r := 70) rfl (congrArg Prod.fst (kf_69 X.1)) rfl ?_
                refine wp_iload rfl rfl ?_
                refine wp_dup2 rfl ?_
                have g42 := H.1
                replace H := H.2
                refine wp_iaload rfl (kf_71 X.1) g42 ?_
                refine wp_aload rfl rfl ?_
                refine wp_getR (r := 69) rfl (congrArg Prod.fst (kf_69 X.1)) rfl ?_
                refine wp_iload rfl rfl ?_
                have g43 := H.1
                replace H := H.2
                refine wp_iaload rfl (kf_70 X.1) g43 ?_
                refine wp_iadd rfl ?_
                have g44 := H.1
                replace H := H.2
                refine Wp.topI (y := ((h 71 x5) + (h 70 x3))) (w32_I g44) ?_
                refine wp_iastore rfl (kf_71 X.1) ⟨g42.1, g42.2⟩ ?_
                refine wp_iincR (L2 := [vr 69, vr 49, vi x2, vi (x3 + 1), vi x4, vi x5]) rfl rfl (by clear H; unfold R32; omega) rfl ?_
                refine wp_goto (tn := 23) rfl rfl ?_
                exact H
      · replace H := H.2 c25
        refine wp_iload rfl rfl ?_
        refine wp_ifltF (tn := 19) rfl rfl (by decide) ?_
        refine wp_iload rfl rfl ?_
        refine wp_iconst rfl ?_
        refine wp_icltT (tn := 21) rfl rfl (by decide) ?_
        refine wp_aload rfl rfl ?_
        refine wp_getR (r := 49) rfl (congrArg Prod.fst (kf_49 X.1)) rfl ?_
        refine wp_iload rfl rfl ?_
        refine wp_laload rfl (kf_50 X.1) ⟨c5, c25⟩ ?_
        refine wp_aload rfl rfl ?_
        refine wp_getR (r := 51) rfl (congrArg Prod.fst (kf_49 X.1)) rfl ?_
        refine wp_iload rfl rfl ?_
        refine wp_laload rfl (kf_52 X.1) (by decide) ?_
        refine wp_land rfl ?_
        refine wp_lret rfl rfl ?_
        show Wp X _ 241 6 [vr 49, vi x5, vi x4] [vl ((i64 (h 50 x5) &&& i64 (h 52 0)).toInt)] _ _
        refine wp_aload rfl rfl ?_
        refine wp_iload rfl rfl ?_
        refine wp_iconst rfl ?_
        refine wp_call (k := 239) (ρ2 := 0) (L2 := [vr 49, vi x4, vi 0]) rfl rfl rfl (Nat.le_of_ble_eq_true rfl) (Nat.le_of_ble_eq_true rfl) (Nat.le_of_ble_eq_true rfl) (rcv_V rfl (congrArg Prod.fst (kf_49 X.1))) rfl ?_
        refine wp_iload rfl rfl ?_
        refine wp_iflt (tn := 19) rfl rfl (fun c45 => ?_) (fun c45 => ?_)
        · replace H := H.1 c45
          refine wp_sipush rfl ?_
          refine wp_lret rfl rfl ?_
          show Wp X _ 241 12 [vr 49, vi x5, vi x4] [vl 0, vl ((i64 (h 50 x5) &&& i64 (h 52 0)).toInt)] _ _
          refine wp_lcmp rfl ?_
          refine wp_ifne (tn := 36) rfl rfl (fun c46 => ?_) (fun c46 => ?_)
          · replace H := H.1 c46
            refine wp_iconst rfl ?_
            refine wp_zret rfl rfl (by decide) ?_
            show Wp X _ 180 61 [vr 69, vr 49, vi x2, vi x3, vi x4, vi x5] [vi 0] _ _
            refine wp_ifneF (tn := 70) rfl rfl (by decide) ?_
            refine wp_iincR (L2 := [vr 69, vr 49, vi x2, vi x3, vi x4, vi (x5 + 1)]) rfl rfl (by clear H; unfold R32; omega) rfl ?_
            refine wp_goto (tn := 46) rfl rfl ?_
            exact H
          · replace H := H.2 c46
            refine wp_aload rfl rfl ?_
            refine wp_iload rfl rfl ?_
            refine wp_iconst rfl ?_
            refine wp_call (k := 240) (ρ2 := 0) (L2 := [vr 49, vi x5, vi 0]) rfl rfl rfl (Nat.le_of_ble_eq_true rfl) (Nat.le_of_ble_eq_true rfl) (Nat.le_of_ble_eq_true rfl) (rcv_V rfl (congrArg Prod.fst (kf_49 X.1))) rfl ?_
            refine wp_iload rfl rfl ?_
            refine wp_ifltF (tn := 19) rfl rfl c5 ?_
            refine wp_iload rfl rfl ?_
            refine wp_iconst rfl ?_
            refine wp_icgeF (tn := 19) rfl rfl c25 ?_
            refine wp_iload rfl rfl ?_
            refine wp_ifltF (tn := 19) rfl rfl (by decide) ?_
            refine wp_iload rfl rfl ?_
            refine wp_iconst rfl ?_
            refine wp_icltT (tn := 21) rfl rfl (by decide) ?_
            refine wp_aload rfl rfl ?_
            refine wp_getR (r := 50) rfl (congrArg Prod.fst (kf_49 X.1)) rfl ?_
            refine wp_iload rfl rfl ?_
            refine wp_laload rfl (kf_51 X.1) ⟨c5, c25⟩ ?_
            refine wp_aload rfl rfl ?_
            refine wp_getR (r := 51) rfl (congrArg Prod.fst (kf_49 X.1)) rfl ?_
            refine wp_iload rfl rfl ?_
            refine wp_laload rfl (kf_52 X.1) (by decide) ?_
            refine wp_land rfl ?_
            refine wp_lret rfl rfl ?_
            show Wp X _ 241 22 [vr 49, vi x5, vi x4] [vl ((i64 (h 51 x5) &&& i64 (h 52 0)).toInt)] _ _
            refine wp_aload rfl rfl ?_
            refine wp_iload rfl rfl ?_
            refine wp_iconst rfl ?_
            refine wp_call (k := 240) (ρ2 := 0) (L2 := [vr 49, vi x4, vi 0]) rfl rfl rfl (Nat.le_of_ble_eq_true rfl) (Nat.le_of_ble_eq_true rfl) (Nat.le_of_ble_eq_true rfl) (rcv_V rfl (congrArg Prod.fst (kf_49 X.1))) rfl ?_
            refine wp_iload rfl rfl ?_
            refine wp_ifltT (tn := 19) rfl rfl c45 ?_
            refine wp_sipush rfl ?_
            refine wp_lret rfl rfl ?_
            show Wp X _ 241 28 [vr 49, vi x5, vi x4] [vl 0, vl ((i64 (h 51 x5) &&& i64 (h 52 0)).toInt)] _ _
            refine wp_lcmp rfl ?_
            refine wp_ifne (tn := 36) rfl rfl (fun c47 => ?_) (fun c47 => ?_)
            · replace H := H.1 c47
              refine wp_iconst rfl ?_
              refine wp_zret rfl rfl (by decide) ?_
              show Wp X _ 180 61 [vr 69, vr 49, vi x2, vi x3, vi x4, vi x5] [vi 0] _ _
              refine wp_ifneF (tn := 70) rfl rfl (by decide) ?_
              refine wp_iincR (L2 := [vr 69, vr 49, vi x2, vi x3, vi x4, vi (x5 + 1)]) rfl rfl (by clear H; unfold R32; omega) rfl ?_
              refine wp_goto (tn := 46) rfl rfl ?_
              exact H
            · replace H := H.2 c47
              refine wp_iconst rfl ?_
              refine wp_goto (tn := 37) rfl rfl ?_
              refine wp_zret rfl rfl (by decide) ?_
              show Wp X _ 180 61 [vr 69, vr 49, vi x2, vi x3, vi x4, vi x5] [vi 1] _ _
              refine wp_ifneT (tn := 70) rfl rfl (by decide) ?_
              refine wp_aload rfl rfl ?_
              refine wp_getR (r := 70) rfl (congrArg Prod.fst (kf_69 X.1)) rfl ?_
              refine wp_iload rfl rfl ?_
              refine wp_dup2 rfl ?_
              have g48 := H.1
              replace H := H.2
              refine wp_iaload rfl (kf_71 X.1) g48 ?_
              refine wp_aload rfl rfl ?_
              refine wp_getR (r := 69) rfl (congrArg Prod.fst (kf_69 X.1)) rfl ?_
              refine wp_iload rfl rfl ?_
              have g49 := H.1
              replace H := H.2
              refine wp_iaload rfl (kf_70 X.1) g49 ?_
              refine wp_iadd rfl ?_
              have g50 := H.1
              replace H := H.2
              refine Wp.topI (y := ((h 71 x5) + (h 70 x3))) (w32_I g50) ?_
              refine wp_iastore rfl (kf_71 X.1) ⟨g48.1, g48.2⟩ ?_
              refine wp_iincR (L2 := [vr 69, vr 49, vi x2, vi (x3 + 1), vi x4, vi x5]) rfl rfl (by clear H; unfold R32; omega) rfl ?_
              refine wp_goto (tn := 23) rfl rfl ?_
              exact H
        · replace H := H.2 c45
          refine wp_iload rfl rfl ?_
          refine wp_iconst rfl ?_
          refine wp_icge (tn := 19) rfl rfl (fun c51 => ?_) (fun c51 => ?_)
          · replace H := H.1 c51
            refine wp_sipush rfl ?_
            refine wp_lret rfl rfl ?_
            show Wp X _ 241 12 [vr 49, vi x5, vi x4] [vl 0, vl ((i64 (h 50 x5) &&& i64 (h 52 0)).toInt)] _ _
            refine wp_lcmp rfl ?_
            refine wp_ifne (tn := 36) rfl rfl (fun c52 => ?_) (fun c52 => ?_)
            · replace H := H.1 c52
              refine wp_iconst rfl ?_
              refine wp_zret rfl rfl (by decide) ?_
              show Wp X _ 180 61 [vr 69, vr 49, vi x2, vi x3, vi x4, vi x5] [vi 0] _ _
              refine wp_ifneF (tn := 70) rfl rfl (by decide) ?_
              refine wp_iincR (L2 := [vr 69, vr 49, vi x2, vi x3, vi x4, vi (x5 + 1)]) rfl rfl (by clear H; unfold R32; omega) rfl ?_
              refine wp_goto (tn := 46) rfl rfl ?_
              exact H
            · replace H := H.2 c52
              refine wp_aload rfl rfl ?_
              refine wp_iload rfl rfl ?_
              refine wp_iconst rfl ?_
              refine wp_call (k := 240) (ρ2 := 0) (L2 := [vr 49, vi x5, vi 0]) rfl rfl rfl (Nat.le_of_ble_eq_true rfl) (Nat.le_of_ble_eq_true rfl) (Nat.le_of_ble_eq_true rfl) (rcv_V rfl (congrArg Prod.fst (kf_49 X.1))) rfl ?_
              refine wp_iload rfl rfl ?_
              refine wp_ifltF (tn := 19) rfl rfl c5 ?_
              refine wp_iload rfl rfl ?_
              refine wp_iconst rfl ?_
              refine wp_icgeF (tn := 19) rfl rfl c25 ?_
              refine wp_iload rfl rfl ?_
              refine wp_ifltF (tn := 19) rfl rfl (by decide) ?_
              refine wp_iload rfl rfl ?_
              refine wp_iconst rfl ?_
              refine wp_icltT (tn := 21) rfl rfl (by decide) ?_
              refine wp_aload rfl rfl ?_
              refine wp_getR (r := 50) rfl (congrArg Prod.fst (kf_49 X.1)) rfl ?_
              refine wp_iload rfl rfl ?_
              refine wp_laload rfl (kf_51 X.1) ⟨c5, c25⟩ ?_
              refine wp_aload rfl rfl ?_
              refine wp_getR (r := 51) rfl (congrArg Prod.fst (kf_49 X.1)) rfl ?_
              refine wp_iload rfl rfl ?_
              refine wp_laload rfl (kf_52 X.1) (by decide) ?_
              refine wp_land rfl ?_
              refine wp_lret rfl rfl ?_
              show Wp X _ 241 22 [vr 49, vi x5, vi x4] [vl ((i64 (h 51 x5) &&& i64 (h 52 0)).toInt)] _ _
              refine wp_aload rfl rfl ?_
              refine wp_iload rfl rfl ?_
              refine wp_iconst rfl ?_
              refine wp_call (k := 240) (ρ2 := 0) (L2 := [vr 49, vi x4, vi 0]) rfl rfl rfl (Nat.le_of_ble_eq_true rfl) (Nat.le_of_ble_eq_true rfl) (Nat.le_of_ble_eq_true rfl) (rcv_V rfl (congrArg Prod.fst (kf_49 X.1))) rfl ?_
              refine wp_iload rfl rfl ?_
              refine wp_ifltF (tn := 19) rfl rfl c45 ?_
              refine wp_iload rfl rfl ?_
              refine wp_iconst rfl ?_
              refine wp_icgeT (tn := 19) rfl rfl c51 ?_
              refine wp_sipush rfl ?_
              refine wp_lret rfl rfl ?_
              show Wp X _ 241 28 [vr 49, vi x5, vi x4] [vl 0, vl ((i64 (h 51 x5) &&& i64 (h 52 0)).toInt)] _ _
              refine wp_lcmp rfl ?_
              refine wp_ifne (tn := 36) rfl rfl (fun c53 => ?_) (fun c53 => ?_)
              · replace H := H.1 c53
                refine wp_iconst rfl ?_
                refine wp_zret rfl rfl (by decide) ?_
                show Wp X _ 180 61 [vr 69, vr 49, vi x2, vi x3, vi x4, vi x5] [vi 0] _ _
                refine wp_ifneF (tn := 70) rfl rfl (by decide) ?_
                refine wp_iincR (L2 := [vr 69, vr 49, vi x2, vi x3, vi x4, vi (x5 + 1)]) rfl rfl (by clear H; unfold R32; omega) rfl ?_
                refine wp_goto (tn := 46) rfl rfl ?_
                exact H
              · replace H := H.2 c53
                refine wp_iconst rfl ?_
                refine wp_goto (tn := 37) rfl rfl ?_
                refine wp_zret rfl rfl (by decide) ?_
                show Wp X _ 180 61 [vr 69, vr 49, vi x2, vi x3, vi x4, vi x5] [vi 1] _ _
                refine wp_ifneT (tn := 70) rfl rfl (by decide) ?_
                refine wp_aload rfl rfl ?_
                refine wp_getR (r := 70) rfl (congrArg Prod.fst (kf_69 X.1)) rfl ?_
                refine wp_iload rfl rfl ?_
                refine wp_dup2 rfl ?_
                have g54 := H.1
                replace H := H.2
                refine wp_iaload rfl (kf_71 X.1) g54 ?_
                refine wp_aload rfl rfl ?_
                refine wp_getR (r := 69) rfl (congrArg Prod.fst (kf_69 X.1)) rfl ?_
                refine wp_iload rfl rfl ?_
                have g55 := H.1
                replace H := H.2
                refine wp_iaload rfl (kf_70 X.1) g55 ?_
                refine wp_iadd rfl ?_
                have g56 := H.1
                replace H := H.2
                refine Wp.topI (y := ((h 71 x5) + (h 70 x3))) (w32_I g56) ?_
                refine wp_iastore rfl (kf_71 X.1) ⟨g54.1, g54.2⟩ ?_
                refine wp_iincR (L2 := [vr 69, vr 49, vi x2, vi (x3 + 1), vi x4, vi x5]) rfl rfl (by clear H; unfold R32; omega) rfl ?_
                refine wp_goto (tn := 23) rfl rfl ?_
                exact H
          · replace H := H.2 c51
            refine wp_iload rfl rfl ?_
            refine wp_ifltF (tn := 19) rfl rfl (by decide) ?_
            refine wp_iload rfl rfl ?_
            refine wp_iconst rfl ?_
            refine wp_icltT (tn := 21) rfl rfl (by decide) ?_
            refine wp_aload rfl rfl ?_
            refine wp_getR (r := 49) rfl (congrArg Prod.fst (kf_49 X.1)) rfl ?_
            refine wp_iload rfl rfl ?_
            refine wp_laload rfl (kf_50 X.1) ⟨c45, c51⟩ ?_
            refine wp_aload rfl rfl ?_
            refine wp_getR (r := 51) rfl (congrArg Prod.fst (kf_49 X.1)) rfl ?_
            refine wp_iload rfl rfl ?_
            refine wp_laload rfl (kf_52 X.1) (by decide) ?_
            refine wp_land rfl ?_
            refine wp_lret rfl rfl ?_
            show Wp X _ 241 12 [vr 49, vi x5, vi x4] [vl ((i64 (h 50 x4) &&& i64 (h 52 0)).toInt), vl ((i64 (h 50 x5) &&& i64 (h 52 0)).toInt)] _ _
            refine wp_lcmp rfl ?_
            refine wp_ifne (tn := 36) rfl rfl (fun c57 => ?_) (fun c57 => ?_)
            · replace H := H.1 c57
              refine wp_iconst rfl ?_
              refine wp_zret rfl rfl (by decide) ?_
              show Wp X _ 180 61 [vr 69, vr 49, vi x2, vi x3, vi x4, vi x5] [vi 0] _ _
              refine wp_ifneF (tn := 70) rfl rfl (by decide) ?_
              refine wp_iincR (L2 := [vr 69, vr 49, vi x2, vi x3, vi x4, vi (x5 + 1)]) rfl rfl (by clear H; unfold R32; omega) rfl ?_
              refine wp_goto (tn := 46) rfl rfl ?_
              exact H
            · replace H := H.2 c57
              refine wp_aload rfl rfl ?_
              refine wp_iload rfl rfl ?_
              refine wp_iconst rfl ?_
              refine wp_call (k := 240) (ρ2 := 0) (L2 := [vr 49, vi x5, vi 0]) rfl rfl rfl (Nat.le_of_ble_eq_true rfl) (Nat.le_of_ble_eq_true rfl) (Nat.le_of_ble_eq_true rfl) (rcv_V rfl (congrArg Prod.fst (kf_49 X.1))) rfl ?_
              refine wp_iload rfl rfl ?_
              refine wp_ifltF (tn := 19) rfl rfl c5 ?_
              refine wp_iload rfl rfl ?_
              refine wp_iconst rfl ?_
              refine wp_icgeF (tn := 19) rfl rfl c25 ?_
              refine wp_iload rfl rfl ?_
              refine wp_ifltF (tn := 19) rfl rfl (by decide) ?_
              refine wp_iload rfl rfl ?_
              refine wp_iconst rfl ?_
              refine wp_icltT (tn := 21) rfl rfl (by decide) ?_
              refine wp_aload rfl rfl ?_
              refine wp_getR (r := 50) rfl (congrArg Prod.fst (kf_49 X.1)) rfl ?_
              refine wp_iload rfl rfl ?_
              refine wp_laload rfl (kf_51 X.1) ⟨c5, c25⟩ ?_
              refine wp_aload rfl rfl ?_
              refine wp_getR (r := 51) rfl (congrArg Prod.fst (kf_49 X.1)) rfl ?_
              refine wp_iload rfl rfl ?_
              refine wp_laload rfl (kf_52 X.1) (by decide) ?_
              refine wp_land rfl ?_
              refine wp_lret rfl rfl ?_
              show Wp X _ 241 22 [vr 49, vi x5, vi x4] [vl ((i64 (h 51 x5) &&& i64 (h 52 0)).toInt)] _ _
              refine wp_aload rfl rfl ?_
              refine wp_iload rfl rfl ?_
              refine wp_iconst rfl ?_
              refine wp_call (k := 240) (ρ2 := 0) (L2 := [vr 49, vi x4, vi 0]) rfl rfl rfl (Nat.le_of_ble_eq_true rfl) (Nat.le_of_ble_eq_true rfl) (Nat.le_of_ble_eq_true rfl) (rcv_V rfl (congrArg Prod.fst (kf_49 X.1))) rfl ?_
              refine wp_iload rfl rfl ?_
              refine wp_ifltF (tn := 19) rfl rfl c45 ?_
              refine wp_iload rfl rfl ?_
              refine wp_iconst rfl ?_
              refine wp_icgeF (tn := 19) rfl rfl c51 ?_
              refine wp_iload rfl rfl ?_
              refine wp_ifltF (tn := 19) rfl rfl (by decide) ?_
              refine wp_iload rfl rfl ?_
              refine wp_iconst rfl ?_
              refine wp_icltT (tn := 21) rfl rfl (by decide) ?_
              refine wp_aload rfl rfl ?_
              refine wp_getR (r := 50) rfl (congrArg Prod.fst (kf_49 X.1)) rfl ?_
              refine wp_iload rfl rfl ?_
              refine wp_laload rfl (kf_51 X.1) ⟨c45, c51⟩ ?_
              refine wp_aload rfl rfl ?_
              refine wp_getR (r := 51) rfl (congrArg Prod.fst (kf_49 X.1)) rfl ?_
              refine wp_iload rfl rfl ?_
              refine wp_laload rfl (kf_52 X.1) (by decide) ?_
              refine wp_land rfl ?_
              refine wp_lret rfl rfl ?_
              show Wp X _ 241 28 [vr 49, vi x5, vi x4] [vl ((i64 (h 51 x4) &&& i64 (h 52 0)).toInt), vl ((i64 (h 51 x5) &&& i64 (h 52 0)).toInt)] _ _
              refine wp_lcmp rfl ?_
              refine wp_ifne (tn := 36) rfl rfl (fun c58 => ?_) (fun c58 => ?_)
              · replace H := H.1 c58
                refine wp_iconst rfl ?_
                refine wp_zret rfl rfl (by decide) ?_
                show Wp X _ 180 61 [vr 69, vr 49, vi x2, vi x3, vi x4, vi x5] [vi 0] _ _
                refine wp_ifneF (tn := 70) rfl rfl (by decide) ?_
                refine wp_iincR (L2 := [vr 69, vr 49, vi x2, vi x3, vi x4, vi (x5 + 1)]) rfl rfl (by clear H; unfold R32; omega) rfl ?_
                refine wp_goto (tn := 46) rfl rfl ?_
                exact H
              · replace H := H.2 c58
                refine wp_iconst rfl ?_
                refine wp_goto (tn := 37) rfl rfl ?_
                refine wp_zret rfl rfl (by decide) ?_
                show Wp X _ 180 61 [vr 69, vr 49, vi x2, vi x3, vi x4, vi x5] [vi 1] _ _
                refine wp_ifneT (tn := 70) rfl rfl (by decide) ?_
                refine wp_aload rfl rfl ?_
                refine wp_getR (r := 70) rfl (congrArg Prod.fst (kf_69 X.1)) rfl ?_
                refine wp_iload rfl rfl ?_
                refine wp_dup2 rfl ?_
                have g59 := H.1
                replace H := H.2
                refine wp_iaload rfl (kf_71 X.1) g59 ?_
                refine wp_aload rfl rfl ?_
                refine wp_getR (r := 69) rfl (congrArg Prod.fst (kf_69 X.1)) rfl ?_
                refine wp_iload rfl rfl ?_
                have g60 := H.1
                replace H := H.2
                refine wp_iaload rfl (kf_70 X.1) g60 ?_
                refine wp_iadd rfl ?_
                have g61 := H.1
                replace H := H.2
                refine Wp.topI (y := ((h 71 x5) + (h 70 x3))) (w32_I g61) ?_
                refine wp_iastore rfl (kf_71 X.1) ⟨g59.1, g59.2⟩ ?_
                refine wp_iincR (L2 := [vr 69, vr 49, vi x2, vi (x3 + 1), vi x4, vi x5]) rfl rfl (by clear H; unfold R32; omega) rfl ?_
                refine wp_goto (tn := 23) rfl rfl ?_
                exact H
/-- Odds.weigh(L$ZoneRules;I)V, from 0 -/
theorem S180_69_57_0 {X : Nat × (Int → Int)} {h : HP} {Q : bQ} (x2 : Int) (H : Wp X 2 180 2 [vr 69, vr 57, vi x2, vi 0, vu, vu] [] h Q) : Wp X 2 180 0 [vr 69, vr 57, vi x2, vu, vu, vu] [] h Q := by
  refine wp_iconst rfl ?_
  refine wp_istore (L2 := [vr 69, vr 57, vi x2, vi 0, vu, vu]) rfl (Nat.le_of_ble_eq_true rfl) rfl ?_
  exact H
/-- Odds.weigh(L$ZoneRules;I)V, from 2 -/
theorem S180_69_57_2 {X : Nat × (Int → Int)} {h : HP} {Q : bQ} (x2 : Int) (x3 : Int) (H : ((8 ≤ x3 → Wp X 2 180 23 [vr 69, vr 57, vi x2, vi 0, vu, vu] [] h Q) ∧ (x3 < 8 → ((0 ≤ x3 ∧ x3 < 8) ∧ Wp X 2 180 2 [vr 69, vr 57, vi x2, vi (x3 + 1), vu, vu] [] (upd2 h 71 x3 0) Q)))) : Wp X 2 180 2 [vr 69, vr 57, vi x2, vi x3, vu, vu] [] h Q := by
  refine wp_iload rfl rfl ?_
  refine wp_iconst rfl ?_
  refine wp_icge (tn := 21) rfl rfl (fun c1 => ?_) (fun c1 => ?_)
  · replace H := H.1 c1
    refine wp_iconst rfl ?_
    refine wp_istore (L2 := [vr 69, vr 57, vi x2, vi 0, vu, vu]) rfl (Nat.le_of_ble_eq_true rfl) rfl ?_
    exact H
  · replace H := H.2 c1
    refine wp_aload rfl rfl ?_
    refine wp_getR (r := 70) rfl (congrArg Prod.fst (kf_69 X.1)) rfl ?_
    refine wp_iload rfl rfl ?_
    refine wp_iconst rfl ?_
    have g2 := H.1
    replace H := H.2
    refine wp_iastore rfl (kf_71 X.1) g2 ?_
    refine wp_iincR (L2 := [vr 69, vr 57, vi x2, vi (x3 + 1), vu, vu]) rfl rfl (by clear H; unfold R32; omega) rfl ?_
    refine wp_goto (tn := 2) rfl rfl ?_
    exact H
/-- Odds.weigh(L$ZoneRules;I)V, from 23 -/
theorem S180_69_57_23 {X : Nat × (Int → Int)} {h : HP} {Q : bQ} (x2 : Int) (x3 : Int) (zx4 : aV) (zx5 : aV) (H : ((8 ≤ x3 → Q none h) ∧ (x3 < 8 → ((R32 (x3 + x2)) ∧ (((x3 + x2) < 7 → ((0 < (x3 + x2) → Wp X 2 180 46 [vr 69, vr 57, vi x2, vi x3, vi (x3 + x2), vi 0] [] h Q) ∧ ((x3 + x2) ≤ 0 → Wp X 2 180 46 [vr 69, vr 57, vi x2, vi x3, vi 0, vi 0] [] h Q))) ∧ (7 ≤ (x3 + x2) → Wp X 2 180 46 [vr 69, vr 57, vi x2, vi x3, vi 7, vi 0] [] h Q)))))) : Wp X 2 180 23 [vr 69, vr 57, vi x2, vi x3, zx4, zx5] [] h Q := by
  refine wp_iload rfl rfl ?_
  refine wp_iconst rfl ?_
  refine wp_icge (tn := 92) rfl rfl (fun c1 => ?_) (fun c1 => ?_)
  · replace H := H.1 c1
    exact wp_vret rfl rfl H
  · replace H := H.2 c1
    refine wp_iconst rfl ?_
    refine wp_iconst rfl ?_
    refine wp_iload rfl rfl ?_
    refine wp_iload rfl rfl ?_
    refine wp_iadd rfl ?_
    have g2 := H.1
    replace H := H.2
    refine Wp.topI (y := (x3 + x2)) (w32_I g2) ?_
    refine wp_call (k := 253) (ρ2 := 0) (L2 := [vi 7, vi (x3 + x2)]) rfl rfl rfl (Nat.le_of_ble_eq_true rfl) (Nat.le_of_ble_eq_true rfl) (Nat.le_of_ble_eq_true rfl) (rcv_S rfl) rfl ?_
    refine wp_iload rfl rfl ?_
    refine wp_iload rfl rfl ?_
    refine wp_icgt (tn := 9) rfl rfl (fun c3 => ?_) (fun c3 => ?_)
    · replace H := H.1 c3
      refine wp_iload rfl rfl ?_
      refine wp_iret rfl rfl ?_
      show Wp X _ 180 38 [vr 69, vr 57, vi x2, vi x3, zx4, zx5] [vi (x3 + x2), vi 0] _ _
      refine wp_call (k := 252) (ρ2 := 0) (L2 := [vi 0, vi (x3 + x2)]) rfl rfl rfl (Nat.le_of_ble_eq_true rfl) (Nat.le_of_ble_eq_true rfl) (Nat.le_of_ble_eq_true rfl) (rcv_S rfl) rfl ?_
      refine wp_iload rfl rfl ?_
      refine wp_iload rfl rfl ?_
      refine wp_iclt (tn := 9) rfl rfl (fun c4 => ?_) (fun c4 => ?_)
      · replace H := H.1 c4
        refine wp_iload rfl rfl ?_
        refine wp_iret rfl rfl ?_
        show Wp X _ 180 41 [vr 69, vr 57, vi x2, vi x3, zx4, zx5] [vi (x3 + x2)] _ _
        refine wp_istore (L2 := [vr 69, vr 57, vi x2, vi x3, vi (x3 + x2), zx5]) rfl (Nat.le_of_ble_eq_true rfl) rfl ?_
        refine wp_iconst rfl ?_
        refine wp_istore (L2 := [vr 69, vr 57, vi x2, vi x3, vi (x3 + x2), vi 0]) rfl (Nat.le_of_ble_eq_true rfl) rfl ?_
        exact H
      · replace H := H.2 c4
        refine wp_iload rfl rfl ?_
        refine wp_goto (tn := 10) rfl rfl ?_
        refine wp_iret rfl rfl ?_
        show Wp X _ 180 41 [vr 69, vr 57, vi x2, vi x3, zx4, zx5] [vi 0] _ _
        refine wp_istore (L2 := [vr 69, vr 57, vi x2, vi x3, vi 0, zx5]) rfl (Nat.le_of_ble_eq_true rfl) rfl ?_
        refine wp_iconst rfl ?_
        refine wp_istore (L2 := [vr 69, vr 57, vi x2, vi x3, vi 0, vi 0]) rfl (Nat.le_of_ble_eq_true rfl) rfl ?_
        exact H
    · replace H := H.2 c3
      refine wp_iload rfl rfl ?_
      refine wp_goto (tn := 10) rfl rfl ?_
      refine wp_iret rfl rfl ?_
      show Wp X _ 180 38 [vr 69, vr 57, vi x2, vi x3, zx4, zx5] [vi 7, vi 0] _ _
      refine wp_call (k := 252) (ρ2 := 0) (L2 := [vi 0, vi 7]) rfl rfl rfl (Nat.le_of_ble_eq_true rfl) (Nat.le_of_ble_eq_true rfl) (Nat.le_of_ble_eq_true rfl) (rcv_S rfl) rfl ?_
      refine wp_iload rfl rfl ?_
      refine wp_iload rfl rfl ?_
      refine wp_icltT (tn := 9) rfl rfl (by decide) ?_
      refine wp_iload rfl rfl ?_
      refine wp_iret rfl rfl ?_
      show Wp X _ 180 41 [vr 69, vr 57, vi x2, vi x3, zx4, zx5] [vi 7] _ _
      refine wp_istore (L2 := [vr 69, vr 57, vi x2, vi x3, vi 7, zx5]) rfl (Nat.le_of_ble_eq_true rfl) rfl ?_
      refine wp_iconst rfl ?_
      refine wp_istore (L2 := [vr 69, vr 57, vi x2, vi x3, vi 7, vi 0]) rfl (Nat.le_of_ble_eq_true rfl) rfl ?_
      exact H
/-- Odds.weigh(L$ZoneRules;I)V, from 46 -/
theorem S180_69_57_46 {X : Nat × (Int → Int)} {h : HP} {Q : bQ} (x2 : Int) (x3 : Int) (x4 : Int) (x5 : Int) (H : ((x4 ≤ x5 → ((0 ≤ x5 ∧ x5 < 8) ∧ ((0 ≤ x3 ∧ x3 < 8) ∧ ((R32 ((h 71 x5) + (h 70 x3))) ∧ Wp X 2 180 23 [vr 69, vr 57, vi x2, vi (x3 + 1), vi x4, vi x5] [] (upd2 h 71 x5 ((h 71 x5) + (h 70 x3))) Q)))) ∧ (x5 < x4 → ((x5 < 0 → ((x4 < 0 → (((lcp 0 0) ≠ 0 → ((R32 (x5 + 1)) ∧ Wp X 2 180 46 [vr 69, vr 57, vi x2, vi x3, vi x4, vi (x5 + 1)] [] h Q)) ∧ ((lcp 0 0) = 0 → ((0 ≤ x5 ∧ x5 < 8) ∧ ((0 ≤ x3 ∧ x3 < 8) ∧ ((R32 ((h 71 x5) + (h 70 x3))) ∧ Wp X 2 180 23 [vr 69, vr 57, vi x2, vi (x3 + 1), vi x4, vi x5] [] (upd2 h 71 x5 ((h 71 x5) + (h 70 x3))) Q)))))) ∧ (0 ≤ x4 → ((9 ≤ x4 → (((lcp 0 0) ≠ 0 → ((R32 (x5 + 1)) ∧ Wp X 2 180 46 [vr 69, vr 57, vi x2, vi x3, vi x4, vi (x5 + 1)] [] h Q)) ∧ ((lcp 0 0) = 0 → ((0 ≤ x5 ∧ x5 < 8) ∧ ((0 ≤ x3 ∧ x3 < 8) ∧ ((R32 ((h 71 x5) + (h 70 x3))) ∧ Wp X 2 180 23 [vr 69, vr 57, vi x2, vi (x3 + 1), vi x4, vi x5] [] (upd2 h 71 x5 ((h 71 x5) + (h 70 x3))) Q)))))) ∧ (x4 < 9 → (((lcp 0 ((i64 (h 58 x4) &&& i64 (h 60 0)).toInt)) ≠ 0 → ((R32 (x5 + 1)) ∧ Wp X 2 180 46 [vr 69, vr 57, vi x2, vi x3, vi x4, vi (x5 + 1)] [] h Q)) ∧ ((lcp 0 ((i64 (h 58 x4) &&& i64 (h 60 0)).toInt)) = 0 → (((lcp 0 ((i64 (h 59 x4) &&& i64 (h 60 0)).toInt)) ≠ 0 → ((R32 (x5 + 1)) ∧ Wp X 2 180 46 [vr 69, vr 57, vi x2, vi x3, vi x4, vi (x5 + 1)] [] h Q)) ∧ ((lcp 0 ((i64 (h 59 x4) &&& i64 (h 60 0)).toInt)) = 0 → ((0 ≤ x5 ∧ x5 < 8) ∧ ((0 ≤ x3 ∧ x3 < 8) ∧ ((R32 ((h 71 x5) + (h 70 x3))) ∧ Wp X 2 180 23 [vr 69, vr 57, vi x2, vi (x3 + 1), vi x4, vi x5] [] (upd2 h 71 x5 ((h 71 x5) + (h 70 x3))) Q)))))))))))) ∧ (0 ≤ x5 → ((9 ≤ x5 → ((x4 < 0 → (((lcp 0 0) ≠ 0 → ((R32 (x5 + 1)) ∧ Wp X 2 180 46 [vr 69, vr 57, vi x2, vi x3, vi x4, vi (x5 + 1)] [] h Q)) ∧ ((lcp 0 0) = 0 → ((0 ≤ x5 ∧ x5 < 8) ∧ ((0 ≤ x3 ∧ x3 < 8) ∧ ((R32 ((h 71 x5) + (h 70 x3))) ∧ Wp X 2 180 23 [vr 69, vr 57, vi x2, vi (x3 + 1), vi x4, vi x5] [] (upd2 h 71 x5 ((h 71 x5) + (h 70 x3))) Q)))))) ∧ (0 ≤ x4 → ((9 ≤ x4 → (((lcp 0 0) ≠ 0 → ((R32 (x5 + 1)) ∧ Wp X 2 180 46 [vr 69, vr 57, vi x2, vi x3, vi x4, vi (x5 + 1)] [] h Q)) ∧ ((lcp 0 0) = 0 → ((0 ≤ x5 ∧ x5 < 8) ∧ ((0 ≤ x3 ∧ x3 < 8) ∧ ((R32 ((h 71 x5) + (h 70 x3))) ∧ Wp X 2 180 23 [vr 69, vr 57, vi x2, vi (x3 + 1), vi x4, vi x5] [] (upd2 h 71 x5 ((h 71 x5) + (h 70 x3))) Q)))))) ∧ (x4 < 9 → (((lcp 0 ((i64 (h 58 x4) &&& i64 (h 60 0)).toInt)) ≠ 0 → ((R32 (x5 + 1)) ∧ Wp X 2 180 46 [vr 69, vr 57, vi x2, vi x3, vi x4, vi (x5 + 1)] [] h Q)) ∧ ((lcp 0 ((i64 (h 58 x4) &&& i64 (h 60 0)).toInt)) = 0 → (((lcp 0 ((i64 (h 59 x4) &&& i64 (h 60 0)).toInt)) ≠ 0 → ((R32 (x5 + 1)) ∧ Wp X 2 180 46 [vr 69, vr 57, vi x2, vi x3, vi x4, vi (x5 + 1)] [] h Q)) ∧ ((lcp 0 ((i64 (h 59 x4) &&& i64 (h 60 0)).toInt)) = 0 → ((0 ≤ x5 ∧ x5 < 8) ∧ ((0 ≤ x3 ∧ x3 < 8) ∧ ((R32 ((h 71 x5) + (h 70 x3))) ∧ Wp X 2 180 23 [vr 69, vr 57, vi x2, vi (x3 + 1), vi x4, vi x5] [] (upd2 h 71 x5 ((h 71 x5) + (h 70 x3))) Q)))))))))))) ∧ (x5 < 9 → ((x4 < 0 → (((lcp ((i64 (h 58 x5) &&& i64 (h 60 0)).toInt) 0) ≠ 0 → Wp X 2 180 46 [vr 69, vr 57, vi x2, vi x3, vi x4, vi (x5 + 1)] [] h Q) ∧ ((lcp ((i64 (h 58 x5) &&& i64 (h 60 0)).toInt) 0) = 0 → (((lcp ((i64 (h 59 x5) &&& i64 (h 60 0)).toInt) 0) ≠ 0 → Wp X 2 180 46 [vr 69, vr 57, vi x2, vi x3, vi x4, vi (x5 + 1)] [] h Q) ∧ ((lcp ((i64 (h 59 x5) &&& i64 (h 60 0)).toInt) 0) = 0 → ((0 ≤ x5 ∧ x5 < 8) ∧ ((0 ≤ x3 ∧ x3 < 8) ∧ ((R32 ((h 71 x5) + (h 70 x3))) ∧ Wp X 2 180 23 [vr 69, vr 57, vi x2, vi (x3 + 1), vi x4, vi x5] [] (upd2 h 71 x5 ((h 71 x5) + (h 70 x3))) Q)))))))) ∧ (0 ≤ x4 → ((9 ≤ x4 → (((lcp ((i64 (h 58 x5) &&& i64 (h 60 0)).toInt) 0) ≠ 0 → Wp X 2 180 46 [vr 69, vr 57, vi x2, vi x3, vi x4, vi (x5 + 1)] [] h Q) ∧ ((lcp ((i64 (h 58 x5) &&& i64 (h 60 0)).toInt) 0) = 0 → (((lcp ((i64 (h 59 x5) &&& i64 (h 60 0)).toInt) 0) ≠ 0 → Wp X 2 180 46 [vr 69, vr 57, vi x2, vi x3, vi x4, vi (x5 + 1)] [] h Q) ∧ ((lcp ((i64 (h 59 x5) &&& i64 (h 60 0)).toInt) 0) = 0 → ((0 ≤ x5 ∧ x5 < 8) ∧ ((0 ≤ x3 ∧ x3 < 8) ∧ ((R32 ((h 71 x5) + (h 70 x3))) ∧ Wp X 2 180 23 [vr 69, vr 57, vi x2, vi (x3 + 1), vi x4, vi x5] [] (upd2 h 71 x5 ((h 71 x5) + (h 70 x3))) Q)))))))) ∧ (x4 < 9 → (((lcp ((i64 (h 58 x5) &&& i64 (h 60 0)).toInt) ((i64 (h 58 x4) &&& i64 (h 60 0)).toInt)) ≠ 0 → Wp X 2 180 46 [vr 69, vr 57, vi x2, vi x3, vi x4, vi (x5 + 1)] [] h Q) ∧ ((lcp ((i64 (h 58 x5) &&& i64 (h 60 0)).toInt) ((i64 (h 58 x4) &&& i64 (h 60 0)).toInt)) = 0 → (((lcp ((i64 (h 59 x5) &&& i64 (h 60 0)).toInt) ((i64 (h 59 x4) &&& i64 (h 60 0)).toInt)) ≠ 0 → Wp X 2 180 46 [vr 69, vr 57, vi x2, vi x3, vi x4, vi (x5 + 1)] [] h Q) ∧ ((lcp ((i64 (h 59 x5) &&& i64 (h 60 0)).toInt) ((i64 (h 59 x4) &&& i64 (h 60 0)).toInt)) = 0 → ((0 ≤ x5 ∧ x5 < 8) ∧ ((0 ≤ x3 ∧ x3 < 8) ∧ ((R32 ((h 71 x5) + (h 70 x3))) ∧ Wp X 2 180 23 [vr 69, vr 57, vi x2, vi (x3 + 1), vi x4, vi x5] [] (upd2 h 71 x5 ((h 71 x5) + (h 70 x3))) Q)))))))))))))))))) : Wp X 2 180 46 [vr 69, vr 57, vi x2, vi x3, vi x4, vi x5] [] h Q := by
  refine wp_iload rfl rfl ?_
  refine wp_iload rfl rfl ?_
  refine wp_icge (tn := 70) rfl rfl (fun c1 => ?_) (fun c1 => ?_)
  · replace H := H.1 c1
    refine wp_aload rfl rfl ?_
    refine wp_getR (r := 70) rfl (congrArg Prod.fst (kf_69 X.1)) rfl ?_
    refine wp_iload rfl rfl ?_
    refine wp_dup2 rfl ?_
    have g2 := H.1
    replace H := H.2
    refine wp_iaload rfl (kf_71 X.1) g2 ?_
    refine wp_aload rfl rfl ?_
    refine wp_getR (r := 69) rfl (congrArg Prod.fst (kf_69 X.1)) rfl ?_
    refine wp_iload rfl rfl ?_
    have g3 := H.1
    replace H := H.2
    refine wp_iaload rfl (kf_70 X.1) g3 ?_
    refine wp_iadd rfl ?_
    have g4 := H.1
    replace H := H.2
    refine Wp.topI (y := ((h 71 x5) + (h 70 x3))) (w32_I g4) ?_
    refine wp_iastore rfl (kf_71 X.1) ⟨g2.1, g2.2⟩ ?_
    refine wp_iincR (L2 := [vr 69, vr 57, vi x2, vi (x3 + 1), vi x4, vi x5]) rfl rfl (by clear H; unfold R32; omega) rfl ?_
    refine wp_goto (tn := 23) rfl rfl ?_
    exact H
  · replace H := H.2 c1
    refine wp_aload rfl rfl ?_
    refine wp_iload rfl rfl ?_
    refine wp_iload rfl rfl ?_
    refine wp_call (k := 241) (ρ2 := 1) (L2 := [vr 57, vi x5, vi x4]) rfl rfl rfl (Nat.le_of_ble_eq_true rfl) (Nat.le_of_ble_eq_true rfl) (Nat.le_of_ble_eq_true rfl) (rcv_V rfl (congrArg Prod.fst (kf_57 X.1))) rfl ?_
    refine wp_aload rfl rfl ?_
    refine wp_iload rfl rfl ?_
    refine wp_iconst rfl ?_
    refine wp_call (k := 239) (ρ2 := 0) (L2 := [vr 57, vi x5, vi 0]) rfl rfl rfl (Nat.le_of_ble_eq_true rfl) (Nat.le_of_ble_eq_true rfl) (Nat.le_of_ble_eq_true rfl) (rcv_V rfl (congrArg Prod.fst (kf_57 X.1))) rfl ?_
    refine wp_iload rfl rfl ?_
    refine wp_iflt (tn := 19) rfl rfl (fun c5 => ?_) (fun c5 => ?_)
    · replace H := H.1 c5
      refine wp_sipush rfl ?_
      refine wp_lret rfl rfl ?_
      show Wp X _ 241 6 [vr 57, vi x5, vi x4] [vl 0] _ _
      refine wp_aload rfl rfl ?_
      refine wp_iload rfl rfl ?_
      refine wp_iconst rfl ?_
      refine wp_call (k := 239) (ρ2 := 0) (L2 := [vr 57, vi x4, vi 0]) rfl rfl rfl (Nat.le_of_ble_eq_true rfl) (Nat.le_of_ble_eq_true rfl) (Nat.le_of_ble_eq_true rfl) (rcv_V rfl (congrArg Prod.fst (kf_57 X.1))) rfl ?_
      refine wp_iload rfl rfl ?_
      refine wp_iflt (tn := 19) rfl rfl (fun c6 => ?_) (fun c6 => ?_)
      · replace H := H.1 c6
        refine wp_sipush rfl ?_
        refine wp_lret rfl rfl ?_
        show Wp X _ 241 12 [vr 57, vi x5, vi x4] [vl 0, vl 0] _ _
        refine wp_lcmp rfl ?_
        refine wp_ifne (tn := 36) rfl rfl (fun c7 => ?_) (fun c7 => ?_)
        · replace H := H.1 c7
          refine wp_iconst rfl ?_
          refine wp_zret rfl rfl (by decide) ?_
          show Wp X _ 180 61 [vr 69, vr 57, vi x2, vi x3, vi x4, vi x5] [vi 0] _ _
          refine wp_ifneF (tn := 70) rfl rfl (by decide) ?_
          have g8 := H.1
          replace H := H.2
          refine wp_iincR (L2 := [vr 69, vr 57, vi x2, vi x3, vi x4, vi (x5 + 1)]) rfl rfl g8 rfl ?_
          refine wp_goto (tn := 46) rfl rfl ?_
          exact H
        · replace H := H.2 c7
          refine wp_aload rfl rfl ?_
          refine wp_iload rfl rfl ?_
          refine wp_iconst rfl ?_
          refine wp_call (k := 240) (ρ2 := 0) (L2 := [vr 57, vi x5, vi 0]) rfl rfl rfl (Nat.le_of_ble_eq_true rfl) (Nat.le_of_ble_eq_true rfl) (Nat.le_of_ble_eq_true rfl) (rcv_V rfl (congrArg Prod.fst (kf_57 X.1))) rfl ?_
          refine wp_iload rfl rfl ?_
          refine wp_ifltT (tn := 19) rfl rfl c5 ?_
          refine wp_sipush rfl ?_
          refine wp_lret rfl rfl ?_
          show Wp X _ 241 22 [vr 57, vi x5, vi x4] [vl 0] _ _
          refine wp_aload rfl rfl ?_
          refine wp_iload rfl rfl ?_
          refine wp_iconst rfl ?_
          refine wp_call (k := 240) (ρ2 := 0) (L2 := [vr 57, vi x4, vi 0]) rfl rfl rfl (Nat.le_of_ble_eq_true rfl) (Nat.le_of_ble_eq_true rfl) (Nat.le_of_ble_eq_true rfl) (rcv_V rfl (congrArg Prod.fst (kf_57 X.1))) rfl ?_
          refine wp_iload rfl rfl ?_
          refine wp_ifltT (tn := 19) rfl rfl c6 ?_
          refine wp_sipush rfl ?_
          refine wp_lret rfl rfl ?_
          show Wp X _ 241 28 [vr 57, vi x5, vi x4] [vl 0, vl 0] _ _
          refine wp_lcmp rfl ?_
          refine wp_ifneF (tn := 36) rfl rfl c7 ?_
          refine wp_iconst rfl ?_
          refine wp_goto (tn := 37) rfl rfl ?_
          refine wp_zret rfl rfl (by decide) ?_
          show Wp X _ 180 61 [vr 69, vr 57, vi x2, vi x3, vi x4, vi x5] [vi 1] _ _
          refine wp_ifneT (tn := 70) rfl rfl (by decide) ?_
          refine wp_aload rfl rfl ?_
          refine wp_getR (r := 70) rfl (congrArg Prod.fst (kf_69 X.1)) rfl ?_
          refine wp_iload rfl rfl ?_
          refine wp_dup2 rfl ?_
          have g9 := H.1
          replace H := H.2
          refine wp_iaload rfl (kf_71 X.1) g9 ?_
          refine wp_aload rfl rfl ?_
          refine wp_getR (r := 69) rfl (congrArg Prod.fst (kf_69 X.1)) rfl ?_
          refine wp_iload rfl rfl ?_
          have g10 := H.1
          replace H := H.2
          refine wp_iaload rfl (kf_70 X.1) g10 ?_
          refine wp_iadd rfl ?_
          have g11 := H.1
          replace H := H.2
          refine Wp.topI (y := ((h 71 x5) + (h 70 x3))) (w32_I g11) ?_
          refine wp_iastore rfl (kf_71 X.1) ⟨g9.1, g9.2⟩ ?_
          refine wp_iincR (L2 := [vr 69, vr 57, vi x2, vi (x3 + 1), vi x4, vi x5]) rfl rfl (by clear H; unfold R32; omega) rfl ?_
          refine wp_goto (tn := 23) rfl rfl ?_
          exact H
      · replace H := H.2 c6
        refine wp_iload rfl rfl ?_
        refine wp_iconst rfl ?_
        refine wp_icge (tn := 19) rfl rfl (fun c12 => ?_) (fun c12 => ?_)
        · replace H := H.1 c12
          refine wp_sipush rfl ?_
          refine wp_lret rfl rfl ?_
          show Wp X _ 241 12 [vr 57, vi x5, vi x4] [vl 0, vl 0] _ _
          refine wp_lcmp rfl ?_
          refine wp_ifne (tn := 36) rfl rfl (fun c13 => ?_) (fun c13 => ?_)
          · replace H := H.1 c13
            refine wp_iconst rfl ?_
            refine wp_zret rfl rfl (by decide) ?_
            show Wp X _ 180 61 [vr 69, vr 57, vi x2, vi x3, vi x4, vi x5] [vi 0] _ _
            refine wp_ifneF (tn := 70) rfl rfl (by decide) ?_
            have g14 := H.1
            replace H := H.2
            refine wp_iincR (L2 := [vr 69, vr 57, vi x2, vi x3, vi x4, vi (x5 + 1)]) rfl rfl g14 rfl ?_
            refine wp_goto (tn := 46) rfl rfl ?_
            exact H
          · replace H := H.2 c13
            refine wp_aload rfl rfl ?_
            refine wp_iload rfl rfl ?_
            refine wp_iconst rfl ?_
            refine wp_call (k := 240) (ρ2 := 0) (L2 := [vr 57, vi x5, vi 0]) rfl rfl rfl (Nat.le_of_ble_eq_true rfl) (Nat.le_of_ble_eq_true rfl) (Nat.le_of_ble_eq_true rfl) (rcv_V rfl (congrArg Prod.fst (kf_57 X.1))) rfl ?_
            refine wp_iload rfl rfl ?_
            refine wp_ifltT (tn := 19) rfl rfl c5 ?_
            refine wp_sipush rfl ?_
            refine wp_lret rfl rfl ?_
            show Wp X _ 241 22 [vr 57, vi x5, vi x4] [vl 0] _ _
            refine wp_aload rfl rfl ?_
            refine wp_iload rfl rfl ?_
            refine wp_iconst rfl ?_
            refine wp_call (k := 240) (ρ2 := 0) (L2 := [vr 57, vi x4, vi 0]) rfl rfl rfl (Nat.le_of_ble_eq_true rfl) (Nat.le_of_ble_eq_true rfl) (Nat.le_of_ble_eq_true rfl) (rcv_V rfl (congrArg Prod.fst (kf_57 X.1))) rfl ?_
            refine wp_iload rfl rfl ?_
            refine wp_ifltF (tn := 19) rfl rfl c6 ?_
            refine wp_iload rfl rfl ?_
            refine wp_iconst rfl ?_
            refine wp_icgeT (tn := 19) rfl rfl c12 ?_
            refine wp_sipush rfl ?_
            refine wp_lret rfl rfl ?_
            show Wp X _ 241 28 [vr 57, vi x5, vi x4] [vl 0, vl 0] _ _
            refine wp_lcmp rfl ?_
            refine wp_ifneF (tn := 36) rfl rfl c13 ?_
            refine wp_iconst rfl ?_
            refine wp_goto (tn := 37) rfl rfl ?_
            refine wp_zret rfl rfl (by decide) ?_
            show Wp X _ 180 61 [vr 69, vr 57, vi x2, vi x3, vi x4, vi x5] [vi 1] _ _
            refine wp_ifneT (tn := 70) rfl rfl (by decide) ?_
            refine wp_aload rfl rfl ?_
            refine wp_getR (r := 70) rfl (congrArg Prod.fst (kf_69 X.1)) rfl ?_
            refine wp_iload rfl rfl ?_
            refine wp_dup2 rfl ?_
            have g15 := H.1
            replace H := H.2
            refine wp_iaload rfl (kf_71 X.1) g15 ?_
            refine wp_aload rfl rfl ?_
            refine wp_getR (r := 69) rfl (congrArg Prod.fst (kf_69 X.1)) rfl ?_
            refine wp_iload rfl rfl ?_
            have g16 := H.1
            replace H := H.2
            refine wp_iaload rfl (kf_70 X.1) g16 ?_
            refine wp_iadd rfl ?_
            have g17 := H.1
            replace H := H.2
            refine Wp.topI (y := ((h 71 x5) + (h 70 x3))) (w32_I g17) ?_
            refine wp_iastore rfl (kf_71 X.1) ⟨g15.1, g15.2⟩ ?_
            refine wp_iincR (L2 := [vr 69, vr 57, vi x2, vi (x3 + 1), vi x4, vi x5]) rfl rfl (by clear H; unfold R32; omega) rfl ?_
            refine wp_goto (tn := 23) rfl rfl ?_
            exact H
        · replace H := H.2 c12
          refine wp_iload rfl rfl ?_
          refine wp_ifltF (tn := 19) rfl rfl (by decide) ?_
          refine wp_iload rfl rfl ?_
          refine wp_iconst rfl ?_
          refine wp_icltT (tn := 21) rfl rfl (by decide) ?_
          refine wp_aload rfl rfl ?_
          refine wp_getR (r := 57) rfl (congrArg Prod.fst (kf_57 X.1)) rfl ?_
          refine wp_iload rfl rfl ?_
          refine wp_laload rfl (kf_58 X.1) ⟨c6, c12⟩ ?_
          refine wp_aload rfl rfl ?_
          refine wp_getR (r := 59) rfl (congrArg Prod.fst (kf_57 X.1)) rfl ?_
          refine wp_iload rfl rfl ?_
          refine wp_laload rfl (kf_60 X.1) (by decide) ?_
          refine wp_land rfl ?_
          refine wp_lret rfl rfl ?_
          show Wp X _ 241 12 [vr 57, vi x5, vi x4] [vl ((i64 (h 58 x4) &&& i64 (h 60 0)).toInt), vl 0] _ _
          refine wp_lcmp rfl ?_
          refine wp_ifne (tn := 36) rfl rfl (fun c18 => ?_) (fun c18 => ?_)
          · replace H := H.1 c18
            refine wp_iconst rfl ?_
            refine wp_zret rfl rfl (by decide) ?_
            show Wp X _ 180 61 [vr 69, vr 57, vi x2, vi x3, vi x4, vi x5] [vi 0] _ _
            refine wp_ifneF (tn := 70) rfl rfl (by decide) ?_
            have g19 := H.1
            replace H := H.2
            refine wp_iincR (L2 := [vr 69, vr 57, vi x2, vi x3, vi x4, vi (x5 + 1)]) rfl rfl g19 rfl ?_
            refine wp_goto (tn := 46) rfl rfl ?_
            exact H
          · replace H := H.2 c18
            refine wp_aload rfl rfl ?_
            refine wp_iload rfl rfl ?_
            refine wp_iconst rfl ?_
            refine wp_call (k := 240) (ρ2 := 0) (L2 := [vr 57, vi x5, vi 0]) rfl rfl rfl (Nat.le_of_ble_eq_true rfl) (Nat.le_of_ble_eq_true rfl) (Nat.le_of_ble_eq_true rfl) (rcv_V rfl (congrArg Prod.fst (kf_57 X.1))) rfl ?_
            refine wp_iload rfl rfl ?_
            refine wp_ifltT (tn := 19) rfl rfl c5 ?_
            refine wp_sipush rfl ?_
            refine wp_lret rfl rfl ?_
            show Wp X _ 241 22 [vr 57, vi x5, vi x4] [vl 0] _ _
            refine wp_aload rfl rfl ?_
            refine wp_iload rfl rfl ?_
            refine wp_iconst rfl ?_
            refine wp_call (k := 240) (ρ2 := 0) (L2 := [vr 57, vi x4, vi 0]) rfl rfl rfl (Nat.le_of_ble_eq_true rfl) (Nat.le_of_ble_eq_true rfl) (Nat.le_of_ble_eq_true rfl) (rcv_V rfl (congrArg Prod.fst (kf_57 X.1))) rfl ?_
            refine wp_iload rfl rfl ?_
            refine wp_ifltF (tn := 19) rfl rfl c6 ?_
            refine wp_iload rfl rfl ?_
            refine wp_iconst rfl ?_
            refine wp_icgeF (tn := 19) rfl rfl c12 ?_
            refine wp_iload rfl rfl ?_
            refine wp_ifltF (tn := 19) rfl rfl (by decide) ?_
            refine wp_iload rfl rfl ?_
            refine wp_iconst rfl ?_
            refine wp_icltT (tn := 21) rfl rfl (by decide) ?_
            refine wp_aload rfl rfl ?_
            refine wp_getR (r := 58) rfl (congrArg Prod.fst (kf_57 X.1)) rfl ?_
            refine wp_iload rfl rfl ?_
            refine wp_laload rfl (kf_59 X.1) ⟨c6, c12⟩ ?_
            refine wp_aload rfl rfl ?_
            refine wp_getR (r := 59) rfl (congrArg Prod.fst (kf_57 X.1)) rfl ?_
            refine wp_iload rfl rfl ?_
            refine wp_laload rfl (kf_60 X.1) (by decide) ?_
            refine wp_land rfl ?_
            refine wp_lret rfl rfl ?_
            show Wp X _ 241 28 [vr 57, vi x5, vi x4] [vl ((i64 (h 59 x4) &&& i64 (h 60 0)).toInt), vl 0] _ _
            refine wp_lcmp rfl ?_
            refine wp_ifne (tn := 36) rfl rfl (fun c20 => ?_) (fun c20 => ?_)
            · replace H := H.1 c20
              refine wp_iconst rfl ?_
              refine wp_zret rfl rfl (by decide) ?_
              show Wp X _ 180 61 [vr 69, vr 57, vi x2, vi x3, vi x4, vi x5] [vi 0] _ _
              refine wp_ifneF (tn := 70) rfl rfl (by decide) ?_
              have g21 := H.1
              replace H := H.2
              refine wp_iincR (L2 := [vr 69, vr 57, vi x2, vi x3, vi x4, vi (x5 + 1)]) rfl rfl g21 rfl ?_
              refine wp_goto (tn := 46) rfl rfl ?_
              exact H
            · replace H := H.2 c20
              refine wp_iconst rfl ?_
              refine wp_goto (tn := 37) rfl rfl ?_
              refine wp_zret rfl rfl (by decide) ?_
              show Wp X _ 180 61 [vr 69, vr 57, vi x2, vi x3, vi x4, vi x5] [vi 1] _ _
              refine wp_ifneT (tn := 70) rfl rfl (by decide) ?_
              refine wp_aload rfl rfl ?_
              refine wp_getR (r := 70) rfl (congrArg Prod.fst (kf_69 X.1)) rfl ?_
              refine wp_iload rfl rfl ?_
              refine wp_dup2 rfl ?_
              have g22 := H.1
              replace H := H.2
              refine wp_iaload rfl (kf_71 X.1) g22 ?_
              refine wp_aload rfl rfl ?_
              refine wp_getR (r := 69) rfl (congrArg Prod.fst (kf_69 X.1)) rfl ?_
              refine wp_iload rfl rfl ?_
              have g23 := H.1
              replace H := H.2
              refine wp_iaload rfl (kf_70 X.1) g23 ?_
              refine wp_iadd rfl ?_
              have g24 := H.1
              replace H := H.2
              refine Wp.topI (y := ((h 71 x5) + (h 70 x3))) (w32_I g24) ?_
              refine wp_iastore rfl (kf_71 X.1) ⟨g22.1, g22.2⟩ ?_
              refine wp_iincR (L2 := [vr 69, vr 57, vi x2, vi (x3 + 1), vi x4, vi x5]) rfl rfl (by clear H; unfold R32; omega) rfl ?_
              refine wp_goto (tn := 23) rfl rfl ?_
              exact H
    · replace H := H.2 c5
      refine wp_iload rfl rfl ?_
      refine wp_iconst rfl ?_
      refine wp_icge (tn := 19) rfl rfl (fun c25 => ?_) (fun c25 => ?_)
      · replace H := H.1 c25
        refine wp_sipush rfl ?_
        refine wp_lret rfl rfl ?_
        show Wp X _ 241 6 [vr 57, vi x5, vi x4] [vl 0] _ _
        refine wp_aload rfl rfl ?_
        refine wp_iload rfl rfl ?_
        refine wp_iconst rfl ?_
        refine wp_call (k := 239) (ρ2 := 0) (L2 := [vr 57, vi x4, vi 0]) rfl rfl rfl (Nat.le_of_ble_eq_true rfl) (Nat.le_of_ble_eq_true rfl) (Nat.le_of_ble_eq_true rfl) (rcv_V rfl (congrArg Prod.fst (kf_57 X.1))) rfl ?_
        refine wp_iload rfl rfl ?_
        refine wp_iflt (tn := 19) rfl rfl (fun c26 => ?_) (fun c26 => ?_)
        · replace H := H.1 c26
          refine wp_sipush rfl ?_
          refine wp_lret rfl rfl ?_
          show Wp X _ 241 12 [vr 57, vi x5, vi x4] [vl 0, vl 0] _ _
          refine wp_lcmp rfl ?_
          refine wp_ifne (tn := 36) rfl rfl (fun c27 => ?_) (fun c27 => ?_)
          · replace H := H.1 c27
            refine wp_iconst rfl ?_
            refine wp_zret rfl rfl (by decide) ?_
            show Wp X _ 180 61 [vr 69, vr 57, vi x2, vi x3, vi x4, vi x5] [vi 0] _ _
            refine wp_ifneF (tn := 70) rfl rfl (by decide) ?_
            have g28 := H.1
            replace H := H.2
            refine wp_iincR (L2 := [vr 69, vr 57, vi x2, vi x3, vi x4, vi (x5 + 1)]) rfl rfl g28 rfl ?_
            refine wp_goto (tn := 46) rfl rfl ?_
            exact H
          · replace H := H.2 c27
            refine wp_aload rfl rfl ?_
            refine wp_iload rfl rfl ?_
            refine wp_iconst rfl ?_
            refine wp_call (k := 240) (ρ2 := 0) (L2 := [vr 57, vi x5, vi 0]) rfl rfl rfl (Nat.le_of_ble_eq_true rfl) (Nat.le_of_ble_eq_true rfl) (Nat.le_of_ble_eq_true rfl) (rcv_V rfl (congrArg Prod.fst (kf_57 X.1))) rfl ?_
            refine wp_iload rfl rfl ?_
            refine wp_ifltF (tn := 19) rfl rfl c5 ?_
            refine wp_iload rfl rfl ?_
            refine wp_iconst rfl ?_
            refine wp_icgeT (tn := 19) rfl rfl c25 ?_
            refine wp_sipush rfl ?_
            refine wp_lret rfl rfl ?_
            show Wp X _ 241 22 [vr 57, vi x5, vi x4] [vl 0] _ _
            refine wp_aload rfl rfl ?_
            refine wp_iload rfl rfl ?_
            refine wp_iconst rfl ?_
            refine wp_call (k := 240) (ρ2 := 0) (L2 := [vr 57, vi x4, vi 0]) rfl rfl rfl (Nat.le_of_ble_eq_true rfl) (Nat.le_of_ble_eq_true rfl) (Nat.le_of_ble_eq_true rfl) (rcv_V rfl (congrArg Prod.fst (kf_57 X.1))) rfl ?_
            refine wp_iload rfl rfl ?_
            refine wp_ifltT (tn := 19) rfl rfl c26 ?_
            refine wp_sipush rfl ?_
            refine wp_lret rfl rfl ?_
            show Wp X _ 241 28 [vr 57, vi x5, vi x4] [vl 0, vl 0] _ _
            refine wp_lcmp rfl ?_
            refine wp_ifneF (tn := 36) rfl rfl c27 ?_
            refine wp_iconst rfl ?_
            refine wp_goto (tn := 37) rfl rfl ?_
            refine wp_zret rfl rfl (by decide) ?_
            show Wp X _ 180 61 [vr 69, vr 57, vi x2, vi x3, vi x4, vi x5] [vi 1] _ _
            refine wp_ifneT (tn := 70) rfl rfl (by decide) ?_
            refine wp_aload rfl rfl ?_
            refine wp_getR (r := 70) rfl (congrArg Prod.fst (kf_69 X.1)) rfl ?_
            refine wp_iload rfl rfl ?_
            refine wp_dup2 rfl ?_
            have g29 := H.1
            replace H := H.2
            refine wp_iaload rfl (kf_71 X.1) g29 ?_
            refine wp_aload rfl rfl ?_
            refine wp_getR (r := 69) rfl (congrArg Prod.fst (kf_69 X.1)) rfl ?_
            refine wp_iload rfl rfl ?_
            have g30 := H.1
            replace H := H.2
            refine wp_iaload rfl (kf_70 X.1) g30 ?_
            refine wp_iadd rfl ?_
            have g31 := H.1
            replace H := H.2
            refine Wp.topI (y := ((h 71 x5) + (h 70 x3))) (w32_I g31) ?_
            refine wp_iastore rfl (kf_71 X.1) ⟨g29.1, g29.2⟩ ?_
            refine wp_iincR (L2 := [vr 69, vr 57, vi x2, vi (x3 + 1), vi x4, vi x5]) rfl rfl (by clear H; unfold R32; omega) rfl ?_
            refine wp_goto (tn := 23) rfl rfl ?_
            exact H
        · replace H := H.2 c26
          refine wp_iload rfl rfl ?_
          refine wp_iconst rfl ?_
          refine wp_icge (tn := 19) rfl rfl (fun c32 => ?_) (fun c32 => ?_)
          · replace H := H.1 c32
            refine wp_sipush rfl ?_
            refine wp_lret rfl rfl ?_
            show Wp X _ 241 12 [vr 57, vi x5, vi x4] [vl 0, vl 0] _ _
            refine wp_lcmp rfl ?_
            refine wp_ifne (tn := 36) rfl rfl (fun c33 => ?_) (fun c33 => ?_)
            · replace H := H.1 c33
              refine wp_iconst rfl ?_
              refine wp_zret rfl rfl (by decide) ?_
              show Wp X _ 180 61 [vr 69, vr 57, vi x2, vi x3, vi x4, vi x5] [vi 0] _ _
              refine wp_ifneF (tn := 70) rfl rfl (by decide) ?_
              have g34 := H.1
              replace H := H.2
              refine wp_iincR (L2 := [vr 69, vr 57, vi x2, vi x3, vi x4, vi (x5 + 1)]) rfl rfl g34 rfl ?_
              refine wp_goto (tn := 46) rfl rfl ?_
              exact H
            · replace H := H.2 c33
              refine wp_aload rfl rfl ?_
              refine wp_iload rfl rfl ?_
              refine wp_iconst rfl ?_
              refine wp_call (k := 240) (ρ2 := 0) (L2 := [vr 57, vi x5, vi 0]) rfl rfl rfl (Nat.le_of_ble_eq_true rfl) (Nat.le_of_ble_eq_true rfl) (Nat.le_of_ble_eq_true rfl) (rcv_V rfl (congrArg Prod.fst (kf_57 X.1))) rfl ?_
              refine wp_iload rfl rfl ?_
              refine wp_ifltF (tn := 19) rfl rfl c5 ?_
              refine wp_iload rfl rfl ?_
              refine wp_iconst rfl ?_
              refine wp_icgeT (tn := 19) rfl rfl c25 ?_
              refine wp_sipush rfl ?_
              refine wp_lret rfl rfl ?_
              show Wp X _ 241 22 [vr 57, vi x5, vi x4] [vl 0] _ _
              refine wp_aload rfl rfl ?_
              refine wp_iload rfl rfl ?_
              refine wp_iconst rfl ?_
              refine wp_call (k := 240) (ρ2 := 0) (L2 := [vr 57, vi x4, vi 0]) rfl rfl rfl (Nat.le_of_ble_eq_true rfl) (Nat.le_of_ble_eq_true rfl) (Nat.le_of_ble_eq_true rfl) (rcv_V rfl (congrArg Prod.fst (kf_57 X.1))) rfl ?_
              refine wp_iload rfl rfl ?_
              refine wp_ifltF (tn := 19) rfl rfl c26 ?_
              refine wp_iload rfl rfl ?_
              refine wp_iconst rfl ?_
              refine wp_icgeT (tn := 19) rfl rfl c32 ?_
              refine wp_sipush rfl ?_
              refine wp_lret rfl rfl ?_
              show Wp X _ 241 28 [vr 57, vi x5, vi x4] [vl 0, vl 0] _ _
              refine wp_lcmp rfl ?_
              refine wp_ifneF (tn := 36) rfl rfl c33 ?_
              refine wp_iconst rfl ?_
              refine wp_goto (tn := 37) rfl rfl ?_
              refine wp_zret rfl rfl (by decide) ?_
              show Wp X _ 180 61 [vr 69, vr 57, vi x2, vi x3, vi x4, vi x5] [vi 1] _ _
              refine wp_ifneT (tn := 70) rfl rfl (by decide) ?_
              refine wp_aload rfl rfl ?_
              refine wp_getR (r := 70) rfl (congrArg Prod.fst (kf_69 X.1)) rfl ?_
              refine wp_iload rfl rfl ?_
              refine wp_dup2 rfl ?_
              have g35 := H.1
              replace H := H.2
              refine wp_iaload rfl (kf_71 X.1) g35 ?_
              refine wp_aload rfl rfl ?_
              refine wp_getR (r := 69) rfl (congrArg Prod.fst (kf_69 X.1)) rfl ?_
              refine wp_iload rfl rfl ?_
              have g36 := H.1
              replace H := H.2
              refine wp_iaload rfl (kf_70 X.1) g36 ?_
              refine wp_iadd rfl ?_
              have g37 := H.1
              replace H := H.2
              refine Wp.topI (y := ((h 71 x5) + (h 70 x3))) (w32_I g37) ?_
              refine wp_iastore rfl (kf_71 X.1) ⟨g35.1, g35.2⟩ ?_
              refine wp_iincR (L2 := [vr 69, vr 57, vi x2, vi (x3 + 1), vi x4, vi x5]) rfl rfl (by clear H; unfold R32; omega) rfl ?_
              refine wp_goto (tn := 23) rfl rfl ?_
              exact H
          · replace H := H.2 c32
            refine wp_iload rfl rfl ?_
            refine wp_ifltF (tn := 19) rfl rfl (by decide) ?_
            refine wp_iload rfl rfl ?_
            refine wp_iconst rfl ?_
            refine wp_icltT (tn := 21) rfl rfl (by decide) ?_
            refine wp_aload rfl rfl ?_
            refine wp_getR (r := 57) rfl (congrArg Prod.fst (kf_57 X.1)) rfl ?_
            refine wp_iload rfl rfl ?_
            refine wp_laload rfl (kf_58 X.1) ⟨c26, c32⟩ ?_
            refine wp_aload rfl rfl ?_
            refine wp_getR (r := 59) rfl (congrArg Prod.fst (kf_57 X.1)) rfl ?_
            refine wp_iload rfl rfl ?_
            refine wp_laload rfl (kf_60 X.1) (by decide) ?_
            refine wp_land rfl ?_
            refine wp_lret rfl rfl ?_
            show Wp X _ 241 12 [vr 57, vi x5, vi x4] [vl ((i64 (h 58 x4) &&& i64 (h 60 0)).toInt), vl 0] _ _
            refine wp_lcmp rfl ?_
            refine wp_ifne (tn := 36) rfl rfl (fun c38 => ?_) (fun c38 => ?_)
            · replace H := H.1 c38
              refine wp_iconst rfl ?_
              refine wp_zret rfl rfl (by decide) ?_
              show Wp X _ 180 61 [vr 69, vr 57, vi x2, vi x3, vi x4, vi x5] [vi 0] _ _
              refine wp_ifneF (tn := 70) rfl rfl (by decide) ?_
              have g39 := H.1
              replace H := H.2
              refine wp_iincR (L2 := [vr 69, vr 57, vi x2, vi x3, vi x4, vi (x5 + 1)]) rfl rfl g39 rfl ?_
              refine wp_goto (tn := 46) rfl rfl ?_
              exact H
            · replace H := H.2 c38
              refine wp_aload rfl rfl ?_
              refine wp_iload rfl rfl ?_
              refine wp_iconst rfl ?_
              refine wp_call (k := 240) (ρ2 := 0) (L2 := [vr 57, vi x5, vi 0]) rfl rfl rfl (Nat.le_of_ble_eq_true rfl) (Nat.le_of_ble_eq_true rfl) (Nat.le_of_ble_eq_true rfl) (rcv_V rfl (congrArg Prod.fst (kf_57 X.1))) rfl ?_
              refine wp_iload rfl rfl ?_
              refine wp_ifltF (tn := 19) rfl rfl c5 ?_
              refine wp_iload rfl rfl ?_
              refine wp_iconst rfl ?_
              refine wp_icgeT (tn := 19) rfl rfl c25 ?_
              refine wp_sipush rfl ?_
              refine wp_lret rfl rfl ?_
              show Wp X _ 241 22 [vr 57, vi x5, vi x4] [vl 0] _ _
              refine wp_aload rfl rfl ?_
              refine wp_iload rfl rfl ?_
              refine wp_iconst rfl ?_
              refine wp_call (k := 240) (ρ2 := 0) (L2 := [vr 57, vi x4, vi 0]) rfl rfl rfl (Nat.le_of_ble_eq_true rfl) (Nat.le_of_ble_eq_true rfl) (Nat.le_of_ble_eq_true rfl) (rcv_V rfl (congrArg Prod.fst (kf_57 X.1))) rfl ?_
              refine wp_iload rfl rfl ?_
              refine wp_ifltF (tn := 19) rfl rfl c26 ?_
              refine wp_iload rfl rfl ?_
              refine wp_iconst rfl ?_
              refine wp_icgeF (tn := 19) rfl rfl c32 ?_
              refine wp_iload rfl rfl ?_
              refine wp_ifltF (tn := 19) rfl rfl (by decide) ?_
              refine wp_iload rfl rfl ?_
              refine wp_iconst rfl ?_
              refine wp_icltT (tn := 21) rfl rfl (by decide) ?_
              refine wp_aload rfl rfl ?_
              refine wp_getR (r := 58) rfl (congrArg Prod.fst (kf_57 X.1)) rfl ?_
              refine wp_iload rfl rfl ?_
              refine wp_laload rfl (kf_59 X.1) ⟨c26, c32⟩ ?_
              refine wp_aload rfl rfl ?_
              refine wp_getR (r := 59) rfl (congrArg Prod.fst (kf_57 X.1)) rfl ?_
              refine wp_iload rfl rfl ?_
              refine wp_laload rfl (kf_60 X.1) (by decide) ?_
              refine wp_land rfl ?_
              refine wp_lret rfl rfl ?_
              show Wp X _ 241 28 [vr 57, vi x5, vi x4] [vl ((i64 (h 59 x4) &&& i64 (h 60 0)).toInt), vl 0] _ _
              refine wp_lcmp rfl ?_
              refine wp_ifne (tn := 36) rfl rfl (fun c40 => ?_) (fun c40 => ?_)
              · replace H := H.1 c40
                refine wp_iconst rfl ?_
                refine wp_zret rfl rfl (by decide) ?_
                show Wp X _ 180 61 [vr 69, vr 57, vi x2, vi x3, vi x4, vi x5] [vi 0] _ _
                refine wp_ifneF (tn := 70) rfl rfl (by decide) ?_
                have g41 := H.1
                replace H := H.2
                refine wp_iincR (L2 := [vr 69, vr 57, vi x2, vi x3, vi x4, vi (x5 + 1)]) rfl rfl g41 rfl ?_
                refine wp_goto (tn := 46) rfl rfl ?_
                exact H
              · replace H := H.2 c40
                refine wp_iconst rfl ?_
                refine wp_goto (tn := 37) rfl rfl ?_
                refine wp_zret rfl rfl (by decide) ?_
                show Wp X _ 180 61 [vr 69, vr 57, vi x2, vi x3, vi x4, vi x5] [vi 1] _ _
                refine wp_ifneT (tn := 70) rfl rfl (by decide) ?_
                refine wp_aload rfl rfl ?_
                refine wp_getR (r := 70) rfl (congrArg Prod.fst (kf_69 X.1)) rfl ?_
                refine wp_iload rfl rfl ?_
                refine wp_dup2 rfl ?_
                have g42 := H.1
                replace H := H.2
                refine wp_iaload rfl (kf_71 X.1) g42 ?_
                refine wp_aload rfl rfl ?_
                refine wp_getR (r := 69) rfl (congrArg Prod.fst (kf_69 X.1)) rfl ?_
                refine wp_iload rfl rfl ?_
                have g43 := H.1
                replace H := H.2
                refine wp_iaload rfl (kf_70 X.1) g43 ?_
                refine wp_iadd rfl ?_
                have g44 := H.1
                replace H := H.2
                refine Wp.topI (y := ((h 71 x5) + (h 70 x3))) (w32_I g44) ?_
                refine wp_iastore rfl (kf_71 X.1) ⟨g42.1, g42.2⟩ ?_
                refine wp_iincR (L2 := [vr 69, vr 57, vi x2, vi (x3 + 1), vi x4, vi x5]) rfl rfl (by clear H; unfold R32; omega) rfl ?_
                refine wp_goto (tn := 23) rfl rfl ?_
                exact H
      · replace H := H.2 c25
        refine wp_iload rfl rfl ?_
        refine wp_ifltF (tn := 19) rfl rfl (by decide) ?_
        refine wp_iload rfl rfl ?_
        refine wp_iconst rfl ?_
        refine wp_icltT (tn := 21) rfl rfl (by decide) ?_
        refine wp_aload rfl rfl ?_
        refine wp_getR (r := 57) rfl (congrArg Prod.fst (kf_57 X.1)) rfl ?_
        refine wp_iload rfl rfl ?_
        refine wp_laload rfl (kf_58 X.1) ⟨c5, c25⟩ ?_
        refine wp_aload rfl rfl ?_
        refine wp_getR (r := 59) rfl (congrArg Prod.fst (kf_57 X.1)) rfl ?_
        refine wp_iload rfl rfl ?_
        refine wp_laload rfl (kf_60 X.1) (by decide) ?_
        refine wp_land rfl ?_
        refine wp_lret rfl rfl ?_
        show Wp X _ 241 6 [vr 57, vi x5, vi x4] [vl ((i64 (h 58 x5) &&& i64 (h 60 0)).toInt)] _ _
        refine wp_aload rfl rfl ?_
        refine wp_iload rfl rfl ?_
        refine wp_iconst rfl ?_
        refine wp_call (k := 239) (ρ2 := 0) (L2 := [vr 57, vi x4, vi 0]) rfl rfl rfl (Nat.le_of_ble_eq_true rfl) (Nat.le_of_ble_eq_true rfl) (Nat.le_of_ble_eq_true rfl) (rcv_V rfl (congrArg Prod.fst (kf_57 X.1))) rfl ?_
        refine wp_iload rfl rfl ?_
        refine wp_iflt (tn := 19) rfl rfl (fun c45 => ?_) (fun c45 => ?_)
        · replace H := H.1 c45
          refine wp_sipush rfl ?_
          refine wp_lret rfl rfl ?_
          show Wp X _ 241 12 [vr 57, vi x5, vi x4] [vl 0, vl ((i64 (h 58 x5) &&& i64 (h 60 0)).toInt)] _ _
          refine wp_lcmp rfl ?_
          refine wp_ifne (tn := 36) rfl rfl (fun c46 => ?_) (fun c46 => ?_)
          · replace H := H.1 c46
            refine wp_iconst rfl ?_
            refine wp_zret rfl rfl (by decide) ?_
            show Wp X _ 180 61 [vr 69, vr 57, vi x2, vi x3, vi x4, vi x5] [vi 0] _ _
            refine wp_ifneF (tn := 70) rfl rfl (by decide) ?_
            refine wp_iincR (L2 := [vr 69, vr 57, vi x2, vi x3, vi x4, vi (x5 + 1)]) rfl rfl (by clear H; unfold R32; omega) rfl ?_
            refine wp_goto (tn := 46) rfl rfl ?_
            exact H
          · replace H := H.2 c46
            refine wp_aload rfl rfl ?_
            refine wp_iload rfl rfl ?_
            refine wp_iconst rfl ?_
            refine wp_call (k := 240) (ρ2 := 0) (L2 := [vr 57, vi x5, vi 0]) rfl rfl rfl (Nat.le_of_ble_eq_true rfl) (Nat.le_of_ble_eq_true rfl) (Nat.le_of_ble_eq_true rfl) (rcv_V rfl (congrArg Prod.fst (kf_57 X.1))) rfl ?_
            refine wp_iload rfl rfl ?_
            refine wp_ifltF (tn := 19) rfl rfl c5 ?_
            refine wp_iload rfl rfl ?_
            refine wp_iconst rfl ?_
            refine wp_icgeF (tn := 19) rfl rfl c25 ?_
            refine wp_iload rfl rfl ?_
            refine wp_ifltF (tn := 19) rfl rfl (by decide) ?_
            refine wp_iload rfl rfl ?_
            refine wp_iconst rfl ?_
            refine wp_icltT (tn := 21) rfl rfl (by decide) ?_
            refine wp_aload rfl rfl ?_
            refine wp_getR (r := 58) rfl (congrArg Prod.fst (kf_57 X.1)) rfl ?_
            refine wp_iload rfl rfl ?_
            refine wp_laload rfl (kf_59 X.1) ⟨c5, c25⟩ ?_
            refine wp_aload rfl rfl ?_
            refine wp_getR (r := 59) rfl (congrArg Prod.fst (kf_57 X.1)) rfl ?_
            refine wp_iload rfl rfl ?_
            refine wp_laload rfl (kf_60 X.1) (by decide) ?_
            refine wp_land rfl ?_
            refine wp_lret rfl rfl ?_
            show Wp X _ 241 22 [vr 57, vi x5, vi x4] [vl ((i64 (h 59 x5) &&& i64 (h 60 0)).toInt)] _ _
            refine wp_aload rfl rfl ?_
            refine wp_iload rfl rfl ?_
            refine wp_iconst rfl ?_
            refine wp_call (k := 240) (ρ2 := 0) (L2 := [vr 57, vi x4, vi 0]) rfl rfl rfl (Nat.le_of_ble_eq_true rfl) (Nat.le_of_ble_eq_true rfl) (Nat.le_of_ble_eq_true rfl) (rcv_V rfl (congrArg Prod.fst (kf_57 X.1))) rfl ?_
            refine wp_iload rfl rfl ?_
            refine wp_ifltT (tn := 19) rfl rfl c45 ?_
            refine wp_sipush rfl ?_
            refine wp_lret rfl rfl ?_
            show Wp X _ 241 28 [vr 57, vi x5, vi x4] [vl 0, vl ((i64 (h 59 x5) &&& i64 (h 60 0)).toInt)] _ _
            refine wp_lcmp rfl ?_
            refine wp_ifne (tn := 36) rfl rfl (fun c47 => ?_) (fun c47 => ?_)
            · replace H := H.1 c47
              refine wp_iconst rfl ?_
              refine wp_zret rfl rfl (by decide) ?_
              show Wp X _ 180 61 [vr 69, vr 57, vi x2, vi x3, vi x4, vi x5] [vi 0] _ _
              refine wp_ifneF (tn := 70) rfl rfl (by decide) ?_
              refine wp_iincR (L2 := [vr 69, vr 57, vi x2, vi x3, vi x4, vi (x5 + 1)]) rfl rfl (by clear H; unfold R32; omega) rfl ?_
              refine wp_goto (tn := 46) rfl rfl ?_
              exact H
            · replace H := H.2 c47
              refine wp_iconst rfl ?_
              refine wp_goto (tn := 37) rfl rfl ?_
              refine wp_zret rfl rfl (by decide) ?_
              show Wp X _ 180 61 [vr 69, vr 57, vi x2, vi x3, vi x4, vi x5] [vi 1] _ _
              refine wp_ifneT (tn := 70) rfl rfl (by decide) ?_
              refine wp_aload rfl rfl ?_
              refine wp_getR (r := 70) rfl (congrArg Prod.fst (kf_69 X.1)) rfl ?_
              refine wp_iload rfl rfl ?_
              refine wp_dup2 rfl ?_
              have g48 := H.1
              replace H := H.2
              refine wp_iaload rfl (kf_71 X.1) g48 ?_
              refine wp_aload rfl rfl ?_
              refine wp_getR (r := 69) rfl (congrArg Prod.fst (kf_69 X.1)) rfl ?_
              refine wp_iload rfl rfl ?_
              have g49 := H.1
              replace H := H.2
              refine wp_iaload rfl (kf_70 X.1) g49 ?_
              refine wp_iadd rfl ?_
              have g50 := H.1
              replace H := H.2
              refine Wp.topI (y := ((h 71 x5) + (h 70 x3))) (w32_I g50) ?_
              refine wp_iastore rfl (kf_71 X.1) ⟨g48.1, g48.2⟩ ?_
              refine wp_iincR (L2 := [vr 69, vr 57, vi x2, vi (x3 + 1), vi x4, vi x5]) rfl rfl (by clear H; unfold R32; omega) rfl ?_
              refine wp_goto (tn := 23) rfl rfl ?_
              exact H
        · replace H := H.2 c45
          refine wp_iload rfl rfl ?_
          refine wp_iconst rfl ?_
          refine wp_icge (tn := 19) rfl rfl (fun c51 => ?_) (fun c51 => ?_)
          · replace H := H.1 c51
            refine wp_sipush rfl ?_
            refine wp_lret rfl rfl ?_
            show Wp X _ 241 12 [vr 57, vi x5, vi x4] [vl 0, vl ((i64 (h 58 x5) &&& i64 (h 60 0)).toInt)] _ _
            refine wp_lcmp rfl ?_
            refine wp_ifne (tn := 36) rfl rfl (fun c52 => ?_) (fun c52 => ?_)
            · replace H := H.1 c52
              refine wp_iconst rfl ?_
              refine wp_zret rfl rfl (by decide) ?_
              show Wp X _ 180 61 [vr 69, vr 57, vi x2, vi x3, vi x4, vi x5] [vi 0] _ _
              refine wp_ifneF (tn := 70) rfl rfl (by decide) ?_
              refine wp_iincR (L2 := [vr 69, vr 57, vi x2, vi x3, vi x4, vi (x5 + 1)]) rfl rfl (by clear H; unfold R32; omega) rfl ?_
              refine wp_goto (tn := 46) rfl rfl ?_
              exact H
            · replace H := H.2 c52
              refine wp_aload rfl rfl ?_
              refine wp_iload rfl rfl ?_
              refine wp_iconst rfl ?_
              refine wp_call (k := 240) (ρ2 := 0) (L2 := [vr 57, vi x5, vi 0]) rfl rfl rfl (Nat.le_of_ble_eq_true rfl) (Nat.le_of_ble_eq_true rfl) (Nat.le_of_ble_eq_true rfl) (rcv_V rfl (congrArg Prod.fst (kf_57 X.1))) rfl ?_
              refine wp_iload rfl rfl ?_
              refine wp_ifltF (tn := 19) rfl rfl c5 ?_
              refine wp_iload rfl rfl ?_
              refine wp_iconst rfl ?_
              refine wp_icgeF (tn := 19) rfl rfl c25 ?_
              refine wp_iload rfl rfl ?_
              refine wp_ifltF (tn := 19) rfl rfl (by decide) ?_
              refine wp_iload rfl rfl ?_
              refine wp_iconst rfl ?_
              refine wp_icltT (tn := 21) rfl rfl (by decide) ?_
              refine wp_aload rfl rfl ?_
              refine wp_getR (r := 58) rfl (congrArg Prod.fst (kf_57 X.1)) rfl ?_
              refine wp_iload rfl rfl ?_
              refine wp_laload rfl (kf_59 X.1) ⟨c5, c25⟩ ?_
              refine wp_aload rfl rfl ?_
              refine wp_getR (r := 59) rfl (congrArg Prod.fst (kf_57 X.1)) rfl ?_
              refine wp_iload rfl rfl ?_
              refine wp_laload rfl (kf_60 X.1) (by decide) ?_
              refine wp_land rfl ?_
              refine wp_lret rfl rfl ?_
              show Wp X _ 241 22 [vr 57, vi x5, vi x4] [vl ((i64 (h 59 x5) &&& i64 (h 60 0)).toInt)] _ _
              refine wp_aload rfl rfl ?_
              refine wp_iload rfl rfl ?_
              refine wp_iconst rfl ?_
              refine wp_call (k := 240) (ρ2 := 0) (L2 := [vr 57, vi x4, vi 0]) rfl rfl rfl (Nat.le_of_ble_eq_true rfl) (Nat.le_of_ble_eq_true rfl) (Nat.le_of_ble_eq_true rfl) (rcv_V rfl (congrArg Prod.fst (kf_57 X.1))) rfl ?_
              refine wp_iload rfl rfl ?_
              refine wp_ifltF (tn := 19) rfl rfl c45 ?_
              refine wp_iload rfl rfl ?_
              refine wp_iconst rfl ?_
              refine wp_icgeT (tn := 19) rfl rfl c51 ?_
              refine wp_sipush rfl ?_
              refine wp_lret rfl rfl ?_
              show Wp X _ 241 28 [vr 57, vi x5, vi x4] [vl 0, vl ((i64 (h 59 x5) &&& i64 (h 60 0)).toInt)] _ _
              refine wp_lcmp rfl ?_
              refine wp_ifne (tn := 36) rfl rfl (fun c53 => ?_) (fun c53 => ?_)
              · replace H := H.1 c53
                refine wp_iconst rfl ?_
                refine wp_zret rfl rfl (by decide) ?_
                show Wp X _ 180 61 [vr 69, vr 57, vi x2, vi x3, vi x4, vi x5] [vi 0] _ _
                refine wp_ifneF (tn := 70) rfl rfl (by decide) ?_
                refine wp_iincR (L2 := [vr 69, vr 57, vi x2, vi x3, vi x4, vi (x5 + 1)]) rfl rfl (by clear H; unfold R32; omega) rfl ?_
                refine wp_goto (tn := 46) rfl rfl ?_
                exact H
              · replace H := H.2 c53
                refine wp_iconst rfl ?_
                refine wp_goto (tn := 37) rfl rfl ?_
                refine wp_zret rfl rfl (by decide) ?_
                show Wp X _ 180 61 [vr 69, vr 57, vi x2, vi x3, vi x4, vi x5] [vi 1] _ _
                refine wp_ifneT (tn := 70) rfl rfl (by decide) ?_
                refine wp_aload rfl rfl ?_
                refine wp_getR (r := 70) rfl (congrArg Prod.fst (kf_69 X.1)) rfl ?_
                refine wp_iload rfl rfl ?_
                refine wp_dup2 rfl ?_
                have g54 := H.1
                replace H := H.2
                refine wp_iaload rfl (kf_71 X.1) g54 ?_
                refine wp_aload rfl rfl ?_
                refine wp_getR (r := 69) rfl (congrArg Prod.fst (kf_69 X.1)) rfl ?_
                refine wp_iload rfl rfl ?_
                have g55 := H.1
                replace H := H.2
                refine wp_iaload rfl (kf_70 X.1) g55 ?_
                refine wp_iadd rfl ?_
                have g56 := H.1
                replace H := H.2
                refine Wp.topI (y := ((h 71 x5) + (h 70 x3))) (w32_I g56) ?_
                refine wp_iastore rfl (kf_71 X.1) ⟨g54.1, g54.2⟩ ?_
                refine wp_iincR (L2 := [vr 69, vr 57, vi x2, vi (x3 + 1), vi x4, vi x5]) rfl rfl (by clear H; unfold R32; omega) rfl ?_
                refine wp_goto (tn := 23) rfl rfl ?_
                exact H
          · replace H := H.2 c51
            refine wp_iload rfl rfl ?_
            refine wp_ifltF (tn := 19) rfl rfl (by decide) ?_
            refine wp_iload rfl rfl ?_
            refine wp_iconst rfl ?_
            refine wp_icltT (tn := 21) rfl rfl (by decide) ?_
            refine wp_aload rfl rfl ?_
            refine wp_getR (r := 57) rfl (congrArg Prod.fst (kf_57 X.1)) rfl ?_
            refine wp_iload rfl rfl ?_
            refine wp_laload rfl (kf_58 X.1) ⟨c45, c51⟩ ?_
            refine wp_aload rfl rfl ?_
            refine wp_getR (r := 59) rfl (congrArg Prod.fst (kf_57 X.1)) rfl ?_
            refine wp_iload rfl rfl ?_
            refine wp_laload rfl (kf_60 X.1) (by decide) ?_
            refine wp_land rfl ?_
            refine wp_lret rfl rfl ?_
            show Wp X _ 241 12 [vr 57, vi x5, vi x4] [vl ((i64 (h 58 x4) &&& i64 (h 60 0)).toInt), vl ((i64 (h 58 x5) &&& i64 (h 60 0)).toInt)] _ _
            refine wp_lcmp rfl ?_
            refine wp_ifne (tn := 36) rfl rfl (fun c57 => ?_) (fun c57 => ?_)
            · replace H := H.1 c57
              refine wp_iconst rfl ?_
              refine wp_zret rfl rfl (by decide) ?_
              show Wp X _ 180 61 [vr 69, vr 57, vi x2, vi x3, vi x4, vi x5] [vi 0] _ _
              refine wp_ifneF (tn := 70) rfl rfl (by decide) ?_
              refine wp_iincR (L2 := [vr 69, vr 57, vi x2, vi x3, vi x4, vi (x5 + 1)]) rfl rfl (by clear H; unfold R32; omega) rfl ?_
              refine wp_goto (tn := 46) rfl rfl ?_
              exact H
            · replace H := H.2 c57
              refine wp_aload rfl rfl ?_
              refine wp_iload rfl rfl ?_
              refine wp_iconst rfl ?_
              refine wp_call (k := 240) (ρ2 := 0) (L2 := [vr 57, vi x5, vi 0]) rfl rfl rfl (Nat.le_of_ble_eq_true rfl) (Nat.le_of_ble_eq_true rfl) (Nat.le_of_ble_eq_true rfl) (rcv_V rfl (congrArg Prod.fst (kf_57 X.1))) rfl ?_
              refine wp_iload rfl rfl ?_
              refine wp_ifltF (tn := 19) rfl rfl c5 ?_
              refine wp_iload rfl rfl ?_
              refine wp_iconst rfl ?_
              refine wp_icgeF (tn := 19) rfl rfl c25 ?_
              refine wp_iload rfl rfl ?_
              refine wp_ifltF (tn := 19) rfl rfl (by decide) ?_
              refine wp_iload rfl rfl ?_
              refine wp_iconst rfl ?_
              refine wp_icltT (tn := 21) rfl rfl (by decide) ?_
              refine wp_aload rfl rfl ?_
              refine wp_getR (r := 58) rfl (congrArg Prod.fst (kf_57 X.1)) rfl ?_
              refine wp_iload rfl rfl ?_
              refine wp_laload rfl (kf_59 X.1) ⟨c5, c25⟩ ?_
              refine wp_aload rfl rfl ?_
              refine wp_getR (r := 59) rfl (congrArg Prod.fst (kf_57 X.1)) rfl ?_
              refine wp_iload rfl rfl ?_
              refine wp_laload rfl (kf_60 X.1) (by decide) ?_
              refine wp_land rfl ?_
              refine wp_lret rfl rfl ?_
              show Wp X _ 241 22 [vr 57, vi x5, vi x4] [vl ((i64 (h 59 x5) &&& i64 (h 60 0)).toInt)] _ _
              refine wp_aload rfl rfl ?_
              refine wp_iload rfl rfl ?_
              refine wp_iconst rfl ?_
              refine wp_call (k := 240) (ρ2 := 0) (L2 := [vr 57, vi x4, vi 0]) rfl rfl rfl (Nat.le_of_ble_eq_true rfl) (Nat.le_of_ble_eq_true rfl) (Nat.le_of_ble_eq_true rfl) (rcv_V rfl (congrArg Prod.fst (kf_57 X.1))) rfl ?_
              refine wp_iload rfl rfl ?_
              refine wp_ifltF (tn := 19) rfl rfl c45 ?_
              refine wp_iload rfl rfl ?_
              refine wp_iconst rfl ?_
              refine wp_icgeF (tn := 19) rfl rfl c51 ?_
              refine wp_iload rfl rfl ?_
              refine wp_ifltF (tn := 19) rfl rfl (by decide) ?_
              refine wp_iload rfl rfl ?_
              refine wp_iconst rfl ?_
              refine wp_icltT (tn := 21) rfl rfl (by decide) ?_
              refine wp_aload rfl rfl ?_
              refine wp_getR (r := 58) rfl (congrArg Prod.fst (kf_57 X.1)) rfl ?_
              refine wp_iload rfl rfl ?_
              refine wp_laload rfl (kf_59 X.1) ⟨c45, c51⟩ ?_
              refine wp_aload rfl rfl ?_
              refine wp_getR (r := 59) rfl (congrArg Prod.fst (kf_57 X.1)) rfl ?_
              refine wp_iload rfl rfl ?_
              refine wp_laload rfl (kf_60 X.1) (by decide) ?_
              refine wp_land rfl ?_
              refine wp_lret rfl rfl ?_
              show Wp X _ 241 28 [vr 57, vi x5, vi x4] [vl ((i64 (h 59 x4) &&& i64 (h 60 0)).toInt), vl ((i64 (h 59 x5) &&& i64 (h 60 0)).toInt)] _ _
              refine wp_lcmp rfl ?_
              refine wp_ifne (tn := 36) rfl rfl (fun c58 => ?_) (fun c58 => ?_)
              · replace H := H.1 c58
                refine wp_iconst rfl ?_
                refine wp_zret rfl rfl (by decide) ?_
                show Wp X _ 180 61 [vr 69, vr 57, vi x2, vi x3, vi x4, vi x5] [vi 0] _ _
                refine wp_ifneF (tn := 70) rfl rfl (by decide) ?_
                refine wp_iincR (L2 := [vr 69, vr 57, vi x2, vi x3, vi x4, vi (x5 + 1)]) rfl rfl (by clear H; unfold R32; omega) rfl ?_
                refine wp_goto (tn := 46) rfl rfl ?_
                exact H
              · replace H := H.2 c58
                refine wp_iconst rfl ?_
                refine wp_goto (tn := 37) rfl rfl ?_
                refine wp_zret rfl rfl (by decide) ?_
                show Wp X _ 180 61 [vr 69, vr 57, vi x2, vi x3, vi x4, vi x5] [vi 1] _ _
                refine wp_ifneT (tn := 70) rfl rfl (by decide) ?_
                refine wp_aload rfl rfl ?_
                refine wp_getR (r := 70) rfl (congrArg Prod.fst (kf_69 X.1)) rfl ?_
                refine wp_iload rfl rfl ?_
                refine wp_dup2 rfl ?_
                have g59 := H.1
                replace H := H.2
                refine wp_iaload rfl (kf_71 X.1) g59 ?_
                refine wp_aload rfl rfl ?_
                refine wp_getR (r := 69) rfl (congrArg Prod.fst (kf_69 X.1)) rfl ?_
                refine wp_iload rfl rfl ?_
                have g60 := H.1
                replace H := H.2
                refine wp_iaload rfl (kf_70 X.1) g60 ?_
                refine wp_iadd rfl ?_
                have g61 := H.1
                replace H := H.2
                refine Wp.topI (y := ((h 71 x5) + (h 70 x3))) (w32_I g61) ?_
                refine wp_iastore rfl (kf_71 X.1) ⟨g59.1, g59.2⟩ ?_
                refine wp_iincR (L2 := [vr 69, vr 57, vi x2, vi (x3 + 1), vi x4, vi x5]) rfl rfl (by clear H; unfold R32; omega) rfl ?_
                refine wp_goto (tn := 23) rfl rfl ?_
                exact H
