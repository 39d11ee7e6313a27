-- ===== the methods run symbolically, 5 (by program: wip/whole/gen_sym.py) =====
/-- WarnLinesModel.reads(I)I, from 0 -/
theorem S92_89_0 {X : Nat × (Int → Int)} {h : HP} {Q : bQ} (x1 : Int) (H : ((0 ≤ x1 ∧ x1 < 2) ∧ (((h 104 x1) ≤ 0 → Wp X 3 92 25 [vr 89, vi x1, vi 0] [] (upd2 (upd2 h 89 23 0) 89 24 0) Q) ∧ (0 < (h 104 x1) → Wp X 3 92 25 [vr 89, vi x1, vi 1] [] (upd2 (upd2 h 89 23 0) 89 24 0) Q)))) : Wp X 3 92 0 [vr 89, vi x1, vu] [] h Q := by
  refine wp_aload rfl rfl ?_
  refine wp_iconst rfl ?_
  refine wp_putI (j := 23) rfl (congrArg Prod.fst (kf_89 X.1)) rfl rfl rfl ?_
  refine wp_aload rfl rfl ?_
  refine wp_iconst rfl ?_
  refine wp_putI (j := 24) rfl (congrArg Prod.fst (kf_89 X.1)) rfl rfl rfl ?_
  refine wp_aload rfl rfl ?_
  refine wp_getR (r := 103) rfl (congrArg Prod.fst (kf_89 X.1)) rfl ?_
  refine wp_iload rfl rfl ?_
  have g1 := H.1
  replace H := H.2
  refine wp_iaload rfl (kf_104 X.1) g1 ?_
  refine Wp.topI (y := (h 104 x1)) (congrFun ((upd2_ne (by decide)).trans (upd2_ne (by decide))) _) ?_
  refine wp_ifle (tn := 23) rfl rfl (fun c2 => ?_) (fun c2 => ?_)
  · replace H := H.1 c2
    refine wp_iconst rfl ?_
    refine wp_istore (L2 := [vr 89, vi x1, vi 0]) rfl (Nat.le_of_ble_eq_true rfl) rfl ?_
    exact H
  · replace H := H.2 c2
    refine wp_iconst rfl ?_
    refine wp_goto (tn := 24) rfl rfl ?_
    refine wp_istore (L2 := [vr 89, vi x1, vi 1]) rfl (Nat.le_of_ble_eq_true rfl) rfl ?_
    exact H
/-- WarnLinesModel.reads(I)I, from 25 -/
theorem S92_89_25 {X : Nat × (Int → Int)} {h : HP} {Q : bQ} (x1 : Int) (x2 : Int) (H : ((x2 = 0 → Q (some (vi (-1))) h) ∧ (x2 ≠ 0 → Wp X 2 91 0 [vr 89, vi x1, vu, vu, vu, vu] [] h (fun v h' => Wp X 3 92 34 [vr 89, vi x1, vi x2] (psh v []) h' Q)))) : Wp X 3 92 25 [vr 89, vi x1, vi x2] [] h Q := by
  refine wp_iload rfl rfl ?_
  refine wp_ifeq (tn := 101) rfl rfl (fun c1 => ?_) (fun c1 => ?_)
  · replace H := H.1 c1
    refine wp_iconst rfl ?_
    exact wp_iret rfl rfl H
  · replace H := H.2 c1
    refine wp_aload rfl rfl ?_
    refine wp_iload rfl rfl ?_
    exact wp_call (k := 91) (ρ2 := 2) (L2 := [vr 89, vi x1, vu, vu, vu, vu]) rfl rfl rfl (Nat.le_of_ble_eq_true rfl) (Nat.le_of_ble_eq_true rfl) (Nat.le_of_ble_eq_true rfl) (rcv_V rfl (congrArg Prod.fst (kf_89 X.1))) rfl H
/-- WarnLinesModel.reads(I)I, from 34 -/
theorem S92_89_34 {X : Nat × (Int → Int)} {h : HP} {Q : bQ} (x1 : Int) (zx2 : aV) (s0 : Int) (H : ((s0 ≠ 0 → ((0 ≤ x1 ∧ x1 < 2) ∧ (((h 104 x1) ≤ (h 89 23) → ((R32 ((h 89 23) + 0)) ∧ Wp X 3 92 25 [vr 89, vi x1, vi 0] [] (upd2 h 89 23 ((h 89 23) + 0)) Q)) ∧ ((h 89 23) < (h 104 x1) → ((R32 ((50 * x1) + (h 89 23))) ∧ ((0 ≤ ((50 * x1) + (h 89 23)) ∧ ((50 * x1) + (h 89 23)) < 100) ∧ (((h 103 ((50 * x1) + (h 89 23))) = 59 → ((R32 ((h 89 23) + 1)) ∧ Wp X 3 92 25 [vr 89, vi x1, vi 1] [] (upd2 h 89 23 ((h 89 23) + 1)) Q)) ∧ ((h 103 ((50 * x1) + (h 89 23))) ≠ 59 → Q (some (vi (h 89 23))) h)))))))) ∧ (s0 = 0 → Q (some (vi (h 89 23))) h))) : Wp X 3 92 34 [vr 89, vi x1, zx2] [vi s0] h Q := by
  refine wp_ifne (tn := 42) rfl rfl (fun c1 => ?_) (fun c1 => ?_)
  · replace H := H.1 c1
    refine wp_aload rfl rfl ?_
    refine wp_getI (j := 23) rfl (congrArg Prod.fst (kf_89 X.1)) rfl ?_
    refine wp_aload rfl rfl ?_
    refine wp_getR (r := 103) rfl (congrArg Prod.fst (kf_89 X.1)) rfl ?_
    refine wp_iload rfl rfl ?_
    have g2 := H.1
    replace H := H.2
    refine wp_iaload rfl (kf_104 X.1) g2 ?_
    refine wp_icge (tn := 59) rfl rfl (fun c3 => ?_) (fun c3 => ?_)
    · replace H := H.1 c3
      refine wp_iconst rfl ?_
      refine wp_istore (L2 := [vr 89, vi x1, vi 0]) rfl (Nat.le_of_ble_eq_true rfl) rfl ?_
      refine wp_iload rfl rfl ?_
      refine wp_ifeqT (tn := 80) rfl rfl (by decide) ?_
      refine wp_aload rfl rfl ?_
      refine wp_dupR rfl ?_
      refine wp_getI (j := 23) rfl (congrArg Prod.fst (kf_89 X.1)) rfl ?_
      refine wp_iload rfl rfl ?_
      refine wp_ifeqT (tn := 93) rfl rfl (by decide) ?_
      refine wp_iconst rfl ?_
      refine wp_iadd rfl ?_
      have g4 := H.1
      replace H := H.2
      refine Wp.topI (y := ((h 89 23) + 0)) (w32_I g4) ?_
      refine wp_putI (j := 23) rfl (congrArg Prod.fst (kf_89 X.1)) rfl rfl rfl ?_
      refine wp_goto (tn := 25) rfl rfl ?_
      exact H
    · replace H := H.2 c3
      refine wp_iconst rfl ?_
      refine wp_goto (tn := 60) rfl rfl ?_
      refine wp_istore (L2 := [vr 89, vi x1, vi 1]) rfl (Nat.le_of_ble_eq_true rfl) rfl ?_
      refine wp_iload rfl rfl ?_
      refine wp_ifeqF (tn := 80) rfl rfl (by decide) ?_
      refine wp_aload rfl rfl ?_
      refine wp_iload rfl rfl ?_
      refine wp_call (k := 88) (ρ2 := 0) (L2 := [vr 89, vi x1]) rfl rfl rfl (Nat.le_of_ble_eq_true rfl) (Nat.le_of_ble_eq_true rfl) (Nat.le_of_ble_eq_true rfl) (rcv_V rfl (congrArg Prod.fst (kf_89 X.1))) rfl ?_
      refine wp_aload rfl rfl ?_
      refine wp_getI (j := 23) rfl (congrArg Prod.fst (kf_89 X.1)) rfl ?_
      refine wp_aload rfl rfl ?_
      refine wp_getR (r := 103) rfl (congrArg Prod.fst (kf_89 X.1)) rfl ?_
      refine wp_iload rfl rfl ?_
      refine wp_iaload rfl (kf_104 X.1) ⟨g2.1, g2.2⟩ ?_
      refine wp_icgeF (tn := 30) rfl rfl c3 ?_
      refine wp_aload rfl rfl ?_
      refine wp_getR (r := 102) rfl (congrArg Prod.fst (kf_89 X.1)) rfl ?_
      refine wp_iconst rfl ?_
      refine wp_iload rfl rfl ?_
      refine wp_imul rfl ?_
      refine Wp.topI (y := (50 * x1)) (w32_I (by clear H; unfold R32; omega)) ?_
      refine wp_aload rfl rfl ?_
      refine wp_getI (j := 23) rfl (congrArg Prod.fst (kf_89 X.1)) rfl ?_
      refine wp_iadd rfl ?_
      have g5 := H.1
      replace H := H.2
      refine Wp.topI (y := ((50 * x1) + (h 89 23))) (w32_I g5) ?_
      have g6 := H.1
      replace H := H.2
      refine wp_iaload rfl (kf_103 X.1) g6 ?_
      refine wp_goto (tn := 31) rfl rfl ?_
      refine wp_iret rfl rfl ?_
      show Wp X _ 92 70 [vr 89, vi x1, vi 1] [vi (h 103 ((50 * x1) + (h 89 23)))] _ _
      refine wp_iconst rfl ?_
      refine wp_iceq (tn := 80) rfl rfl (fun c7 => ?_) (fun c7 => ?_)
      · replace H := H.1 c7
        refine wp_aload rfl rfl ?_
        refine wp_dupR rfl ?_
        refine wp_getI (j := 23) rfl (congrArg Prod.fst (kf_89 X.1)) rfl ?_
        refine wp_iload rfl rfl ?_
        refine wp_ifeqF (tn := 93) rfl rfl (by decide) ?_
        refine wp_iconst rfl ?_
        refine wp_goto (tn := 94) rfl rfl ?_
        refine wp_iadd rfl ?_
        have g8 := H.1
        replace H := H.2
        refine Wp.topI (y := ((h 89 23) + 1)) (w32_I g8) ?_
        refine wp_putI (j := 23) rfl (congrArg Prod.fst (kf_89 X.1)) rfl rfl rfl ?_
        refine wp_goto (tn := 25) rfl rfl ?_
        exact H
      · replace H := H.2 c7
        refine wp_aload rfl rfl ?_
        refine wp_getI (j := 23) rfl (congrArg Prod.fst (kf_89 X.1)) rfl ?_
        exact wp_iret rfl rfl H
  · replace H := H.2 c1
    refine wp_aload rfl rfl ?_
    refine wp_getI (j := 23) rfl (congrArg Prod.fst (kf_89 X.1)) rfl ?_
    exact wp_iret rfl rfl H
/-- WarnLinesModel.fault(I)I, from 0 -/
theorem S93_89_0 {X : Nat × (Int → Int)} {h : HP} {Q : bQ} (x1 : Int) (H : (((lcp x1 0) < 0 → Q (some (vi (-2))) h) ∧ (0 ≤ (lcp x1 0) → ((0 < (lcp x1 1) → Q (some (vi (-2))) h) ∧ ((lcp x1 1) ≤ 0 → Wp X 3 92 0 [vr 89, vi x1, vu] [] h (fun v h' => Wp X 4 93 12 [vr 89, vi x1] (psh v []) h' Q)))))) : Wp X 4 93 0 [vr 89, vi x1] [] h Q := by
  refine wp_iload rfl rfl ?_
  refine wp_call (k := 50) (ρ2 := 1) (L2 := [vi x1]) rfl rfl rfl (Nat.le_of_ble_eq_true rfl) (Nat.le_of_ble_eq_true rfl) (Nat.le_of_ble_eq_true rfl) (rcv_S rfl) rfl ?_
  refine wp_iload rfl rfl ?_
  refine wp_i2l rfl ?_
  refine wp_sipush rfl ?_
  refine wp_sipush rfl ?_
  refine wp_call (k := 48) (ρ2 := 0) (L2 := [vl x1, vu, vl 0, vu, vl 1, vu]) rfl rfl rfl (Nat.le_of_ble_eq_true rfl) (Nat.le_of_ble_eq_true rfl) (Nat.le_of_ble_eq_true rfl) (rcv_S rfl) rfl ?_
  refine wp_lload rfl rfl ?_
  refine wp_lload rfl rfl ?_
  refine wp_lcmp rfl ?_
  refine wp_iflt (tn := 17) rfl rfl (fun c1 => ?_) (fun c1 => ?_)
  · replace H := H.1 c1
    refine wp_iconst rfl ?_
    refine wp_zret rfl rfl (by decide) ?_
    show Wp X _ 50 7 [vi x1] [vi 0] _ _
    refine wp_zret rfl rfl (by decide) ?_
    show Wp X _ 93 4 [vr 89, vi x1] [vi 0] _ _
    refine wp_ifeqT (tn := 15) rfl rfl (by decide) ?_
    refine wp_iconst rfl ?_
    exact wp_iret rfl rfl H
  · replace H := H.2 c1
    refine wp_lload rfl rfl ?_
    refine wp_lload rfl rfl ?_
    refine wp_lcmp rfl ?_
    refine wp_ifgt (tn := 17) rfl rfl (fun c2 => ?_) (fun c2 => ?_)
    · replace H := H.1 c2
      refine wp_iconst rfl ?_
      refine wp_zret rfl rfl (by decide) ?_
      show Wp X _ 50 7 [vi x1] [vi 0] _ _
      refine wp_zret rfl rfl (by decide) ?_
      show Wp X _ 93 4 [vr 89, vi x1] [vi 0] _ _
      refine wp_ifeqT (tn := 15) rfl rfl (by decide) ?_
      refine wp_iconst rfl ?_
      exact wp_iret rfl rfl H
    · replace H := H.2 c2
      refine wp_iconst rfl ?_
      refine wp_goto (tn := 18) rfl rfl ?_
      refine wp_zret rfl rfl (by decide) ?_
      show Wp X _ 50 7 [vi x1] [vi 1] _ _
      refine wp_zret rfl rfl (by decide) ?_
      show Wp X _ 93 4 [vr 89, vi x1] [vi 1] _ _
      refine wp_ifeqF (tn := 15) rfl rfl (by decide) ?_
      refine wp_aload rfl rfl ?_
      refine wp_iload rfl rfl ?_
      exact wp_call (k := 92) (ρ2 := 3) (L2 := [vr 89, vi x1, vu]) rfl rfl rfl (Nat.le_of_ble_eq_true rfl) (Nat.le_of_ble_eq_true rfl) (Nat.le_of_ble_eq_true rfl) (rcv_V rfl (congrArg Prod.fst (kf_89 X.1))) rfl H
/-- WarnLinesModel.fault(I)I, from 12 -/
theorem S93_89_12 {X : Nat × (Int → Int)} {h : HP} {Q : bQ} (zx0 : aV) (zx1 : aV) (s0 : Int) (H : Q (some (vi s0)) h) : Wp X 4 93 12 [zx0, zx1] [vi s0] h Q := by
  refine wp_goto (tn := 17) rfl rfl ?_
  exact wp_iret rfl rfl H
/-- WarnLinesModel.isZoned(II)Z, from 0 -/
theorem S94_89_0 {X : Nat × (Int → Int)} {h : HP} {Q : bQ} (x1 : Int) (x2 : Int) (H : Wp X 2 94 8 [vr 89, vi x1, vi x2, vi 0, vi 0, vi x2, vu, vu] [] h Q) : Wp X 2 94 0 [vr 89, vi x1, vi x2, vu, vu, vu, vu, vu] [] h Q := by
  refine wp_iconst rfl ?_
  refine wp_istore (L2 := [vr 89, vi x1, vi x2, vi 0, vu, vu, vu, vu]) rfl (Nat.le_of_ble_eq_true rfl) rfl ?_
  refine wp_iconst rfl ?_
  refine wp_istore (L2 := [vr 89, vi x1, vi x2, vi 0, vi 0, vu, vu, vu]) rfl (Nat.le_of_ble_eq_true rfl) rfl ?_
  refine wp_iload rfl rfl ?_
  refine wp_istore (L2 := [vr 89, vi x1, vi x2, vi 0, vi 0, vi x2, vu, vu]) rfl (Nat.le_of_ble_eq_true rfl) rfl ?_
  exact H
/-- WarnLinesModel.isZoned(II)Z, from 8 -/
theorem S94_89_8 {X : Nat × (Int → Int)} {h : HP} {Q : bQ} (x1 : Int) (x2 : Int) (x3 : Int) (x4 : Int) (x5 : Int) (zx6 : aV) (zx7 : aV) (H : ((x5 < 0 → ((0 ≤ x1 ∧ x1 < 8) ∧ (((h 106 x1) ≤ x3 → Q (some (vi 1)) h) ∧ (x3 < (h 106 x1) → ((x4 < (h 106 x1) → Q (some (vi 0)) h) ∧ ((h 106 x1) ≤ x4 → Q (some (vi 1)) h)))))) ∧ (0 ≤ x5 → ((0 ≤ x1 ∧ x1 < 8) ∧ ((R32 (x2 - (h 107 x1))) ∧ ((x5 ≤ (x2 - (h 107 x1)) → (((h 106 x1) ≤ x3 → Q (some (vi 1)) h) ∧ (x3 < (h 106 x1) → ((x4 < (h 106 x1) → Q (some (vi 0)) h) ∧ ((h 106 x1) ≤ x4 → Q (some (vi 1)) h))))) ∧ ((x2 - (h 107 x1)) < x5 → ((0 ≤ x5 ∧ x5 < 20) ∧ Wp X 1 77 0 [vr 89, vi (h 109 x5), vu, vu, vu] [] h (fun v h' => Wp X 2 94 41 [vr 89, vi x1, vi x2, vi x3, vi x4, vi x5, vi (h 109 x5), zx7] (psh v []) h' Q))))))))) : Wp X 2 94 8 [vr 89, vi x1, vi x2, vi x3, vi x4, vi x5, zx6, zx7] [] h Q := by
  refine wp_iload rfl rfl ?_
  refine wp_iflt (tn := 109) rfl rfl (fun c1 => ?_) (fun c1 => ?_)
  · replace H := H.1 c1
    refine wp_iload rfl rfl ?_
    refine wp_aload rfl rfl ?_
    refine wp_getR (r := 105) rfl (congrArg Prod.fst (kf_89 X.1)) rfl ?_
    refine wp_iload rfl rfl ?_
    have g2 := H.1
    replace H := H.2
    refine wp_iaload rfl (kf_106 X.1) g2 ?_
    refine wp_icge (tn := 130) rfl rfl (fun c3 => ?_) (fun c3 => ?_)
    · replace H := H.1 c3
      refine wp_iconst rfl ?_
      refine wp_goto (tn := 135) rfl rfl ?_
      exact wp_zret rfl rfl (by decide) H
    · replace H := H.2 c3
      refine wp_iload rfl rfl ?_
      refine wp_aload rfl rfl ?_
      refine wp_getR (r := 105) rfl (congrArg Prod.fst (kf_89 X.1)) rfl ?_
      refine wp_iload rfl rfl ?_
      refine wp_iaload rfl (kf_106 X.1) ⟨g2.1, g2.2⟩ ?_
      refine wp_iclt (tn := 134) rfl rfl (fun c4 => ?_) (fun c4 => ?_)
      · replace H := H.1 c4
        refine wp_iconst rfl ?_
        exact wp_zret rfl rfl (by decide) H
      · replace H := H.2 c4
        refine wp_iconst rfl ?_
        refine wp_goto (tn := 135) rfl rfl ?_
        exact wp_zret rfl rfl (by decide) H
  · replace H := H.2 c1
    refine wp_iload rfl rfl ?_
    refine wp_iload rfl rfl ?_
    refine wp_aload rfl rfl ?_
    refine wp_getR (r := 106) rfl (congrArg Prod.fst (kf_89 X.1)) rfl ?_
    refine wp_iload rfl rfl ?_
    have g5 := H.1
    replace H := H.2
    refine wp_iaload rfl (kf_107 X.1) g5 ?_
    refine wp_isub rfl ?_
    have g6 := H.1
    replace H := H.2
    refine Wp.topI (y := (x2 - (h 107 x1))) (w32_I g6) ?_
    refine wp_icle (tn := 109) rfl rfl (fun c7 => ?_) (fun c7 => ?_)
    · replace H := H.1 c7
      refine wp_iload rfl rfl ?_
      refine wp_aload rfl rfl ?_
      refine wp_getR (r := 105) rfl (congrArg Prod.fst (kf_89 X.1)) rfl ?_
      refine wp_iload rfl rfl ?_
      refine wp_iaload rfl (kf_106 X.1) ⟨g5.1, g5.2⟩ ?_
      refine wp_icge (tn := 130) rfl rfl (fun c8 => ?_) (fun c8 => ?_)
      · replace H := H.1 c8
        refine wp_iconst rfl ?_
        refine wp_goto (tn := 135) rfl rfl ?_
        exact wp_zret rfl rfl (by decide) H
      · replace H := H.2 c8
        refine wp_iload rfl rfl ?_
        refine wp_aload rfl rfl ?_
        refine wp_getR (r := 105) rfl (congrArg Prod.fst (kf_89 X.1)) rfl ?_
        refine wp_iload rfl rfl ?_
        refine wp_iaload rfl (kf_106 X.1) ⟨g5.1, g5.2⟩ ?_
        refine wp_iclt (tn := 134) rfl rfl (fun c9 => ?_) (fun c9 => ?_)
        · replace H := H.1 c9
          refine wp_iconst rfl ?_
          exact wp_zret rfl rfl (by decide) H
        · replace H := H.2 c9
          refine wp_iconst rfl ?_
          refine wp_goto (tn := 135) rfl rfl ?_
          exact wp_zret rfl rfl (by decide) H
    · replace H := H.2 c7
      refine wp_aload rfl rfl ?_
      refine wp_getR (r := 108) rfl (congrArg Prod.fst (kf_89 X.1)) rfl ?_
      refine wp_iload rfl rfl ?_
      have g10 := H.1
      replace H := H.2
      refine wp_iaload rfl (kf_109 X.1) g10 ?_
      refine wp_istore (L2 := [vr 89, vi x1, vi x2, vi x3, vi x4, vi x5, vi (h 109 x5), zx7]) rfl (Nat.le_of_ble_eq_true rfl) rfl ?_
      refine wp_aload rfl rfl ?_
      refine wp_iload rfl rfl ?_
      exact wp_call (k := 77) (ρ2 := 1) (L2 := [vr 89, vi (h 109 x5), vu, vu, vu]) rfl rfl rfl (Nat.le_of_ble_eq_true rfl) (Nat.le_of_ble_eq_true rfl) (Nat.le_of_ble_eq_true rfl) (rcv_V rfl (congrArg Prod.fst (kf_89 X.1))) rfl H
/-- WarnLinesModel.isZoned(II)Z, from 41 -/
theorem S94_89_41 {X : Nat × (Int → Int)} {h : HP} {Q : bQ} (x1 : Int) (x2 : Int) (x3 : Int) (x4 : Int) (x5 : Int) (x6 : Int) (zx7 : aV) (s0 : Int) (H : ((0 ≤ x1 ∧ x1 < 8) ∧ ((s0 < (h 108 x1) → ((R32 (x3 + 0)) ∧ ((R32 (x4 + 0)) ∧ ((R32 (x5 + (-1))) ∧ Wp X 2 94 8 [vr 89, vi x1, vi x2, vi (x3 + 0), vi (x4 + 0), vi (x5 + (-1)), vi x6, vi 0] [] h Q)))) ∧ ((h 108 x1) ≤ s0 → ((0 ≤ x6 ∧ x6 < 20) ∧ ((R64 ((h 99 x6) * (h 89 19))) ∧ ((R64 (((h 99 x6) * (h 89 19)) - (h 89 17))) ∧ ((R64 (5 * (((h 99 x6) * (h 89 19)) - (h 89 17)))) ∧ (((lcp (5 * (((h 99 x6) * (h 89 19)) - (h 89 17))) 0) ≤ 0 → ((0 ≤ (lcp (5 * (((h 99 x6) * (h 89 19)) - (h 89 17))) 0) → ((R32 (x3 + 0)) ∧ ((R32 (x4 + 0)) ∧ ((R32 (x5 + (-1))) ∧ Wp X 2 94 8 [vr 89, vi x1, vi x2, vi (x3 + 0), vi (x4 + 0), vi (x5 + (-1)), vi x6, vi 1] [] h Q)))) ∧ ((lcp (5 * (((h 99 x6) * (h 89 19)) - (h 89 17))) 0) < 0 → ((R32 (x3 + 0)) ∧ ((R32 (x4 + 1)) ∧ ((R32 (x5 + (-1))) ∧ Wp X 2 94 8 [vr 89, vi x1, vi x2, vi (x3 + 0), vi (x4 + 1), vi (x5 + (-1)), vi x6, vi 1] [] h Q)))))) ∧ (0 < (lcp (5 * (((h 99 x6) * (h 89 19)) - (h 89 17))) 0) → ((R32 (x3 + 1)) ∧ ((R32 (x4 + 0)) ∧ ((R32 (x5 + (-1))) ∧ Wp X 2 94 8 [vr 89, vi x1, vi x2, vi (x3 + 1), vi (x4 + 0), vi (x5 + (-1)), vi x6, vi 1] [] h Q))))))))))))) : Wp X 2 94 41 [vr 89, vi x1, vi x2, vi x3, vi x4, vi x5, vi x6, zx7] [vi s0] h Q := by
  refine wp_aload rfl rfl ?_
  refine wp_getR (r := 107) rfl (congrArg Prod.fst (kf_89 X.1)) rfl ?_
  refine wp_iload rfl rfl ?_
  have g1 := H.1
  replace H := H.2
  refine wp_iaload rfl (kf_108 X.1) g1 ?_
  refine wp_iclt (tn := 54) rfl rfl (fun c2 => ?_) (fun c2 => ?_)
  · replace H := H.1 c2
    refine wp_iconst rfl ?_
    refine wp_istore (L2 := [vr 89, vi x1, vi x2, vi x3, vi x4, vi x5, vi x6, vi 0]) rfl (Nat.le_of_ble_eq_true rfl) rfl ?_
    refine wp_iload rfl rfl ?_
    refine wp_iload rfl rfl ?_
    refine wp_ifeqT (tn := 76) rfl rfl (by decide) ?_
    refine wp_iconst rfl ?_
    refine wp_iadd rfl ?_
    have g3 := H.1
    replace H := H.2
    refine Wp.topI (y := (x3 + 0)) (w32_I g3) ?_
    refine wp_istore (L2 := [vr 89, vi x1, vi x2, vi (x3 + 0), vi x4, vi x5, vi x6, vi 0]) rfl (Nat.le_of_ble_eq_true rfl) rfl ?_
    refine wp_iload rfl rfl ?_
    refine wp_iload rfl rfl ?_
    refine wp_ifeqT (tn := 99) rfl rfl (by decide) ?_
    refine wp_iconst rfl ?_
    refine wp_iadd rfl ?_
    have g4 := H.1
    replace H := H.2
    refine Wp.topI (y := (x4 + 0)) (w32_I g4) ?_
    refine wp_istore (L2 := [vr 89, vi x1, vi x2, vi (x3 + 0), vi (x4 + 0), vi x5, vi x6, vi 0]) rfl (Nat.le_of_ble_eq_true rfl) rfl ?_
    have g5 := H.1
    replace H := H.2
    refine wp_iincR (L2 := [vr 89, vi x1, vi x2, vi (x3 + 0), vi (x4 + 0), vi (x5 + (-1)), vi x6, vi 0]) rfl rfl g5 rfl ?_
    refine wp_goto (tn := 8) rfl rfl ?_
    exact H
  · replace H := H.2 c2
    refine wp_iconst rfl ?_
    refine wp_goto (tn := 55) rfl rfl ?_
    refine wp_istore (L2 := [vr 89, vi x1, vi x2, vi x3, vi x4, vi x5, vi x6, vi 1]) rfl (Nat.le_of_ble_eq_true rfl) rfl ?_
    refine wp_iload rfl rfl ?_
    refine wp_iload rfl rfl ?_
    refine wp_ifeqF (tn := 76) rfl rfl (by decide) ?_
    refine wp_aload rfl rfl ?_
    refine wp_iload rfl rfl ?_
    refine wp_call (k := 76) (ρ2 := 1) (L2 := [vr 89, vi x6]) rfl rfl rfl (Nat.le_of_ble_eq_true rfl) (Nat.le_of_ble_eq_true rfl) (Nat.le_of_ble_eq_true rfl) (rcv_V rfl (congrArg Prod.fst (kf_89 X.1))) rfl ?_
    refine wp_aload rfl rfl ?_
    refine wp_iload rfl rfl ?_
    refine wp_call (k := 75) (ρ2 := 0) (L2 := [vr 89, vi x6]) rfl rfl rfl (Nat.le_of_ble_eq_true rfl) (Nat.le_of_ble_eq_true rfl) (Nat.le_of_ble_eq_true rfl) (rcv_V rfl (congrArg Prod.fst (kf_89 X.1))) rfl ?_
    refine wp_sipush rfl ?_
    refine wp_aload rfl rfl ?_
    refine wp_getR (r := 98) rfl (congrArg Prod.fst (kf_89 X.1)) rfl ?_
    refine wp_iload rfl rfl ?_
    have g6 := H.1
    replace H := H.2
    refine wp_iaload rfl (kf_99 X.1) g6 ?_
    refine wp_i2l rfl ?_
    refine wp_aload rfl rfl ?_
    refine wp_getI (j := 19) rfl (congrArg Prod.fst (kf_89 X.1)) rfl ?_
    refine wp_i2l rfl ?_
    refine wp_lmul rfl ?_
    have g7 := H.1
    replace H := H.2
    refine Wp.topL (y := ((h 99 x6) * (h 89 19))) (w64_I g7) ?_
    refine wp_aload rfl rfl ?_
    refine wp_getL (j := 17) rfl (congrArg Prod.fst (kf_89 X.1)) rfl ?_
    refine wp_lsub rfl ?_
    have g8 := H.1
    replace H := H.2
    refine Wp.topL (y := (((h 99 x6) * (h 89 19)) - (h 89 17))) (w64_I g8) ?_
    refine wp_lmul rfl ?_
    have g9 := H.1
    replace H := H.2
    refine Wp.topL (y := (5 * (((h 99 x6) * (h 89 19)) - (h 89 17)))) (w64_I g9) ?_
    refine wp_lret rfl rfl ?_
    show Wp X _ 76 5 [vr 89, vi x6] [vl (5 * (((h 99 x6) * (h 89 19)) - (h 89 17)))] _ _
    refine wp_sipush rfl ?_
    refine wp_lcmp rfl ?_
    refine wp_ifle (tn := 14) rfl rfl (fun c10 => ?_) (fun c10 => ?_)
    · replace H := H.1 c10
      refine wp_aload rfl rfl ?_
      refine wp_iload rfl rfl ?_
      refine wp_call (k := 75) (ρ2 := 0) (L2 := [vr 89, vi x6]) rfl rfl rfl (Nat.le_of_ble_eq_true rfl) (Nat.le_of_ble_eq_true rfl) (Nat.le_of_ble_eq_true rfl) (rcv_V rfl (congrArg Prod.fst (kf_89 X.1))) rfl ?_
      refine wp_sipush rfl ?_
      refine wp_aload rfl rfl ?_
      refine wp_getR (r := 98) rfl (congrArg Prod.fst (kf_89 X.1)) rfl ?_
      refine wp_iload rfl rfl ?_
      refine wp_iaload rfl (kf_99 X.1) ⟨g6.1, g6.2⟩ ?_
      refine wp_i2l rfl ?_
      refine wp_aload rfl rfl ?_
      refine wp_getI (j := 19) rfl (congrArg Prod.fst (kf_89 X.1)) rfl ?_
      refine wp_i2l rfl ?_
      refine wp_lmul rfl ?_
      refine Wp.topL (y := ((h 99 x6) * (h 89 19))) (w64_I g7) ?_
      refine wp_aload rfl rfl ?_
      refine wp_getL (j := 17) rfl (congrArg Prod.fst (kf_89 X.1)) rfl ?_
      refine wp_lsub rfl ?_
      refine Wp.topL (y := (((h 99 x6) * (h 89 19)) - (h 89 17))) (w64_I g8) ?_
      refine wp_lmul rfl ?_
      refine Wp.topL (y := (5 * (((h 99 x6) * (h 89 19)) - (h 89 17)))) (w64_I g9) ?_
      refine wp_lret rfl rfl ?_
      show Wp X _ 76 19 [vr 89, vi x6] [vl (5 * (((h 99 x6) * (h 89 19)) - (h 89 17)))] _ _
      refine wp_sipush rfl ?_
      refine wp_lcmp rfl ?_
      refine wp_ifge (tn := 28) rfl rfl (fun c11 => ?_) (fun c11 => ?_)
      · replace H := H.1 c11
        refine wp_iconst rfl ?_
        refine wp_iret rfl rfl ?_
        show Wp X _ 94 69 [vr 89, vi x1, vi x2, vi x3, vi x4, vi x5, vi x6, vi 1] [vi 0, vi x3] _ _
        refine wp_ifleT (tn := 76) rfl rfl (by decide) ?_
        refine wp_iconst rfl ?_
        refine wp_iadd rfl ?_
        have g12 := H.1
        replace H := H.2
        refine Wp.topI (y := (x3 + 0)) (w32_I g12) ?_
        refine wp_istore (L2 := [vr 89, vi x1, vi x2, vi (x3 + 0), vi x4, vi x5, vi x6, vi 1]) rfl (Nat.le_of_ble_eq_true rfl) rfl ?_
        refine wp_iload rfl rfl ?_
        refine wp_iload rfl rfl ?_
        refine wp_ifeqF (tn := 99) rfl rfl (by decide) ?_
        refine wp_aload rfl rfl ?_
        refine wp_iload rfl rfl ?_
        refine wp_call (k := 76) (ρ2 := 1) (L2 := [vr 89, vi x6]) rfl rfl rfl (Nat.le_of_ble_eq_true rfl) (Nat.le_of_ble_eq_true rfl) (Nat.le_of_ble_eq_true rfl) (rcv_V rfl (congrArg Prod.fst (kf_89 X.1))) rfl ?_
        refine wp_aload rfl rfl ?_
        refine wp_iload rfl rfl ?_
        refine wp_call (k := 75) (ρ2 := 0) (L2 := [vr 89, vi x6]) rfl rfl rfl (Nat.le_of_ble_eq_true rfl) (Nat.le_of_ble_eq_true rfl) (Nat.le_of_ble_eq_true rfl) (rcv_V rfl (congrArg Prod.fst (kf_89 X.1))) rfl ?_
        refine wp_sipush rfl ?_
        refine wp_aload rfl rfl ?_
        refine wp_getR (r := 98) rfl (congrArg Prod.fst (kf_89 X.1)) rfl ?_
        refine wp_iload rfl rfl ?_
        refine wp_iaload rfl (kf_99 X.1) ⟨g6.1, g6.2⟩ ?_
        refine wp_i2l rfl ?_
        refine wp_aload rfl rfl ?_
        refine wp_getI (j := 19) rfl (congrArg Prod.fst (kf_89 X.1)) rfl ?_
        refine wp_i2l rfl ?_
        refine wp_lmul rfl ?_
        refine Wp.topL (y := ((h 99 x6) * (h 89 19))) (w64_I g7) ?_
        refine wp_aload rfl rfl ?_
        refine wp_getL (j := 17) rfl (congrArg Prod.fst (kf_89 X.1)) rfl ?_
        refine wp_lsub rfl ?_
        refine Wp.topL (y := (((h 99 x6) * (h 89 19)) - (h 89 17))) (w64_I g8) ?_
        refine wp_lmul rfl ?_
        refine Wp.topL (y := (5 * (((h 99 x6) * (h 89 19)) - (h 89 17)))) (w64_I g9) ?_
        refine wp_lret rfl rfl ?_
        show Wp X _ 76 5 [vr 89, vi x6] [vl (5 * (((h 99 x6) * (h 89 19)) - (h 89 17)))] _ _
        refine wp_sipush rfl ?_
        refine wp_lcmp rfl ?_
        refine wp_ifleT (tn := 14) rfl rfl c10 ?_
        refine wp_aload rfl rfl ?_
        refine wp_iload rfl rfl ?_
        refine wp_call (k := 75) (ρ2 := 0) (L2 := [vr 89, vi x6]) rfl rfl rfl (Nat.le_of_ble_eq_true rfl) (Nat.le_of_ble_eq_true rfl) (Nat.le_of_ble_eq_true rfl) (rcv_V rfl (congrArg Prod.fst (kf_89 X.1))) rfl ?_
        refine wp_sipush rfl ?_
        refine wp_aload rfl rfl ?_
        refine wp_getR (r := 98) rfl (congrArg Prod.fst (kf_89 X.1)) rfl ?_
        refine wp_iload rfl rfl ?_
        refine wp_iaload rfl (kf_99 X.1) ⟨g6.1, g6.2⟩ ?_
        refine wp_i2l rfl ?_
        refine wp_aload rfl rfl ?_
        refine wp_getI (j := 19) rfl (congrArg Prod.fst (kf_89 X.1)) rfl ?_
        refine wp_i2l rfl ?_
        refine wp_lmul rfl ?_
        refine Wp.topL (y := ((h 99 x6) * (h 89 19))) (w64_I g7) ?_
        refine wp_aload rfl rfl ?_
        refine wp_getL (j := 17) rfl (congrArg Prod.fst (kf_89 X.1)) rfl ?_
        refine wp_lsub rfl ?_
        refine Wp.topL (y := (((h 99 x6) * (h 89 19)) - (h 89 17))) (w64_I g8) ?_
        refine wp_lmul rfl ?_
        refine Wp.topL (y := (5 * (((h 99 x6) * (h 89 19)) - (h 89 17)))) (w64_I g9) ?_
        refine wp_lret rfl rfl ?_
        show Wp X _ 76 19 [vr 89, vi x6] [vl (5 * (((h 99 x6) * (h 89 19)) - (h 89 17)))] _ _
        refine wp_sipush rfl ?_
        refine wp_lcmp rfl ?_
        refine wp_ifgeT (tn := 28) rfl rfl c11 ?_
        refine wp_iconst rfl ?_
        refine wp_iret rfl rfl ?_
        show Wp X _ 94 92 [vr 89, vi x1, vi x2, vi (x3 + 0), vi x4, vi x5, vi x6, vi 1] [vi 0, vi x4] _ _
        refine wp_ifgeT (tn := 99) rfl rfl (by decide) ?_
        refine wp_iconst rfl ?_
        refine wp_iadd rfl ?_
        have g13 := H.1
        replace H := H.2
        refine Wp.topI (y := (x4 + 0)) (w32_I g13) ?_
        refine wp_istore (L2 := [vr 89, vi x1, vi x2, vi (x3 + 0), vi (x4 + 0), vi x5, vi x6, vi 1]) rfl (Nat.le_of_ble_eq_true rfl) rfl ?_
        have g14 := H.1
        replace H := H.2
        refine wp_iincR (L2 := [vr 89, vi x1, vi x2, vi (x3 + 0), vi (x4 + 0), vi (x5 + (-1)), vi x6, vi 1]) rfl rfl g14 rfl ?_
        refine wp_goto (tn := 8) rfl rfl ?_
        exact H
      · replace H := H.2 c11
        refine wp_iconst rfl ?_
        refine wp_goto (tn := 29) rfl rfl ?_
        refine wp_iret rfl rfl ?_
        show Wp X _ 94 69 [vr 89, vi x1, vi x2, vi x3, vi x4, vi x5, vi x6, vi 1] [vi (-1), vi x3] _ _
        refine wp_ifleT (tn := 76) rfl rfl (by decide) ?_
        refine wp_iconst rfl ?_
        refine wp_iadd rfl ?_
        have g15 := H.1
        replace H := H.2
        refine Wp.topI (y := (x3 + 0)) (w32_I g15) ?_
        refine wp_istore (L2 := [vr 89, vi x1, vi x2, vi (x3 + 0), vi x4, vi x5, vi x6, vi 1]) rfl (Nat.le_of_ble_eq_true rfl) rfl ?_
        refine wp_iload rfl rfl ?_
        refine wp_iload rfl rfl ?_
        refine wp_ifeqF (tn := 99) rfl rfl (by decide) ?_
        refine wp_aload rfl rfl ?_
        refine wp_iload rfl rfl ?_
        refine wp_call (k := 76) (ρ2 := 1) (L2 := [vr 89, vi x6]) rfl rfl rfl (Nat.le_of_ble_eq_true rfl) (Nat.le_of_ble_eq_true rfl) (Nat.le_of_ble_eq_true rfl) (rcv_V rfl (congrArg Prod.fst (kf_89 X.1))) rfl ?_
        refine wp_aload rfl rfl ?_
        refine wp_iload rfl rfl ?_
        refine wp_call (k := 75) (ρ2 := 0) (L2 := [vr 89, vi x6]) rfl rfl rfl (Nat.le_of_ble_eq_true rfl) (Nat.le_of_ble_eq_true rfl) (Nat.le_of_ble_eq_true rfl) (rcv_V rfl (congrArg Prod.fst (kf_89 X.1))) rfl ?_
        refine wp_sipush rfl ?_
        refine wp_aload rfl rfl ?_
        refine wp_getR (r := 98) rfl (congrArg Prod.fst (kf_89 X.1)) rfl ?_
        refine wp_iload rfl rfl ?_
        refine wp_iaload rfl (kf_99 X.1) ⟨g6.1, g6.2⟩ ?_
        refine wp_i2l rfl ?_
        refine wp_aload rfl rfl ?_
        refine wp_getI (j := 19) rfl (congrArg Prod.fst (kf_89 X.1)) rfl ?_
        refine wp_i2l rfl ?_
        refine wp_lmul rfl ?_
        refine Wp.topL (y := ((h 99 x6) * (h 89 19))) (w64_I g7) ?_
        refine wp_aload rfl rfl ?_
        refine wp_getL (j := 17) rfl (congrArg Prod.fst (kf_89 X.1)) rfl ?_
        refine wp_lsub rfl ?_
        refine Wp.topL (y := (((h 99 x6) * (h 89 19)) - (h 89 17))) (w64_I g8) ?_
        refine wp_lmul rfl ?_
        refine Wp.topL (y := (5 * (((h 99 x6) * (h 89 19)) - (h 89 17)))) (w64_I g9) ?_
        refine wp_lret rfl rfl ?_
        show Wp X _ 76 5 [vr 89, vi x6] [vl (5 * (((h 99 x6) * (h 89 19)) - (h 89 17)))] _ _
        refine wp_sipush rfl ?_
        refine wp_lcmp rfl ?_
        refine wp_ifleT (tn := 14) rfl rfl c10 ?_
        refine wp_aload rfl rfl ?_
        refine wp_iload rfl rfl ?_
        refine wp_call (k := 75) (ρ2 := 0) (L2 := [vr 89, vi x6]) rfl rfl rfl (Nat.le_of_ble_eq_true rfl) (Nat.le_of_ble_eq_true rfl) (Nat.le_of_ble_eq_true rfl) (rcv_V rfl (congrArg Prod.fst (kf_89 X.1))) rfl ?_
        refine wp_sipush rfl ?_
        refine wp_aload rfl rfl ?_
        refine wp_getR (r := 98) rfl (congrArg Prod.fst (kf_89 X.1)) rfl ?_
        refine wp_iload rfl rfl ?_
        refine wp_iaload rfl (kf_99 X.1) ⟨g6.1, g6.2⟩ ?_
        refine wp_i2l rfl ?_
        refine wp_aload rfl rfl ?_
        refine wp_getI (j := 19) rfl (congrArg Prod.fst (kf_89 X.1)) rfl ?_
        refine wp_i2l rfl ?_
        refine wp_lmul rfl ?_
        refine Wp.topL (y := ((h 99 x6) * (h 89 19))) (w64_I g7) ?_
        refine wp_aload rfl rfl ?_
        refine wp_getL (j := 17) rfl (congrArg Prod.fst (kf_89 X.1)) rfl ?_
        refine wp_lsub rfl ?_
        refine Wp.topL (y := (((h 99 x6) * (h 89 19)) - (h 89 17))) (w64_I g8) ?_
        refine wp_lmul rfl ?_
        refine Wp.topL (y := (5 * (((h 99 x6) * (h 89 19)) - (h 89 17)))) (w64_I g9) ?_
        refine wp_lret rfl rfl ?_
        show Wp X _ 76 19 [vr 89, vi x6] [vl (5 * (((h 99 x6) * (h 89 19)) - (h 89 17)))] _ _
        refine wp_sipush rfl ?_
        refine wp_lcmp rfl ?_
        refine wp_ifgeF (tn := 28) rfl rfl c11 ?_
        refine wp_iconst rfl ?_
        refine wp_goto (tn := 29) rfl rfl ?_
        refine wp_iret rfl rfl ?_
        show Wp X _ 94 92 [vr 89, vi x1, vi x2, vi (x3 + 0), vi x4, vi x5, vi x6, vi 1] [vi (-1), vi x4] _ _
        refine wp_ifgeF (tn := 99) rfl rfl (by decide) ?_
        refine wp_iconst rfl ?_
        refine wp_goto (tn := 100) rfl rfl ?_
        refine wp_iadd rfl ?_
        have g16 := H.1
        replace H := H.2
        refine Wp.topI (y := (x4 + 1)) (w32_I g16) ?_
        refine wp_istore (L2 := [vr 89, vi x1, vi x2, vi (x3 + 0), vi (x4 + 1), vi x5, vi x6, vi 1]) rfl (Nat.le_of_ble_eq_true rfl) rfl ?_
        have g17 := H.1
        replace H := H.2
        refine wp_iincR (L2 := [vr 89, vi x1, vi x2, vi (x3 + 0), vi (x4 + 1), vi (x5 + (-1)), vi x6, vi 1]) rfl rfl g17 rfl ?_
        refine wp_goto (tn := 8) rfl rfl ?_
        exact H
    · replace H := H.2 c10
      refine wp_iconst rfl ?_
      refine wp_goto (tn := 29) rfl rfl ?_
      refine wp_iret rfl rfl ?_
      show Wp X _ 94 69 [vr 89, vi x1, vi x2, vi x3, vi x4, vi x5, vi x6, vi 1] [vi 1, vi x3] _ _
      refine wp_ifleF (tn := 76) rfl rfl (by decide) ?_
      refine wp_iconst rfl ?_
      refine wp_goto (tn := 77) rfl rfl ?_
      refine wp_iadd rfl ?_
      have g18 := H.1
      replace H := H.2
      refine Wp.topI (y := (x3 + 1)) (w32_I g18) ?_
      refine wp_istore (L2 := [vr 89, vi x1, vi x2, vi (x3 + 1), vi x4, vi x5, vi x6, vi 1]) rfl (Nat.le_of_ble_eq_true rfl) rfl ?_
      refine wp_iload rfl rfl ?_
      refine wp_iload rfl rfl ?_
      refine wp_ifeqF (tn := 99) rfl rfl (by decide) ?_
      refine wp_aload rfl rfl ?_
      refine wp_iload rfl rfl ?_
      refine wp_call (k := 76) (ρ2 := 1) (L2 := [vr 89, vi x6]) rfl rfl rfl (Nat.le_of_ble_eq_true rfl) (Nat.le_of_ble_eq_true rfl) (Nat.le_of_ble_eq_true rfl) (rcv_V rfl (congrArg Prod.fst (kf_89 X.1))) rfl ?_
      refine wp_aload rfl rfl ?_
      refine wp_iload rfl rfl ?_
      refine wp_call (k := 75) (ρ2 := 0) (L2 := [vr 89, vi x6]) rfl rfl rfl (Nat.le_of_ble_eq_true rfl) (Nat.le_of_ble_eq_true rfl) (Nat.le_of_ble_eq_true rfl) (rcv_V rfl (congrArg Prod.fst (kf_89 X.1))) rfl ?_
      refine wp_sipush rfl ?_
      refine wp_aload rfl rfl ?_
      refine wp_getR (r := 98) rfl (congrArg Prod.fst (kf_89 X.1)) rfl ?_
      refine wp_iload rfl rfl ?_
      refine wp_iaload rfl (kf_99 X.1) ⟨g6.1, g6.2⟩ ?_
      refine wp_i2l rfl ?_
      refine wp_aload rfl rfl ?_
      refine wp_getI (j := 19) rfl (congrArg Prod.fst (kf_89 X.1)) rfl ?_
      refine wp_i2l rfl ?_
      refine wp_lmul rfl ?_
      refine Wp.topL (y := ((h 99 x6) * (h 89 19))) (w64_I g7) ?_
      refine wp_aload rfl rfl ?_
      refine wp_getL (j := 17) rfl (congrArg Prod.fst (kf_89 X.1)) rfl ?_
      refine wp_lsub rfl ?_
      refine Wp.topL (y := (((h 99 x6) * (h 89 19)) - (h 89 17))) (w64_I g8) ?_
      refine wp_lmul rfl ?_
      refine Wp.topL (y := (5 * (((h 99 x6) * (h 89 19)) - (h 89 17)))) (w64_I g9) ?_
      refine wp_lret rfl rfl ?_
      show Wp X _ 76 5 [vr 89, vi x6] [vl (5 * (((h 99 x6) * (h 89 19)) - (h 89 17)))] _ _
      refine wp_sipush rfl ?_
      refine wp_lcmp rfl ?_
      refine wp_ifleF (tn := 14) rfl rfl c10 ?_
      refine wp_iconst rfl ?_
      refine wp_goto (tn := 29) rfl rfl ?_
      refine wp_iret rfl rfl ?_
      show Wp X _ 94 92 [vr 89, vi x1, vi x2, vi (x3 + 1), vi x4, vi x5, vi x6, vi 1] [vi 1, vi x4] _ _
      refine wp_ifgeT (tn := 99) rfl rfl (by decide) ?_
      refine wp_iconst rfl ?_
      refine wp_iadd rfl ?_
      have g19 := H.1
      replace H := H.2
      refine Wp.topI (y := (x4 + 0)) (w32_I g19) ?_
      refine wp_istore (L2 := [vr 89, vi x1, vi x2, vi (x3 + 1), vi (x4 + 0), vi x5, vi x6, vi 1]) rfl (Nat.le_of_ble_eq_true rfl) rfl ?_
      have g20 := H.1
      replace H := H.2
      refine wp_iincR (L2 := [vr 89, vi x1, vi x2, vi (x3 + 1), vi (x4 + 0), vi (x5 + (-1)), vi x6, vi 1]) rfl rfl g20 rfl ?_
      refine wp_goto (tn := 8) rfl rfl ?_
      exact H
/-- WarnLinesModel.isWay(II)Z, from 0 -/
theorem S96_89_0 {X : Nat × (Int → Int)} {h : HP} {Q : bQ} (x1 : Int) (x2 : Int) (H : ((R32 (x2 + 1)) ∧ ((0 ≤ x1 ∧ x1 < 8) ∧ (((h 106 x1) ≤ (x2 + 1) → ((0 ≤ x2 ∧ x2 < 20) ∧ ((0 ≤ (h 109 x2) ∧ (h 109 x2) < 20) ∧ ((0 ≤ (x2 - 1) ∧ (x2 - 1) < 20) ∧ ((0 ≤ (h 109 (x2 - 1)) ∧ (h 109 (x2 - 1)) < 20) ∧ ((R32 ((h 99 (h 109 x2)) - (h 99 (h 109 (x2 - 1))))) ∧ ((((h 99 (h 109 x2)) - (h 99 (h 109 (x2 - 1)))) ≤ 0 → ((0 ≤ ((h 99 (h 109 x2)) - (h 99 (h 109 (x2 - 1)))) → Wp X 1 96 31 [vr 89, vi x1, vi x2, vi 0, vi x2] [] h Q) ∧ (((h 99 (h 109 x2)) - (h 99 (h 109 (x2 - 1)))) < 0 → Wp X 1 96 31 [vr 89, vi x1, vi x2, vi 1, vi x2] [] h Q))) ∧ (0 < ((h 99 (h 109 x2)) - (h 99 (h 109 (x2 - 1)))) → Wp X 1 96 31 [vr 89, vi x1, vi x2, vi 1, vi x2] [] h Q)))))))) ∧ ((x2 + 1) < (h 106 x1) → Q (some (vi 0)) h))))) : Wp X 1 96 0 [vr 89, vi x1, vi x2, vu, vu] [] h Q := by
  refine wp_iload rfl rfl ?_
  refine wp_iconst rfl ?_
  refine wp_iadd rfl ?_
  have g1 := H.1
  replace H := H.2
  refine Wp.topI (y := (x2 + 1)) (w32_I g1) ?_
  refine wp_aload rfl rfl ?_
  refine wp_getR (r := 105) rfl (congrArg Prod.fst (kf_89 X.1)) rfl ?_
  refine wp_iload rfl rfl ?_
  have g2 := H.1
  replace H := H.2
  refine wp_iaload rfl (kf_106 X.1) g2 ?_
  refine wp_icge (tn := 14) rfl rfl (fun c3 => ?_) (fun c3 => ?_)
  · replace H := H.1 c3
    refine wp_aload rfl rfl ?_
    refine wp_iload rfl rfl ?_
    refine wp_call (k := 95) (ρ2 := 0) (L2 := [vr 89, vi x2, vu]) rfl rfl rfl (Nat.le_of_ble_eq_true rfl) (Nat.le_of_ble_eq_true rfl) (Nat.le_of_ble_eq_true rfl) (rcv_V rfl (congrArg Prod.fst (kf_89 X.1))) rfl ?_
    refine wp_aload rfl rfl ?_
    refine wp_getR (r := 98) rfl (congrArg Prod.fst (kf_89 X.1)) rfl ?_
    refine wp_aload rfl rfl ?_
    refine wp_getR (r := 108) rfl (congrArg Prod.fst (kf_89 X.1)) rfl ?_
    refine wp_iload rfl rfl ?_
    have g4 := H.1
    replace H := H.2
    refine wp_iaload rfl (kf_109 X.1) g4 ?_
    have g5 := H.1
    replace H := H.2
    refine wp_iaload rfl (kf_99 X.1) g5 ?_
    refine wp_aload rfl rfl ?_
    refine wp_getR (r := 98) rfl (congrArg Prod.fst (kf_89 X.1)) rfl ?_
    refine wp_aload rfl rfl ?_
    refine wp_getR (r := 108) rfl (congrArg Prod.fst (kf_89 X.1)) rfl ?_
    refine wp_iload rfl rfl ?_
    refine wp_iconst rfl ?_
    refine wp_isub rfl ?_
    refine Wp.topI (y := (x2 - 1)) (w32_I (by clear H; unfold R32; omega)) ?_
    have g6 := H.1
    replace H := H.2
    refine wp_iaload rfl (kf_109 X.1) g6 ?_
    have g7 := H.1
    replace H := H.2
    refine wp_iaload rfl (kf_99 X.1) g7 ?_
    refine wp_isub rfl ?_
    have g8 := H.1
    replace H := H.2
    refine Wp.topI (y := ((h 99 (h 109 x2)) - (h 99 (h 109 (x2 - 1))))) (w32_I g8) ?_
    refine wp_istore (L2 := [vr 89, vi x2, vi ((h 99 (h 109 x2)) - (h 99 (h 109 (x2 - 1))))]) rfl (Nat.le_of_ble_eq_true rfl) rfl ?_
    refine wp_iload rfl rfl ?_
    refine wp_ifle (tn := 34) rfl rfl (fun c9 => ?_) (fun c9 => ?_)
    · replace H := H.1 c9
      refine wp_iload rfl rfl ?_
      refine wp_ifge (tn := 42) rfl rfl (fun c10 => ?_) (fun c10 => ?_)
      · replace H := H.1 c10
        refine wp_iconst rfl ?_
        refine wp_iret rfl rfl ?_
        show Wp X _ 96 19 [vr 89, vi x1, vi x2, vu, vu] [vi 0] _ _
        refine wp_ifeqT (tn := 26) rfl rfl (by decide) ?_
        refine wp_iconst rfl ?_
        refine wp_istore (L2 := [vr 89, vi x1, vi x2, vi 0, vu]) rfl (Nat.le_of_ble_eq_true rfl) rfl ?_
        refine wp_iload rfl rfl ?_
        refine wp_istore (L2 := [vr 89, vi x1, vi x2, vi 0, vi x2]) rfl (Nat.le_of_ble_eq_true rfl) rfl ?_
        exact H
      · replace H := H.2 c10
        refine wp_iconst rfl ?_
        refine wp_goto (tn := 43) rfl rfl ?_
        refine wp_iret rfl rfl ?_
        show Wp X _ 96 19 [vr 89, vi x1, vi x2, vu, vu] [vi (-1)] _ _
        refine wp_ifeqF (tn := 26) rfl rfl (by decide) ?_
        refine wp_iconst rfl ?_
        refine wp_goto (tn := 27) rfl rfl ?_
        refine wp_istore (L2 := [vr 89, vi x1, vi x2, vi 1, vu]) rfl (Nat.le_of_ble_eq_true rfl) rfl ?_
        refine wp_iload rfl rfl ?_
        refine wp_istore (L2 := [vr 89, vi x1, vi x2, vi 1, vi x2]) rfl (Nat.le_of_ble_eq_true rfl) rfl ?_
        exact H
    · replace H := H.2 c9
      refine wp_iconst rfl ?_
      refine wp_goto (tn := 43) rfl rfl ?_
      refine wp_iret rfl rfl ?_
      show Wp X _ 96 19 [vr 89, vi x1, vi x2, vu, vu] [vi 1] _ _
      refine wp_ifeqF (tn := 26) rfl rfl (by decide) ?_
      refine wp_iconst rfl ?_
      refine wp_goto (tn := 27) rfl rfl ?_
      refine wp_istore (L2 := [vr 89, vi x1, vi x2, vi 1, vu]) rfl (Nat.le_of_ble_eq_true rfl) rfl ?_
      refine wp_iload rfl rfl ?_
      refine wp_istore (L2 := [vr 89, vi x1, vi x2, vi 1, vi x2]) rfl (Nat.le_of_ble_eq_true rfl) rfl ?_
      exact H
  · replace H := H.2 c3
    refine wp_iconst rfl ?_
    exact wp_zret rfl rfl (by decide) H
/-- WarnLinesModel.isWay(II)Z, from 31 -/
theorem S96_89_31 {X : Nat × (Int → Int)} {h : HP} {Q : bQ} (x1 : Int) (x2 : Int) (x3 : Int) (x4 : Int) (H : ((0 ≤ x1 ∧ x1 < 8) ∧ ((R32 (x2 - (h 106 x1))) ∧ ((R32 ((x2 - (h 106 x1)) + 2)) ∧ ((x4 ≤ ((x2 - (h 106 x1)) + 2) → ((x3 = 0 ∨ x3 = 1) ∧ Q (some (vi x3)) h)) ∧ (((x2 - (h 106 x1)) + 2) < x4 → ((x3 = 0 → ((x3 = 0 ∨ x3 = 1) ∧ Q (some (vi x3)) h)) ∧ (x3 ≠ 0 → ((R32 (x4 - 1)) ∧ ((0 ≤ (x4 - 1) ∧ (x4 - 1) < 20) ∧ ((0 ≤ (h 109 (x4 - 1)) ∧ (h 109 (x4 - 1)) < 20) ∧ ((0 ≤ ((x4 - 1) - 1) ∧ ((x4 - 1) - 1) < 20) ∧ ((0 ≤ (h 109 ((x4 - 1) - 1)) ∧ (h 109 ((x4 - 1) - 1)) < 20) ∧ ((R32 ((h 99 (h 109 (x4 - 1))) - (h 99 (h 109 ((x4 - 1) - 1))))) ∧ ((((h 99 (h 109 (x4 - 1))) - (h 99 (h 109 ((x4 - 1) - 1)))) ≤ 0 → ((0 ≤ ((h 99 (h 109 (x4 - 1))) - (h 99 (h 109 ((x4 - 1) - 1)))) → (((h 105 x1) ≠ 114 → ((0 ≤ x4 ∧ x4 < 20) ∧ ((0 ≤ (h 109 x4) ∧ (h 109 x4) < 20) ∧ ((R32 ((h 99 (h 109 x4)) - (h 99 (h 109 (x4 - 1))))) ∧ ((((h 99 (h 109 x4)) - (h 99 (h 109 (x4 - 1)))) ≤ 0 → ((0 ≤ ((h 99 (h 109 x4)) - (h 99 (h 109 (x4 - 1)))) → Wp X 1 96 31 [vr 89, vi x1, vi x2, vi 1, vi (x4 + (-1))] [] h Q) ∧ (((h 99 (h 109 x4)) - (h 99 (h 109 (x4 - 1)))) < 0 → Wp X 1 96 31 [vr 89, vi x1, vi x2, vi 0, vi (x4 + (-1))] [] h Q))) ∧ (0 < ((h 99 (h 109 x4)) - (h 99 (h 109 (x4 - 1)))) → Wp X 1 96 31 [vr 89, vi x1, vi x2, vi 0, vi (x4 + (-1))] [] h Q)))))) ∧ ((h 105 x1) = 114 → ((0 ≤ x4 ∧ x4 < 20) ∧ ((0 ≤ (h 109 x4) ∧ (h 109 x4) < 20) ∧ ((R32 ((h 99 (h 109 x4)) - (h 99 (h 109 (x4 - 1))))) ∧ ((((h 99 (h 109 x4)) - (h 99 (h 109 (x4 - 1)))) ≤ 0 → ((0 ≤ ((h 99 (h 109 x4)) - (h 99 (h 109 (x4 - 1)))) → Wp X 1 96 31 [vr 89, vi x1, vi x2, vi 1, vi (x4 + (-1))] [] h Q) ∧ (((h 99 (h 109 x4)) - (h 99 (h 109 (x4 - 1)))) < 0 → Wp X 1 96 31 [vr 89, vi x1, vi x2, vi 0, vi (x4 + (-1))] [] h Q))) ∧ (0 < ((h 99 (h 109 x4)) - (h 99 (h 109 (x4 - 1)))) → Wp X 1 96 31 [vr 89, vi x1, vi x2, vi 0, vi (x4 + (-1))] [] h Q)))))))) ∧ (((h 99 (h 109 (x4 - 1))) - (h 99 (h 109 ((x4 - 1) - 1)))) < 0 → (((h 105 x1) ≠ 114 → ((0 ≤ x4 ∧ x4 < 20) ∧ ((0 ≤ (h 109 x4) ∧ (h 109 x4) < 20) ∧ ((R32 ((h 99 (h 109 x4)) - (h 99 (h 109 (x4 - 1))))) ∧ ((((h 99 (h 109 x4)) - (h 99 (h 109 (x4 - 1)))) ≤ 0 → ((0 ≤ ((h 99 (h 109 x4)) - (h 99 (h 109 (x4 - 1)))) → Wp X 1 96 31 [vr 89, vi x1, vi x2, vi 0, vi (x4 + (-1))] [] h Q) ∧ (((h 99 (h 109 x4)) - (h 99 (h 109 (x4 - 1)))) < 0 → Wp X 1 96 31 [vr 89, vi x1, vi x2, vi 0, vi (x4 + (-1))] [] h Q))) ∧ (0 < ((h 99 (h 109 x4)) - (h 99 (h 109 (x4 - 1)))) → Wp X 1 96 31 [vr 89, vi x1, vi x2, vi 1, vi (x4 + (-1))] [] h Q)))))) ∧ ((h 105 x1) = 114 → ((0 ≤ x4 ∧ x4 < 20) ∧ ((0 ≤ (h 109 x4) ∧ (h 109 x4) < 20) ∧ ((R32 ((h 99 (h 109 x4)) - (h 99 (h 109 (x4 - 1))))) ∧ ((((h 99 (h 109 x4)) - (h 99 (h 109 (x4 - 1)))) ≤ 0 → ((0 ≤ ((h 99 (h 109 x4)) - (h 99 (h 109 (x4 - 1)))) → Wp X 1 96 31 [vr 89, vi x1, vi x2, vi 0, vi (x4 + (-1))] [] h Q) ∧ (((h 99 (h 109 x4)) - (h 99 (h 109 (x4 - 1)))) < 0 → Wp X 1 96 31 [vr 89, vi x1, vi x2, vi 1, vi (x4 + (-1))] [] h Q))) ∧ (0 < ((h 99 (h 109 x4)) - (h 99 (h 109 (x4 - 1)))) → Wp X 1 96 31 [vr 89, vi x1, vi x2, vi 0, vi (x4 + (-1))] [] h Q)))))))))) ∧ (0 < ((h 99 (h 109 (x4 - 1))) - (h 99 (h 109 ((x4 - 1) - 1)))) → (((h 105 x1) ≠ 114 → ((0 ≤ x4 ∧ x4 < 20) ∧ ((0 ≤ (h 109 x4) ∧ (h 109 x4) < 20) ∧ ((R32 ((h 99 (h 109 x4)) - (h 99 (h 109 (x4 - 1))))) ∧ ((((h 99 (h 109 x4)) - (h 99 (h 109 (x4 - 1)))) ≤ 0 → ((0 ≤ ((h 99 (h 109 x4)) - (h 99 (h 109 (x4 - 1)))) → Wp X 1 96 31 [vr 89, vi x1, vi x2, vi 0, vi (x4 + (-1))] [] h Q) ∧ (((h 99 (h 109 x4)) - (h 99 (h 109 (x4 - 1)))) < 0 → Wp X 1 96 31 [vr 89, vi x1, vi x2, vi 1, vi (x4 + (-1))] [] h Q))) ∧ (0 < ((h 99 (h 109 x4)) - (h 99 (h 109 (x4 - 1)))) → Wp X 1 96 31 [vr 89, vi x1, vi x2, vi 0, vi (x4 + (-1))] [] h Q)))))) ∧ ((h 105 x1) = 114 → ((0 ≤ x4 ∧ x4 < 20) ∧ ((0 ≤ (h 109 x4) ∧ (h 109 x4) < 20) ∧ ((R32 ((h 99 (h 109 x4)) - (h 99 (h 109 (x4 - 1))))) ∧ ((((h 99 (h 109 x4)) - (h 99 (h 109 (x4 - 1)))) ≤ 0 → ((0 ≤ ((h 99 (h 109 x4)) - (h 99 (h 109 (x4 - 1)))) → Wp X 1 96 31 [vr 89, vi x1, vi x2, vi 0, vi (x4 + (-1))] [] h Q) ∧ (((h 99 (h 109 x4)) - (h 99 (h 109 (x4 - 1)))) < 0 → Wp X 1 96 31 [vr 89, vi x1, vi x2, vi 0, vi (x4 + (-1))] [] h Q))) ∧ (0 < ((h 99 (h 109 x4)) - (h 99 (h 109 (x4 - 1)))) → Wp X 1 96 31 [vr 89, vi x1, vi x2, vi 1, vi (x4 + (-1))] [] h Q))))))))))))))))))))))) : Wp X 1 96 31 [vr 89, vi x1, vi x2, vi x3, vi x4] [] h Q := by
  refine wp_iload rfl rfl ?_
  refine wp_iload rfl rfl ?_
  refine wp_aload rfl rfl ?_
  refine wp_getR (r := 105) rfl (congrArg Prod.fst (kf_89 X.1)) rfl ?_
  refine wp_iload rfl rfl ?_
  have g1 := H.1
  replace H := H.2
  refine wp_iaload rfl (kf_106 X.1) g1 ?_
  refine wp_isub rfl ?_
  have g2 := H.1
  replace H := H.2
  refine Wp.topI (y := (x2 - (h 106 x1))) (w32_I g2) ?_
  refine wp_iconst rfl ?_
  refine wp_iadd rfl ?_
  have g3 := H.1
  replace H := H.2
  refine Wp.topI (y := ((x2 - (h 106 x1)) + 2)) (w32_I g3) ?_
  refine wp_icle (tn := 100) rfl rfl (fun c4 => ?_) (fun c4 => ?_)
  · replace H := H.1 c4
    refine wp_iload rfl rfl ?_
    have g5 := H.1
    replace H := H.2
    exact wp_zret rfl rfl g5 H
  · replace H := H.2 c4
    refine wp_iload rfl rfl ?_
    refine wp_ifeq (tn := 100) rfl rfl (fun c6 => ?_) (fun c6 => ?_)
    · replace H := H.1 c6
      refine wp_iload rfl rfl ?_
      have g7 := H.1
      replace H := H.2
      exact wp_zret rfl rfl g7 H
    · replace H := H.2 c6
      refine wp_aload rfl rfl ?_
      refine wp_iload rfl rfl ?_
      refine wp_iconst rfl ?_
      refine wp_isub rfl ?_
      have g8 := H.1
      replace H := H.2
      refine Wp.topI (y := (x4 - 1)) (w32_I g8) ?_
      refine wp_call (k := 95) (ρ2 := 0) (L2 := [vr 89, vi (x4 - 1), vu]) rfl rfl rfl (Nat.le_of_ble_eq_true rfl) (Nat.le_of_ble_eq_true rfl) (Nat.le_of_ble_eq_true rfl) (rcv_V rfl (congrArg Prod.fst (kf_89 X.1))) rfl ?_
      refine wp_aload rfl rfl ?_
      refine wp_getR (r := 98) rfl (congrArg Prod.fst (kf_89 X.1)) rfl ?_
      refine wp_aload rfl rfl ?_
      refine wp_getR (r := 108) rfl (congrArg Prod.fst (kf_89 X.1)) rfl ?_
      refine wp_iload rfl rfl ?_
      have g9 := H.1
      replace H := H.2
      refine wp_iaload rfl (kf_109 X.1) g9 ?_
      have g10 := H.1
      replace H := H.2
      refine wp_iaload rfl (kf_99 X.1) g10 ?_
      refine wp_aload rfl rfl ?_
      refine wp_getR (r := 98) rfl (congrArg Prod.fst (kf_89 X.1)) rfl ?_
      refine wp_aload rfl rfl ?_
      refine wp_getR (r := 108) rfl (congrArg Prod.fst (kf_89 X.1)) rfl ?_
      refine wp_iload rfl rfl ?_
      refine wp_iconst rfl ?_
      refine wp_isub rfl ?_
      refine Wp.topI (y := ((x4 - 1) - 1)) (w32_I (by clear H; unfold R32; omega)) ?_
      have g11 := H.1
      replace H := H.2
      refine wp_iaload rfl (kf_109 X.1) g11 ?_
      have g12 := H.1
      replace H := H.2
      refine wp_iaload rfl (kf_99 X.1) g12 ?_
      refine wp_isub rfl ?_
      have g13 := H.1
      replace H := H.2
      refine Wp.topI (y := ((h 99 (h 109 (x4 - 1))) - (h 99 (h 109 ((x4 - 1) - 1))))) (w32_I g13) ?_
      refine wp_istore (L2 := [vr 89, vi (x4 - 1), vi ((h 99 (h 109 (x4 - 1))) - (h 99 (h 109 ((x4 - 1) - 1))))]) rfl (Nat.le_of_ble_eq_true rfl) rfl ?_
      refine wp_iload rfl rfl ?_
      refine wp_ifle (tn := 34) rfl rfl (fun c14 => ?_) (fun c14 => ?_)
      · replace H := H.1 c14
        refine wp_iload rfl rfl ?_
        refine wp_ifge (tn := 42) rfl rfl (fun c15 => ?_) (fun c15 => ?_)
        · replace H := H.1 c15
          refine wp_iconst rfl ?_
          refine wp_iret rfl rfl ?_
          show Wp X _ 96 58 [vr 89, vi x1, vi x2, vi x3, vi x4] [vi 0] _ _
          refine wp_aload rfl rfl ?_
          refine wp_getR (r := 104) rfl (congrArg Prod.fst (kf_89 X.1)) rfl ?_
          refine wp_iload rfl rfl ?_
          refine wp_iaload rfl (kf_105 X.1) ⟨g1.1, g1.2⟩ ?_
          refine wp_iconst rfl ?_
          refine wp_icne (tn := 78) rfl rfl (fun c16 => ?_) (fun c16 => ?_)
          · replace H := H.1 c16
            refine wp_aload rfl rfl ?_
            refine wp_iload rfl rfl ?_
            refine wp_call (k := 95) (ρ2 := 0) (L2 := [vr 89, vi x4, vu]) rfl rfl rfl (Nat.le_of_ble_eq_true rfl) (Nat.le_of_ble_eq_true rfl) (Nat.le_of_ble_eq_true rfl) (rcv_V rfl (congrArg Prod.fst (kf_89 X.1))) rfl ?_
            refine wp_aload rfl rfl ?_
            refine wp_getR (r := 98) rfl (congrArg Prod.fst (kf_89 X.1)) rfl ?_
            refine wp_aload rfl rfl ?_
            refine wp_getR (r := 108) rfl (congrArg Prod.fst (kf_89 X.1)) rfl ?_
            refine wp_iload rfl rfl ?_
            have g17 := H.1
            replace H := H.2
            refine wp_iaload rfl (kf_109 X.1) g17 ?_
            have g18 := H.1
            replace H := H.2
            refine wp_iaload rfl (kf_99 X.1) g18 ?_
            refine wp_aload rfl rfl ?_
            refine wp_getR (r := 98) rfl (congrArg Prod.fst (kf_89 X.1)) rfl ?_
            refine wp_aload rfl rfl ?_
            refine wp_getR (r := 108) rfl (congrArg Prod.fst (kf_89 X.1)) rfl ?_
            refine wp_iload rfl rfl ?_
            refine wp_iconst rfl ?_
            refine wp_isub rfl ?_
            refine Wp.topI (y := (x4 - 1)) (w32_I (by clear H; unfold R32; omega)) ?_
            refine wp_iaload rfl (kf_109 X.1) ⟨g9.1, g9.2⟩ ?_
            refine wp_iaload rfl (kf_99 X.1) ⟨g10.1, g10.2⟩ ?_
            refine wp_isub rfl ?_
            have g19 := H.1
            replace H := H.2
            refine Wp.topI (y := ((h 99 (h 109 x4)) - (h 99 (h 109 (x4 - 1))))) (w32_I g19) ?_
            refine wp_istore (L2 := [vr 89, vi x4, vi ((h 99 (h 109 x4)) - (h 99 (h 109 (x4 - 1))))]) rfl (Nat.le_of_ble_eq_true rfl) rfl ?_
            refine wp_iload rfl rfl ?_
            refine wp_ifle (tn := 34) rfl rfl (fun c20 => ?_) (fun c20 => ?_)
            · replace H := H.1 c20
              refine wp_iload rfl rfl ?_
              refine wp_ifge (tn := 42) rfl rfl (fun c21 => ?_) (fun c21 => ?_)
              · replace H := H.1 c21
                refine wp_iconst rfl ?_
                refine wp_iret rfl rfl ?_
                show Wp X _ 96 84 [vr 89, vi x1, vi x2, vi x3, vi x4] [vi 0, vi 0] _ _
                refine wp_ineg rfl ?_
                refine Wp.topI (y := (-0)) (by decide) ?_
                refine wp_icneF (tn := 92) rfl rfl (by decide) ?_
                refine wp_iconst rfl ?_
                refine wp_goto (tn := 93) rfl rfl ?_
                refine wp_istore (L2 := [vr 89, vi x1, vi x2, vi 1, vi x4]) rfl (Nat.le_of_ble_eq_true rfl) rfl ?_
                refine wp_iincR (L2 := [vr 89, vi x1, vi x2, vi 1, vi (x4 + (-1))]) rfl rfl (by clear H; unfold R32; omega) rfl ?_
                refine wp_goto (tn := 31) rfl rfl ?_
                exact H
              · replace H := H.2 c21
                refine wp_iconst rfl ?_
                refine wp_goto (tn := 43) rfl rfl ?_
                refine wp_iret rfl rfl ?_
                show Wp X _ 96 84 [vr 89, vi x1, vi x2, vi x3, vi x4] [vi (-1), vi 0] _ _
                refine wp_ineg rfl ?_
                refine Wp.topI (y := (-(-1))) (by decide) ?_
                refine wp_icneT (tn := 92) rfl rfl (by decide) ?_
                refine wp_iconst rfl ?_
                refine wp_istore (L2 := [vr 89, vi x1, vi x2, vi 0, vi x4]) rfl (Nat.le_of_ble_eq_true rfl) rfl ?_
                refine wp_iincR (L2 := [vr 89, vi x1, vi x2, vi 0, vi (x4 + (-1))]) rfl rfl (by clear H; unfold R32; omega) rfl ?_
                refine wp_goto (tn := 31) rfl rfl ?_
                exact H
            · replace H := H.2 c20
              refine wp_iconst rfl ?_
              refine wp_goto (tn := 43) rfl rfl ?_
              refine wp_iret rfl rfl ?_
              show Wp X _ 96 84 [vr 89, vi x1, vi x2, vi x3, vi x4] [vi 1, vi 0] _ _
              refine wp_ineg rfl ?_
              refine Wp.topI (y := (-1)) (by decide) ?_
              refine wp_icneT (tn := 92) rfl rfl (by decide) ?_
              refine wp_iconst rfl ?_
              refine wp_istore (L2 := [vr 89, vi x1, vi x2, vi 0, vi x4]) rfl (Nat.le_of_ble_eq_true rfl) rfl ?_
              refine wp_iincR (L2 := [vr 89, vi x1, vi x2, vi 0, vi (x4 + (-1))]) rfl rfl (by clear H; unfold R32; omega) rfl ?_
              refine wp_goto (tn := 31) rfl rfl ?_
              exact H
          · replace H := H.2 c16
            refine wp_aload rfl rfl ?_
            refine wp_iload rfl rfl ?_
            refine wp_call (k := 95) (ρ2 := 0) (L2 := [vr 89, vi x4, vu]) rfl rfl rfl (Nat.le_of_ble_eq_true rfl) (Nat.le_of_ble_eq_true rfl) (Nat.le_of_ble_eq_true rfl) (rcv_V rfl (congrArg Prod.fst (kf_89 X.1))) rfl ?_
            refine wp_aload rfl rfl ?_
            refine wp_getR (r := 98) rfl (congrArg Prod.fst (kf_89 X.1)) rfl ?_
            refine wp_aload rfl rfl ?_
            refine wp_getR (r := 108) rfl (congrArg Prod.fst (kf_89 X.1)) rfl ?_
            refine wp_iload rfl rfl ?_
            have g22 := H.1
            replace H := H.2
            refine wp_iaload rfl (kf_109 X.1) g22 ?_
            have g23 := H.1
            replace H := H.2
            refine wp_iaload rfl (kf_99 X.1) g23 ?_
            refine wp_aload rfl rfl ?_
            refine wp_getR (r := 98) rfl (congrArg Prod.fst (kf_89 X.1)) rfl ?_
            refine wp_aload rfl rfl ?_
            refine wp_getR (r := 108) rfl (congrArg Prod.fst (kf_89 X.1)) rfl ?_
            refine wp_iload rfl rfl ?_
            refine wp_iconst rfl ?_
            refine wp_isub rfl ?_
            refine Wp.topI (y := (x4 - 1)) (w32_I (by clear H; unfold R32; omega)) ?_
            refine wp_iaload rfl (kf_109 X.1) ⟨g9.1, g9.2⟩ ?_
            refine wp_iaload rfl (kf_99 X.1) ⟨g10.1, g10.2⟩ ?_
            refine wp_isub rfl ?_
            have g24 := H.1
            replace H := H.2
            refine Wp.topI (y := ((h 99 (h 109 x4)) - (h 99 (h 109 (x4 - 1))))) (w32_I g24) ?_
            refine wp_istore (L2 := [vr 89, vi x4, vi ((h 99 (h 109 x4)) - (h 99 (h 109 (x4 - 1))))]) rfl (Nat.le_of_ble_eq_true rfl) rfl ?_
            refine wp_iload rfl rfl ?_
            refine wp_ifle (tn := 34) rfl rfl (fun c25 => ?_) (fun c25 => ?_)
            · replace H := H.1 c25
              refine wp_iload rfl rfl ?_
              refine wp_ifge (tn := 42) rfl rfl (fun c26 => ?_) (fun c26 => ?_)
              · replace H := H.1 c26
                refine wp_iconst rfl ?_
                refine wp_iret rfl rfl ?_
                show Wp X _ 96 75 [vr 89, vi x1, vi x2, vi x3, vi x4] [vi 0, vi 0] _ _
                refine wp_goto (tn := 85) rfl rfl ?_
                refine wp_icneF (tn := 92) rfl rfl (by decide) ?_
                refine wp_iconst rfl ?_
                refine wp_goto (tn := 93) rfl rfl ?_
                refine wp_istore (L2 := [vr 89, vi x1, vi x2, vi 1, vi x4]) rfl (Nat.le_of_ble_eq_true rfl) rfl ?_
                refine wp_iincR (L2 := [vr 89, vi x1, vi x2, vi 1, vi (x4 + (-1))]) rfl rfl (by clear H; unfold R32; omega) rfl ?_
                refine wp_goto (tn := 31) rfl rfl ?_
                exact H
              · replace H := H.2 c26
                refine wp_iconst rfl ?_
                refine wp_goto (tn := 43) rfl rfl ?_
                refine wp_iret rfl rfl ?_
                show Wp X _ 96 75 [vr 89, vi x1, vi x2, vi x3, vi x4] [vi (-1), vi 0] _ _
                refine wp_goto (tn := 85) rfl rfl ?_
                refine wp_icneT (tn := 92) rfl rfl (by decide) ?_
                refine wp_iconst rfl ?_
                refine wp_istore (L2 := [vr 89, vi x1, vi x2, vi 0, vi x4]) rfl (Nat.le_of_ble_eq_true rfl) rfl ?_
                refine wp_iincR (L2 := [vr 89, vi x1, vi x2, vi 0, vi (x4 + (-1))]) rfl rfl (by clear H; unfold R32; omega) rfl ?_
                refine wp_goto (tn := 31) rfl rfl ?_
                exact H
            · replace H := H.2 c25
              refine wp_iconst rfl ?_
              refine wp_goto (tn := 43) rfl rfl ?_
              refine wp_iret rfl rfl ?_
              show Wp X _ 96 75 [vr 89, vi x1, vi x2, vi x3, vi x4] [vi 1, vi 0] _ _
              refine wp_goto (tn := 85) rfl rfl ?_
              refine wp_icneT (tn := 92) rfl rfl (by decide) ?_
              refine wp_iconst rfl ?_
              refine wp_istore (L2 := [vr 89, vi x1, vi x2, vi 0, vi x4]) rfl (Nat.le_of_ble_eq_true rfl) rfl ?_
              refine wp_iincR (L2 := [vr 89, vi x1, vi x2, vi 0, vi (x4 + (-1))]) rfl rfl (by clear H; unfold R32; omega) rfl ?_
              refine wp_goto (tn := 31) rfl rfl ?_
              exact H
        · replace H := H.2 c15
          refine wp_iconst rfl ?_
          refine wp_goto (tn := 43) rfl rfl ?_
          refine wp_iret rfl rfl ?_
          show Wp X _ 96 58 [vr 89, vi x1, vi x2, vi x3, vi x4] [vi (-1)] _ _
          refine wp_aload rfl rfl ?_
          refine wp_getR (r := 104) rfl (congrArg Prod.fst (kf_89 X.1)) rfl ?_
          refine wp_iload rfl rfl ?_
          refine wp_iaload rfl (kf_105 X.1) ⟨g1.1, g1.2⟩ ?_
          refine wp_iconst rfl ?_
          refine wp_icne (tn := 78) rfl rfl (fun c27 => ?_) (fun c27 => ?_)
          · replace H := H.1 c27
            refine wp_aload rfl rfl ?_
            refine wp_iload rfl rfl ?_
            refine wp_call (k := 95) (ρ2 := 0) (L2 := [vr 89, vi x4, vu]) rfl rfl rfl (Nat.le_of_ble_eq_true rfl) (Nat.le_of_ble_eq_true rfl) (Nat.le_of_ble_eq_true rfl) (rcv_V rfl (congrArg Prod.fst (kf_89 X.1))) rfl ?_
            refine wp_aload rfl rfl ?_
            refine wp_getR (r := 98) rfl (congrArg Prod.fst (kf_89 X.1)) rfl ?_
            refine wp_aload rfl rfl ?_
            refine wp_getR (r := 108) rfl (congrArg Prod.fst (kf_89 X.1)) rfl ?_
            refine wp_iload rfl rfl ?_
            have g28 := H.1
            replace H := H.2
            refine wp_iaload rfl (kf_109 X.1) g28 ?_
            have g29 := H.1
            replace H := H.2
            refine wp_iaload rfl (kf_99 X.1) g29 ?_
            refine wp_aload rfl rfl ?_
            refine wp_getR (r := 98) rfl (congrArg Prod.fst (kf_89 X.1)) rfl ?_
            refine wp_aload rfl rfl ?_
            refine wp_getR (r := 108) rfl (congrArg Prod.fst (kf_89 X.1)) rfl ?_
            refine wp_iload rfl rfl ?_
            refine wp_iconst rfl ?_
            refine wp_isub rfl ?_
            refine Wp.topI (y := (x4 - 1)) (w32_I (by clear H; unfold R32; omega)) ?_
            refine wp_iaload rfl (kf_109 X.1) ⟨g9.1, g9.2⟩ ?_
            refine wp_iaload rfl (kf_99 X.1) ⟨g10.1, g10.2⟩ ?_
            refine wp_isub rfl ?_
            have g30 := H.1
            replace H := H.2
            refine Wp.topI (y := ((h 99 (h 109 x4)) - (h 99 (h 109 (x4 - 1))))) (w32_I g30) ?_
            refine wp_istore (L2 := [vr 89, vi x4, vi ((h 99 (h 109 x4)) - (h 99 (h 109 (x4 - 1))))]) rfl (Nat.le_of_ble_eq_true rfl) rfl ?_
            refine wp_iload rfl rfl ?_
            refine wp_ifle (tn := 34) rfl rfl (fun c31 => ?_) (fun c31 => ?_)
            · replace H := H.1 c31
              refine wp_iload rfl rfl ?_
              refine wp_ifge (tn := 42) rfl rfl (fun c32 => ?_) (fun c32 => ?_)
              · replace H := H.1 c32
                refine wp_iconst rfl ?_
                refine wp_iret rfl rfl ?_
                show Wp X _ 96 84 [vr 89, vi x1, vi x2, vi x3, vi x4] [vi 0, vi (-1)] _ _
                refine wp_ineg rfl ?_
                refine Wp.topI (y := (-0)) (by decide) ?_
                refine wp_icneT (tn := 92) rfl rfl (by decide) ?_
                refine wp_iconst rfl ?_
                refine wp_istore (L2 := [vr 89, vi x1, vi x2, vi 0, vi x4]) rfl (Nat.le_of_ble_eq_true rfl) rfl ?_
                refine wp_iincR (L2 := [vr 89, vi x1, vi x2, vi 0, vi (x4 + (-1))]) rfl rfl (by clear H; unfold R32; omega) rfl ?_
                refine wp_goto (tn := 31) rfl rfl ?_
                exact H
              · replace H := H.2 c32
                refine wp_iconst rfl ?_
                refine wp_goto (tn := 43) rfl rfl ?_
                refine wp_iret rfl rfl ?_
                show Wp X _ 96 84 [vr 89, vi x1, vi x2, vi x3, vi x4] [vi (-1), vi (-1)] _ _
                refine wp_ineg rfl ?_
                refine Wp.topI (y := (-(-1))) (by decide) ?_
                refine wp_icneT (tn := 92) rfl rfl (by decide) ?_
                refine wp_iconst rfl ?_
                refine wp_istore (L2 := [vr 89, vi x1, vi x2, vi 0, vi x4]) rfl (Nat.le_of_ble_eq_true rfl) rfl ?_
                refine wp_iincR (L2 := [vr 89, vi x1, vi x2, vi 0, vi (x4 + (-1))]) rfl rfl (by clear H; unfold R32; omega) rfl ?_
                refine wp_goto (tn := 31) rfl rfl ?_
                exact H
            · replace H := H.2 c31
              refine wp_iconst rfl ?_
              refine wp_goto (tn := 43) rfl rfl ?_
              refine wp_iret rfl rfl ?_
              show Wp X _ 96 84 [vr 89, vi x1, vi x2, vi x3, vi x4] [vi 1, vi (-1)] _ _
              refine wp_ineg rfl ?_
              refine Wp.topI (y := (-1)) (by decide) ?_
              refine wp_icneF (tn := 92) rfl rfl (by decide) ?_
              refine wp_iconst rfl ?_
              refine wp_goto (tn := 93) rfl rfl ?_
              refine wp_istore (L2 := [vr 89, vi x1, vi x2, vi 1, vi x4]) rfl (Nat.le_of_ble_eq_true rfl) rfl ?_
              refine wp_iincR (L2 := [vr 89, vi x1, vi x2, vi 1, vi (x4 + (-1))]) rfl rfl (by clear H; unfold R32; omega) rfl ?_
              refine wp_goto (tn := 31) rfl rfl ?_
              exact H
          · replace H := H.2 c27
            refine wp_aload rfl rfl ?_
            refine wp_iload rfl rfl ?_
            refine wp_call (k := 95) (ρ2 := 0) (L2 := [vr 89, vi x4, vu]) rfl rfl rfl (Nat.le_of_ble_eq_true rfl) (Nat.le_of_ble_eq_true rfl) (Nat.le_of_ble_eq_true rfl) (rcv_V rfl (congrArg Prod.fst (kf_89 X.1))) rfl ?_
            refine wp_aload rfl rfl ?_
            refine wp_getR (r := 98) rfl (congrArg Prod.fst (kf_89 X.1)) rfl ?_
            refine wp_aload rfl rfl ?_
            refine wp_getR (r := 108) rfl (congrArg Prod.fst (kf_89 X.1)) rfl ?_
            refine wp_iload rfl rfl ?_
            have g33 := H.1
            replace H := H.2
            refine wp_iaload rfl (kf_109 X.1) g33 ?_
            have g34 := H.1
            replace H := H.2
            refine wp_iaload rfl (kf_99 X.1) g34 ?_
            refine wp_aload rfl rfl ?_
            refine wp_getR (r := 98) rfl (congrArg Prod.fst (kf_89 X.1)) rfl ?_
            refine wp_aload rfl rfl ?_
            refine wp_getR (r := 108) rfl (congrArg Prod.fst (kf_89 X.1)) rfl ?_
            refine wp_iload rfl rfl ?_
            refine wp_iconst rfl ?_
            refine wp_isub rfl ?_
            refine Wp.topI (y := (x4 - 1)) (w32_I (by clear H; unfold R32; omega)) ?_
            refine wp_iaload rfl (kf_109 X.1) ⟨g9.1, g9.2⟩ ?_
            refine wp_iaload rfl (kf_99 X.1) ⟨g10.1, g10.2⟩ ?_
            refine wp_isub rfl ?_
            have g35 := H.1
            replace H := H.2
            refine Wp.topI (y := ((h 99 (h 109 x4)) - (h 99 (h 109 (x4 - 1))))) (w32_I g35) ?_
            refine wp_istore (L2 := [vr 89, vi x4, vi ((h 99 (h 109 x4)) - (h 99 (h 109 (x4 - 1))))]) rfl (Nat.le_of_ble_eq_true rfl) rfl ?_
            refine wp_iload rfl rfl ?_
            refine wp_ifle (tn := 34) rfl rfl (fun c36 => ?_) (fun c36 => ?_)
            · replace H := H.1 c36
              refine wp_iload rfl rfl ?_
              refine wp_ifge (tn := 42) rfl rfl (fun c37 => ?_) (fun c37 => ?_)
              · replace H := H.1 c37
                refine wp_iconst rfl ?_
                refine wp_iret rfl rfl ?_
                show Wp X _ 96 75 [vr 89, vi x1, vi x2, vi x3, vi x4] [vi 0, vi (-1)] _ _
                refine wp_goto (tn := 85) rfl rfl ?_
                refine wp_icneT (tn := 92) rfl rfl (by decide) ?_
                refine wp_iconst rfl ?_
                refine wp_istore (L2 := [vr 89, vi x1, vi x2, vi 0, vi x4]) rfl (Nat.le_of_ble_eq_true rfl) rfl ?_
                refine wp_iincR (L2 := [vr 89, vi x1, vi x2, vi 0, vi (x4 + (-1))]) rfl rfl (by clear H; unfold R32; omega) rfl ?_
                refine wp_goto (tn := 31) rfl rfl ?_
                exact H
              · replace H := H.2 c37
                refine wp_iconst rfl ?_
                refine wp_goto (tn := 43) rfl rfl ?_
                refine wp_iret rfl rfl ?_
                show Wp X _ 96 75 [vr 89, vi x1, vi x2, vi x3, vi x4] [vi (-1), vi (-1)] _ _
                refine wp_goto (tn := 85) rfl rfl ?_
                refine wp_icneF (tn := 92) rfl rfl (by decide) ?_
                refine wp_iconst rfl ?_
                refine wp_goto (tn := 93) rfl rfl ?_
                refine wp_istore (L2 := [vr 89, vi x1, vi x2, vi 1, vi x4]) rfl (Nat.le_of_ble_eq_true rfl) rfl ?_
                refine wp_iincR (L2 := [vr 89, vi x1, vi x2, vi 1, vi (x4 + (-1))]) rfl rfl (by clear H; unfold R32; omega) rfl ?_
                refine wp_goto (tn := 31) rfl rfl ?_
                exact H
            · replace H := H.2 c36
              refine wp_iconst rfl ?_
              refine wp_goto (tn := 43) rfl rfl ?_
              refine wp_iret rfl rfl ?_
              show Wp X _ 96 75 [vr 89, vi x1, vi x2, vi x3, vi x4] [vi 1, vi (-1)] _ _
              refine wp_goto (tn := 85) rfl rfl ?_
              refine wp_icneT (tn := 92) rfl rfl (by decide) ?_
              refine wp_iconst rfl ?_
              refine wp_istore (L2 := [vr 89, vi x1, vi x2, vi 0, vi x4]) rfl (Nat.le_of_ble_eq_true rfl) rfl ?_
              refine wp_iincR (L2 := [vr 89, vi x1, vi x2, vi 0, vi (x4 + (-1))]) rfl rfl (by clear H; unfold R32; omega) rfl ?_
              refine wp_goto (tn := 31) rfl rfl ?_
              exact H
      · replace H := H.2 c14
        refine wp_iconst rfl ?_
        refine wp_goto (tn := 43) rfl rfl ?_
        refine wp_iret rfl rfl ?_
        show Wp X _ 96 58 [vr 89, vi x1, vi x2, vi x3, vi x4] [vi 1] _ _
        refine wp_aload rfl rfl ?_
        refine wp_getR (r := 104) rfl (congrArg Prod.fst (kf_89 X.1)) rfl ?_
        refine wp_iload rfl rfl ?_
        refine wp_iaload rfl (kf_105 X.1) ⟨g1.1, g1.2⟩ ?_
        refine wp_iconst rfl ?_
        refine wp_icne (tn := 78) rfl rfl (fun c38 => ?_) (fun c38 => ?_)
        · replace H := H.1 c38
          refine wp_aload rfl rfl ?_
          refine wp_iload rfl rfl ?_
          refine wp_call (k := 95) (ρ2 := 0) (L2 := [vr 89, vi x4, vu]) rfl rfl rfl (Nat.le_of_ble_eq_true rfl) (Nat.le_of_ble_eq_true rfl) (Nat.le_of_ble_eq_true rfl) (rcv_V rfl (congrArg Prod.fst (kf_89 X.1))) rfl ?_
          refine wp_aload rfl rfl ?_
          refine wp_getR (r := 98) rfl (congrArg Prod.fst (kf_89 X.1)) rfl ?_
          refine wp_aload rfl rfl ?_
          refine wp_getR (r := 108) rfl (congrArg Prod.fst (kf_89 X.1)) rfl ?_
          refine wp_iload rfl rfl ?_
          have g39 := H.1
          replace H := H.2
          refine wp_iaload rfl (kf_109 X.1) g39 ?_
          have g40 := H.1
          replace H := H.2
          refine wp_iaload rfl (kf_99 X.1) g40 ?_
          refine wp_aload rfl rfl ?_
          refine wp_getR (r := 98) rfl (congrArg Prod.fst (kf_89 X.1)) rfl ?_
          refine wp_aload rfl rfl ?_
          refine wp_getR (r := 108) rfl (congrArg Prod.fst (kf_89 X.1)) rfl ?_
          refine wp_iload rfl rfl ?_
          refine wp_iconst rfl ?_
          refine wp_isub rfl ?_
          refine Wp.topI (y := (x4 - 1)) (w32_I (by clear H; unfold R32; omega)) ?_
          refine wp_iaload rfl (kf_109 X.1) ⟨g9.1, g9.2⟩ ?_
          refine wp_iaload rfl (kf_99 X.1) ⟨g10.1, g10.2⟩ ?_
          refine wp_isub rfl ?_
          have g41 := H.1
          replace H := H.2
          refine Wp.topI (y := ((h 99 (h 109 x4)) - (h 99 (h 109 (x4 - 1))))) (w32_I g41) ?_
          refine wp_istore (L2 := [vr 89, vi x4, vi ((h 99 (h 109 x4)) - (h 99 (h 109 (x4 - 1))))]) rfl (Nat.le_of_ble_eq_true rfl) rfl ?_
          refine wp_iload rfl rfl ?_
          refine wp_ifle (tn := 34) rfl rfl (fun c42 => ?_) (fun c42 => ?_)
          · replace H := H.1 c42
            refine wp_iload rfl rfl ?_
            refine wp_ifge (tn := 42) rfl rfl (fun c43 => ?_) (fun c43 => ?_)
            · replace H := H.1 c43
              refine wp_iconst rfl ?_
              refine wp_iret rfl rfl ?_
              show Wp X _ 96 84 [vr 89, vi x1, vi x2, vi x3, vi x4] [vi 0, vi 1] _ _
              refine wp_ineg rfl ?_
              refine Wp.topI (y := (-0)) (by decide) ?_
              refine wp_icneT (tn := 92) rfl rfl (by decide) ?_
              refine wp_iconst rfl ?_
              refine wp_istore (L2 := [vr 89, vi x1, vi x2, vi 0, vi x4]) rfl (Nat.le_of_ble_eq_true rfl) rfl ?_
              refine wp_iincR (L2 := [vr 89, vi x1, vi x2, vi 0, vi (x4 + (-1))]) rfl rfl (by clear H; unfold R32; omega) rfl ?_
              refine wp_goto (tn := 31) rfl rfl ?_
              exact H
            · replace H := H.2 c43
              refine wp_iconst rfl ?_
              refine wp_goto (tn := 43) rfl rfl ?_
              refine wp_iret rfl rfl ?_
              show Wp X _ 96 84 [vr 89, vi x1, vi x2, vi x3, vi x4] [vi (-1), vi 1] _ _
              refine wp_ineg rfl ?_
              refine Wp.topI (y := (-(-1))) (by decide) ?_
              refine wp_icneF (tn := 92) rfl rfl (by decide) ?_
              refine wp_iconst rfl ?_
              refine wp_goto (tn := 93) rfl rfl ?_
              refine wp_istore (L2 := [vr 89, vi x1, vi x2, vi 1, vi x4]) rfl (Nat.le_of_ble_eq_true rfl) rfl ?_
              refine wp_iincR (L2 := [vr 89, vi x1, vi x2, vi 1, vi (x4 + (-1))]) rfl rfl (by clear H; unfold R32; omega) rfl ?_
              refine wp_goto (tn := 31) rfl rfl ?_
              exact H
          · replace H := H.2 c42
            refine wp_iconst rfl ?_
            refine wp_goto (tn := 43) rfl rfl ?_
            refine wp_iret rfl rfl ?_
            show Wp X _ 96 84 [vr 89, vi x1, vi x2, vi x3, vi x4] [vi 1, vi 1] _ _
            refine wp_ineg rfl ?_
            refine Wp.topI (y := (-1)) (by decide) ?_
            refine wp_icneT (tn := 92) rfl rfl (by decide) ?_
            refine wp_iconst rfl ?_
            refine wp_istore (L2 := [vr 89, vi x1, vi x2, vi 0, vi x4]) rfl (Nat.le_of_ble_eq_true rfl) rfl ?_
            refine wp_iincR (L2 := [vr 89, vi x1, vi x2, vi 0, vi (x4 + (-1))]) rfl rfl (by clear H; unfold R32; omega) rfl ?_
            refine wp_goto (tn := 31) rfl rfl ?_
            exact H
        · replace H := H.2 c38
          refine wp_aload rfl rfl ?_
          refine wp_iload rfl rfl ?_
          refine wp_call (k := 95) (ρ2 := 0) (L2 := [vr 89, vi x4, vu]) rfl rfl rfl (Nat.le_of_ble_eq_true rfl) (Nat.le_of_ble_eq_true rfl) (Nat.le_of_ble_eq_true rfl) (rcv_V rfl (congrArg Prod.fst (kf_89 X.1))) rfl ?_
          refine wp_aload rfl rfl ?_
          refine wp_getR (r := 98) rfl (congrArg Prod.fst (kf_89 X.1)) rfl ?_
          refine wp_aload rfl rfl ?_
          refine wp_getR (r := 108) rfl (congrArg Prod.fst (kf_89 X.1)) rfl ?_
          refine wp_iload rfl rfl ?_
          have g44 := H.1
          replace H := H.2
          refine wp_iaload rfl (kf_109 X.1) g44 ?_
          have g45 := H.1
          replace H := H.2
          refine wp_iaload rfl (kf_99 X.1) g45 ?_
          refine wp_aload rfl rfl ?_
          refine wp_getR (r := 98) rfl (congrArg Prod.fst (kf_89 X.1)) rfl ?_
          refine wp_aload rfl rfl ?_
          refine wp_getR (r := 108) rfl (congrArg Prod.fst (kf_89 X.1)) rfl ?_
          refine wp_iload rfl rfl ?_
          refine wp_iconst rfl ?_
          refine wp_isub rfl ?_
          refine Wp.topI (y := (x4 - 1)) (w32_I (by clear H; unfold R32; omega)) ?_
          refine wp_iaload rfl (kf_109 X.1) ⟨g9.1, g9.2⟩ ?_
          refine wp_iaload rfl (kf_99 X.1) ⟨g10.1, g10.2⟩ ?_
          refine wp_isub rfl ?_
          have g46 := H.1
          replace H := H.2
          refine Wp.topI (y := ((h 99 (h 109 x4)) - (h 99 (h 109 (x4 - 1))))) (w32_I g46) ?_
          refine wp_istore (L2 := [vr 89, vi x4, vi ((h 99 (h 109 x4)) - (h 99 (h 109 (x4 - 1))))]) rfl (Nat.le_of_ble_eq_true rfl) rfl ?_
          refine wp_iload rfl rfl ?_
          refine wp_ifle (tn := 34) rfl rfl (fun c47 => ?_) (fun c47 => ?_)
          · replace H := H.1 c47
            refine wp_iload rfl rfl ?_
            refine wp_ifge (tn := 42) rfl rfl (fun c48 => ?_) (fun c48 => ?_)
            · replace H := H.1 c48
              refine wp_iconst rfl ?_
              refine wp_iret rfl rfl ?_
              show Wp X _ 96 75 [vr 89, vi x1, vi x2, vi x3, vi x4] [vi 0, vi 1] _ _
              refine wp_goto (tn := 85) rfl rfl ?_
              refine wp_icneT (tn := 92) rfl rfl (by decide) ?_
              refine wp_iconst rfl ?_
              refine wp_istore (L2 := [vr 89, vi x1, vi x2, vi 0, vi x4]) rfl (Nat.le_of_ble_eq_true rfl) rfl ?_
              refine wp_iincR (L2 := [vr 89, vi x1, vi x2, vi 0, vi (x4 + (-1))]) rfl rfl (by clear H; unfold R32; omega) rfl ?_
              refine wp_goto (tn := 31) rfl rfl ?_
              exact H
            · replace H := H.2 c48
              refine wp_iconst rfl ?_
              refine wp_goto (tn := 43) rfl rfl ?_
              refine wp_iret rfl rfl ?_
              show Wp X _ 96 75 [vr 89, vi x1, vi x2, vi x3, vi x4] [vi (-1), vi 1] _ _
              refine wp_goto (tn := 85) rfl rfl ?_
              refine wp_icneT (tn := 92) rfl rfl (by decide) ?_
              refine wp_iconst rfl ?_
              refine wp_istore (L2 := [vr 89, vi x1, vi x2, vi 0, vi x4]) rfl (Nat.le_of_ble_eq_true rfl) rfl ?_
              refine wp_iincR (L2 := [vr 89, vi x1, vi x2, vi 0, vi (x4 + (-1))]) rfl rfl (by clear H; unfold R32; omega) rfl ?_
              refine wp_goto (tn := 31) rfl rfl ?_
              exact H
          · replace H := H.2 c47
            refine wp_iconst rfl ?_
            refine wp_goto (tn := 43) rfl rfl ?_
            refine wp_iret rfl rfl ?_
            show Wp X _ 96 75 [vr 89, vi x1, vi x2, vi x3, vi x4] [vi 1, vi 1] _ _
            refine wp_goto (tn := 85) rfl rfl ?_
            refine wp_icneF (tn := 92) rfl rfl (by decide) ?_
            refine wp_iconst rfl ?_
            refine wp_goto (tn := 93) rfl rfl ?_
            refine wp_istore (L2 := [vr 89, vi x1, vi x2, vi 1, vi x4]) rfl (Nat.le_of_ble_eq_true rfl) rfl ?_
            refine wp_iincR (L2 := [vr 89, vi x1, vi x2, vi 1, vi (x4 + (-1))]) rfl rfl (by clear H; unfold R32; omega) rfl ?_
            refine wp_goto (tn := 31) rfl rfl ?_
            exact H
/-- WarnLinesModel.warnsAt(I)I, from 0 -/
theorem S97_89_0 {X : Nat × (Int → Int)} {h : HP} {Q : bQ} (x1 : Int) (H : Wp X 3 97 4 [vr 89, vi x1, vi 0, vi 0] [] h Q) : Wp X 3 97 0 [vr 89, vi x1, vu, vu] [] h Q := by
  refine wp_iconst rfl ?_
  refine wp_istore (L2 := [vr 89, vi x1, vi 0, vu]) rfl (Nat.le_of_ble_eq_true rfl) rfl ?_
  refine wp_iconst rfl ?_
  refine wp_istore (L2 := [vr 89, vi x1, vi 0, vi 0]) rfl (Nat.le_of_ble_eq_true rfl) rfl ?_
  exact H
/-- WarnLinesModel.warnsAt(I)I, from 4 -/
theorem S97_89_4 {X : Nat × (Int → Int)} {h : HP} {Q : bQ} (x1 : Int) (x2 : Int) (x3 : Int) (H : (((h 89 24) ≤ x3 → Q (some (vi x2)) h) ∧ (x3 < (h 89 24) → ((0 ≤ x3 ∧ x3 < 8) ∧ (((h 105 x3) ≠ 122 → Wp X 1 96 0 [vr 89, vi x3, vi x1, vu, vu] [] h (fun v h' => Wp X 3 97 42 [vr 89, vi x1, vi x2, vi x3] (psh v [vi x2]) h' Q)) ∧ ((h 105 x3) = 122 → Wp X 2 94 0 [vr 89, vi x3, vi x1, vu, vu, vu, vu, vu] [] h (fun v h' => Wp X 3 97 30 [vr 89, vi x1, vi x2, vi x3] (psh v [vi x2]) h' Q))))))) : Wp X 3 97 4 [vr 89, vi x1, vi x2, vi x3] [] h Q := by
  refine wp_iload rfl rfl ?_
  refine wp_aload rfl rfl ?_
  refine wp_getI (j := 24) rfl (congrArg Prod.fst (kf_89 X.1)) rfl ?_
  refine wp_icge (tn := 60) rfl rfl (fun c1 => ?_) (fun c1 => ?_)
  · replace H := H.1 c1
    refine wp_iload rfl rfl ?_
    exact wp_iret rfl rfl H
  · replace H := H.2 c1
    refine wp_iload rfl rfl ?_
    refine wp_aload rfl rfl ?_
    refine wp_getR (r := 104) rfl (congrArg Prod.fst (kf_89 X.1)) rfl ?_
    refine wp_iload rfl rfl ?_
    have g2 := H.1
    replace H := H.2
    refine wp_iaload rfl (kf_105 X.1) g2 ?_
    refine wp_iconst rfl ?_
    refine wp_icne (tn := 36) rfl rfl (fun c3 => ?_) (fun c3 => ?_)
    · replace H := H.1 c3
      refine wp_aload rfl rfl ?_
      refine wp_iload rfl rfl ?_
      refine wp_iload rfl rfl ?_
      exact wp_call (k := 96) (ρ2 := 1) (L2 := [vr 89, vi x3, vi x1, vu, vu]) rfl rfl rfl (Nat.le_of_ble_eq_true rfl) (Nat.le_of_ble_eq_true rfl) (Nat.le_of_ble_eq_true rfl) (rcv_V rfl (congrArg Prod.fst (kf_89 X.1))) rfl H
    · replace H := H.2 c3
      refine wp_aload rfl rfl ?_
      refine wp_iload rfl rfl ?_
      refine wp_iload rfl rfl ?_
      exact wp_call (k := 94) (ρ2 := 2) (L2 := [vr 89, vi x3, vi x1, vu, vu, vu, vu, vu]) rfl rfl rfl (Nat.le_of_ble_eq_true rfl) (Nat.le_of_ble_eq_true rfl) (Nat.le_of_ble_eq_true rfl) (rcv_V rfl (congrArg Prod.fst (kf_89 X.1))) rfl H
/-- WarnLinesModel.warnsAt(I)I, from 30 -/
theorem S97_89_30 {X : Nat × (Int → Int)} {h : HP} {Q : bQ} (x1 : Int) (zx2 : aV) (x3 : Int) (s0 : Int) (s1 : Int) (H : ((s0 = 0 → ((R32 (x3 + 1)) ∧ Wp X 3 97 4 [vr 89, vi x1, vi ((i32 s1 ||| i32 0).toInt), vi (x3 + 1)] [] h Q)) ∧ (s0 ≠ 0 → ((R32 (x3 + 1)) ∧ Wp X 3 97 4 [vr 89, vi x1, vi ((i32 s1 ||| i32 ((i32 1 <<< (i32 x3 &&& 31)).toInt)).toInt), vi (x3 + 1)] [] h Q)))) : Wp X 3 97 30 [vr 89, vi x1, zx2, vi x3] [vi s0, vi s1] h Q := by
  refine wp_ifeq (tn := 51) rfl rfl (fun c1 => ?_) (fun c1 => ?_)
  · replace H := H.1 c1
    refine wp_iconst rfl ?_
    refine wp_ior rfl ?_
    refine wp_istore (L2 := [vr 89, vi x1, vi ((i32 s1 ||| i32 0).toInt), vi x3]) rfl (Nat.le_of_ble_eq_true rfl) rfl ?_
    have g2 := H.1
    replace H := H.2
    refine wp_iincR (L2 := [vr 89, vi x1, vi ((i32 s1 ||| i32 0).toInt), vi (x3 + 1)]) rfl rfl g2 rfl ?_
    refine wp_goto (tn := 4) rfl rfl ?_
    exact H
  · replace H := H.2 c1
    refine wp_goto (tn := 45) rfl rfl ?_
    refine wp_iconst rfl ?_
    refine wp_iload rfl rfl ?_
    refine wp_ishl rfl ?_
    refine wp_goto (tn := 52) rfl rfl ?_
    refine wp_ior rfl ?_
    refine wp_istore (L2 := [vr 89, vi x1, vi ((i32 s1 ||| i32 ((i32 1 <<< (i32 x3 &&& 31)).toInt)).toInt), vi x3]) rfl (Nat.le_of_ble_eq_true rfl) rfl ?_
    have g3 := H.1
    replace H := H.2
    refine wp_iincR (L2 := [vr 89, vi x1, vi ((i32 s1 ||| i32 ((i32 1 <<< (i32 x3 &&& 31)).toInt)).toInt), vi (x3 + 1)]) rfl rfl g3 rfl ?_
    refine wp_goto (tn := 4) rfl rfl ?_
    exact H
/-- WarnLinesModel.warnsAt(I)I, from 42 -/
theorem S97_89_42 {X : Nat × (Int → Int)} {h : HP} {Q : bQ} (x1 : Int) (zx2 : aV) (x3 : Int) (s0 : Int) (s1 : Int) (H : ((s0 = 0 → ((R32 (x3 + 1)) ∧ Wp X 3 97 4 [vr 89, vi x1, vi ((i32 s1 ||| i32 0).toInt), vi (x3 + 1)] [] h Q)) ∧ (s0 ≠ 0 → ((R32 (x3 + 1)) ∧ Wp X 3 97 4 [vr 89, vi x1, vi ((i32 s1 ||| i32 ((i32 1 <<< (i32 x3 &&& 31)).toInt)).toInt), vi (x3 + 1)] [] h Q)))) : Wp X 3 97 42 [vr 89, vi x1, zx2, vi x3] [vi s0, vi s1] h Q := by
  refine wp_ifeq (tn := 51) rfl rfl (fun c1 => ?_) (fun c1 => ?_)
  · replace H := H.1 c1
    refine wp_iconst rfl ?_
    refine wp_ior rfl ?_
    refine wp_istore (L2 := [vr 89, vi x1, vi ((i32 s1 ||| i32 0).toInt), vi x3]) rfl (Nat.le_of_ble_eq_true rfl) rfl ?_
    have g2 := H.1
    replace H := H.2
    refine wp_iincR (L2 := [vr 89, vi x1, vi ((i32 s1 ||| i32 0).toInt), vi (x3 + 1)]) rfl rfl g2 rfl ?_
    refine wp_goto (tn := 4) rfl rfl ?_
    exact H
  · replace H := H.2 c1
    refine wp_iconst rfl ?_
    refine wp_iload rfl rfl ?_
    refine wp_ishl rfl ?_
    refine wp_goto (tn := 52) rfl rfl ?_
    refine wp_ior rfl ?_
    refine wp_istore (L2 := [vr 89, vi x1, vi ((i32 s1 ||| i32 ((i32 1 <<< (i32 x3 &&& 31)).toInt)).toInt), vi x3]) rfl (Nat.le_of_ble_eq_true rfl) rfl ?_
    have g3 := H.1
    replace H := H.2
    refine wp_iincR (L2 := [vr 89, vi x1, vi ((i32 s1 ||| i32 ((i32 1 <<< (i32 x3 &&& 31)).toInt)).toInt), vi (x3 + 1)]) rfl rfl g3 rfl ?_
    refine wp_goto (tn := 4) rfl rfl ?_
    exact H
/-- WarnLinesModel.looks()V, from 0 -/
theorem S98_89_0 {X : Nat × (Int → Int)} {h : HP} {Q : bQ}  (H : Wp X 0 98 2 [vr 89, vi 0] [] h Q) : Wp X 0 98 0 [vr 89, vu] [] h Q := by
  refine wp_iconst rfl ?_
  refine wp_istore (L2 := [vr 89, vi 0]) rfl (Nat.le_of_ble_eq_true rfl) rfl ?_
  exact H
/-- WarnLinesModel.looks()V, from 2 -/
theorem S98_89_2 {X : Nat × (Int → Int)} {h : HP} {Q : bQ} (x1 : Int) (H : (((h 89 16) ≤ x1 → Q none h) ∧ (x1 < (h 89 16) → ((0 ≤ x1 ∧ x1 < 20) ∧ Wp X 0 98 2 [vr 89, vi (x1 + 1)] [] (upd2 h 109 x1 (h 102 x1)) Q)))) : Wp X 0 98 2 [vr 89, vi x1] [] h Q := by
  refine wp_iload rfl rfl ?_
  refine wp_aload rfl rfl ?_
  refine wp_getI (j := 16) rfl (congrArg Prod.fst (kf_89 X.1)) rfl ?_
  refine wp_icge (tn := 28) rfl rfl (fun c1 => ?_) (fun c1 => ?_)
  · replace H := H.1 c1
    exact wp_vret rfl rfl H
  · replace H := H.2 c1
    refine wp_aload rfl rfl ?_
    refine wp_getR (r := 108) rfl (congrArg Prod.fst (kf_89 X.1)) rfl ?_
    refine wp_iload rfl rfl ?_
    refine wp_aload rfl rfl ?_
    refine wp_getR (r := 101) rfl (congrArg Prod.fst (kf_89 X.1)) rfl ?_
    refine wp_iload rfl rfl ?_
    have g2 := H.1
    replace H := H.2
    refine wp_iaload rfl (kf_102 X.1) g2 ?_
    refine wp_iastore rfl (kf_109 X.1) ⟨g2.1, g2.2⟩ ?_
    refine wp_iincR (L2 := [vr 89, vi (x1 + 1)]) rfl rfl (by clear H; unfold R32; omega) rfl ?_
    refine wp_goto (tn := 2) rfl rfl ?_
    exact H
/-- WarnLinesModel.placeOf(I)I, from 0 -/
theorem S99_89_0 {X : Nat × (Int → Int)} {h : HP} {Q : bQ} (x1 : Int) (H : Wp X 0 99 2 [vr 89, vi x1, vi 0] [] h Q) : Wp X 0 99 0 [vr 89, vi x1, vu] [] h Q := by
  refine wp_iconst rfl ?_
  refine wp_istore (L2 := [vr 89, vi x1, vi 0]) rfl (Nat.le_of_ble_eq_true rfl) rfl ?_
  exact H
/-- WarnLinesModel.placeOf(I)I, from 2 -/
theorem S99_89_2 {X : Nat × (Int → Int)} {h : HP} {Q : bQ} (x1 : Int) (x2 : Int) (H : ((0 ≤ x2 ∧ x2 < 20) ∧ (((h 102 x2) = x1 → Q (some (vi x2)) h) ∧ ((h 102 x2) ≠ x1 → Wp X 0 99 2 [vr 89, vi x1, vi (x2 + 1)] [] h Q)))) : Wp X 0 99 2 [vr 89, vi x1, vi x2] [] h Q := by
  refine wp_aload rfl rfl ?_
  refine wp_getR (r := 101) rfl (congrArg Prod.fst (kf_89 X.1)) rfl ?_
  refine wp_iload rfl rfl ?_
  have g1 := H.1
  replace H := H.2
  refine wp_iaload rfl (kf_102 X.1) g1 ?_
  refine wp_iload rfl rfl ?_
  refine wp_iceq (tn := 18) rfl rfl (fun c2 => ?_) (fun c2 => ?_)
  · replace H := H.1 c2
    refine wp_iload rfl rfl ?_
    exact wp_iret rfl rfl H
  · replace H := H.2 c2
    refine wp_iincR (L2 := [vr 89, vi x1, vi (x2 + 1)]) rfl rfl (by clear H; unfold R32; omega) rfl ?_
    refine wp_goto (tn := 2) rfl rfl ?_
    exact H
/-- WarnLinesModel.warnsOf(II)I, from 0 -/
theorem S100_89_0 {X : Nat × (Int → Int)} {h : HP} {Q : bQ} (x1 : Int) (x2 : Int) (H : Wp X 3 92 0 [vr 89, vi x1, vu] [] h (fun v h' => Wp X 4 100 5 [vr 89, vi x1, vi x2] (psh v []) h' Q)) : Wp X 4 100 0 [vr 89, vi x1, vi x2] [] h Q := by
  refine wp_aload rfl rfl ?_
  refine wp_iload rfl rfl ?_
  exact wp_call (k := 92) (ρ2 := 3) (L2 := [vr 89, vi x1, vu]) rfl rfl rfl (Nat.le_of_ble_eq_true rfl) (Nat.le_of_ble_eq_true rfl) (Nat.le_of_ble_eq_true rfl) (rcv_V rfl (congrArg Prod.fst (kf_89 X.1))) rfl H
/-- WarnLinesModel.warnsOf(II)I, from 5 -/
theorem S100_89_5 {X : Nat × (Int → Int)} {h : HP} {Q : bQ} (zx1 : aV) (x2 : Int) (s0 : Int) (H : ((s0 ≠ (-1) → Q (some (vi (-3))) h) ∧ (s0 = (-1) → Wp X 3 78 0 [vr 89, vu, vu, vu, vu] [] h (fun v h' => Wp X 4 100 13 [vr 89, zx1, vi x2] (psh v []) h' Q)))) : Wp X 4 100 5 [vr 89, zx1, vi x2] [vi s0] h Q := by
  refine wp_iconst rfl ?_
  refine wp_icne (tn := 25) rfl rfl (fun c1 => ?_) (fun c1 => ?_)
  · replace H := H.1 c1
    refine wp_iconst rfl ?_
    exact wp_iret rfl rfl H
  · replace H := H.2 c1
    refine wp_aload rfl rfl ?_
    exact wp_call (k := 78) (ρ2 := 3) (L2 := [vr 89, vu, vu, vu, vu]) rfl rfl rfl (Nat.le_of_ble_eq_true rfl) (Nat.le_of_ble_eq_true rfl) (Nat.le_of_ble_eq_true rfl) (rcv_V rfl (congrArg Prod.fst (kf_89 X.1))) rfl H
/-- WarnLinesModel.warnsOf(II)I, from 13 -/
theorem S100_89_13 {X : Nat × (Int → Int)} {h : HP} {Q : bQ} (zx1 : aV) (x2 : Int) (s0 : Int) (H : ((s0 = 0 → Q (some (vi (-3))) h) ∧ (s0 ≠ 0 → ((0 ≤ x2 ∧ x2 < 20) ∧ (((h 101 x2) = 0 → Wp X 0 98 0 [vr 89, vu] [] h (fun v h' => Wp X 4 100 32 [vr 89, zx1, vi x2] (psh v []) h' Q)) ∧ ((h 101 x2) ≠ 0 → Q (some (vi (-3))) h)))))) : Wp X 4 100 13 [vr 89, zx1, vi x2] [vi s0] h Q := by
  refine wp_ifeq (tn := 25) rfl rfl (fun c1 => ?_) (fun c1 => ?_)
  · replace H := H.1 c1
    refine wp_iconst rfl ?_
    exact wp_iret rfl rfl H
  · replace H := H.2 c1
    refine wp_aload rfl rfl ?_
    refine wp_getR (r := 100) rfl (congrArg Prod.fst (kf_89 X.1)) rfl ?_
    refine wp_iload rfl rfl ?_
    have g2 := H.1
    replace H := H.2
    refine wp_baload rfl (kf_101 X.1) g2 ?_
    refine wp_ifeq (tn := 28) rfl rfl (fun c3 => ?_) (fun c3 => ?_)
    · replace H := H.1 c3
      refine wp_aload rfl rfl ?_
      exact wp_call (k := 98) (ρ2 := 0) (L2 := [vr 89, vu]) rfl rfl rfl (Nat.le_of_ble_eq_true rfl) (Nat.le_of_ble_eq_true rfl) (Nat.le_of_ble_eq_true rfl) (rcv_V rfl (congrArg Prod.fst (kf_89 X.1))) rfl H
    · replace H := H.2 c3
      refine wp_iconst rfl ?_
      exact wp_iret rfl rfl H
/-- WarnLinesModel.warnsOf(II)I, from 32 -/
theorem S100_89_32 {X : Nat × (Int → Int)} {h : HP} {Q : bQ} (zx1 : aV) (x2 : Int) (H : Wp X 0 99 0 [vr 89, vi x2, vu] [] h (fun v h' => Wp X 4 100 38 [vr 89, zx1, vi x2] (psh v [vr 89]) h' Q)) : Wp X 4 100 32 [vr 89, zx1, vi x2] [] h Q := by
  refine wp_aload rfl rfl ?_
  refine wp_aload rfl rfl ?_
  refine wp_iload rfl rfl ?_
  exact wp_call (k := 99) (ρ2 := 0) (L2 := [vr 89, vi x2, vu]) rfl rfl rfl (Nat.le_of_ble_eq_true rfl) (Nat.le_of_ble_eq_true rfl) (Nat.le_of_ble_eq_true rfl) (rcv_V rfl (congrArg Prod.fst (kf_89 X.1))) rfl H
/-- WarnLinesModel.warnsOf(II)I, from 38 -/
theorem S100_89_38 {X : Nat × (Int → Int)} {h : HP} {Q : bQ} (zx0 : aV) (zx1 : aV) (zx2 : aV) (s0 : Int) (H : Wp X 3 97 0 [vr 89, vi s0, vu, vu] [] h (fun v h' => Wp X 4 100 41 [zx0, zx1, zx2] (psh v []) h' Q)) : Wp X 4 100 38 [zx0, zx1, zx2] [vi s0, vr 89] h Q := by
  exact wp_call (k := 97) (ρ2 := 3) (L2 := [vr 89, vi s0, vu, vu]) rfl rfl rfl (Nat.le_of_ble_eq_true rfl) (Nat.le_of_ble_eq_true rfl) (Nat.le_of_ble_eq_true rfl) (rcv_V rfl (congrArg Prod.fst (kf_89 X.1))) rfl H
/-- WarnLinesModel.warnsOf(II)I, from 41 -/
theorem S100_89_41 {X : Nat × (Int → Int)} {h : HP} {Q : bQ} (zx0 : aV) (zx1 : aV) (zx2 : aV) (s0 : Int) (H : Q (some (vi s0)) h) : Wp X 4 100 41 [zx0, zx1, zx2] [vi s0] h Q := by
  exact wp_iret rfl rfl H
/-- WarnLinesModel.warns(II)I, from 0 -/
theorem S101_89_0 {X : Nat × (Int → Int)} {h : HP} {Q : bQ} (x1 : Int) (x2 : Int) (H : (((lcp x1 0) < 0 → Q (some (vi (-2))) h) ∧ (0 ≤ (lcp x1 0) → ((0 < (lcp x1 1) → Q (some (vi (-2))) h) ∧ ((lcp x1 1) ≤ 0 → ((R32 ((h 89 5) - 1)) ∧ (((lcp x2 0) < 0 → Q (some (vi (-2))) h) ∧ (0 ≤ (lcp x2 0) → ((0 < (lcp x2 ((h 89 5) - 1)) → Q (some (vi (-2))) h) ∧ ((lcp x2 ((h 89 5) - 1)) ≤ 0 → Wp X 4 100 0 [vr 89, vi x1, vi x2] [] h (fun v h' => Wp X 5 101 21 [vr 89, vi x1, vi x2] (psh v []) h' Q))))))))))) : Wp X 5 101 0 [vr 89, vi x1, vi x2] [] h Q := by
  refine wp_iload rfl rfl ?_
  refine wp_call (k := 50) (ρ2 := 1) (L2 := [vi x1]) rfl rfl rfl (Nat.le_of_ble_eq_true rfl) (Nat.le_of_ble_eq_true rfl) (Nat.le_of_ble_eq_true rfl) (rcv_S rfl) rfl ?_
  refine wp_iload rfl rfl ?_
  refine wp_i2l rfl ?_
  refine wp_sipush rfl ?_
  refine wp_sipush rfl ?_
  refine wp_call (k := 48) (ρ2 := 0) (L2 := [vl x1, vu, vl 0, vu, vl 1, vu]) rfl rfl rfl (Nat.le_of_ble_eq_true rfl) (Nat.le_of_ble_eq_true rfl) (Nat.le_of_ble_eq_true rfl) (rcv_S rfl) rfl ?_
  refine wp_lload rfl rfl ?_
  refine wp_lload rfl rfl ?_
  refine wp_lcmp rfl ?_
  refine wp_iflt (tn := 17) rfl rfl (fun c1 => ?_) (fun c1 => ?_)
  · replace H := H.1 c1
    refine wp_iconst rfl ?_
    refine wp_zret rfl rfl (by decide) ?_
    show Wp X _ 50 7 [vi x1] [vi 0] _ _
    refine wp_zret rfl rfl (by decide) ?_
    show Wp X _ 101 4 [vr 89, vi x1, vi x2] [vi 0] _ _
    refine wp_ifeqT (tn := 24) rfl rfl (by decide) ?_
    refine wp_iconst rfl ?_
    exact wp_iret rfl rfl H
  · replace H := H.2 c1
    refine wp_lload rfl rfl ?_
    refine wp_lload rfl rfl ?_
    refine wp_lcmp rfl ?_
    refine wp_ifgt (tn := 17) rfl rfl (fun c2 => ?_) (fun c2 => ?_)
    · replace H := H.1 c2
      refine wp_iconst rfl ?_
      refine wp_zret rfl rfl (by decide) ?_
      show Wp X _ 50 7 [vi x1] [vi 0] _ _
      refine wp_zret rfl rfl (by decide) ?_
      show Wp X _ 101 4 [vr 89, vi x1, vi x2] [vi 0] _ _
      refine wp_ifeqT (tn := 24) rfl rfl (by decide) ?_
      refine wp_iconst rfl ?_
      exact wp_iret rfl rfl H
    · replace H := H.2 c2
      refine wp_iconst rfl ?_
      refine wp_goto (tn := 18) rfl rfl ?_
      refine wp_zret rfl rfl (by decide) ?_
      show Wp X _ 50 7 [vi x1] [vi 1] _ _
      refine wp_zret rfl rfl (by decide) ?_
      show Wp X _ 101 4 [vr 89, vi x1, vi x2] [vi 1] _ _
      refine wp_ifeqF (tn := 24) rfl rfl (by decide) ?_
      refine wp_aload rfl rfl ?_
      refine wp_iload rfl rfl ?_
      refine wp_call (k := 62) (ρ2 := 1) (L2 := [vr 89, vi x2]) rfl rfl rfl (Nat.le_of_ble_eq_true rfl) (Nat.le_of_ble_eq_true rfl) (Nat.le_of_ble_eq_true rfl) (rcv_V rfl (congrArg Prod.fst (kf_89 X.1))) rfl ?_
      refine wp_iload rfl rfl ?_
      refine wp_i2l rfl ?_
      refine wp_sipush rfl ?_
      refine wp_aload rfl rfl ?_
      refine wp_getI (j := 5) rfl (congrArg Prod.fst (kf_89 X.1)) rfl ?_
      refine wp_iconst rfl ?_
      refine wp_isub rfl ?_
      have g3 := H.1
      replace H := H.2
      refine Wp.topI (y := ((h 89 5) - 1)) (w32_I g3) ?_
      refine wp_i2l rfl ?_
      refine wp_call (k := 48) (ρ2 := 0) (L2 := [vl x2, vu, vl 0, vu, vl ((h 89 5) - 1), vu]) rfl rfl rfl (Nat.le_of_ble_eq_true rfl) (Nat.le_of_ble_eq_true rfl) (Nat.le_of_ble_eq_true rfl) (rcv_S rfl) rfl ?_
      refine wp_lload rfl rfl ?_
      refine wp_lload rfl rfl ?_
      refine wp_lcmp rfl ?_
      refine wp_iflt (tn := 17) rfl rfl (fun c4 => ?_) (fun c4 => ?_)
      · replace H := H.1 c4
        refine wp_iconst rfl ?_
        refine wp_zret rfl rfl (by decide) ?_
        show Wp X _ 62 13 [vr 89, vi x2] [vi 0] _ _
        refine wp_zret rfl rfl (by decide) ?_
        show Wp X _ 101 12 [vr 89, vi x1, vi x2] [vi 0] _ _
        refine wp_ifeqT (tn := 24) rfl rfl (by decide) ?_
        refine wp_iconst rfl ?_
        exact wp_iret rfl rfl H
      · replace H := H.2 c4
        refine wp_lload rfl rfl ?_
        refine wp_lload rfl rfl ?_
        refine wp_lcmp rfl ?_
        refine wp_ifgt (tn := 17) rfl rfl (fun c5 => ?_) (fun c5 => ?_)
        · replace H := H.1 c5
          refine wp_iconst rfl ?_
          refine wp_zret rfl rfl (by decide) ?_
          show Wp X _ 62 13 [vr 89, vi x2] [vi 0] _ _
          refine wp_zret rfl rfl (by decide) ?_
          show Wp X _ 101 12 [vr 89, vi x1, vi x2] [vi 0] _ _
          refine wp_ifeqT (tn := 24) rfl rfl (by decide) ?_
          refine wp_iconst rfl ?_
          exact wp_iret rfl rfl H
        · replace H := H.2 c5
          refine wp_iconst rfl ?_
          refine wp_goto (tn := 18) rfl rfl ?_
          refine wp_zret rfl rfl (by decide) ?_
          show Wp X _ 62 13 [vr 89, vi x2] [vi 1] _ _
          refine wp_zret rfl rfl (by decide) ?_
          show Wp X _ 101 12 [vr 89, vi x1, vi x2] [vi 1] _ _
          refine wp_ifeqF (tn := 24) rfl rfl (by decide) ?_
          refine wp_aload rfl rfl ?_
          refine wp_iload rfl rfl ?_
          refine wp_iload rfl rfl ?_
          exact wp_call (k := 100) (ρ2 := 4) (L2 := [vr 89, vi x1, vi x2]) rfl rfl rfl (Nat.le_of_ble_eq_true rfl) (Nat.le_of_ble_eq_true rfl) (Nat.le_of_ble_eq_true rfl) (rcv_V rfl (congrArg Prod.fst (kf_89 X.1))) rfl H
/-- WarnLinesModel.warns(II)I, from 21 -/
theorem S101_89_21 {X : Nat × (Int → Int)} {h : HP} {Q : bQ} (zx0 : aV) (zx1 : aV) (zx2 : aV) (s0 : Int) (H : Q (some (vi s0)) h) : Wp X 5 101 21 [zx0, zx1, zx2] [vi s0] h Q := by
  refine wp_goto (tn := 26) rfl rfl ?_
  exact wp_iret rfl rfl H
/-- WarnLinesModel.warnings()I, from 0 -/
theorem S102_89_0 {X : Nat × (Int → Int)} {h : HP} {Q : bQ}  (H : Wp X 4 102 4 [vr 89, vi 0, vi 0] [] h Q) : Wp X 4 102 0 [vr 89, vu, vu] [] h Q := by
  refine wp_iconst rfl ?_
  refine wp_istore (L2 := [vr 89, vi 0, vu]) rfl (Nat.le_of_ble_eq_true rfl) rfl ?_
  refine wp_iconst rfl ?_
  refine wp_istore (L2 := [vr 89, vi 0, vi 0]) rfl (Nat.le_of_ble_eq_true rfl) rfl ?_
  exact H
/-- WarnLinesModel.warnings()I, from 4 -/
theorem S102_89_4 {X : Nat × (Int → Int)} {h : HP} {Q : bQ} (x1 : Int) (x2 : Int) (H : (((h 89 16) ≤ x2 → Q (some (vi x1)) h) ∧ (x2 < (h 89 16) → Wp X 3 97 0 [vr 89, vi x2, vu, vu] [] h (fun v h' => Wp X 4 102 18 [vr 89, vi x1, vi x2] (psh v [vi x1]) h' Q)))) : Wp X 4 102 4 [vr 89, vi x1, vi x2] [] h Q := by
  refine wp_iload rfl rfl ?_
  refine wp_aload rfl rfl ?_
  refine wp_getI (j := 16) rfl (congrArg Prod.fst (kf_89 X.1)) rfl ?_
  refine wp_icge (tn := 34) rfl rfl (fun c1 => ?_) (fun c1 => ?_)
  · replace H := H.1 c1
    refine wp_iload rfl rfl ?_
    exact wp_iret rfl rfl H
  · replace H := H.2 c1
    refine wp_iload rfl rfl ?_
    refine wp_aload rfl rfl ?_
    refine wp_iload rfl rfl ?_
    exact wp_call (k := 97) (ρ2 := 3) (L2 := [vr 89, vi x2, vu, vu]) rfl rfl rfl (Nat.le_of_ble_eq_true rfl) (Nat.le_of_ble_eq_true rfl) (Nat.le_of_ble_eq_true rfl) (rcv_V rfl (congrArg Prod.fst (kf_89 X.1))) rfl H
/-- WarnLinesModel.warnings()I, from 18 -/
theorem S102_89_18 {X : Nat × (Int → Int)} {h : HP} {Q : bQ} (zx1 : aV) (x2 : Int) (s0 : Int) (s1 : Int) (H : ((s0 = 0 → ((R32 (s1 + 0)) ∧ ((R32 (x2 + 1)) ∧ Wp X 4 102 4 [vr 89, vi (s1 + 0), vi (x2 + 1)] [] h Q))) ∧ (s0 ≠ 0 → ((R32 (s1 + 1)) ∧ ((R32 (x2 + 1)) ∧ Wp X 4 102 4 [vr 89, vi (s1 + 1), vi (x2 + 1)] [] h Q))))) : Wp X 4 102 18 [vr 89, zx1, vi x2] [vi s0, vi s1] h Q := by
  refine wp_ifeq (tn := 25) rfl rfl (fun c1 => ?_) (fun c1 => ?_)
  · replace H := H.1 c1
    refine wp_iconst rfl ?_
    refine wp_iadd rfl ?_
    have g2 := H.1
    replace H := H.2
    refine Wp.topI (y := (s1 + 0)) (w32_I g2) ?_
    refine wp_istore (L2 := [vr 89, vi (s1 + 0), vi x2]) rfl (Nat.le_of_ble_eq_true rfl) rfl ?_
    have g3 := H.1
    replace H := H.2
    refine wp_iincR (L2 := [vr 89, vi (s1 + 0), vi (x2 + 1)]) rfl rfl g3 rfl ?_
    refine wp_goto (tn := 4) rfl rfl ?_
    exact H
  · replace H := H.2 c1
    refine wp_iconst rfl ?_
    refine wp_goto (tn := 26) rfl rfl ?_
    refine wp_iadd rfl ?_
    have g4 := H.1
    replace H := H.2
    refine Wp.topI (y := (s1 + 1)) (w32_I g4) ?_
    refine wp_istore (L2 := [vr 89, vi (s1 + 1), vi x2]) rfl (Nat.le_of_ble_eq_true rfl) rfl ?_
    have g5 := H.1
    replace H := H.2
    refine wp_iincR (L2 := [vr 89, vi (s1 + 1), vi (x2 + 1)]) rfl rfl g5 rfl ?_
    refine wp_goto (tn := 4) rfl rfl ?_
    exact H
/-- WarnLinesModel.goesOn()Z, from 0 -/
theorem S103_89_0 {X : Nat × (Int → Int)} {h : HP} {Q : bQ}  (H : ((R32 ((h 89 16) - 2)) ∧ Wp X 1 103 7 [vr 89, vi ((h 89 16) - 2), vu, vu, vu] [] h Q)) : Wp X 1 103 0 [vr 89, vu, vu, vu, vu] [] h Q := by
  refine wp_aload rfl rfl ?_
  refine wp_getI (j := 16) rfl (congrArg Prod.fst (kf_89 X.1)) rfl ?_
  refine wp_iconst rfl ?_
  refine wp_isub rfl ?_
  have g1 := H.1
  replace H := H.2
  refine Wp.topI (y := ((h 89 16) - 2)) (w32_I g1) ?_
  refine wp_istore (L2 := [vr 89, vi ((h 89 16) - 2), vu, vu, vu]) rfl (Nat.le_of_ble_eq_true rfl) rfl ?_
  exact H
/-- WarnLinesModel.goesOn()Z, from 7 -/
theorem S103_89_7 {X : Nat × (Int → Int)} {h : HP} {Q : bQ} (x1 : Int) (H : ((x1 < 0 → Q (some (vi 0)) h) ∧ (0 ≤ x1 → ((0 ≤ x1 ∧ x1 < 20) ∧ ((0 ≤ (x1 + 1) ∧ (x1 + 1) < 20) ∧ (((h 110 x1) ≤ (h 110 (x1 + 1)) → ((R32 ((h 89 16) - 1)) ∧ Wp X 1 103 47 [vr 89, vi x1, vi ((h 89 16) - 1), vu, vu] [] h Q)) ∧ ((h 110 (x1 + 1)) < (h 110 x1) → Wp X 1 103 7 [vr 89, vi (x1 + (-1)), vu, vu, vu] [] h Q))))))) : Wp X 1 103 7 [vr 89, vi x1, vu, vu, vu] [] h Q := by
  refine wp_iload rfl rfl ?_
  refine wp_iflt (tn := 34) rfl rfl (fun c1 => ?_) (fun c1 => ?_)
  · replace H := H.1 c1
    refine wp_iload rfl rfl ?_
    refine wp_ifgeF (tn := 40) rfl rfl c1 ?_
    refine wp_iconst rfl ?_
    exact wp_zret rfl rfl (by decide) H
  · replace H := H.2 c1
    refine wp_aload rfl rfl ?_
    refine wp_getR (r := 109) rfl (congrArg Prod.fst (kf_89 X.1)) rfl ?_
    refine wp_iload rfl rfl ?_
    have g2 := H.1
    replace H := H.2
    refine wp_iaload rfl (kf_110 X.1) g2 ?_
    refine wp_aload rfl rfl ?_
    refine wp_getR (r := 109) rfl (congrArg Prod.fst (kf_89 X.1)) rfl ?_
    refine wp_iload rfl rfl ?_
    refine wp_iconst rfl ?_
    refine wp_iadd rfl ?_
    refine Wp.topI (y := (x1 + 1)) (w32_I (by clear H; unfold R32; omega)) ?_
    have g3 := H.1
    replace H := H.2
    refine wp_iaload rfl (kf_110 X.1) g3 ?_
    refine wp_icle (tn := 34) rfl rfl (fun c4 => ?_) (fun c4 => ?_)
    · replace H := H.1 c4
      refine wp_iload rfl rfl ?_
      refine wp_ifgeT (tn := 40) rfl rfl g2.1 ?_
      refine wp_aload rfl rfl ?_
      refine wp_getI (j := 16) rfl (congrArg Prod.fst (kf_89 X.1)) rfl ?_
      refine wp_iconst rfl ?_
      refine wp_isub rfl ?_
      have g5 := H.1
      replace H := H.2
      refine Wp.topI (y := ((h 89 16) - 1)) (w32_I g5) ?_
      refine wp_istore (L2 := [vr 89, vi x1, vi ((h 89 16) - 1), vu, vu]) rfl (Nat.le_of_ble_eq_true rfl) rfl ?_
      exact H
    · replace H := H.2 c4
      refine wp_iincR (L2 := [vr 89, vi (x1 + (-1)), vu, vu, vu]) rfl rfl (by clear H; unfold R32; omega) rfl ?_
      refine wp_goto (tn := 7) rfl rfl ?_
      exact H
/-- WarnLinesModel.goesOn()Z, from 47 -/
theorem S103_89_47 {X : Nat × (Int → Int)} {h : HP} {Q : bQ} (x1 : Int) (x2 : Int) (H : ((0 ≤ x2 ∧ x2 < 20) ∧ ((0 ≤ x1 ∧ x1 < 20) ∧ (((h 110 x1) ≤ (h 110 x2) → ((R32 ((h 89 16) - 1)) ∧ Wp X 1 103 86 [vr 89, vi x1, vi x2, vi (x1 + 1), vi ((h 89 16) - 1)] [] (upd2 (upd2 h 110 x1 (h 110 x2)) 110 x2 (h 110 x1)) Q)) ∧ ((h 110 x2) < (h 110 x1) → Wp X 1 103 47 [vr 89, vi x1, vi (x2 + (-1)), vu, vu] [] h Q))))) : Wp X 1 103 47 [vr 89, vi x1, vi x2, vu, vu] [] h Q := by
  refine wp_aload rfl rfl ?_
  refine wp_getR (r := 109) rfl (congrArg Prod.fst (kf_89 X.1)) rfl ?_
  refine wp_iload rfl rfl ?_
  have g1 := H.1
  replace H := H.2
  refine wp_iaload rfl (kf_110 X.1) g1 ?_
  refine wp_aload rfl rfl ?_
  refine wp_getR (r := 109) rfl (congrArg Prod.fst (kf_89 X.1)) rfl ?_
  refine wp_iload rfl rfl ?_
  have g2 := H.1
  replace H := H.2
  refine wp_iaload rfl (kf_110 X.1) g2 ?_
  refine wp_icge (tn := 68) rfl rfl (fun c3 => ?_) (fun c3 => ?_)
  · replace H := H.1 c3
    refine wp_aload rfl rfl ?_
    refine wp_iload rfl rfl ?_
    refine wp_iload rfl rfl ?_
    refine wp_call (k := 104) (ρ2 := 0) (L2 := [vr 89, vi x1, vi x2, vu]) rfl rfl rfl (Nat.le_of_ble_eq_true rfl) (Nat.le_of_ble_eq_true rfl) (Nat.le_of_ble_eq_true rfl) (rcv_V rfl (congrArg Prod.fst (kf_89 X.1))) rfl ?_
    refine wp_aload rfl rfl ?_
    refine wp_getR (r := 109) rfl (congrArg Prod.fst (kf_89 X.1)) rfl ?_
    refine wp_iload rfl rfl ?_
    refine wp_iaload rfl (kf_110 X.1) ⟨g2.1, g2.2⟩ ?_
    refine wp_istore (L2 := [vr 89, vi x1, vi x2, vi (h 110 x1)]) rfl (Nat.le_of_ble_eq_true rfl) rfl ?_
    refine wp_aload rfl rfl ?_
    refine wp_getR (r := 109) rfl (congrArg Prod.fst (kf_89 X.1)) rfl ?_
    refine wp_iload rfl rfl ?_
    refine wp_aload rfl rfl ?_
    refine wp_getR (r := 109) rfl (congrArg Prod.fst (kf_89 X.1)) rfl ?_
    refine wp_iload rfl rfl ?_
    refine wp_iaload rfl (kf_110 X.1) ⟨g1.1, g1.2⟩ ?_
    refine wp_iastore rfl (kf_110 X.1) ⟨g2.1, g2.2⟩ ?_
    refine wp_aload rfl rfl ?_
    refine wp_getR (r := 109) rfl (congrArg Prod.fst (kf_89 X.1)) rfl ?_
    refine wp_iload rfl rfl ?_
    refine wp_iload rfl rfl ?_
    refine wp_iastore rfl (kf_110 X.1) ⟨g1.1, g1.2⟩ ?_
    refine wp_vret rfl rfl ?_
    show Wp X _ 103 74 [vr 89, vi x1, vi x2, vu, vu] [] _ _
    refine wp_iload rfl rfl ?_
    refine wp_iconst rfl ?_
    refine wp_iadd rfl ?_
    refine Wp.topI (y := (x1 + 1)) (w32_I (by clear H; unfold R32; omega)) ?_
    refine wp_istore (L2 := [vr 89, vi x1, vi x2, vi (x1 + 1), vu]) rfl (Nat.le_of_ble_eq_true rfl) rfl ?_
    refine wp_aload rfl rfl ?_
    refine wp_getI (j := 16) rfl (congrArg Prod.fst (kf_89 X.1)) rfl ?_
    refine Wp.topI (y := (h 89 16)) (congrFun ((upd2_ne (by decide)).trans (upd2_ne (by decide))) _) ?_
    refine wp_iconst rfl ?_
    refine wp_isub rfl ?_
    have g4 := H.1
    replace H := H.2
    refine Wp.topI (y := ((h 89 16) - 1)) (w32_I g4) ?_
    refine wp_istore (L2 := [vr 89, vi x1, vi x2, vi (x1 + 1), vi ((h 89 16) - 1)]) rfl (Nat.le_of_ble_eq_true rfl) rfl ?_
    exact H
  · replace H := H.2 c3
    refine wp_iincR (L2 := [vr 89, vi x1, vi (x2 + (-1)), vu, vu]) rfl rfl (by clear H; unfold R32; omega) rfl ?_
    refine wp_goto (tn := 47) rfl rfl ?_
    exact H
/-- WarnLinesModel.goesOn()Z, from 86 -/
theorem S103_89_86 {X : Nat × (Int → Int)} {h : HP} {Q : bQ} (zx1 : aV) (zx2 : aV) (x3 : Int) (x4 : Int) (H : ((x4 ≤ x3 → Q (some (vi 1)) h) ∧ (x3 < x4 → ((0 ≤ x3 ∧ x3 < 20) ∧ ((0 ≤ x4 ∧ x4 < 20) ∧ Wp X 1 103 86 [vr 89, zx1, (clr1 zx2), vi (x3 + 1), vi (x4 + (-1))] [] (upd2 (upd2 h 110 x3 (h 110 x4)) 110 x4 (h 110 x3)) Q))))) : Wp X 1 103 86 [vr 89, zx1, zx2, vi x3, vi x4] [] h Q := by
  refine wp_iload rfl rfl ?_
  refine wp_iload rfl rfl ?_
  refine wp_icge (tn := 108) rfl rfl (fun c1 => ?_) (fun c1 => ?_)
  · replace H := H.1 c1
    refine wp_iconst rfl ?_
    exact wp_zret rfl rfl (by decide) H
  · replace H := H.2 c1
    refine wp_aload rfl rfl ?_
    refine wp_iload rfl rfl ?_
    refine wp_iload rfl rfl ?_
    refine wp_call (k := 104) (ρ2 := 0) (L2 := [vr 89, vi x3, vi x4, vu]) rfl rfl rfl (Nat.le_of_ble_eq_true rfl) (Nat.le_of_ble_eq_true rfl) (Nat.le_of_ble_eq_true rfl) (rcv_V rfl (congrArg Prod.fst (kf_89 X.1))) rfl ?_
    refine wp_aload rfl rfl ?_
    refine wp_getR (r := 109) rfl (congrArg Prod.fst (kf_89 X.1)) rfl ?_
    refine wp_iload rfl rfl ?_
    have g2 := H.1
    replace H := H.2
    refine wp_iaload rfl (kf_110 X.1) g2 ?_
    refine wp_istore (L2 := [vr 89, vi x3, vi x4, vi (h 110 x3)]) rfl (Nat.le_of_ble_eq_true rfl) rfl ?_
    refine wp_aload rfl rfl ?_
    refine wp_getR (r := 109) rfl (congrArg Prod.fst (kf_89 X.1)) rfl ?_
    refine wp_iload rfl rfl ?_
    refine wp_aload rfl rfl ?_
    refine wp_getR (r := 109) rfl (congrArg Prod.fst (kf_89 X.1)) rfl ?_
    refine wp_iload rfl rfl ?_
    have g3 := H.1
    replace H := H.2
    refine wp_iaload rfl (kf_110 X.1) g3 ?_
    refine wp_iastore rfl (kf_110 X.1) ⟨g2.1, g2.2⟩ ?_
    refine wp_aload rfl rfl ?_
    refine wp_getR (r := 109) rfl (congrArg Prod.fst (kf_89 X.1)) rfl ?_
    refine wp_iload rfl rfl ?_
    refine wp_iload rfl rfl ?_
    refine wp_iastore rfl (kf_110 X.1) ⟨g3.1, g3.2⟩ ?_
    refine wp_vret rfl rfl ?_
    show Wp X _ 103 99 [vr 89, zx1, zx2, vi x3, vi x4] [] _ _
    refine wp_iincR (L2 := [vr 89, zx1, (clr1 zx2), vi (x3 + 1), vi x4]) rfl rfl (by clear H; unfold R32; omega) rfl ?_
    refine wp_iincR (L2 := [vr 89, zx1, (clr1 zx2), vi (x3 + 1), vi (x4 + (-1))]) rfl rfl (by clear H; unfold R32; omega) rfl ?_
    refine wp_goto (tn := 86) rfl rfl ?_
    exact H
/-- WarnLinesModel.chanceNow(I)I, from 0 -/
theorem S105_89_0 {X : Nat × (Int → Int)} {h : HP} {Q : bQ} (x1 : Int) (H : (((h 89 16) ≤ 7 → Wp X 5 105 14 [vr 89, vi x1, vi 0, vu, vu, vu] [] h Q) ∧ (7 < (h 89 16) → Q (some (vi (-4))) h))) : Wp X 5 105 0 [vr 89, vi x1, vu, vu, vu, vu] [] h Q := by
  refine wp_aload rfl rfl ?_
  refine wp_getI (j := 16) rfl (congrArg Prod.fst (kf_89 X.1)) rfl ?_
  refine wp_iconst rfl ?_
  refine wp_icle (tn := 12) rfl rfl (fun c1 => ?_) (fun c1 => ?_)
  · replace H := H.1 c1
    refine wp_iconst rfl ?_
    refine wp_istore (L2 := [vr 89, vi x1, vi 0, vu, vu, vu]) rfl (Nat.le_of_ble_eq_true rfl) rfl ?_
    exact H
  · replace H := H.2 c1
    refine wp_iconst rfl ?_
    exact wp_iret rfl rfl H
/-- WarnLinesModel.chanceNow(I)I, from 14 -/
theorem S105_89_14 {X : Nat × (Int → Int)} {h : HP} {Q : bQ} (x1 : Int) (x2 : Int) (H : (((h 89 16) ≤ x2 → Wp X 5 105 42 [vr 89, vi x1, vi 0, vi 0, vi 1, vu] [] h Q) ∧ (x2 < (h 89 16) → ((0 ≤ x2 ∧ x2 < 20) ∧ Wp X 5 105 14 [vr 89, vi x1, vi (x2 + 1), vu, vu, vu] [] (upd2 h 110 x2 x2) Q)))) : Wp X 5 105 14 [vr 89, vi x1, vi x2, vu, vu, vu] [] h Q := by
  refine wp_iload rfl rfl ?_
  refine wp_aload rfl rfl ?_
  refine wp_getI (j := 16) rfl (congrArg Prod.fst (kf_89 X.1)) rfl ?_
  refine wp_icge (tn := 35) rfl rfl (fun c1 => ?_) (fun c1 => ?_)
  · replace H := H.1 c1
    refine wp_iconst rfl ?_
    refine wp_istore (L2 := [vr 89, vi x1, vi 0, vu, vu, vu]) rfl (Nat.le_of_ble_eq_true rfl) rfl ?_
    refine wp_iconst rfl ?_
    refine wp_istore (L2 := [vr 89, vi x1, vi 0, vi 0, vu, vu]) rfl (Nat.le_of_ble_eq_true rfl) rfl ?_
    refine wp_iconst rfl ?_
    refine wp_istore (L2 := [vr 89, vi x1, vi 0, vi 0, vi 1, vu]) rfl (Nat.le_of_ble_eq_true rfl) rfl ?_
    exact H
  · replace H := H.2 c1
    refine wp_aload rfl rfl ?_
    refine wp_getR (r := 109) rfl (congrArg Prod.fst (kf_89 X.1)) rfl ?_
    refine wp_iload rfl rfl ?_
    refine wp_iload rfl rfl ?_
    have g2 := H.1
    replace H := H.2
    refine wp_iastore rfl (kf_110 X.1) g2 ?_
    refine wp_iincR (L2 := [vr 89, vi x1, vi (x2 + 1), vu, vu, vu]) rfl rfl (by clear H; unfold R32; omega) rfl ?_
    refine wp_goto (tn := 14) rfl rfl ?_
    exact H
/-- WarnLinesModel.chanceNow(I)I, from 42 -/
theorem S105_89_42 {X : Nat × (Int → Int)} {h : HP} {Q : bQ} (x1 : Int) (x2 : Int) (x3 : Int) (x4 : Int) (zx5 : aV) (H : ((x4 = 0 → ((R64 (1000000 * x3)) ∧ (x2 ≠ 0 ∧ ((R64 (Int.tdiv (1000000 * x3) x2)) ∧ ((R32 (Int.tdiv (1000000 * x3) x2)) ∧ Q (some (vi (Int.tdiv (1000000 * x3) x2))) h))))) ∧ (x4 ≠ 0 → Wp X 5 105 50 [vr 89, vi x1, vi x2, vi x3, vi x4, vi 0] [] h Q))) : Wp X 5 105 42 [vr 89, vi x1, vi x2, vi x3, vi x4, zx5] [] h Q := by
  refine wp_iload rfl rfl ?_
  refine wp_ifeq (tn := 112) rfl rfl (fun c1 => ?_) (fun c1 => ?_)
  · replace H := H.1 c1
    refine wp_sipush rfl ?_
    refine wp_iload rfl rfl ?_
    refine wp_i2l rfl ?_
    refine wp_lmul rfl ?_
    have g2 := H.1
    replace H := H.2
    refine Wp.topL (y := (1000000 * x3)) (w64_I g2) ?_
    refine wp_iload rfl rfl ?_
    refine wp_i2l rfl ?_
    have g3 := H.1
    replace H := H.2
    refine wp_ldiv rfl g3 ?_
    have g4 := H.1
    replace H := H.2
    refine Wp.topL (y := (Int.tdiv (1000000 * x3) x2)) (w64_I g4) ?_
    refine wp_l2i rfl ?_
    have g5 := H.1
    replace H := H.2
    refine Wp.topI (y := (Int.tdiv (1000000 * x3) x2)) (w32_I g5) ?_
    exact wp_iret rfl rfl H
  · replace H := H.2 c1
    refine wp_iconst rfl ?_
    refine wp_istore (L2 := [vr 89, vi x1, vi x2, vi x3, vi x4, vi 0]) rfl (Nat.le_of_ble_eq_true rfl) rfl ?_
    exact H
/-- WarnLinesModel.chanceNow(I)I, from 50 -/
theorem S105_89_50 {X : Nat × (Int → Int)} {h : HP} {Q : bQ} (x1 : Int) (x2 : Int) (x3 : Int) (zx4 : aV) (x5 : Int) (H : (((h 89 16) ≤ x5 → ((R32 (x2 + 1)) ∧ Wp X 4 102 0 [vr 89, vu, vu] [] h (fun v h' => Wp X 5 105 92 [vr 89, vi x1, vi (x2 + 1), vi x3, zx4, vi x5] (psh v [vi x3]) h' Q))) ∧ (x5 < (h 89 16) → ((0 ≤ x5 ∧ x5 < 20) ∧ ((0 ≤ (h 110 x5) ∧ (h 110 x5) < 20) ∧ Wp X 5 105 50 [vr 89, vi x1, vi x2, vi x3, (clr1 zx4), vi (x5 + 1)] [] (upd2 h 109 x5 (h 102 (h 110 x5))) Q))))) : Wp X 5 105 50 [vr 89, vi x1, vi x2, vi x3, zx4, vi x5] [] h Q := by
  refine wp_iload rfl rfl ?_
  refine wp_aload rfl rfl ?_
  refine wp_getI (j := 16) rfl (congrArg Prod.fst (kf_89 X.1)) rfl ?_
  refine wp_icge (tn := 84) rfl rfl (fun c1 => ?_) (fun c1 => ?_)
  · replace H := H.1 c1
    have g2 := H.1
    replace H := H.2
    refine wp_iincR (L2 := [vr 89, vi x1, vi (x2 + 1), vi x3, zx4, vi x5]) rfl rfl g2 rfl ?_
    refine wp_iload rfl rfl ?_
    refine wp_aload rfl rfl ?_
    exact wp_call (k := 102) (ρ2 := 4) (L2 := [vr 89, vu, vu]) rfl rfl rfl (Nat.le_of_ble_eq_true rfl) (Nat.le_of_ble_eq_true rfl) (Nat.le_of_ble_eq_true rfl) (rcv_V rfl (congrArg Prod.fst (kf_89 X.1))) rfl H
  · replace H := H.2 c1
    refine wp_aload rfl rfl ?_
    refine wp_getR (r := 108) rfl (congrArg Prod.fst (kf_89 X.1)) rfl ?_
    refine wp_iload rfl rfl ?_
    refine wp_aload rfl rfl ?_
    refine wp_getR (r := 101) rfl (congrArg Prod.fst (kf_89 X.1)) rfl ?_
    refine wp_aload rfl rfl ?_
    refine wp_getR (r := 109) rfl (congrArg Prod.fst (kf_89 X.1)) rfl ?_
    refine wp_iload rfl rfl ?_
    have g3 := H.1
    replace H := H.2
    refine wp_iaload rfl (kf_110 X.1) g3 ?_
    have g4 := H.1
    replace H := H.2
    refine wp_iaload rfl (kf_102 X.1) g4 ?_
    refine wp_iastore rfl (kf_109 X.1) ⟨g3.1, g3.2⟩ ?_
    refine wp_iincR (L2 := [vr 89, vi x1, vi x2, vi x3, (clr1 zx4), vi (x5 + 1)]) rfl rfl (by clear H; unfold R32; omega) rfl ?_
    refine wp_goto (tn := 50) rfl rfl ?_
    exact H
/-- WarnLinesModel.chanceNow(I)I, from 92 -/
theorem S105_89_92 {X : Nat × (Int → Int)} {h : HP} {Q : bQ} (x1 : Int) (x2 : Int) (zx3 : aV) (zx4 : aV) (zx5 : aV) (s0 : Int) (s1 : Int) (H : ((s0 < x1 → ((R32 (s1 + 0)) ∧ Wp X 1 103 0 [vr 89, vu, vu, vu, vu] [] h (fun v h' => Wp X 5 105 107 [vr 89, vi x1, vi x2, vi (s1 + 0), zx4, zx5] (psh v []) h' Q))) ∧ (x1 ≤ s0 → ((R32 (s1 + 1)) ∧ Wp X 1 103 0 [vr 89, vu, vu, vu, vu] [] h (fun v h' => Wp X 5 105 107 [vr 89, vi x1, vi x2, vi (s1 + 1), zx4, zx5] (psh v []) h' Q))))) : Wp X 5 105 92 [vr 89, vi x1, vi x2, zx3, zx4, zx5] [vi s0, vi s1] h Q := by
  refine wp_iload rfl rfl ?_
  refine wp_iclt (tn := 100) rfl rfl (fun c1 => ?_) (fun c1 => ?_)
  · replace H := H.1 c1
    refine wp_iconst rfl ?_
    refine wp_iadd rfl ?_
    have g2 := H.1
    replace H := H.2
    refine Wp.topI (y := (s1 + 0)) (w32_I g2) ?_
    refine wp_istore (L2 := [vr 89, vi x1, vi x2, vi (s1 + 0), zx4, zx5]) rfl (Nat.le_of_ble_eq_true rfl) rfl ?_
    refine wp_aload rfl rfl ?_
    exact wp_call (k := 103) (ρ2 := 1) (L2 := [vr 89, vu, vu, vu, vu]) rfl rfl rfl (Nat.le_of_ble_eq_true rfl) (Nat.le_of_ble_eq_true rfl) (Nat.le_of_ble_eq_true rfl) (rcv_V rfl (congrArg Prod.fst (kf_89 X.1))) rfl H
  · replace H := H.2 c1
    refine wp_iconst rfl ?_
    refine wp_goto (tn := 101) rfl rfl ?_
    refine wp_iadd rfl ?_
    have g3 := H.1
    replace H := H.2
    refine Wp.topI (y := (s1 + 1)) (w32_I g3) ?_
    refine wp_istore (L2 := [vr 89, vi x1, vi x2, vi (s1 + 1), zx4, zx5]) rfl (Nat.le_of_ble_eq_true rfl) rfl ?_
    refine wp_aload rfl rfl ?_
    exact wp_call (k := 103) (ρ2 := 1) (L2 := [vr 89, vu, vu, vu, vu]) rfl rfl rfl (Nat.le_of_ble_eq_true rfl) (Nat.le_of_ble_eq_true rfl) (Nat.le_of_ble_eq_true rfl) (rcv_V rfl (congrArg Prod.fst (kf_89 X.1))) rfl H
/-- WarnLinesModel.chanceNow(I)I, from 107 -/
theorem S105_89_107 {X : Nat × (Int → Int)} {h : HP} {Q : bQ} (x1 : Int) (x2 : Int) (x3 : Int) (zx4 : aV) (zx5 : aV) (s0 : Int) (H : Wp X 5 105 42 [vr 89, vi x1, vi x2, vi x3, vi s0, zx5] [] h Q) : Wp X 5 105 107 [vr 89, vi x1, vi x2, vi x3, zx4, zx5] [vi s0] h Q := by
  refine wp_istore (L2 := [vr 89, vi x1, vi x2, vi x3, vi s0, zx5]) rfl (Nat.le_of_ble_eq_true rfl) rfl ?_
  refine wp_goto (tn := 42) rfl rfl ?_
  exact H
/-- WarnLinesModel.warnedOf(II)I, from 0 -/
theorem S106_89_0 {X : Nat × (Int → Int)} {h : HP} {Q : bQ} (x1 : Int) (x2 : Int) (H : Wp X 3 92 0 [vr 89, vi x1, vu] [] h (fun v h' => Wp X 6 106 5 [vr 89, vi x1, vi x2, vu] (psh v []) h' Q)) : Wp X 6 106 0 [vr 89, vi x1, vi x2, vu] [] h Q := by
  refine wp_aload rfl rfl ?_
  refine wp_iload rfl rfl ?_
  exact wp_call (k := 92) (ρ2 := 3) (L2 := [vr 89, vi x1, vu]) rfl rfl rfl (Nat.le_of_ble_eq_true rfl) (Nat.le_of_ble_eq_true rfl) (Nat.le_of_ble_eq_true rfl) (rcv_V rfl (congrArg Prod.fst (kf_89 X.1))) rfl H
/-- WarnLinesModel.warnedOf(II)I, from 5 -/
theorem S106_89_5 {X : Nat × (Int → Int)} {h : HP} {Q : bQ} (zx1 : aV) (x2 : Int) (s0 : Int) (H : ((s0 ≠ (-1) → Q (some (vi (-3))) h) ∧ (s0 = (-1) → Wp X 3 78 0 [vr 89, vu, vu, vu, vu] [] h (fun v h' => Wp X 6 106 13 [vr 89, zx1, vi x2, vu] (psh v []) h' Q)))) : Wp X 6 106 5 [vr 89, zx1, vi x2, vu] [vi s0] h Q := by
  refine wp_iconst rfl ?_
  refine wp_icne (tn := 16) rfl rfl (fun c1 => ?_) (fun c1 => ?_)
  · replace H := H.1 c1
    refine wp_iconst rfl ?_
    exact wp_iret rfl rfl H
  · replace H := H.2 c1
    refine wp_aload rfl rfl ?_
    exact wp_call (k := 78) (ρ2 := 3) (L2 := [vr 89, vu, vu, vu, vu]) rfl rfl rfl (Nat.le_of_ble_eq_true rfl) (Nat.le_of_ble_eq_true rfl) (Nat.le_of_ble_eq_true rfl) (rcv_V rfl (congrArg Prod.fst (kf_89 X.1))) rfl H
/-- WarnLinesModel.warnedOf(II)I, from 13 -/
theorem S106_89_13 {X : Nat × (Int → Int)} {h : HP} {Q : bQ} (zx1 : aV) (x2 : Int) (s0 : Int) (H : ((s0 ≠ 0 → Wp X 0 98 0 [vr 89, vu] [] h (fun v h' => Wp X 6 106 23 [vr 89, zx1, vi x2, vu] (psh v []) h' Q)) ∧ (s0 = 0 → Q (some (vi (-3))) h))) : Wp X 6 106 13 [vr 89, zx1, vi x2, vu] [vi s0] h Q := by
  refine wp_ifne (tn := 19) rfl rfl (fun c1 => ?_) (fun c1 => ?_)
  · replace H := H.1 c1
    refine wp_aload rfl rfl ?_
    exact wp_call (k := 98) (ρ2 := 0) (L2 := [vr 89, vu]) rfl rfl rfl (Nat.le_of_ble_eq_true rfl) (Nat.le_of_ble_eq_true rfl) (Nat.le_of_ble_eq_true rfl) (rcv_V rfl (congrArg Prod.fst (kf_89 X.1))) rfl H
  · replace H := H.2 c1
    refine wp_iconst rfl ?_
    exact wp_iret rfl rfl H
/-- WarnLinesModel.warnedOf(II)I, from 23 -/
theorem S106_89_23 {X : Nat × (Int → Int)} {h : HP} {Q : bQ} (zx1 : aV) (x2 : Int) (H : ((x2 ≠ 0 → Wp X 4 102 0 [vr 89, vu, vu] [] h (fun v h' => Wp X 6 106 64 [vr 89, zx1, vi x2, vu] (psh v []) h' Q)) ∧ (x2 = 0 → Wp X 6 106 29 [vr 89, zx1, vi x2, vi 0] [] h Q))) : Wp X 6 106 23 [vr 89, zx1, vi x2, vu] [] h Q := by
  refine wp_iload rfl rfl ?_
  refine wp_ifne (tn := 60) rfl rfl (fun c1 => ?_) (fun c1 => ?_)
  · replace H := H.1 c1
    refine wp_aload rfl rfl ?_
    exact wp_call (k := 102) (ρ2 := 4) (L2 := [vr 89, vu, vu]) rfl rfl rfl (Nat.le_of_ble_eq_true rfl) (Nat.le_of_ble_eq_true rfl) (Nat.le_of_ble_eq_true rfl) (rcv_V rfl (congrArg Prod.fst (kf_89 X.1))) rfl H
  · replace H := H.2 c1
    refine wp_iconst rfl ?_
    refine wp_istore (L2 := [vr 89, zx1, vi x2, vi 0]) rfl (Nat.le_of_ble_eq_true rfl) rfl ?_
    exact H
/-- WarnLinesModel.warnedOf(II)I, from 29 -/
theorem S106_89_29 {X : Nat × (Int → Int)} {h : HP} {Q : bQ} (zx1 : aV) (zx2 : aV) (x3 : Int) (H : (((h 89 16) ≤ x3 → Q (some (vi (-1))) h) ∧ (x3 < (h 89 16) → Wp X 3 97 0 [vr 89, vi x3, vu, vu] [] h (fun v h' => Wp X 6 106 42 [vr 89, zx1, zx2, vi x3] (psh v []) h' Q)))) : Wp X 6 106 29 [vr 89, zx1, zx2, vi x3] [] h Q := by
  refine wp_iload rfl rfl ?_
  refine wp_aload rfl rfl ?_
  refine wp_getI (j := 16) rfl (congrArg Prod.fst (kf_89 X.1)) rfl ?_
  refine wp_icge (tn := 58) rfl rfl (fun c1 => ?_) (fun c1 => ?_)
  · replace H := H.1 c1
    refine wp_iconst rfl ?_
    exact wp_iret rfl rfl H
  · replace H := H.2 c1
    refine wp_aload rfl rfl ?_
    refine wp_iload rfl rfl ?_
    exact wp_call (k := 97) (ρ2 := 3) (L2 := [vr 89, vi x3, vu, vu]) rfl rfl rfl (Nat.le_of_ble_eq_true rfl) (Nat.le_of_ble_eq_true rfl) (Nat.le_of_ble_eq_true rfl) (rcv_V rfl (congrArg Prod.fst (kf_89 X.1))) rfl H
/-- WarnLinesModel.warnedOf(II)I, from 42 -/
theorem S106_89_42 {X : Nat × (Int → Int)} {h : HP} {Q : bQ} (zx1 : aV) (zx2 : aV) (x3 : Int) (s0 : Int) (H : ((s0 = 0 → ((R32 (x3 + 1)) ∧ Wp X 6 106 29 [vr 89, zx1, (clr1 zx2), vi (x3 + 1)] [] h Q)) ∧ (s0 ≠ 0 → ((0 ≤ x3 ∧ x3 < 20) ∧ Q (some (vi (h 102 x3))) h)))) : Wp X 6 106 42 [vr 89, zx1, zx2, vi x3] [vi s0] h Q := by
  refine wp_ifeq (tn := 52) rfl rfl (fun c1 => ?_) (fun c1 => ?_)
  · replace H := H.1 c1
    have g2 := H.1
    replace H := H.2
    refine wp_iincR (L2 := [vr 89, zx1, (clr1 zx2), vi (x3 + 1)]) rfl rfl g2 rfl ?_
    refine wp_goto (tn := 29) rfl rfl ?_
    exact H
  · replace H := H.2 c1
    refine wp_aload rfl rfl ?_
    refine wp_getR (r := 101) rfl (congrArg Prod.fst (kf_89 X.1)) rfl ?_
    refine wp_iload rfl rfl ?_
    have g3 := H.1
    replace H := H.2
    refine wp_iaload rfl (kf_102 X.1) g3 ?_
    exact wp_iret rfl rfl H
/-- WarnLinesModel.warnedOf(II)I, from 64 -/
theorem S106_89_64 {X : Nat × (Int → Int)} {h : HP} {Q : bQ} (zx1 : aV) (x2 : Int) (s0 : Int) (H : ((x2 ≠ 1 → Wp X 5 105 0 [vr 89, vi s0, vu, vu, vu, vu] [] h (fun v h' => Wp X 6 106 79 [vr 89, zx1, vi x2, vi s0] (psh v []) h' Q)) ∧ (x2 = 1 → Wp X 6 106 79 [vr 89, zx1, vi x2, vi s0] [vi s0] h Q))) : Wp X 6 106 64 [vr 89, zx1, vi x2, vu] [vi s0] h Q := by
  refine wp_istore (L2 := [vr 89, zx1, vi x2, vi s0]) rfl (Nat.le_of_ble_eq_true rfl) rfl ?_
  refine wp_iload rfl rfl ?_
  refine wp_iconst rfl ?_
  refine wp_icne (tn := 74) rfl rfl (fun c1 => ?_) (fun c1 => ?_)
  · replace H := H.1 c1
    refine wp_aload rfl rfl ?_
    refine wp_iload rfl rfl ?_
    exact wp_call (k := 105) (ρ2 := 5) (L2 := [vr 89, vi s0, vu, vu, vu, vu]) rfl rfl rfl (Nat.le_of_ble_eq_true rfl) (Nat.le_of_ble_eq_true rfl) (Nat.le_of_ble_eq_true rfl) (rcv_V rfl (congrArg Prod.fst (kf_89 X.1))) rfl H
  · replace H := H.2 c1
    refine wp_iload rfl rfl ?_
    refine wp_goto (tn := 79) rfl rfl ?_
    exact H
/-- WarnLinesModel.warnedOf(II)I, from 79 -/
theorem S106_89_79 {X : Nat × (Int → Int)} {h : HP} {Q : bQ} (zx0 : aV) (zx1 : aV) (zx2 : aV) (zx3 : aV) (s0 : Int) (H : Q (some (vi s0)) h) : Wp X 6 106 79 [zx0, zx1, zx2, zx3] [vi s0] h Q := by
  exact wp_iret rfl rfl H
/-- WarnLinesModel.warned(II)I, from 0 -/
theorem S107_89_0 {X : Nat × (Int → Int)} {h : HP} {Q : bQ} (x1 : Int) (x2 : Int) (H : (((lcp x1 0) < 0 → Q (some (vi (-2))) h) ∧ (0 ≤ (lcp x1 0) → ((0 < (lcp x1 1) → Q (some (vi (-2))) h) ∧ ((lcp x1 1) ≤ 0 → (((lcp x2 0) < 0 → Q (some (vi (-2))) h) ∧ (0 ≤ (lcp x2 0) → ((0 < (lcp x2 2) → Q (some (vi (-2))) h) ∧ ((lcp x2 2) ≤ 0 → Wp X 6 106 0 [vr 89, vi x1, vi x2, vu] [] h (fun v h' => Wp X 7 107 25 [vr 89, vi x1, vi x2] (psh v []) h' Q)))))))))) : Wp X 7 107 0 [vr 89, vi x1, vi x2] [] h Q := by
  refine wp_iload rfl rfl ?_
  refine wp_call (k := 50) (ρ2 := 1) (L2 := [vi x1]) rfl rfl rfl (Nat.le_of_ble_eq_true rfl) (Nat.le_of_ble_eq_true rfl) (Nat.le_of_ble_eq_true rfl) (rcv_S rfl) rfl ?_
  refine wp_iload rfl rfl ?_
  refine wp_i2l rfl ?_
  refine wp_sipush rfl ?_
  refine wp_sipush rfl ?_
  refine wp_call (k := 48) (ρ2 := 0) (L2 := [vl x1, vu, vl 0, vu, vl 1, vu]) rfl rfl rfl (Nat.le_of_ble_eq_true rfl) (Nat.le_of_ble_eq_true rfl) (Nat.le_of_ble_eq_true rfl) (rcv_S rfl) rfl ?_
  refine wp_lload rfl rfl ?_
  refine wp_lload rfl rfl ?_
  refine wp_lcmp rfl ?_
  refine wp_iflt (tn := 17) rfl rfl (fun c1 => ?_) (fun c1 => ?_)
  · replace H := H.1 c1
    refine wp_iconst rfl ?_
    refine wp_zret rfl rfl (by decide) ?_
    show Wp X _ 50 7 [vi x1] [vi 0] _ _
    refine wp_zret rfl rfl (by decide) ?_
    show Wp X _ 107 4 [vr 89, vi x1, vi x2] [vi 0] _ _
    refine wp_ifeqT (tn := 28) rfl rfl (by decide) ?_
    refine wp_iconst rfl ?_
    exact wp_iret rfl rfl H
  · replace H := H.2 c1
    refine wp_lload rfl rfl ?_
    refine wp_lload rfl rfl ?_
    refine wp_lcmp rfl ?_
    refine wp_ifgt (tn := 17) rfl rfl (fun c2 => ?_) (fun c2 => ?_)
    · replace H := H.1 c2
      refine wp_iconst rfl ?_
      refine wp_zret rfl rfl (by decide) ?_
      show Wp X _ 50 7 [vi x1] [vi 0] _ _
      refine wp_zret rfl rfl (by decide) ?_
      show Wp X _ 107 4 [vr 89, vi x1, vi x2] [vi 0] _ _
      refine wp_ifeqT (tn := 28) rfl rfl (by decide) ?_
      refine wp_iconst rfl ?_
      exact wp_iret rfl rfl H
    · replace H := H.2 c2
      refine wp_iconst rfl ?_
      refine wp_goto (tn := 18) rfl rfl ?_
      refine wp_zret rfl rfl (by decide) ?_
      show Wp X _ 50 7 [vi x1] [vi 1] _ _
      refine wp_zret rfl rfl (by decide) ?_
      show Wp X _ 107 4 [vr 89, vi x1, vi x2] [vi 1] _ _
      refine wp_ifeqF (tn := 28) rfl rfl (by decide) ?_
      refine wp_iload rfl rfl ?_
      refine wp_i2l rfl ?_
      refine wp_sipush rfl ?_
      refine wp_sipush rfl ?_
      refine wp_call (k := 48) (ρ2 := 0) (L2 := [vl x2, vu, vl 0, vu, vl 2, vu]) rfl rfl rfl (Nat.le_of_ble_eq_true rfl) (Nat.le_of_ble_eq_true rfl) (Nat.le_of_ble_eq_true rfl) (rcv_S rfl) rfl ?_
      refine wp_lload rfl rfl ?_
      refine wp_lload rfl rfl ?_
      refine wp_lcmp rfl ?_
      refine wp_iflt (tn := 17) rfl rfl (fun c3 => ?_) (fun c3 => ?_)
      · replace H := H.1 c3
        refine wp_iconst rfl ?_
        refine wp_zret rfl rfl (by decide) ?_
        show Wp X _ 107 16 [vr 89, vi x1, vi x2] [vi 0] _ _
        refine wp_ifeqT (tn := 28) rfl rfl (by decide) ?_
        refine wp_iconst rfl ?_
        exact wp_iret rfl rfl H
      · replace H := H.2 c3
        refine wp_lload rfl rfl ?_
        refine wp_lload rfl rfl ?_
        refine wp_lcmp rfl ?_
        refine wp_ifgt (tn := 17) rfl rfl (fun c4 => ?_) (fun c4 => ?_)
        · replace H := H.1 c4
          refine wp_iconst rfl ?_
          refine wp_zret rfl rfl (by decide) ?_
          show Wp X _ 107 16 [vr 89, vi x1, vi x2] [vi 0] _ _
          refine wp_ifeqT (tn := 28) rfl rfl (by decide) ?_
          refine wp_iconst rfl ?_
          exact wp_iret rfl rfl H
        · replace H := H.2 c4
          refine wp_iconst rfl ?_
          refine wp_goto (tn := 18) rfl rfl ?_
          refine wp_zret rfl rfl (by decide) ?_
          show Wp X _ 107 16 [vr 89, vi x1, vi x2] [vi 1] _ _
          refine wp_ifeqF (tn := 28) rfl rfl (by decide) ?_
          refine wp_aload rfl rfl ?_
          refine wp_iload rfl rfl ?_
          refine wp_iload rfl rfl ?_
          exact wp_call (k := 106) (ρ2 := 6) (L2 := [vr 89, vi x1, vi x2, vu]) rfl rfl rfl (Nat.le_of_ble_eq_true rfl) (Nat.le_of_ble_eq_true rfl) (Nat.le_of_ble_eq_true rfl) (rcv_V rfl (congrArg Prod.fst (kf_89 X.1))) rfl H
/-- WarnLinesModel.warned(II)I, from 25 -/
theorem S107_89_25 {X : Nat × (Int → Int)} {h : HP} {Q : bQ} (zx0 : aV) (zx1 : aV) (zx2 : aV) (s0 : Int) (H : Q (some (vi s0)) h) : Wp X 7 107 25 [zx0, zx1, zx2] [vi s0] h Q := by
  refine wp_goto (tn := 30) rfl rfl ?_
  exact wp_iret rfl rfl H
/-- WarnLinesModel.odds(I)I, from 0 -/
theorem S108_89_0 {X : Nat × (Int → Int)} {h : HP} {Q : bQ} (x1 : Int) (H : (((lcp x1 0) < 0 → Q (some (vi (-2))) h) ∧ (0 ≤ (lcp x1 0) → ((0 < (lcp x1 3) → Q (some (vi (-2))) h) ∧ ((lcp x1 3) ≤ 0 → ((0 ≤ x1 ∧ x1 < 4) ∧ ((0 ≤ (h 90 x1) → ((8 ≤ (h 91 x1) → Wp X 2 108 50 [vr 89, vi x1, vl 0, vu, vi 1, vi 0] [] h Q) ∧ ((h 91 x1) < 8 → Q (some (vi (-12))) (upd2 h 89 4 2)))) ∧ ((h 90 x1) < 0 → Q (some (vi (-11))) (upd2 h 89 4 1))))))))) : Wp X 2 108 0 [vr 89, vi x1, vu, vu, vu, vu] [] h Q := by
  refine wp_iload rfl rfl ?_
  refine wp_call (k := 52) (ρ2 := 1) (L2 := [vi x1]) rfl rfl rfl (Nat.le_of_ble_eq_true rfl) (Nat.le_of_ble_eq_true rfl) (Nat.le_of_ble_eq_true rfl) (rcv_S rfl) rfl ?_
  refine wp_iload rfl rfl ?_
  refine wp_i2l rfl ?_
  refine wp_sipush rfl ?_
  refine wp_sipush rfl ?_
  refine wp_call (k := 48) (ρ2 := 0) (L2 := [vl x1, vu, vl 0, vu, vl 3, vu]) rfl rfl rfl (Nat.le_of_ble_eq_true rfl) (Nat.le_of_ble_eq_true rfl) (Nat.le_of_ble_eq_true rfl) (rcv_S rfl) rfl ?_
  refine wp_lload rfl rfl ?_
  refine wp_lload rfl rfl ?_
  refine wp_lcmp rfl ?_
  refine wp_iflt (tn := 17) rfl rfl (fun c1 => ?_) (fun c1 => ?_)
  · replace H := H.1 c1
    refine wp_iconst rfl ?_
    refine wp_zret rfl rfl (by decide) ?_
    show Wp X _ 52 9 [vi x1] [vi 0] _ _
    refine wp_zret rfl rfl (by decide) ?_
    show Wp X _ 108 4 [vr 89, vi x1, vu, vu, vu, vu] [vi 0] _ _
    refine wp_ifneF (tn := 10) rfl rfl (by decide) ?_
    refine wp_iconst rfl ?_
    exact wp_iret rfl rfl H
  · replace H := H.2 c1
    refine wp_lload rfl rfl ?_
    refine wp_lload rfl rfl ?_
    refine wp_lcmp rfl ?_
    refine wp_ifgt (tn := 17) rfl rfl (fun c2 => ?_) (fun c2 => ?_)
    · replace H := H.1 c2
      refine wp_iconst rfl ?_
      refine wp_zret rfl rfl (by decide) ?_
      show Wp X _ 52 9 [vi x1] [vi 0] _ _
      refine wp_zret rfl rfl (by decide) ?_
      show Wp X _ 108 4 [vr 89, vi x1, vu, vu, vu, vu] [vi 0] _ _
      refine wp_ifneF (tn := 10) rfl rfl (by decide) ?_
      refine wp_iconst rfl ?_
      exact wp_iret rfl rfl H
    · replace H := H.2 c2
      refine wp_iconst rfl ?_
      refine wp_goto (tn := 18) rfl rfl ?_
      refine wp_zret rfl rfl (by decide) ?_
      show Wp X _ 52 9 [vi x1] [vi 1] _ _
      refine wp_zret rfl rfl (by decide) ?_
      show Wp X _ 108 4 [vr 89, vi x1, vu, vu, vu, vu] [vi 1] _ _
      refine wp_ifneT (tn := 10) rfl rfl (by decide) ?_
      refine wp_aload rfl rfl ?_
      refine wp_getR (r := 89) rfl (congrArg Prod.fst (kf_89 X.1)) rfl ?_
      refine wp_iload rfl rfl ?_
      have g3 := H.1
      replace H := H.2
      refine wp_iaload rfl (kf_90 X.1) g3 ?_
      refine wp_ifge (tn := 25) rfl rfl (fun c4 => ?_) (fun c4 => ?_)
      · replace H := H.1 c4
        refine wp_aload rfl rfl ?_
        refine wp_getR (r := 90) rfl (congrArg Prod.fst (kf_89 X.1)) rfl ?_
        refine wp_iload rfl rfl ?_
        refine wp_iaload rfl (kf_91 X.1) ⟨g3.1, g3.2⟩ ?_
        refine wp_iconst rfl ?_
        refine wp_icge (tn := 42) rfl rfl (fun c5 => ?_) (fun c5 => ?_)
        · replace H := H.1 c5
          refine wp_sipush rfl ?_
          refine wp_lstore (L2 := [vr 89, vi x1, vl 0, vu, vu, vu]) rfl (Nat.le_of_ble_eq_true rfl) rfl ?_
          refine wp_iconst rfl ?_
          refine wp_istore (L2 := [vr 89, vi x1, vl 0, vu, vi 1, vu]) rfl (Nat.le_of_ble_eq_true rfl) rfl ?_
          refine wp_iconst rfl ?_
          refine wp_istore (L2 := [vr 89, vi x1, vl 0, vu, vi 1, vi 0]) rfl (Nat.le_of_ble_eq_true rfl) rfl ?_
          exact H
        · replace H := H.2 c5
          refine wp_aload rfl rfl ?_
          refine wp_iconst rfl ?_
          refine wp_call (k := 51) (ρ2 := 0) (L2 := [vr 89, vi 2]) rfl rfl rfl (Nat.le_of_ble_eq_true rfl) (Nat.le_of_ble_eq_true rfl) (Nat.le_of_ble_eq_true rfl) (rcv_V rfl (congrArg Prod.fst (kf_89 X.1))) rfl ?_
          refine wp_aload rfl rfl ?_
          refine wp_iload rfl rfl ?_
          refine wp_putI (j := 4) rfl (congrArg Prod.fst (kf_89 X.1)) rfl rfl rfl ?_
          refine wp_iconst rfl ?_
          refine wp_iload rfl rfl ?_
          refine wp_isub rfl ?_
          refine Wp.topI (y := (-12)) (by decide) ?_
          refine wp_iret rfl rfl ?_
          show Wp X _ 108 41 [vr 89, vi x1, vu, vu, vu, vu] [vi (-12)] _ _
          exact wp_iret rfl rfl H
      · replace H := H.2 c4
        refine wp_aload rfl rfl ?_
        refine wp_iconst rfl ?_
        refine wp_call (k := 51) (ρ2 := 0) (L2 := [vr 89, vi 1]) rfl rfl rfl (Nat.le_of_ble_eq_true rfl) (Nat.le_of_ble_eq_true rfl) (Nat.le_of_ble_eq_true rfl) (rcv_V rfl (congrArg Prod.fst (kf_89 X.1))) rfl ?_
        refine wp_aload rfl rfl ?_
        refine wp_iload rfl rfl ?_
        refine wp_putI (j := 4) rfl (congrArg Prod.fst (kf_89 X.1)) rfl rfl rfl ?_
        refine wp_iconst rfl ?_
        refine wp_iload rfl rfl ?_
        refine wp_isub rfl ?_
        refine Wp.topI (y := (-11)) (by decide) ?_
        refine wp_iret rfl rfl ?_
        show Wp X _ 108 24 [vr 89, vi x1, vu, vu, vu, vu] [vi (-11)] _ _
        exact wp_iret rfl rfl H
/-- WarnLinesModel.odds(I)I, from 50 -/
theorem S108_89_50 {X : Nat × (Int → Int)} {h : HP} {Q : bQ} (x1 : Int) (x2 : Int) (x4 : Int) (x5 : Int) (H : ((8 ≤ x5 → ((x4 = 0 → Q (some (vi (-3))) h) ∧ (x4 ≠ 0 → (((lcp x2 64) = 0 → Wp X 2 108 125 [vr 89, vi x1, vl x2, vu, vi x4, vi 0] [] h Q) ∧ ((lcp x2 64) ≠ 0 → Q (some (vi (-3))) h))))) ∧ (x5 < 8 → ((x4 = 0 → ((R32 (60 * x1)) ∧ ((R32 ((60 * x1) + x5)) ∧ ((0 ≤ ((60 * x1) + x5) ∧ ((60 * x1) + x5) < 240) ∧ ((R64 (x2 + (h 92 ((60 * x1) + x5)))) ∧ ((R32 (x5 + 1)) ∧ Wp X 2 108 50 [vr 89, vi x1, vl (x2 + (h 92 ((60 * x1) + x5))), vu, vi 0, vi (x5 + 1)] [] h Q)))))) ∧ (x4 ≠ 0 → ((R32 (60 * x1)) ∧ ((R32 ((60 * x1) + x5)) ∧ ((0 ≤ ((60 * x1) + x5) ∧ ((60 * x1) + x5) < 240) ∧ (((h 92 ((60 * x1) + x5)) < 0 → ((R64 (x2 + (h 92 ((60 * x1) + x5)))) ∧ ((R32 (x5 + 1)) ∧ Wp X 2 108 50 [vr 89, vi x1, vl (x2 + (h 92 ((60 * x1) + x5))), vu, vi 0, vi (x5 + 1)] [] h Q))) ∧ (0 ≤ (h 92 ((60 * x1) + x5)) → ((R64 (x2 + (h 92 ((60 * x1) + x5)))) ∧ ((R32 (x5 + 1)) ∧ Wp X 2 108 50 [vr 89, vi x1, vl (x2 + (h 92 ((60 * x1) + x5))), vu, vi 1, vi (x5 + 1)] [] h Q)))))))))))) : Wp X 2 108 50 [vr 89, vi x1, vl x2, vu, vi x4, vi x5] [] h Q := by
  refine wp_iload rfl rfl ?_
  refine wp_iconst rfl ?_
  refine wp_icge (tn := 106) rfl rfl (fun c1 => ?_) (fun c1 => ?_)
  · replace H := H.1 c1
    refine wp_iload rfl rfl ?_
    refine wp_ifeq (tn := 119) rfl rfl (fun c2 => ?_) (fun c2 => ?_)
    · replace H := H.1 c2
      refine wp_iconst rfl ?_
      exact wp_iret rfl rfl H
    · replace H := H.2 c2
      refine wp_lload rfl rfl ?_
      refine wp_sipush rfl ?_
      refine wp_lcmp rfl ?_
      refine wp_ifeq (tn := 122) rfl rfl (fun c3 => ?_) (fun c3 => ?_)
      · replace H := H.1 c3
        refine wp_iconst rfl ?_
        refine wp_istore (L2 := [vr 89, vi x1, vl x2, vu, vi x4, vi 0]) rfl (Nat.le_of_ble_eq_true rfl) rfl ?_
        exact H
      · replace H := H.2 c3
        refine wp_iconst rfl ?_
        exact wp_iret rfl rfl H
  · replace H := H.2 c1
    refine wp_iload rfl rfl ?_
    refine wp_ifeq (tn := 81) rfl rfl (fun c4 => ?_) (fun c4 => ?_)
    · replace H := H.1 c4
      refine wp_iconst rfl ?_
      refine wp_istore (L2 := [vr 89, vi x1, vl x2, vu, vi 0, vi x5]) rfl (Nat.le_of_ble_eq_true rfl) rfl ?_
      refine wp_lload rfl rfl ?_
      refine wp_aload rfl rfl ?_
      refine wp_getR (r := 91) rfl (congrArg Prod.fst (kf_89 X.1)) rfl ?_
      refine wp_iconst rfl ?_
      refine wp_iload rfl rfl ?_
      refine wp_imul rfl ?_
      have g5 := H.1
      replace H := H.2
      refine Wp.topI (y := (60 * x1)) (w32_I g5) ?_
      refine wp_iload rfl rfl ?_
      refine wp_iadd rfl ?_
      have g6 := H.1
      replace H := H.2
      refine Wp.topI (y := ((60 * x1) + x5)) (w32_I g6) ?_
      have g7 := H.1
      replace H := H.2
      refine wp_iaload rfl (kf_92 X.1) g7 ?_
      refine wp_i2l rfl ?_
      refine wp_ladd rfl ?_
      have g8 := H.1
      replace H := H.2
      refine Wp.topL (y := (x2 + (h 92 ((60 * x1) + x5)))) (w64_I g8) ?_
      refine wp_lstore (L2 := [vr 89, vi x1, vl (x2 + (h 92 ((60 * x1) + x5))), vu, vi 0, vi x5]) rfl (Nat.le_of_ble_eq_true rfl) rfl ?_
      have g9 := H.1
      replace H := H.2
      refine wp_iincR (L2 := [vr 89, vi x1, vl (x2 + (h 92 ((60 * x1) + x5))), vu, vi 0, vi (x5 + 1)]) rfl rfl g9 rfl ?_
      refine wp_goto (tn := 50) rfl rfl ?_
      exact H
    · replace H := H.2 c4
      refine wp_aload rfl rfl ?_
      refine wp_getR (r := 91) rfl (congrArg Prod.fst (kf_89 X.1)) rfl ?_
      refine wp_iconst rfl ?_
      refine wp_iload rfl rfl ?_
      refine wp_imul rfl ?_
      have g10 := H.1
      replace H := H.2
      refine Wp.topI (y := (60 * x1)) (w32_I g10) ?_
      refine wp_iload rfl rfl ?_
      refine wp_iadd rfl ?_
      have g11 := H.1
      replace H := H.2
      refine Wp.topI (y := ((60 * x1) + x5)) (w32_I g11) ?_
      have g12 := H.1
      replace H := H.2
      refine wp_iaload rfl (kf_92 X.1) g12 ?_
      refine wp_iflt (tn := 81) rfl rfl (fun c13 => ?_) (fun c13 => ?_)
      · replace H := H.1 c13
        refine wp_iconst rfl ?_
        refine wp_istore (L2 := [vr 89, vi x1, vl x2, vu, vi 0, vi x5]) rfl (Nat.le_of_ble_eq_true rfl) rfl ?_
        refine wp_lload rfl rfl ?_
        refine wp_aload rfl rfl ?_
        refine wp_getR (r := 91) rfl (congrArg Prod.fst (kf_89 X.1)) rfl ?_
        refine wp_iconst rfl ?_
        refine wp_iload rfl rfl ?_
        refine wp_imul rfl ?_
        refine Wp.topI (y := (60 * x1)) (w32_I g10) ?_
        refine wp_iload rfl rfl ?_
        refine wp_iadd rfl ?_
        refine Wp.topI (y := ((60 * x1) + x5)) (w32_I (by clear H; unfold R32; omega)) ?_
        refine wp_iaload rfl (kf_92 X.1) ⟨g12.1, g12.2⟩ ?_
        refine wp_i2l rfl ?_
        refine wp_ladd rfl ?_
        have g14 := H.1
        replace H := H.2
        refine Wp.topL (y := (x2 + (h 92 ((60 * x1) + x5)))) (w64_I g14) ?_
        refine wp_lstore (L2 := [vr 89, vi x1, vl (x2 + (h 92 ((60 * x1) + x5))), vu, vi 0, vi x5]) rfl (Nat.le_of_ble_eq_true rfl) rfl ?_
        have g15 := H.1
        replace H := H.2
        refine wp_iincR (L2 := [vr 89, vi x1, vl (x2 + (h 92 ((60 * x1) + x5))), vu, vi 0, vi (x5 + 1)]) rfl rfl g15 rfl ?_
        refine wp_goto (tn := 50) rfl rfl ?_
        exact H
      · replace H := H.2 c13
        refine wp_iconst rfl ?_
        refine wp_goto (tn := 82) rfl rfl ?_
        refine wp_istore (L2 := [vr 89, vi x1, vl x2, vu, vi 1, vi x5]) rfl (Nat.le_of_ble_eq_true rfl) rfl ?_
        refine wp_lload rfl rfl ?_
        refine wp_aload rfl rfl ?_
        refine wp_getR (r := 91) rfl (congrArg Prod.fst (kf_89 X.1)) rfl ?_
        refine wp_iconst rfl ?_
        refine wp_iload rfl rfl ?_
        refine wp_imul rfl ?_
        refine Wp.topI (y := (60 * x1)) (w32_I g10) ?_
        refine wp_iload rfl rfl ?_
        refine wp_iadd rfl ?_
        refine Wp.topI (y := ((60 * x1) + x5)) (w32_I (by clear H; unfold R32; omega)) ?_
        refine wp_iaload rfl (kf_92 X.1) ⟨g12.1, g12.2⟩ ?_
        refine wp_i2l rfl ?_
        refine wp_ladd rfl ?_
        have g16 := H.1
        replace H := H.2
        refine Wp.topL (y := (x2 + (h 92 ((60 * x1) + x5)))) (w64_I g16) ?_
        refine wp_lstore (L2 := [vr 89, vi x1, vl (x2 + (h 92 ((60 * x1) + x5))), vu, vi 1, vi x5]) rfl (Nat.le_of_ble_eq_true rfl) rfl ?_
        have g17 := H.1
        replace H := H.2
        refine wp_iincR (L2 := [vr 89, vi x1, vl (x2 + (h 92 ((60 * x1) + x5))), vu, vi 1, vi (x5 + 1)]) rfl rfl g17 rfl ?_
        refine wp_goto (tn := 50) rfl rfl ?_
        exact H
/-- WarnLinesModel.odds(I)I, from 125 -/
theorem S108_89_125 {X : Nat × (Int → Int)} {h : HP} {Q : bQ} (x1 : Int) (zx2 : aV) (zx4 : aV) (x5 : Int) (H : ((8 ≤ x5 → Q (some (vi 1)) h) ∧ (x5 < 8 → ((R32 (60 * x1)) ∧ ((R32 ((60 * x1) + x5)) ∧ ((0 ≤ ((60 * x1) + x5) ∧ ((60 * x1) + x5) < 240) ∧ ((0 ≤ x5 ∧ x5 < 8) ∧ Wp X 2 108 125 [vr 89, vi x1, zx2, vu, (clr1 zx4), vi (x5 + 1)] [] (upd2 h 111 x5 (h 92 ((60 * x1) + x5))) Q))))))) : Wp X 2 108 125 [vr 89, vi x1, zx2, vu, zx4, vi x5] [] h Q := by
  refine wp_iload rfl rfl ?_
  refine wp_iconst rfl ?_
  refine wp_icge (tn := 157) rfl rfl (fun c1 => ?_) (fun c1 => ?_)
  · replace H := H.1 c1
    refine wp_iconst rfl ?_
    exact wp_iret rfl rfl H
  · replace H := H.2 c1
    refine wp_aload rfl rfl ?_
    refine wp_getR (r := 110) rfl (congrArg Prod.fst (kf_89 X.1)) rfl ?_
    refine wp_iload rfl rfl ?_
    refine wp_aload rfl rfl ?_
    refine wp_getR (r := 91) rfl (congrArg Prod.fst (kf_89 X.1)) rfl ?_
    refine wp_iconst rfl ?_
    refine wp_iload rfl rfl ?_
    refine wp_imul rfl ?_
    have g2 := H.1
    replace H := H.2
    refine Wp.topI (y := (60 * x1)) (w32_I g2) ?_
    refine wp_iload rfl rfl ?_
    refine wp_iadd rfl ?_
    have g3 := H.1
    replace H := H.2
    refine Wp.topI (y := ((60 * x1) + x5)) (w32_I g3) ?_
    have g4 := H.1
    replace H := H.2
    refine wp_iaload rfl (kf_92 X.1) g4 ?_
    have g5 := H.1
    replace H := H.2
    refine wp_iastore rfl (kf_111 X.1) g5 ?_
    refine wp_iincR (L2 := [vr 89, vi x1, zx2, vu, (clr1 zx4), vi (x5 + 1)]) rfl rfl (by clear H; unfold R32; omega) rfl ?_
    refine wp_goto (tn := 125) rfl rfl ?_
    exact H
/-- WarnLinesModel.oddsOf(I)I, from 0 -/
theorem S109_89_0 {X : Nat × (Int → Int)} {h : HP} {Q : bQ} (x1 : Int) (H : (((lcp x1 0) < 0 → Q (some (vi (-2))) h) ∧ (0 ≤ (lcp x1 0) → ((0 < (lcp x1 7) → Q (some (vi (-2))) h) ∧ ((lcp x1 7) ≤ 0 → ((0 ≤ x1 ∧ x1 < 8) ∧ Q (some (vi (h 111 x1))) h)))))) : Wp X 1 109 0 [vr 89, vi x1] [] h Q := by
  refine wp_iload rfl rfl ?_
  refine wp_i2l rfl ?_
  refine wp_sipush rfl ?_
  refine wp_sipush rfl ?_
  refine wp_call (k := 48) (ρ2 := 0) (L2 := [vl x1, vu, vl 0, vu, vl 7, vu]) rfl rfl rfl (Nat.le_of_ble_eq_true rfl) (Nat.le_of_ble_eq_true rfl) (Nat.le_of_ble_eq_true rfl) (rcv_S rfl) rfl ?_
  refine wp_lload rfl rfl ?_
  refine wp_lload rfl rfl ?_
  refine wp_lcmp rfl ?_
  refine wp_iflt (tn := 17) rfl rfl (fun c1 => ?_) (fun c1 => ?_)
  · replace H := H.1 c1
    refine wp_iconst rfl ?_
    refine wp_zret rfl rfl (by decide) ?_
    show Wp X _ 109 9 [vr 89, vi x1] [vi 0] _ _
    refine wp_ifeqT (tn := 21) rfl rfl (by decide) ?_
    refine wp_iconst rfl ?_
    exact wp_iret rfl rfl H
  · replace H := H.2 c1
    refine wp_lload rfl rfl ?_
    refine wp_lload rfl rfl ?_
    refine wp_lcmp rfl ?_
    refine wp_ifgt (tn := 17) rfl rfl (fun c2 => ?_) (fun c2 => ?_)
    · replace H := H.1 c2
      refine wp_iconst rfl ?_
      refine wp_zret rfl rfl (by decide) ?_
      show Wp X _ 109 9 [vr 89, vi x1] [vi 0] _ _
      refine wp_ifeqT (tn := 21) rfl rfl (by decide) ?_
      refine wp_iconst rfl ?_
      exact wp_iret rfl rfl H
    · replace H := H.2 c2
      refine wp_iconst rfl ?_
      refine wp_goto (tn := 18) rfl rfl ?_
      refine wp_zret rfl rfl (by decide) ?_
      show Wp X _ 109 9 [vr 89, vi x1] [vi 1] _ _
      refine wp_ifeqF (tn := 21) rfl rfl (by decide) ?_
      refine wp_aload rfl rfl ?_
      refine wp_getR (r := 110) rfl (congrArg Prod.fst (kf_89 X.1)) rfl ?_
      refine wp_iload rfl rfl ?_
      have g3 := H.1
      replace H := H.2
      refine wp_iaload rfl (kf_111 X.1) g3 ?_
      refine wp_goto (tn := 23) rfl rfl ?_
      exact wp_iret rfl rfl H
/-- WarnLinesModel.isWarned(II)Z, from 0 -/
theorem S112_89_0 {X : Nat × (Int → Int)} {h : HP} {Q : bQ} (x1 : Int) (x2 : Int) (H : Wp X 1 112 2 [vr 89, vi x1, vi x2, vi 0, vu, vu, vu, vu, vu, vu] [] h Q) : Wp X 1 112 0 [vr 89, vi x1, vi x2, vu, vu, vu, vu, vu, vu, vu] [] h Q := by
  refine wp_iconst rfl ?_
  refine wp_istore (L2 := [vr 89, vi x1, vi x2, vi 0, vu, vu, vu, vu, vu, vu]) rfl (Nat.le_of_ble_eq_true rfl) rfl ?_
  exact H
/-- WarnLinesModel.isWarned(II)Z, from 2 -/
theorem S112_89_2 {X : Nat × (Int → Int)} {h : HP} {Q : bQ} (x1 : Int) (x2 : Int) (x3 : Int) (zx4 : aV) (zx5 : aV) (zx6 : aV) (zx7 : aV) (zx8 : aV) (zx9 : aV) (H : (((h 89 24) ≤ x3 → Q (some (vi 0)) h) ∧ (x3 < (h 89 24) → Wp X 1 112 25 [vr 89, vi x1, vi x2, vi x3, vi 0, vi 0, vi x1, vi x2, vi 0, zx9] [] h Q))) : Wp X 1 112 2 [vr 89, vi x1, vi x2, vi x3, zx4, zx5, zx6, zx7, zx8, zx9] [] h Q := by
  refine wp_iload rfl rfl ?_
  refine wp_aload rfl rfl ?_
  refine wp_getI (j := 24) rfl (congrArg Prod.fst (kf_89 X.1)) rfl ?_
  refine wp_icge (tn := 153) rfl rfl (fun c1 => ?_) (fun c1 => ?_)
  · replace H := H.1 c1
    refine wp_iconst rfl ?_
    exact wp_zret rfl rfl (by decide) H
  · replace H := H.2 c1
    refine wp_iconst rfl ?_
    refine wp_istore (L2 := [vr 89, vi x1, vi x2, vi x3, vi 0, zx5, zx6, zx7, zx8, zx9]) rfl (Nat.le_of_ble_eq_true rfl) rfl ?_
    refine wp_iconst rfl ?_
    refine wp_istore (L2 := [vr 89, vi x1, vi x2, vi x3, vi 0, vi 0, zx6, zx7, zx8, zx9]) rfl (Nat.le_of_ble_eq_true rfl) rfl ?_
    refine wp_iload rfl rfl ?_
    refine wp_istore (L2 := [vr 89, vi x1, vi x2, vi x3, vi 0, vi 0, vi x1, zx7, zx8, zx9]) rfl (Nat.le_of_ble_eq_true rfl) rfl ?_
    refine wp_iload rfl rfl ?_
    refine wp_istore (L2 := [vr 89, vi x1, vi x2, vi x3, vi 0, vi 0, vi x1, vi x2, zx8, zx9]) rfl (Nat.le_of_ble_eq_true rfl) rfl ?_
    refine wp_iconst rfl ?_
    refine wp_istore (L2 := [vr 89, vi x1, vi x2, vi x3, vi 0, vi 0, vi x1, vi x2, vi 0, zx9]) rfl (Nat.le_of_ble_eq_true rfl) rfl ?_
    exact H
/-- WarnLinesModel.isWarned(II)Z, from 25 -/
theorem S112_89_25 {X : Nat × (Int → Int)} {h : HP} {Q : bQ} (x1 : Int) (x2 : Int) (x3 : Int) (x4 : Int) (x5 : Int) (x6 : Int) (x7 : Int) (x8 : Int) (zx9 : aV) (H : ((0 ≤ x3 ∧ x3 < 8) ∧ (((h 107 x3) ≤ x8 → (((h 106 x3) ≤ x4 → Q (some (vi 1)) h) ∧ (x4 < (h 106 x3) → ((x5 < (h 106 x3) → Wp X 1 112 2 [vr 89, vi x1, vi x2, vi (x3 + 1), vi x4, vi x5, vi x6, vi x7, vi x8, zx9] [] h Q) ∧ ((h 106 x3) ≤ x5 → Q (some (vi 1)) h))))) ∧ (x8 < (h 107 x3) → ((4 ≤ x7 → ((R32 (x7 - 4)) ∧ (((x7 - 4) < (h 108 x3) → ((R32 (x4 + 0)) ∧ ((R32 (x5 + 0)) ∧ ((R32 (Int.tdiv x6 9)) ∧ ((R32 (x8 + 1)) ∧ Wp X 1 112 25 [vr 89, vi x1, vi x2, vi x3, vi (x4 + 0), vi (x5 + 0), vi (Int.tdiv x6 9), vi (Int.tmod x6 9), vi (x8 + 1), vi 0] [] h Q))))) ∧ ((h 108 x3) ≤ (x7 - 4) → ((x7 ≠ 8 → ((R32 (x4 + 1)) ∧ ((R32 (x5 + 0)) ∧ ((R32 (Int.tdiv x6 9)) ∧ ((R32 (x8 + 1)) ∧ Wp X 1 112 25 [vr 89, vi x1, vi x2, vi x3, vi (x4 + 1), vi (x5 + 0), vi (Int.tdiv x6 9), vi (Int.tmod x6 9), vi (x8 + 1), vi 1] [] h Q))))) ∧ (x7 = 8 → ((R32 (x4 + 0)) ∧ ((R32 (x5 + 0)) ∧ ((R32 (Int.tdiv x6 9)) ∧ ((R32 (x8 + 1)) ∧ Wp X 1 112 25 [vr 89, vi x1, vi x2, vi x3, vi (x4 + 0), vi (x5 + 0), vi (Int.tdiv x6 9), vi (Int.tmod x6 9), vi (x8 + 1), vi 1] [] h Q)))))))))) ∧ (x7 < 4 → ((R32 (3 - x7)) ∧ (((3 - x7) < (h 108 x3) → ((R32 (x4 + 0)) ∧ ((R32 (x5 + 0)) ∧ ((R32 (Int.tdiv x6 9)) ∧ ((R32 (x8 + 1)) ∧ Wp X 1 112 25 [vr 89, vi x1, vi x2, vi x3, vi (x4 + 0), vi (x5 + 0), vi (Int.tdiv x6 9), vi (Int.tmod x6 9), vi (x8 + 1), vi 0] [] h Q))))) ∧ ((h 108 x3) ≤ (3 - x7) → ((R32 (x4 + 0)) ∧ ((R32 (x5 + 1)) ∧ ((R32 (Int.tdiv x6 9)) ∧ ((R32 (x8 + 1)) ∧ Wp X 1 112 25 [vr 89, vi x1, vi x2, vi x3, vi (x4 + 0), vi (x5 + 1), vi (Int.tdiv x6 9), vi (Int.tmod x6 9), vi (x8 + 1), vi 1] [] h Q))))))))))))) : Wp X 1 112 25 [vr 89, vi x1, vi x2, vi x3, vi x4, vi x5, vi x6, vi x7, vi x8, zx9] [] h Q := by
  refine wp_iload rfl rfl ?_
  refine wp_aload rfl rfl ?_
  refine wp_getR (r := 106) rfl (congrArg Prod.fst (kf_89 X.1)) rfl ?_
  refine wp_iload rfl rfl ?_
  have g1 := H.1
  replace H := H.2
  refine wp_iaload rfl (kf_107 X.1) g1 ?_
  refine wp_icge (tn := 123) rfl rfl (fun c2 => ?_) (fun c2 => ?_)
  · replace H := H.1 c2
    refine wp_iload rfl rfl ?_
    refine wp_aload rfl rfl ?_
    refine wp_getR (r := 105) rfl (congrArg Prod.fst (kf_89 X.1)) rfl ?_
    refine wp_iload rfl rfl ?_
    refine wp_iaload rfl (kf_106 X.1) ⟨g1.1, g1.2⟩ ?_
    refine wp_icge (tn := 145) rfl rfl (fun c3 => ?_) (fun c3 => ?_)
    · replace H := H.1 c3
      refine wp_iconst rfl ?_
      exact wp_zret rfl rfl (by decide) H
    · replace H := H.2 c3
      refine wp_iload rfl rfl ?_
      refine wp_aload rfl rfl ?_
      refine wp_getR (r := 105) rfl (congrArg Prod.fst (kf_89 X.1)) rfl ?_
      refine wp_iload rfl rfl ?_
      refine wp_iaload rfl (kf_106 X.1) ⟨g1.1, g1.2⟩ ?_
      refine wp_iclt (tn := 147) rfl rfl (fun c4 => ?_) (fun c4 => ?_)
      · replace H := H.1 c4
        refine wp_iincR (L2 := [vr 89, vi x1, vi x2, vi (x3 + 1), vi x4, vi x5, vi x6, vi x7, vi x8, zx9]) rfl rfl (by clear H; unfold R32; omega) rfl ?_
        refine wp_goto (tn := 2) rfl rfl ?_
        exact H
      · replace H := H.2 c4
        refine wp_iconst rfl ?_
        exact wp_zret rfl rfl (by decide) H
  · replace H := H.2 c2
    refine wp_iload rfl rfl ?_
    refine wp_call (k := 111) (ρ2 := 0) (L2 := [vi x7]) rfl rfl rfl (Nat.le_of_ble_eq_true rfl) (Nat.le_of_ble_eq_true rfl) (Nat.le_of_ble_eq_true rfl) (rcv_S rfl) rfl ?_
    refine wp_iload rfl rfl ?_
    refine wp_iconst rfl ?_
    refine wp_icge (tn := 11) rfl rfl (fun c5 => ?_) (fun c5 => ?_)
    · replace H := H.1 c5
      refine wp_iload rfl rfl ?_
      refine wp_iconst rfl ?_
      refine wp_isub rfl ?_
      have g6 := H.1
      replace H := H.2
      refine Wp.topI (y := (x7 - 4)) (w32_I g6) ?_
      refine wp_iret rfl rfl ?_
      show Wp X _ 112 41 [vr 89, vi x1, vi x2, vi x3, vi x4, vi x5, vi x6, vi x7, vi x8, zx9] [vi (x7 - 4)] _ _
      refine wp_aload rfl rfl ?_
      refine wp_getR (r := 107) rfl (congrArg Prod.fst (kf_89 X.1)) rfl ?_
      refine wp_iload rfl rfl ?_
      refine wp_iaload rfl (kf_108 X.1) ⟨g1.1, g1.2⟩ ?_
      refine wp_iclt (tn := 54) rfl rfl (fun c7 => ?_) (fun c7 => ?_)
      · replace H := H.1 c7
        refine wp_iconst rfl ?_
        refine wp_istore (L2 := [vr 89, vi x1, vi x2, vi x3, vi x4, vi x5, vi x6, vi x7, vi x8, vi 0]) rfl (Nat.le_of_ble_eq_true rfl) rfl ?_
        refine wp_iload rfl rfl ?_
        refine wp_iload rfl rfl ?_
        refine wp_ifeqT (tn := 76) rfl rfl (by decide) ?_
        refine wp_iconst rfl ?_
        refine wp_iadd rfl ?_
        have g8 := H.1
        replace H := H.2
        refine Wp.topI (y := (x4 + 0)) (w32_I g8) ?_
        refine wp_istore (L2 := [vr 89, vi x1, vi x2, vi x3, vi (x4 + 0), vi x5, vi x6, vi x7, vi x8, vi 0]) rfl (Nat.le_of_ble_eq_true rfl) rfl ?_
        refine wp_iload rfl rfl ?_
        refine wp_iload rfl rfl ?_
        refine wp_ifeqT (tn := 99) rfl rfl (by decide) ?_
        refine wp_iconst rfl ?_
        refine wp_iadd rfl ?_
        have g9 := H.1
        replace H := H.2
        refine Wp.topI (y := (x5 + 0)) (w32_I g9) ?_
        refine wp_istore (L2 := [vr 89, vi x1, vi x2, vi x3, vi (x4 + 0), vi (x5 + 0), vi x6, vi x7, vi x8, vi 0]) rfl (Nat.le_of_ble_eq_true rfl) rfl ?_
        refine wp_iload rfl rfl ?_
        refine wp_iconst rfl ?_
        refine wp_irem rfl (by decide) ?_
        refine wp_istore (L2 := [vr 89, vi x1, vi x2, vi x3, vi (x4 + 0), vi (x5 + 0), vi x6, vi (Int.tmod x6 9), vi x8, vi 0]) rfl (Nat.le_of_ble_eq_true rfl) rfl ?_
        refine wp_iload rfl rfl ?_
        refine wp_iconst rfl ?_
        refine wp_idiv rfl (by decide) ?_
        have g10 := H.1
        replace H := H.2
        refine Wp.topI (y := (Int.tdiv x6 9)) (w32_I g10) ?_
        refine wp_istore (L2 := [vr 89, vi x1, vi x2, vi x3, vi (x4 + 0), vi (x5 + 0), vi (Int.tdiv x6 9), vi (Int.tmod x6 9), vi x8, vi 0]) rfl (Nat.le_of_ble_eq_true rfl) rfl ?_
        have g11 := H.1
        replace H := H.2
        refine wp_iincR (L2 := [vr 89, vi x1, vi x2, vi x3, vi (x4 + 0), vi (x5 + 0), vi (Int.tdiv x6 9), vi (Int.tmod x6 9), vi (x8 + 1), vi 0]) rfl rfl g11 rfl ?_
        refine wp_goto (tn := 25) rfl rfl ?_
        exact H
      · replace H := H.2 c7
        refine wp_iconst rfl ?_
        refine wp_goto (tn := 55) rfl rfl ?_
        refine wp_istore (L2 := [vr 89, vi x1, vi x2, vi x3, vi x4, vi x5, vi x6, vi x7, vi x8, vi 1]) rfl (Nat.le_of_ble_eq_true rfl) rfl ?_
        refine wp_iload rfl rfl ?_
        refine wp_iload rfl rfl ?_
        refine wp_ifeqF (tn := 76) rfl rfl (by decide) ?_
        refine wp_iload rfl rfl ?_
        refine wp_call (k := 110) (ρ2 := 0) (L2 := [vi x7]) rfl rfl rfl (Nat.le_of_ble_eq_true rfl) (Nat.le_of_ble_eq_true rfl) (Nat.le_of_ble_eq_true rfl) (rcv_S rfl) rfl ?_
        refine wp_iload rfl rfl ?_
        refine wp_iconst rfl ?_
        refine wp_icne (tn := 10) rfl rfl (fun c12 => ?_) (fun c12 => ?_)
        · replace H := H.1 c12
          refine wp_iload rfl rfl ?_
          refine wp_iconst rfl ?_
          refine wp_icgeT (tn := 19) rfl rfl c5 ?_
          refine wp_iconst rfl ?_
          refine wp_iret rfl rfl ?_
          show Wp X _ 112 69 [vr 89, vi x1, vi x2, vi x3, vi x4, vi x5, vi x6, vi x7, vi x8, vi 1] [vi 1, vi x4] _ _
          refine wp_ifleF (tn := 76) rfl rfl (by decide) ?_
          refine wp_iconst rfl ?_
          refine wp_goto (tn := 77) rfl rfl ?_
          refine wp_iadd rfl ?_
          have g13 := H.1
          replace H := H.2
          refine Wp.topI (y := (x4 + 1)) (w32_I g13) ?_
          refine wp_istore (L2 := [vr 89, vi x1, vi x2, vi x3, vi (x4 + 1), vi x5, vi x6, vi x7, vi x8, vi 1]) rfl (Nat.le_of_ble_eq_true rfl) rfl ?_
          refine wp_iload rfl rfl ?_
          refine wp_iload rfl rfl ?_
          refine wp_ifeqF (tn := 99) rfl rfl (by decide) ?_
          refine wp_iload rfl rfl ?_
          refine wp_call (k := 110) (ρ2 := 0) (L2 := [vi x7]) rfl rfl rfl (Nat.le_of_ble_eq_true rfl) (Nat.le_of_ble_eq_true rfl) (Nat.le_of_ble_eq_true rfl) (rcv_S rfl) rfl ?_
          refine wp_iload rfl rfl ?_
          refine wp_iconst rfl ?_
          refine wp_icneT (tn := 10) rfl rfl c12 ?_
          refine wp_iload rfl rfl ?_
          refine wp_iconst rfl ?_
          refine wp_icgeT (tn := 19) rfl rfl c5 ?_
          refine wp_iconst rfl ?_
          refine wp_iret rfl rfl ?_
          show Wp X _ 112 92 [vr 89, vi x1, vi x2, vi x3, vi (x4 + 1), vi x5, vi x6, vi x7, vi x8, vi 1] [vi 1, vi x5] _ _
          refine wp_ifgeT (tn := 99) rfl rfl (by decide) ?_
          refine wp_iconst rfl ?_
          refine wp_iadd rfl ?_
          have g14 := H.1
          replace H := H.2
          refine Wp.topI (y := (x5 + 0)) (w32_I g14) ?_
          refine wp_istore (L2 := [vr 89, vi x1, vi x2, vi x3, vi (x4 + 1), vi (x5 + 0), vi x6, vi x7, vi x8, vi 1]) rfl (Nat.le_of_ble_eq_true rfl) rfl ?_
          refine wp_iload rfl rfl ?_
          refine wp_iconst rfl ?_
          refine wp_irem rfl (by decide) ?_
          refine wp_istore (L2 := [vr 89, vi x1, vi x2, vi x3, vi (x4 + 1), vi (x5 + 0), vi x6, vi (Int.tmod x6 9), vi x8, vi 1]) rfl (Nat.le_of_ble_eq_true rfl) rfl ?_
          refine wp_iload rfl rfl ?_
          refine wp_iconst rfl ?_
          refine wp_idiv rfl (by decide) ?_
          have g15 := H.1
          replace H := H.2
          refine Wp.topI (y := (Int.tdiv x6 9)) (w32_I g15) ?_
          refine wp_istore (L2 := [vr 89, vi x1, vi x2, vi x3, vi (x4 + 1), vi (x5 + 0), vi (Int.tdiv x6 9), vi (Int.tmod x6 9), vi x8, vi 1]) rfl (Nat.le_of_ble_eq_true rfl) rfl ?_
          have g16 := H.1
          replace H := H.2
          refine wp_iincR (L2 := [vr 89, vi x1, vi x2, vi x3, vi (x4 + 1), vi (x5 + 0), vi (Int.tdiv x6 9), vi (Int.tmod x6 9), vi (x8 + 1), vi 1]) rfl rfl g16 rfl ?_
          refine wp_goto (tn := 25) rfl rfl ?_
          exact H
        · replace H := H.2 c12
          refine wp_iconst rfl ?_
          refine wp_goto (tn := 20) rfl rfl ?_
          refine wp_iret rfl rfl ?_
          show Wp X _ 112 69 [vr 89, vi x1, vi x2, vi x3, vi x4, vi x5, vi x6, vi x7, vi x8, vi 1] [vi 0, vi x4] _ _
          refine wp_ifleT (tn := 76) rfl rfl (by decide) ?_
          refine wp_iconst rfl ?_
          refine wp_iadd rfl ?_
          have g17 := H.1
          replace H := H.2
          refine Wp.topI (y := (x4 + 0)) (w32_I g17) ?_
          refine wp_istore (L2 := [vr 89, vi x1, vi x2, vi x3, vi (x4 + 0), vi x5, vi x6, vi x7, vi x8, vi 1]) rfl (Nat.le_of_ble_eq_true rfl) rfl ?_
          refine wp_iload rfl rfl ?_
          refine wp_iload rfl rfl ?_
          refine wp_ifeqF (tn := 99) rfl rfl (by decide) ?_
          refine wp_iload rfl rfl ?_
          refine wp_call (k := 110) (ρ2 := 0) (L2 := [vi x7]) rfl rfl rfl (Nat.le_of_ble_eq_true rfl) (Nat.le_of_ble_eq_true rfl) (Nat.le_of_ble_eq_true rfl) (rcv_S rfl) rfl ?_
          refine wp_iload rfl rfl ?_
          refine wp_iconst rfl ?_
          refine wp_icneF (tn := 10) rfl rfl c12 ?_
          refine wp_iconst rfl ?_
          refine wp_goto (tn := 20) rfl rfl ?_
          refine wp_iret rfl rfl ?_
          show Wp X _ 112 92 [vr 89, vi x1, vi x2, vi x3, vi (x4 + 0), vi x5, vi x6, vi x7, vi x8, vi 1] [vi 0, vi x5] _ _
          refine wp_ifgeT (tn := 99) rfl rfl (by decide) ?_
          refine wp_iconst rfl ?_
          refine wp_iadd rfl ?_
          have g18 := H.1
          replace H := H.2
          refine Wp.topI (y := (x5 + 0)) (w32_I g18) ?_
          refine wp_istore (L2 := [vr 89, vi x1, vi x2, vi x3, vi (x4 + 0), vi (x5 + 0), vi x6, vi x7, vi x8, vi 1]) rfl (Nat.le_of_ble_eq_true rfl) rfl ?_
          refine wp_iload rfl rfl ?_
          refine wp_iconst rfl ?_
          refine wp_irem rfl (by decide) ?_
          refine wp_istore (L2 := [vr 89, vi x1, vi x2, vi x3, vi (x4 + 0), vi (x5 + 0), vi x6, vi (Int.tmod x6 9), vi x8, vi 1]) rfl (Nat.le_of_ble_eq_true rfl) rfl ?_
          refine wp_iload rfl rfl ?_
          refine wp_iconst rfl ?_
          refine wp_idiv rfl (by decide) ?_
          have g19 := H.1
          replace H := H.2
          refine Wp.topI (y := (Int.tdiv x6 9)) (w32_I g19) ?_
          refine wp_istore (L2 := [vr 89, vi x1, vi x2, vi x3, vi (x4 + 0), vi (x5 + 0), vi (Int.tdiv x6 9), vi (Int.tmod x6 9), vi x8, vi 1]) rfl (Nat.le_of_ble_eq_true rfl) rfl ?_
          have g20 := H.1
          replace H := H.2
          refine wp_iincR (L2 := [vr 89, vi x1, vi x2, vi x3, vi (x4 + 0), vi (x5 + 0), vi (Int.tdiv x6 9), vi (Int.tmod x6 9), vi (x8 + 1), vi 1]) rfl rfl g20 rfl ?_
          refine wp_goto (tn := 25) rfl rfl ?_
          exact H
    · replace H := H.2 c5
      refine wp_iconst rfl ?_
      refine wp_iload rfl rfl ?_
      refine wp_isub rfl ?_
      have g21 := H.1
      replace H := H.2
      refine Wp.topI (y := (3 - x7)) (w32_I g21) ?_
      refine wp_goto (tn := 14) rfl rfl ?_
      refine wp_iret rfl rfl ?_
      show Wp X _ 112 41 [vr 89, vi x1, vi x2, vi x3, vi x4, vi x5, vi x6, vi x7, vi x8, zx9] [vi (3 - x7)] _ _
      refine wp_aload rfl rfl ?_
      refine wp_getR (r := 107) rfl (congrArg Prod.fst (kf_89 X.1)) rfl ?_
      refine wp_iload rfl rfl ?_
      refine wp_iaload rfl (kf_108 X.1) ⟨g1.1, g1.2⟩ ?_
      refine wp_iclt (tn := 54) rfl rfl (fun c22 => ?_) (fun c22 => ?_)
      · replace H := H.1 c22
        refine wp_iconst rfl ?_
        refine wp_istore (L2 := [vr 89, vi x1, vi x2, vi x3, vi x4, vi x5, vi x6, vi x7, vi x8, vi 0]) rfl (Nat.le_of_ble_eq_true rfl) rfl ?_
        refine wp_iload rfl rfl ?_
        refine wp_iload rfl rfl ?_
        refine wp_ifeqT (tn := 76) rfl rfl (by decide) ?_
        refine wp_iconst rfl ?_
        refine wp_iadd rfl ?_
        have g23 := H.1
        replace H := H.2
        refine Wp.topI (y := (x4 + 0)) (w32_I g23) ?_
        refine wp_istore (L2 := [vr 89, vi x1, vi x2, vi x3, vi (x4 + 0), vi x5, vi x6, vi x7, vi x8, vi 0]) rfl (Nat.le_of_ble_eq_true rfl) rfl ?_
        refine wp_iload rfl rfl ?_
        refine wp_iload rfl rfl ?_
        refine wp_ifeqT (tn := 99) rfl rfl (by decide) ?_
        refine wp_iconst rfl ?_
        refine wp_iadd rfl ?_
        have g24 := H.1
        replace H := H.2
        refine Wp.topI (y := (x5 + 0)) (w32_I g24) ?_
        refine wp_istore (L2 := [vr 89, vi x1, vi x2, vi x3, vi (x4 + 0), vi (x5 + 0), vi x6, vi x7, vi x8, vi 0]) rfl (Nat.le_of_ble_eq_true rfl) rfl ?_
        refine wp_iload rfl rfl ?_
        refine wp_iconst rfl ?_
        refine wp_irem rfl (by decide) ?_
        refine wp_istore (L2 := [vr 89, vi x1, vi x2, vi x3, vi (x4 + 0), vi (x5 + 0), vi x6, vi (Int.tmod x6 9), vi x8, vi 0]) rfl (Nat.le_of_ble_eq_true rfl) rfl ?_
        refine wp_iload rfl rfl ?_
        refine wp_iconst rfl ?_
        refine wp_idiv rfl (by decide) ?_
        have g25 := H.1
        replace H := H.2
        refine Wp.topI (y := (Int.tdiv x6 9)) (w32_I g25) ?_
        refine wp_istore (L2 := [vr 89, vi x1, vi x2, vi x3, vi (x4 + 0), vi (x5 + 0), vi (Int.tdiv x6 9), vi (Int.tmod x6 9), vi x8, vi 0]) rfl (Nat.le_of_ble_eq_true rfl) rfl ?_
        have g26 := H.1
        replace H := H.2
        refine wp_iincR (L2 := [vr 89, vi x1, vi x2, vi x3, vi (x4 + 0), vi (x5 + 0), vi (Int.tdiv x6 9), vi (Int.tmod x6 9), vi (x8 + 1), vi 0]) rfl rfl g26 rfl ?_
        refine wp_goto (tn := 25) rfl rfl ?_
        exact H
      · replace H := H.2 c22
        refine wp_iconst rfl ?_
        refine wp_goto (tn := 55) rfl rfl ?_
        refine wp_istore (L2 := [vr 89, vi x1, vi x2, vi x3, vi x4, vi x5, vi x6, vi x7, vi x8, vi 1]) rfl (Nat.le_of_ble_eq_true rfl) rfl ?_
        refine wp_iload rfl rfl ?_
        refine wp_iload rfl rfl ?_
        refine wp_ifeqF (tn := 76) rfl rfl (by decide) ?_
        refine wp_iload rfl rfl ?_
        refine wp_call (k := 110) (ρ2 := 0) (L2 := [vi x7]) rfl rfl rfl (Nat.le_of_ble_eq_true rfl) (Nat.le_of_ble_eq_true rfl) (Nat.le_of_ble_eq_true rfl) (rcv_S rfl) rfl ?_
        refine wp_iload rfl rfl ?_
        refine wp_iconst rfl ?_
        refine wp_icneT (tn := 10) rfl rfl (by clear H; omega) ?_
        refine wp_iload rfl rfl ?_
        refine wp_iconst rfl ?_
        refine wp_icgeF (tn := 19) rfl rfl c5 ?_
        refine wp_iconst rfl ?_
        refine wp_goto (tn := 20) rfl rfl ?_
        refine wp_iret rfl rfl ?_
        show Wp X _ 112 69 [vr 89, vi x1, vi x2, vi x3, vi x4, vi x5, vi x6, vi x7, vi x8, vi 1] [vi (-1), vi x4] _ _
        refine wp_ifleT (tn := 76) rfl rfl (by decide) ?_
        refine wp_iconst rfl ?_
        refine wp_iadd rfl ?_
        have g27 := H.1
        replace H := H.2
        refine Wp.topI (y := (x4 + 0)) (w32_I g27) ?_
        refine wp_istore (L2 := [vr 89, vi x1, vi x2, vi x3, vi (x4 + 0), vi x5, vi x6, vi x7, vi x8, vi 1]) rfl (Nat.le_of_ble_eq_true rfl) rfl ?_
        refine wp_iload rfl rfl ?_
        refine wp_iload rfl rfl ?_
        refine wp_ifeqF (tn := 99) rfl rfl (by decide) ?_
        refine wp_iload rfl rfl ?_
        refine wp_call (k := 110) (ρ2 := 0) (L2 := [vi x7]) rfl rfl rfl (Nat.le_of_ble_eq_true rfl) (Nat.le_of_ble_eq_true rfl) (Nat.le_of_ble_eq_true rfl) (rcv_S rfl) rfl ?_
        refine wp_iload rfl rfl ?_
        refine wp_iconst rfl ?_
        refine wp_icneT (tn := 10) rfl rfl (by clear H; omega) ?_
        refine wp_iload rfl rfl ?_
        refine wp_iconst rfl ?_
        refine wp_icgeF (tn := 19) rfl rfl c5 ?_
        refine wp_iconst rfl ?_
        refine wp_goto (tn := 20) rfl rfl ?_
        refine wp_iret rfl rfl ?_
        show Wp X _ 112 92 [vr 89, vi x1, vi x2, vi x3, vi (x4 + 0), vi x5, vi x6, vi x7, vi x8, vi 1] [vi (-1), vi x5] _ _
        refine wp_ifgeF (tn := 99) rfl rfl (by decide) ?_
        refine wp_iconst rfl ?_
        refine wp_goto (tn := 100) rfl rfl ?_
        refine wp_iadd rfl ?_
        have g28 := H.1
        replace H := H.2
        refine Wp.topI (y := (x5 + 1)) (w32_I g28) ?_
        refine wp_istore (L2 := [vr 89, vi x1, vi x2, vi x3, vi (x4 + 0), vi (x5 + 1), vi x6, vi x7, vi x8, vi 1]) rfl (Nat.le_of_ble_eq_true rfl) rfl ?_
        refine wp_iload rfl rfl ?_
        refine wp_iconst rfl ?_
        refine wp_irem rfl (by decide) ?_
        refine wp_istore (L2 := [vr 89, vi x1, vi x2, vi x3, vi (x4 + 0), vi (x5 + 1), vi x6, vi (Int.tmod x6 9), vi x8, vi 1]) rfl (Nat.le_of_ble_eq_true rfl) rfl ?_
        refine wp_iload rfl rfl ?_
        refine wp_iconst rfl ?_
        refine wp_idiv rfl (by decide) ?_
        have g29 := H.1
        replace H := H.2
        refine Wp.topI (y := (Int.tdiv x6 9)) (w32_I g29) ?_
        refine wp_istore (L2 := [vr 89, vi x1, vi x2, vi x3, vi (x4 + 0), vi (x5 + 1), vi (Int.tdiv x6 9), vi (Int.tmod x6 9), vi x8, vi 1]) rfl (Nat.le_of_ble_eq_true rfl) rfl ?_
        have g30 := H.1
        replace H := H.2
        refine wp_iincR (L2 := [vr 89, vi x1, vi x2, vi x3, vi (x4 + 0), vi (x5 + 1), vi (Int.tdiv x6 9), vi (Int.tmod x6 9), vi (x8 + 1), vi 1]) rfl rfl g30 rfl ?_
        refine wp_goto (tn := 25) rfl rfl ?_
        exact H
/-- WarnLinesModel.findFirsts(II)V, from 0 -/
theorem S114_89_0 {X : Nat × (Int → Int)} {h : HP} {Q : bQ} (x1 : Int) (x2 : Int) (H : Wp X 2 114 2 [vr 89, vi x1, vi x2, vi 0, vu, vu, vu, vu] [] h Q) : Wp X 2 114 0 [vr 89, vi x1, vi x2, vu, vu, vu, vu, vu] [] h Q := by
  refine wp_iconst rfl ?_
  refine wp_istore (L2 := [vr 89, vi x1, vi x2, vi 0, vu, vu, vu, vu]) rfl (Nat.le_of_ble_eq_true rfl) rfl ?_
  exact H
/-- WarnLinesModel.findFirsts(II)V, from 2 -/
theorem S114_89_2 {X : Nat × (Int → Int)} {h : HP} {Q : bQ} (x1 : Int) (x2 : Int) (x3 : Int) (H : ((8 ≤ x3 → Wp X 2 114 23 [vr 89, vi x1, vi x2, vi 0, vu, vu, vu, vu] [] h Q) ∧ (x3 < 8 → ((0 ≤ x3 ∧ x3 < 8) ∧ Wp X 2 114 2 [vr 89, vi x1, vi x2, vi (x3 + 1), vu, vu, vu, vu] [] (upd2 h 112 x3 0) Q)))) : Wp X 2 114 2 [vr 89, vi x1, vi x2, vi x3, vu, vu, vu, vu] [] h Q := by
  refine wp_iload rfl rfl ?_
  refine wp_iconst rfl ?_
  refine wp_icge (tn := 21) rfl rfl (fun c1 => ?_) (fun c1 => ?_)
  · replace H := H.1 c1
    refine wp_iconst rfl ?_
    refine wp_istore (L2 := [vr 89, vi x1, vi x2, vi 0, vu, vu, vu, vu]) rfl (Nat.le_of_ble_eq_true rfl) rfl ?_
    exact H
  · replace H := H.2 c1
    refine wp_aload rfl rfl ?_
    refine wp_getR (r := 111) rfl (congrArg Prod.fst (kf_89 X.1)) rfl ?_
    refine wp_iload rfl rfl ?_
    refine wp_iconst rfl ?_
    have g2 := H.1
    replace H := H.2
    refine wp_iastore rfl (kf_112 X.1) g2 ?_
    refine wp_iincR (L2 := [vr 89, vi x1, vi x2, vi (x3 + 1), vu, vu, vu, vu]) rfl rfl (by clear H; unfold R32; omega) rfl ?_
    refine wp_goto (tn := 2) rfl rfl ?_
    exact H
/-- WarnLinesModel.findFirsts(II)V, from 23 -/
theorem S114_89_23 {X : Nat × (Int → Int)} {h : HP} {Q : bQ} (x1 : Int) (x2 : Int) (x3 : Int) (zx4 : aV) (H : ((8 ≤ x3 → Wp X 2 114 79 [vr 89, vi x1, vi x2, vi 0, zx4, vu, vu, vu] [] h Q) ∧ (x3 < 8 → ((R32 (x3 + x2)) ∧ ((0 ≤ (x3 + x2) → (((x3 + x2) ≤ 7 → ((0 ≤ x3 ∧ x3 < 8) ∧ ((R32 ((h 112 (x3 + x2)) + (h 111 x3))) ∧ Wp X 2 114 23 [vr 89, vi x1, vi x2, vi (x3 + 1), vi (x3 + x2), vu, vu, vu] [] (upd2 h 112 (x3 + x2) ((h 112 (x3 + x2)) + (h 111 x3))) Q))) ∧ (7 < (x3 + x2) → ((0 ≤ x3 ∧ x3 < 8) ∧ ((R32 ((h 112 7) + (h 111 x3))) ∧ Wp X 2 114 23 [vr 89, vi x1, vi x2, vi (x3 + 1), vi (x3 + x2), vu, vu, vu] [] (upd2 h 112 7 ((h 112 7) + (h 111 x3))) Q))))) ∧ ((x3 + x2) < 0 → ((0 ≤ x3 ∧ x3 < 8) ∧ ((R32 ((h 112 0) + (h 111 x3))) ∧ Wp X 2 114 23 [vr 89, vi x1, vi x2, vi (x3 + 1), vi (x3 + x2), vu, vu, vu] [] (upd2 h 112 0 ((h 112 0) + (h 111 x3))) Q)))))))) : Wp X 2 114 23 [vr 89, vi x1, vi x2, vi x3, zx4, vu, vu, vu] [] h Q := by
  refine wp_iload rfl rfl ?_
  refine wp_iconst rfl ?_
  refine wp_icge (tn := 77) rfl rfl (fun c1 => ?_) (fun c1 => ?_)
  · replace H := H.1 c1
    refine wp_iconst rfl ?_
    refine wp_istore (L2 := [vr 89, vi x1, vi x2, vi 0, zx4, vu, vu, vu]) rfl (Nat.le_of_ble_eq_true rfl) rfl ?_
    exact H
  · replace H := H.2 c1
    refine wp_iload rfl rfl ?_
    refine wp_iload rfl rfl ?_
    refine wp_iadd rfl ?_
    have g2 := H.1
    replace H := H.2
    refine Wp.topI (y := (x3 + x2)) (w32_I g2) ?_
    refine wp_istore (L2 := [vr 89, vi x1, vi x2, vi x3, vi (x3 + x2), vu, vu, vu]) rfl (Nat.le_of_ble_eq_true rfl) rfl ?_
    refine wp_aload rfl rfl ?_
    refine wp_getR (r := 111) rfl (congrArg Prod.fst (kf_89 X.1)) rfl ?_
    refine wp_iload rfl rfl ?_
    refine wp_ifge (tn := 47) rfl rfl (fun c3 => ?_) (fun c3 => ?_)
    · replace H := H.1 c3
      refine wp_iload rfl rfl ?_
      refine wp_iconst rfl ?_
      refine wp_icle (tn := 59) rfl rfl (fun c4 => ?_) (fun c4 => ?_)
      · replace H := H.1 c4
        refine wp_iload rfl rfl ?_
        refine wp_dup2 rfl ?_
        refine wp_iaload rfl (kf_112 X.1) ⟨c3, (by clear H; omega)⟩ ?_
        refine wp_aload rfl rfl ?_
        refine wp_getR (r := 110) rfl (congrArg Prod.fst (kf_89 X.1)) rfl ?_
        refine wp_iload rfl rfl ?_
        have g5 := H.1
        replace H := H.2
        refine wp_iaload rfl (kf_111 X.1) g5 ?_
        refine wp_iadd rfl ?_
        have g6 := H.1
        replace H := H.2
        refine Wp.topI (y := ((h 112 (x3 + x2)) + (h 111 x3))) (w32_I g6) ?_
        refine wp_iastore rfl (kf_112 X.1) ⟨c3, (by clear H; omega)⟩ ?_
        refine wp_iincR (L2 := [vr 89, vi x1, vi x2, vi (x3 + 1), vi (x3 + x2), vu, vu, vu]) rfl rfl (by clear H; unfold R32; omega) rfl ?_
        refine wp_goto (tn := 23) rfl rfl ?_
        exact H
      · replace H := H.2 c4
        refine wp_iconst rfl ?_
        refine wp_goto (tn := 61) rfl rfl ?_
        refine wp_dup2 rfl ?_
        refine wp_iaload rfl (kf_112 X.1) (by decide) ?_
        refine wp_aload rfl rfl ?_
        refine wp_getR (r := 110) rfl (congrArg Prod.fst (kf_89 X.1)) rfl ?_
        refine wp_iload rfl rfl ?_
        have g7 := H.1
        replace H := H.2
        refine wp_iaload rfl (kf_111 X.1) g7 ?_
        refine wp_iadd rfl ?_
        have g8 := H.1
        replace H := H.2
        refine Wp.topI (y := ((h 112 7) + (h 111 x3))) (w32_I g8) ?_
        refine wp_iastore rfl (kf_112 X.1) (by decide) ?_
        refine wp_iincR (L2 := [vr 89, vi x1, vi x2, vi (x3 + 1), vi (x3 + x2), vu, vu, vu]) rfl rfl (by clear H; unfold R32; omega) rfl ?_
        refine wp_goto (tn := 23) rfl rfl ?_
        exact H
    · replace H := H.2 c3
      refine wp_iconst rfl ?_
      refine wp_goto (tn := 61) rfl rfl ?_
      refine wp_dup2 rfl ?_
      refine wp_iaload rfl (kf_112 X.1) (by decide) ?_
      refine wp_aload rfl rfl ?_
      refine wp_getR (r := 110) rfl (congrArg Prod.fst (kf_89 X.1)) rfl ?_
      refine wp_iload rfl rfl ?_
      have g9 := H.1
      replace H := H.2
      refine wp_iaload rfl (kf_111 X.1) g9 ?_
      refine wp_iadd rfl ?_
      have g10 := H.1
      replace H := H.2
      refine Wp.topI (y := ((h 112 0) + (h 111 x3))) (w32_I g10) ?_
      refine wp_iastore rfl (kf_112 X.1) (by decide) ?_
      refine wp_iincR (L2 := [vr 89, vi x1, vi x2, vi (x3 + 1), vi (x3 + x2), vu, vu, vu]) rfl rfl (by clear H; unfold R32; omega) rfl ?_
      refine wp_goto (tn := 23) rfl rfl ?_
      exact H
/-- WarnLinesModel.findFirsts(II)V, from 79 -/
theorem S114_89_79 {X : Nat × (Int → Int)} {h : HP} {Q : bQ} (x1 : Int) (zx2 : aV) (x3 : Int) (zx4 : aV) (H : ((6561 ≤ x3 → Wp X 2 114 112 [vr 89, vi x1, (clr1 zx2), vi 1, zx4, vu, vu, vu] [] h Q) ∧ (x3 < 6561 → ((x3 ≠ 6560 → ((0 ≤ x3 ∧ x3 < 6561) ∧ Wp X 2 114 79 [vr 89, vi x1, (clr1 zx2), vi (x3 + 1), zx4, vu, vu, vu] [] (upd2 h 113 x3 0) Q)) ∧ (x3 = 6560 → Wp X 2 114 79 [vr 89, vi x1, (clr1 zx2), vi (x3 + 1), zx4, vu, vu, vu] [] (upd2 h 113 x3 1) Q))))) : Wp X 2 114 79 [vr 89, vi x1, zx2, vi x3, zx4, vu, vu, vu] [] h Q := by
  refine wp_iload rfl rfl ?_
  refine wp_iconst rfl ?_
  refine wp_icge (tn := 110) rfl rfl (fun c1 => ?_) (fun c1 => ?_)
  · replace H := H.1 c1
    refine wp_iconst rfl ?_
    refine wp_istore (L2 := [vr 89, vi x1, (clr1 zx2), vi 1, zx4, vu, vu, vu]) rfl (Nat.le_of_ble_eq_true rfl) rfl ?_
    exact H
  · replace H := H.2 c1
    refine wp_aload rfl rfl ?_
    refine wp_getR (r := 112) rfl (congrArg Prod.fst (kf_89 X.1)) rfl ?_
    refine wp_iload rfl rfl ?_
    refine wp_iload rfl rfl ?_
    refine wp_iconst rfl ?_
    refine wp_icne (tn := 102) rfl rfl (fun c2 => ?_) (fun c2 => ?_)
    · replace H := H.1 c2
      refine wp_sipush rfl ?_
      have g3 := H.1
      replace H := H.2
      refine wp_lastore rfl (kf_113 X.1) g3 ?_
      refine wp_iincR (L2 := [vr 89, vi x1, (clr1 zx2), vi (x3 + 1), zx4, vu, vu, vu]) rfl rfl (by clear H; unfold R32; omega) rfl ?_
      refine wp_goto (tn := 79) rfl rfl ?_
      exact H
    · replace H := H.2 c2
      refine wp_sipush rfl ?_
      refine wp_goto (tn := 103) rfl rfl ?_
      refine wp_lastore rfl (kf_113 X.1) ⟨(by clear H; omega), c1⟩ ?_
      refine wp_iincR (L2 := [vr 89, vi x1, (clr1 zx2), vi (x3 + 1), zx4, vu, vu, vu]) rfl rfl (by clear H; unfold R32; omega) rfl ?_
      refine wp_goto (tn := 79) rfl rfl ?_
      exact H
/-- WarnLinesModel.findFirsts(II)V, from 112 -/
theorem S114_89_112 {X : Nat × (Int → Int)} {h : HP} {Q : bQ} (x1 : Int) (zx2 : aV) (x3 : Int) (zx4 : aV) (zx5 : aV) (zx6 : aV) (H : ((x1 < x3 → Q none h) ∧ (x3 ≤ x1 → ((0 ≤ x3 ∧ x3 < 10) ∧ Wp X 2 114 127 [vr 89, vi x1, zx2, vi x3, vi 0, zx5, zx6, vu] [] (upd2 h 115 x3 0) Q)))) : Wp X 2 114 112 [vr 89, vi x1, zx2, vi x3, zx4, zx5, zx6, vu] [] h Q := by
  refine wp_iload rfl rfl ?_
  refine wp_iload rfl rfl ?_
  refine wp_icgt (tn := 303) rfl rfl (fun c1 => ?_) (fun c1 => ?_)
  · replace H := H.1 c1
    exact wp_vret rfl rfl H
  · replace H := H.2 c1
    refine wp_aload rfl rfl ?_
    refine wp_getR (r := 114) rfl (congrArg Prod.fst (kf_89 X.1)) rfl ?_
    refine wp_iload rfl rfl ?_
    refine wp_sipush rfl ?_
    have g2 := H.1
    replace H := H.2
    refine wp_lastore rfl (kf_115 X.1) g2 ?_
    refine wp_iconst rfl ?_
    refine wp_istore (L2 := [vr 89, vi x1, zx2, vi x3, vi 0, zx5, zx6, vu]) rfl (Nat.le_of_ble_eq_true rfl) rfl ?_
    exact H
/-- WarnLinesModel.findFirsts(II)V, from 127 -/
theorem S114_89_127 {X : Nat × (Int → Int)} {h : HP} {Q : bQ} (x1 : Int) (zx2 : aV) (x3 : Int) (x4 : Int) (zx5 : aV) (zx6 : aV) (H : ((6561 ≤ x4 → Wp X 2 114 152 [vr 89, vi x1, zx2, vi x3, vi 0, zx5, zx6, vu] [] h Q) ∧ (x4 < 6561 → ((0 ≤ x4 ∧ x4 < 6561) ∧ Wp X 2 114 127 [vr 89, vi x1, zx2, vi x3, vi (x4 + 1), zx5, zx6, vu] [] (upd2 h 114 x4 0) Q)))) : Wp X 2 114 127 [vr 89, vi x1, zx2, vi x3, vi x4, zx5, zx6, vu] [] h Q := by
  refine wp_iload rfl rfl ?_
  refine wp_iconst rfl ?_
  refine wp_icge (tn := 149) rfl rfl (fun c1 => ?_) (fun c1 => ?_)
  · replace H := H.1 c1
    refine wp_iconst rfl ?_
    refine wp_istore (L2 := [vr 89, vi x1, zx2, vi x3, vi 0, zx5, zx6, vu]) rfl (Nat.le_of_ble_eq_true rfl) rfl ?_
    exact H
  · replace H := H.2 c1
    refine wp_aload rfl rfl ?_
    refine wp_getR (r := 113) rfl (congrArg Prod.fst (kf_89 X.1)) rfl ?_
    refine wp_iload rfl rfl ?_
    refine wp_sipush rfl ?_
    have g2 := H.1
    replace H := H.2
    refine wp_lastore rfl (kf_114 X.1) g2 ?_
    refine wp_iincR (L2 := [vr 89, vi x1, zx2, vi x3, vi (x4 + 1), zx5, zx6, vu]) rfl rfl (by clear H; unfold R32; omega) rfl ?_
    refine wp_goto (tn := 127) rfl rfl ?_
    exact H
/-- WarnLinesModel.findFirsts(II)V, from 152 -/
theorem S114_89_152 {X : Nat × (Int → Int)} {h : HP} {Q : bQ} (x1 : Int) (zx2 : aV) (x3 : Int) (x4 : Int) (zx5 : aV) (zx6 : aV) (H : ((6561 ≤ x4 → Wp X 2 114 269 [vr 89, vi x1, zx2, vi x3, vi 0, zx5, zx6, vu] [] h Q) ∧ (x4 < 6561 → Wp X 2 114 163 [vr 89, vi x1, zx2, vi x3, vi x4, vi 0, zx6, vu] [] h Q))) : Wp X 2 114 152 [vr 89, vi x1, zx2, vi x3, vi x4, zx5, zx6, vu] [] h Q := by
  refine wp_iload rfl rfl ?_
  refine wp_iconst rfl ?_
  refine wp_icge (tn := 266) rfl rfl (fun c1 => ?_) (fun c1 => ?_)
  · replace H := H.1 c1
    refine wp_iconst rfl ?_
    refine wp_istore (L2 := [vr 89, vi x1, zx2, vi x3, vi 0, zx5, zx6, vu]) rfl (Nat.le_of_ble_eq_true rfl) rfl ?_
    exact H
  · replace H := H.2 c1
    refine wp_iconst rfl ?_
    refine wp_istore (L2 := [vr 89, vi x1, zx2, vi x3, vi x4, vi 0, zx6, vu]) rfl (Nat.le_of_ble_eq_true rfl) rfl ?_
    exact H
/-- WarnLinesModel.findFirsts(II)V, from 163 -/
theorem S114_89_163 {X : Nat × (Int → Int)} {h : HP} {Q : bQ} (x1 : Int) (zx2 : aV) (x3 : Int) (x4 : Int) (x5 : Int) (zx6 : aV) (H : ((8 ≤ x5 → ((R32 (x4 + 1)) ∧ Wp X 2 114 152 [vr 89, vi x1, zx2, vi x3, vi (x4 + 1), vi x5, zx6, vu] [] h Q)) ∧ (x5 < 8 → ((0 ≤ x4 ∧ x4 < 6561) ∧ (((lcp (h 113 x4) 0) ≤ 0 → Wp X 2 114 152 [vr 89, vi x1, zx2, vi x3, vi (x4 + 1), vi x5, zx6, vu] [] h Q) ∧ (0 < (lcp (h 113 x4) 0) → ((0 ≤ x5 ∧ x5 < 8) ∧ ((R64 ((h 113 x4) * (h 112 x5))) ∧ (((lcp ((h 113 x4) * (h 112 x5)) 0) ≤ 0 → ((R32 ((Int.tmod x4 729) * 9)) ∧ ((R32 (((Int.tmod x4 729) * 9) + x5)) ∧ ((0 ≤ (((Int.tmod x4 729) * 9) + x5) ∧ (((Int.tmod x4 729) * 9) + x5) < 6561) ∧ ((R64 ((h 114 (((Int.tmod x4 729) * 9) + x5)) + ((h 113 x4) * (h 112 x5)))) ∧ Wp X 2 114 163 [vr 89, vi x1, zx2, vi x3, vi x4, vi (x5 + 1), vl ((h 113 x4) * (h 112 x5)), vu] [] (upd2 h 114 (((Int.tmod x4 729) * 9) + x5) ((h 114 (((Int.tmod x4 729) * 9) + x5)) + ((h 113 x4) * (h 112 x5)))) Q))))) ∧ (0 < (lcp ((h 113 x4) * (h 112 x5)) 0) → Wp X 1 112 0 [vr 89, vi x4, vi x5, vu, vu, vu, vu, vu, vu, vu] [] h (fun v h' => Wp X 2 114 215 [vr 89, vi x1, zx2, vi x3, vi x4, vi x5, vl ((h 113 x4) * (h 112 x5)), vu] (psh v []) h' Q))))))))))) : Wp X 2 114 163 [vr 89, vi x1, zx2, vi x3, vi x4, vi x5, zx6, vu] [] h Q := by
  refine wp_iload rfl rfl ?_
  refine wp_iconst rfl ?_
  refine wp_icge (tn := 260) rfl rfl (fun c1 => ?_) (fun c1 => ?_)
  · replace H := H.1 c1
    have g2 := H.1
    replace H := H.2
    refine wp_iincR (L2 := [vr 89, vi x1, zx2, vi x3, vi (x4 + 1), vi x5, zx6, vu]) rfl rfl g2 rfl ?_
    refine wp_goto (tn := 152) rfl rfl ?_
    exact H
  · replace H := H.2 c1
    refine wp_aload rfl rfl ?_
    refine wp_getR (r := 112) rfl (congrArg Prod.fst (kf_89 X.1)) rfl ?_
    refine wp_iload rfl rfl ?_
    have g3 := H.1
    replace H := H.2
    refine wp_laload rfl (kf_113 X.1) g3 ?_
    refine wp_sipush rfl ?_
    refine wp_lcmp rfl ?_
    refine wp_ifle (tn := 260) rfl rfl (fun c4 => ?_) (fun c4 => ?_)
    · replace H := H.1 c4
      refine wp_iincR (L2 := [vr 89, vi x1, zx2, vi x3, vi (x4 + 1), vi x5, zx6, vu]) rfl rfl (by clear H; unfold R32; omega) rfl ?_
      refine wp_goto (tn := 152) rfl rfl ?_
      exact H
    · replace H := H.2 c4
      refine wp_aload rfl rfl ?_
      refine wp_getR (r := 112) rfl (congrArg Prod.fst (kf_89 X.1)) rfl ?_
      refine wp_iload rfl rfl ?_
      refine wp_laload rfl (kf_113 X.1) ⟨g3.1, g3.2⟩ ?_
      refine wp_aload rfl rfl ?_
      refine wp_getR (r := 111) rfl (congrArg Prod.fst (kf_89 X.1)) rfl ?_
      refine wp_iload rfl rfl ?_
      have g5 := H.1
      replace H := H.2
      refine wp_iaload rfl (kf_112 X.1) g5 ?_
      refine wp_i2l rfl ?_
      refine wp_lmul rfl ?_
      have g6 := H.1
      replace H := H.2
      refine Wp.topL (y := ((h 113 x4) * (h 112 x5))) (w64_I g6) ?_
      refine wp_lstore (L2 := [vr 89, vi x1, zx2, vi x3, vi x4, vi x5, vl ((h 113 x4) * (h 112 x5)), vu]) rfl (Nat.le_of_ble_eq_true rfl) rfl ?_
      refine wp_lload rfl rfl ?_
      refine wp_sipush rfl ?_
      refine wp_lcmp rfl ?_
      refine wp_ifle (tn := 232) rfl rfl (fun c7 => ?_) (fun c7 => ?_)
      · replace H := H.1 c7
        refine wp_aload rfl rfl ?_
        refine wp_getR (r := 113) rfl (congrArg Prod.fst (kf_89 X.1)) rfl ?_
        refine wp_iload rfl rfl ?_
        refine wp_iconst rfl ?_
        refine wp_irem rfl (by decide) ?_
        refine wp_iconst rfl ?_
        refine wp_imul rfl ?_
        have g8 := H.1
        replace H := H.2
        refine Wp.topI (y := ((Int.tmod x4 729) * 9)) (w32_I g8) ?_
        refine wp_iload rfl rfl ?_
        refine wp_iadd rfl ?_
        have g9 := H.1
        replace H := H.2
        refine Wp.topI (y := (((Int.tmod x4 729) * 9) + x5)) (w32_I g9) ?_
        refine wp_dup2 rfl ?_
        have g10 := H.1
        replace H := H.2
        refine wp_laload rfl (kf_114 X.1) g10 ?_
        refine wp_lload rfl rfl ?_
        refine wp_ladd rfl ?_
        have g11 := H.1
        replace H := H.2
        refine Wp.topL (y := ((h 114 (((Int.tmod x4 729) * 9) + x5)) + ((h 113 x4) * (h 112 x5)))) (w64_I g11) ?_
        refine wp_lastore rfl (kf_114 X.1) ⟨g10.1, g10.2⟩ ?_
        refine wp_iincR (L2 := [vr 89, vi x1, zx2, vi x3, vi x4, vi (x5 + 1), vl ((h 113 x4) * (h 112 x5)), vu]) rfl rfl (by clear H; unfold R32; omega) rfl ?_
        refine wp_goto (tn := 163) rfl rfl ?_
        exact H
      · replace H := H.2 c7
        refine wp_aload rfl rfl ?_
        refine wp_iload rfl rfl ?_
        refine wp_iload rfl rfl ?_
        exact wp_call (k := 112) (ρ2 := 1) (L2 := [vr 89, vi x4, vi x5, vu, vu, vu, vu, vu, vu, vu]) rfl rfl rfl (Nat.le_of_ble_eq_true rfl) (Nat.le_of_ble_eq_true rfl) (Nat.le_of_ble_eq_true rfl) (rcv_V rfl (congrArg Prod.fst (kf_89 X.1))) rfl H
/-- WarnLinesModel.findFirsts(II)V, from 215 -/
theorem S114_89_215 {X : Nat × (Int → Int)} {h : HP} {Q : bQ} (x1 : Int) (zx2 : aV) (x3 : Int) (x4 : Int) (x5 : Int) (x6 : Int) (s0 : Int) (H : ((s0 = 0 → ((R32 ((Int.tmod x4 729) * 9)) ∧ ((R32 (((Int.tmod x4 729) * 9) + x5)) ∧ ((0 ≤ (((Int.tmod x4 729) * 9) + x5) ∧ (((Int.tmod x4 729) * 9) + x5) < 6561) ∧ ((R64 ((h 114 (((Int.tmod x4 729) * 9) + x5)) + x6)) ∧ ((R32 (x5 + 1)) ∧ Wp X 2 114 163 [vr 89, vi x1, zx2, vi x3, vi x4, vi (x5 + 1), vl x6, vu] [] (upd2 h 114 (((Int.tmod x4 729) * 9) + x5) ((h 114 (((Int.tmod x4 729) * 9) + x5)) + x6)) Q)))))) ∧ (s0 ≠ 0 → ((0 ≤ x3 ∧ x3 < 10) ∧ ((R64 ((h 115 x3) + x6)) ∧ ((R32 (x5 + 1)) ∧ Wp X 2 114 163 [vr 89, vi x1, zx2, vi x3, vi x4, vi (x5 + 1), vl x6, vu] [] (upd2 h 115 x3 ((h 115 x3) + x6)) Q)))))) : Wp X 2 114 215 [vr 89, vi x1, zx2, vi x3, vi x4, vi x5, vl x6, vu] [vi s0] h Q := by
  refine wp_ifeq (tn := 232) rfl rfl (fun c1 => ?_) (fun c1 => ?_)
  · replace H := H.1 c1
    refine wp_aload rfl rfl ?_
    refine wp_getR (r := 113) rfl (congrArg Prod.fst (kf_89 X.1)) rfl ?_
    refine wp_iload rfl rfl ?_
    refine wp_iconst rfl ?_
    refine wp_irem rfl (by decide) ?_
    refine wp_iconst rfl ?_
    refine wp_imul rfl ?_
    have g2 := H.1
    replace H := H.2
    refine Wp.topI (y := ((Int.tmod x4 729) * 9)) (w32_I g2) ?_
    refine wp_iload rfl rfl ?_
    refine wp_iadd rfl ?_
    have g3 := H.1
    replace H := H.2
    refine Wp.topI (y := (((Int.tmod x4 729) * 9) + x5)) (w32_I g3) ?_
    refine wp_dup2 rfl ?_
    have g4 := H.1
    replace H := H.2
    refine wp_laload rfl (kf_114 X.1) g4 ?_
    refine wp_lload rfl rfl ?_
    refine wp_ladd rfl ?_
    have g5 := H.1
    replace H := H.2
    refine Wp.topL (y := ((h 114 (((Int.tmod x4 729) * 9) + x5)) + x6)) (w64_I g5) ?_
    refine wp_lastore rfl (kf_114 X.1) ⟨g4.1, g4.2⟩ ?_
    have g6 := H.1
    replace H := H.2
    refine wp_iincR (L2 := [vr 89, vi x1, zx2, vi x3, vi x4, vi (x5 + 1), vl x6, vu]) rfl rfl g6 rfl ?_
    refine wp_goto (tn := 163) rfl rfl ?_
    exact H
  · replace H := H.2 c1
    refine wp_aload rfl rfl ?_
    refine wp_getR (r := 114) rfl (congrArg Prod.fst (kf_89 X.1)) rfl ?_
    refine wp_iload rfl rfl ?_
    refine wp_dup2 rfl ?_
    have g7 := H.1
    replace H := H.2
    refine wp_laload rfl (kf_115 X.1) g7 ?_
    refine wp_lload rfl rfl ?_
    refine wp_ladd rfl ?_
    have g8 := H.1
    replace H := H.2
    refine Wp.topL (y := ((h 115 x3) + x6)) (w64_I g8) ?_
    refine wp_lastore rfl (kf_115 X.1) ⟨g7.1, g7.2⟩ ?_
    refine wp_goto (tn := 254) rfl rfl ?_
    have g9 := H.1
    replace H := H.2
    refine wp_iincR (L2 := [vr 89, vi x1, zx2, vi x3, vi x4, vi (x5 + 1), vl x6, vu]) rfl rfl g9 rfl ?_
    refine wp_goto (tn := 163) rfl rfl ?_
    exact H
/-- WarnLinesModel.findFirsts(II)V, from 269 -/
theorem S114_89_269 {X : Nat × (Int → Int)} {h : HP} {Q : bQ} (x1 : Int) (zx2 : aV) (x3 : Int) (x4 : Int) (zx5 : aV) (zx6 : aV) (H : ((6561 ≤ x4 → ((R32 (x3 + 1)) ∧ Wp X 2 114 112 [vr 89, vi x1, (clr1 zx2), vi (x3 + 1), vi x4, zx5, zx6, vu] [] h Q)) ∧ (x4 < 6561 → ((0 ≤ x4 ∧ x4 < 6561) ∧ Wp X 2 114 269 [vr 89, vi x1, zx2, vi x3, vi (x4 + 1), zx5, zx6, vu] [] (upd2 h 113 x4 (h 114 x4)) Q)))) : Wp X 2 114 269 [vr 89, vi x1, zx2, vi x3, vi x4, zx5, zx6, vu] [] h Q := by
  refine wp_iload rfl rfl ?_
  refine wp_iconst rfl ?_
  refine wp_icge (tn := 297) rfl rfl (fun c1 => ?_) (fun c1 => ?_)
  · replace H := H.1 c1
    have g2 := H.1
    replace H := H.2
    refine wp_iincR (L2 := [vr 89, vi x1, (clr1 zx2), vi (x3 + 1), vi x4, zx5, zx6, vu]) rfl rfl g2 rfl ?_
    refine wp_goto (tn := 112) rfl rfl ?_
    exact H
  · replace H := H.2 c1
    refine wp_aload rfl rfl ?_
    refine wp_getR (r := 112) rfl (congrArg Prod.fst (kf_89 X.1)) rfl ?_
    refine wp_iload rfl rfl ?_
    refine wp_aload rfl rfl ?_
    refine wp_getR (r := 113) rfl (congrArg Prod.fst (kf_89 X.1)) rfl ?_
    refine wp_iload rfl rfl ?_
    have g3 := H.1
    replace H := H.2
    refine wp_laload rfl (kf_114 X.1) g3 ?_
    refine wp_lastore rfl (kf_113 X.1) ⟨g3.1, g3.2⟩ ?_
    refine wp_iincR (L2 := [vr 89, vi x1, zx2, vi x3, vi (x4 + 1), zx5, zx6, vu]) rfl rfl (by clear H; unfold R32; omega) rfl ?_
    refine wp_goto (tn := 269) rfl rfl ?_
    exact H
/-- WarnLinesModel.upTo(I)J, from 0 -/
theorem S115_89_0 {X : Nat × (Int → Int)} {h : HP} {Q : bQ} (x1 : Int) (H : Wp X 1 115 5 [vr 89, vi x1, vl 0, vu, vi 1] [] h Q) : Wp X 1 115 0 [vr 89, vi x1, vu, vu, vu] [] h Q := by
  refine wp_sipush rfl ?_
  refine wp_lstore (L2 := [vr 89, vi x1, vl 0, vu, vu]) rfl (Nat.le_of_ble_eq_true rfl) rfl ?_
  refine wp_iconst rfl ?_
  refine wp_istore (L2 := [vr 89, vi x1, vl 0, vu, vi 1]) rfl (Nat.le_of_ble_eq_true rfl) rfl ?_
  exact H
/-- WarnLinesModel.upTo(I)J, from 5 -/
theorem S115_89_5 {X : Nat × (Int → Int)} {h : HP} {Q : bQ} (x1 : Int) (x2 : Int) (x4 : Int) (H : ((x1 < x4 → Q (some (vl x2)) h) ∧ (x4 ≤ x1 → ((0 ≤ x4 ∧ x4 < 10) ∧ ((R32 (x1 - x4)) ∧ ((R32 (6 * (x1 - x4))) ∧ ((R64 ((h 115 x4) * ((i64 1 <<< ((i32 (6 * (x1 - x4))).toInt64 &&& 63)).toInt))) ∧ ((R64 (x2 + ((h 115 x4) * ((i64 1 <<< ((i32 (6 * (x1 - x4))).toInt64 &&& 63)).toInt)))) ∧ Wp X 1 115 5 [vr 89, vi x1, vl (x2 + ((h 115 x4) * ((i64 1 <<< ((i32 (6 * (x1 - x4))).toInt64 &&& 63)).toInt))), vu, vi (x4 + 1)] [] h Q)))))))) : Wp X 1 115 5 [vr 89, vi x1, vl x2, vu, vi x4] [] h Q := by
  refine wp_iload rfl rfl ?_
  refine wp_iload rfl rfl ?_
  refine wp_icgt (tn := 35) rfl rfl (fun c1 => ?_) (fun c1 => ?_)
  · replace H := H.1 c1
    refine wp_lload rfl rfl ?_
    exact wp_lret rfl rfl H
  · replace H := H.2 c1
    refine wp_lload rfl rfl ?_
    refine wp_aload rfl rfl ?_
    refine wp_getR (r := 114) rfl (congrArg Prod.fst (kf_89 X.1)) rfl ?_
    refine wp_iload rfl rfl ?_
    have g2 := H.1
    replace H := H.2
    refine wp_laload rfl (kf_115 X.1) g2 ?_
    refine wp_iload rfl rfl ?_
    refine wp_iload rfl rfl ?_
    refine wp_isub rfl ?_
    have g3 := H.1
    replace H := H.2
    refine Wp.topI (y := (x1 - x4)) (w32_I g3) ?_
    refine wp_call (k := 113) (ρ2 := 0) (L2 := [vi (x1 - x4)]) rfl rfl rfl (Nat.le_of_ble_eq_true rfl) (Nat.le_of_ble_eq_true rfl) (Nat.le_of_ble_eq_true rfl) (rcv_S rfl) rfl ?_
    refine wp_sipush rfl ?_
    refine wp_iconst rfl ?_
    refine wp_iload rfl rfl ?_
    refine wp_imul rfl ?_
    have g4 := H.1
    replace H := H.2
    refine Wp.topI (y := (6 * (x1 - x4))) (w32_I g4) ?_
    refine wp_lshl rfl ?_
    refine wp_lret rfl rfl ?_
    show Wp X _ 115 26 [vr 89, vi x1, vl x2, vu, vi x4] [vl ((i64 1 <<< ((i32 (6 * (x1 - x4))).toInt64 &&& 63)).toInt), vl (h 115 x4), vl x2] _ _
    refine wp_lmul rfl ?_
    have g5 := H.1
    replace H := H.2
    refine Wp.topL (y := ((h 115 x4) * ((i64 1 <<< ((i32 (6 * (x1 - x4))).toInt64 &&& 63)).toInt))) (w64_I g5) ?_
    refine wp_ladd rfl ?_
    have g6 := H.1
    replace H := H.2
    refine Wp.topL (y := (x2 + ((h 115 x4) * ((i64 1 <<< ((i32 (6 * (x1 - x4))).toInt64 &&& 63)).toInt)))) (w64_I g6) ?_
    refine wp_lstore (L2 := [vr 89, vi x1, vl (x2 + ((h 115 x4) * ((i64 1 <<< ((i32 (6 * (x1 - x4))).toInt64 &&& 63)).toInt))), vu, vi x4]) rfl (Nat.le_of_ble_eq_true rfl) rfl ?_
    refine wp_iincR (L2 := [vr 89, vi x1, vl (x2 + ((h 115 x4) * ((i64 1 <<< ((i32 (6 * (x1 - x4))).toInt64 &&& 63)).toInt))), vu, vi (x4 + 1)]) rfl rfl (by clear H; unfold R32; omega) rfl ?_
    refine wp_goto (tn := 5) rfl rfl ?_
    exact H
/-- WarnLinesModel.isOfZones(I)Z, from 0 -/
theorem S116_89_0 {X : Nat × (Int → Int)} {h : HP} {Q : bQ} (x1 : Int) (H : Wp X 3 92 0 [vr 89, vi x1, vu] [] h (fun v h' => Wp X 4 116 5 [vr 89, vi x1, vu, vu] (psh v []) h' Q)) : Wp X 4 116 0 [vr 89, vi x1, vu, vu] [] h Q := by
  refine wp_aload rfl rfl ?_
  refine wp_iload rfl rfl ?_
  exact wp_call (k := 92) (ρ2 := 3) (L2 := [vr 89, vi x1, vu]) rfl rfl rfl (Nat.le_of_ble_eq_true rfl) (Nat.le_of_ble_eq_true rfl) (Nat.le_of_ble_eq_true rfl) (rcv_V rfl (congrArg Prod.fst (kf_89 X.1))) rfl H
/-- WarnLinesModel.isOfZones(I)Z, from 5 -/
theorem S116_89_5 {X : Nat × (Int → Int)} {h : HP} {Q : bQ} (zx1 : aV) (s0 : Int) (H : ((s0 ≠ (-1) → Wp X 4 116 17 [vr 89, (clr1 zx1), vi 0, vi 0] [] h Q) ∧ (s0 = (-1) → Wp X 4 116 17 [vr 89, (clr1 zx1), vi 1, vi 0] [] h Q))) : Wp X 4 116 5 [vr 89, zx1, vu, vu] [vi s0] h Q := by
  refine wp_iconst rfl ?_
  refine wp_icne (tn := 13) rfl rfl (fun c1 => ?_) (fun c1 => ?_)
  · replace H := H.1 c1
    refine wp_iconst rfl ?_
    refine wp_istore (L2 := [vr 89, (clr1 zx1), vi 0, vu]) rfl (Nat.le_of_ble_eq_true rfl) rfl ?_
    refine wp_iconst rfl ?_
    refine wp_istore (L2 := [vr 89, (clr1 zx1), vi 0, vi 0]) rfl (Nat.le_of_ble_eq_true rfl) rfl ?_
    exact H
  · replace H := H.2 c1
    refine wp_iconst rfl ?_
    refine wp_goto (tn := 14) rfl rfl ?_
    refine wp_istore (L2 := [vr 89, (clr1 zx1), vi 1, vu]) rfl (Nat.le_of_ble_eq_true rfl) rfl ?_
    refine wp_iconst rfl ?_
    refine wp_istore (L2 := [vr 89, (clr1 zx1), vi 1, vi 0]) rfl (Nat.le_of_ble_eq_true rfl) rfl ?_
    exact H
/-- WarnLinesModel.isOfZones(I)Z, from 17 -/
theorem S116_89_17 {X : Nat × (Int → Int)} {h : HP} {Q : bQ} (zx1 : aV) (x2 : Int) (x3 : Int) (H : (((h 89 24) ≤ x3 → ((x2 = 0 ∨ x2 = 1) ∧ Q (some (vi x2)) h)) ∧ (x3 < (h 89 24) → ((x2 = 0 → ((R32 (x3 + 1)) ∧ Wp X 4 116 17 [vr 89, (clr1 zx1), vi 0, vi (x3 + 1)] [] h Q)) ∧ (x2 ≠ 0 → ((0 ≤ x3 ∧ x3 < 8) ∧ (((h 105 x3) ≠ 122 → Wp X 4 116 17 [vr 89, (clr1 zx1), vi 0, vi (x3 + 1)] [] h Q) ∧ ((h 105 x3) = 122 → Wp X 4 116 17 [vr 89, (clr1 zx1), vi 1, vi (x3 + 1)] [] h Q)))))))) : Wp X 4 116 17 [vr 89, zx1, vi x2, vi x3] [] h Q := by
  refine wp_iload rfl rfl ?_
  refine wp_aload rfl rfl ?_
  refine wp_getI (j := 24) rfl (congrArg Prod.fst (kf_89 X.1)) rfl ?_
  refine wp_icge (tn := 52) rfl rfl (fun c1 => ?_) (fun c1 => ?_)
  · replace H := H.1 c1
    refine wp_iload rfl rfl ?_
    have g2 := H.1
    replace H := H.2
    exact wp_zret rfl rfl g2 H
  · replace H := H.2 c1
    refine wp_iload rfl rfl ?_
    refine wp_ifeq (tn := 44) rfl rfl (fun c3 => ?_) (fun c3 => ?_)
    · replace H := H.1 c3
      refine wp_iconst rfl ?_
      refine wp_istore (L2 := [vr 89, (clr1 zx1), vi 0, vi x3]) rfl (Nat.le_of_ble_eq_true rfl) rfl ?_
      have g4 := H.1
      replace H := H.2
      refine wp_iincR (L2 := [vr 89, (clr1 zx1), vi 0, vi (x3 + 1)]) rfl rfl g4 rfl ?_
      refine wp_goto (tn := 17) rfl rfl ?_
      exact H
    · replace H := H.2 c3
      refine wp_aload rfl rfl ?_
      refine wp_getR (r := 104) rfl (congrArg Prod.fst (kf_89 X.1)) rfl ?_
      refine wp_iload rfl rfl ?_
      have g5 := H.1
      replace H := H.2
      refine wp_iaload rfl (kf_105 X.1) g5 ?_
      refine wp_iconst rfl ?_
      refine wp_icne (tn := 44) rfl rfl (fun c6 => ?_) (fun c6 => ?_)
      · replace H := H.1 c6
        refine wp_iconst rfl ?_
        refine wp_istore (L2 := [vr 89, (clr1 zx1), vi 0, vi x3]) rfl (Nat.le_of_ble_eq_true rfl) rfl ?_
        refine wp_iincR (L2 := [vr 89, (clr1 zx1), vi 0, vi (x3 + 1)]) rfl rfl (by clear H; unfold R32; omega) rfl ?_
        refine wp_goto (tn := 17) rfl rfl ?_
        exact H
      · replace H := H.2 c6
        refine wp_iconst rfl ?_
        refine wp_goto (tn := 45) rfl rfl ?_
        refine wp_istore (L2 := [vr 89, (clr1 zx1), vi 1, vi x3]) rfl (Nat.le_of_ble_eq_true rfl) rfl ?_
        refine wp_iincR (L2 := [vr 89, (clr1 zx1), vi 1, vi (x3 + 1)]) rfl rfl (by clear H; unfold R32; omega) rfl ?_
        refine wp_goto (tn := 17) rfl rfl ?_
        exact H
/-- WarnLinesModel.soonOf(IIIZI)J, from 0 -/
theorem S118_89_0 {X : Nat × (Int → Int)} {h : HP} {Q : bQ} (x1 : Int) (x2 : Int) (x3 : Int) (x4 : Int) (x5 : Int) (H : Wp X 4 116 0 [vr 89, vi x1, vu, vu] [] h (fun v h' => Wp X 5 118 5 [vr 89, vi x1, vi x2, vi x3, vi x4, vi x5] (psh v []) h' Q)) : Wp X 5 118 0 [vr 89, vi x1, vi x2, vi x3, vi x4, vi x5] [] h Q := by
  refine wp_aload rfl rfl ?_
  refine wp_iload rfl rfl ?_
  exact wp_call (k := 116) (ρ2 := 4) (L2 := [vr 89, vi x1, vu, vu]) rfl rfl rfl (Nat.le_of_ble_eq_true rfl) (Nat.le_of_ble_eq_true rfl) (Nat.le_of_ble_eq_true rfl) (rcv_V rfl (congrArg Prod.fst (kf_89 X.1))) rfl H
/-- WarnLinesModel.soonOf(IIIZI)J, from 5 -/
theorem S118_89_5 {X : Nat × (Int → Int)} {h : HP} {Q : bQ} (zx1 : aV) (x2 : Int) (x3 : Int) (x4 : Int) (x5 : Int) (s0 : Int) (H : ((s0 ≠ 0 → Wp X 2 114 0 [vr 89, vi x2, vi x3, vu, vu, vu, vu, vu] [] h (fun v h' => Wp X 5 118 20 [vr 89, zx1, vi x2, vi x3, vi x4, vi x5] (psh v []) h' Q)) ∧ (s0 = 0 → Q (some (vl (-9223372036854775805))) h))) : Wp X 5 118 5 [vr 89, zx1, vi x2, vi x3, vi x4, vi x5] [vi s0] h Q := by
  refine wp_ifne (tn := 14) rfl rfl (fun c1 => ?_) (fun c1 => ?_)
  · replace H := H.1 c1
    refine wp_aload rfl rfl ?_
    refine wp_iload rfl rfl ?_
    refine wp_iload rfl rfl ?_
    exact wp_call (k := 114) (ρ2 := 2) (L2 := [vr 89, vi x2, vi x3, vu, vu, vu, vu, vu]) rfl rfl rfl (Nat.le_of_ble_eq_true rfl) (Nat.le_of_ble_eq_true rfl) (Nat.le_of_ble_eq_true rfl) (rcv_V rfl (congrArg Prod.fst (kf_89 X.1))) rfl H
  · replace H := H.2 c1
    refine wp_iconst rfl ?_
    refine wp_call (k := 49) (ρ2 := 0) (L2 := [vi (-3)]) rfl rfl rfl (Nat.le_of_ble_eq_true rfl) (Nat.le_of_ble_eq_true rfl) (Nat.le_of_ble_eq_true rfl) (rcv_S rfl) rfl ?_
    refine wp_sipush rfl ?_
    refine wp_iload rfl rfl ?_
    refine wp_i2l rfl ?_
    refine wp_lsub rfl ?_
    refine Wp.topL (y := (-9223372036854775805)) (by decide) ?_
    refine wp_lret rfl rfl ?_
    show Wp X _ 118 13 [vr 89, zx1, vi x2, vi x3, vi x4, vi x5] [vl (-9223372036854775805)] _ _
    exact wp_lret rfl rfl H
/-- WarnLinesModel.soonOf(IIIZI)J, from 20 -/
theorem S118_89_20 {X : Nat × (Int → Int)} {h : HP} {Q : bQ} (zx1 : aV) (x2 : Int) (zx3 : aV) (x4 : Int) (x5 : Int) (H : ((x4 = 0 → Wp X 1 115 0 [vr 89, vi x2, vu, vu, vu] [] h (fun v h' => Wp X 5 118 39 [vr 89, zx1, vi x2, zx3, vi x4, vi x5] (psh v []) h' Q)) ∧ (x4 ≠ 0 → ((0 ≤ x2 ∧ x2 < 10) ∧ Wp X 5 118 39 [vr 89, zx1, vi x2, zx3, vi x4, vi x5] [vl (h 115 x2)] h Q)))) : Wp X 5 118 20 [vr 89, zx1, vi x2, zx3, vi x4, vi x5] [] h Q := by
  refine wp_iload rfl rfl ?_
  refine wp_ifeq (tn := 34) rfl rfl (fun c1 => ?_) (fun c1 => ?_)
  · replace H := H.1 c1
    refine wp_aload rfl rfl ?_
    refine wp_iload rfl rfl ?_
    exact wp_call (k := 115) (ρ2 := 1) (L2 := [vr 89, vi x2, vu, vu, vu]) rfl rfl rfl (Nat.le_of_ble_eq_true rfl) (Nat.le_of_ble_eq_true rfl) (Nat.le_of_ble_eq_true rfl) (rcv_V rfl (congrArg Prod.fst (kf_89 X.1))) rfl H
  · replace H := H.2 c1
    refine wp_aload rfl rfl ?_
    refine wp_getR (r := 114) rfl (congrArg Prod.fst (kf_89 X.1)) rfl ?_
    refine wp_iload rfl rfl ?_
    have g2 := H.1
    replace H := H.2
    refine wp_laload rfl (kf_115 X.1) g2 ?_
    refine wp_goto (tn := 39) rfl rfl ?_
    exact H
/-- WarnLinesModel.soonOf(IIIZI)J, from 39 -/
theorem S118_89_39 {X : Nat × (Int → Int)} {h : HP} {Q : bQ} (zx0 : aV) (zx1 : aV) (x2 : Int) (zx3 : aV) (zx4 : aV) (x5 : Int) (s0 : Int) (H : ((R32 (6 * x2)) ∧ Wp X 1 61 0 [vl s0, vu, vl ((i64 1 <<< ((i32 (6 * x2)).toInt64 &&& 63)).toInt), vu, vi x5] [] h (fun v h' => Wp X 5 118 48 [zx0, zx1, vi x2, zx3, zx4, vi x5] (psh v []) h' Q))) : Wp X 5 118 39 [zx0, zx1, vi x2, zx3, zx4, vi x5] [vl s0] h Q := by
  refine wp_iload rfl rfl ?_
  refine wp_call (k := 113) (ρ2 := 0) (L2 := [vi x2]) rfl rfl rfl (Nat.le_of_ble_eq_true rfl) (Nat.le_of_ble_eq_true rfl) (Nat.le_of_ble_eq_true rfl) (rcv_S rfl) rfl ?_
  refine wp_sipush rfl ?_
  refine wp_iconst rfl ?_
  refine wp_iload rfl rfl ?_
  refine wp_imul rfl ?_
  have g1 := H.1
  replace H := H.2
  refine Wp.topI (y := (6 * x2)) (w32_I g1) ?_
  refine wp_lshl rfl ?_
  refine wp_lret rfl rfl ?_
  show Wp X _ 118 43 [zx0, zx1, vi x2, zx3, zx4, vi x5] [vl ((i64 1 <<< ((i32 (6 * x2)).toInt64 &&& 63)).toInt), vl s0] _ _
  refine wp_iload rfl rfl ?_
  exact wp_call (k := 61) (ρ2 := 1) (L2 := [vl s0, vu, vl ((i64 1 <<< ((i32 (6 * x2)).toInt64 &&& 63)).toInt), vu, vi x5]) rfl rfl rfl (Nat.le_of_ble_eq_true rfl) (Nat.le_of_ble_eq_true rfl) (Nat.le_of_ble_eq_true rfl) (rcv_S rfl) rfl H
/-- WarnLinesModel.soonOf(IIIZI)J, from 48 -/
theorem S118_89_48 {X : Nat × (Int → Int)} {h : HP} {Q : bQ} (zx0 : aV) (zx1 : aV) (zx2 : aV) (zx3 : aV) (zx4 : aV) (zx5 : aV) (s0 : Int) (H : Q (some (vl s0)) h) : Wp X 5 118 48 [zx0, zx1, zx2, zx3, zx4, zx5] [vl s0] h Q := by
  exact wp_lret rfl rfl H
/-- WarnLinesModel.soon(IIIZI)J, from 0 -/
theorem S119_89_0 {X : Nat × (Int → Int)} {h : HP} {Q : bQ} (x1 : Int) (x2 : Int) (x3 : Int) (x4 : Int) (x5 : Int) (H : (((lcp x1 0) < 0 → Q (some (vl (-9223372036854775806))) h) ∧ (0 ≤ (lcp x1 0) → ((0 < (lcp x1 1) → Q (some (vl (-9223372036854775806))) h) ∧ ((lcp x1 1) ≤ 0 → (((lcp x2 1) < 0 → Q (some (vl (-9223372036854775806))) h) ∧ (0 ≤ (lcp x2 1) → ((0 < (lcp x2 9) → Q (some (vl (-9223372036854775806))) h) ∧ ((lcp x2 9) ≤ 0 → (((lcp x3 (-7)) < 0 → Q (some (vl (-9223372036854775806))) h) ∧ (0 ≤ (lcp x3 (-7)) → ((0 < (lcp x3 7) → Q (some (vl (-9223372036854775806))) h) ∧ ((lcp x3 7) ≤ 0 → (((lcp x5 0) < 0 → Q (some (vl (-9223372036854775806))) h) ∧ (0 ≤ (lcp x5 0) → ((0 < (lcp x5 1) → Q (some (vl (-9223372036854775806))) h) ∧ ((lcp x5 1) ≤ 0 → Wp X 5 118 0 [vr 89, vi x1, vi x2, vi x3, vi x4, vi x5] [] h (fun v h' => Wp X 6 119 34 [vr 89, vi x1, vi x2, vi x3, vi x4, vi x5] (psh v []) h' Q)))))))))))))))))) : Wp X 6 119 0 [vr 89, vi x1, vi x2, vi x3, vi x4, vi x5] [] h Q := by
  refine wp_iload rfl rfl ?_
  refine wp_call (k := 50) (ρ2 := 1) (L2 := [vi x1]) rfl rfl rfl (Nat.le_of_ble_eq_true rfl) (Nat.le_of_ble_eq_true rfl) (Nat.le_of_ble_eq_true rfl) (rcv_S rfl) rfl ?_
  refine wp_iload rfl rfl ?_
  refine wp_i2l rfl ?_
  refine wp_sipush rfl ?_
  refine wp_sipush rfl ?_
  refine wp_call (k := 48) (ρ2 := 0) (L2 := [vl x1, vu, vl 0, vu, vl 1, vu]) rfl rfl rfl (Nat.le_of_ble_eq_true rfl) (Nat.le_of_ble_eq_true rfl) (Nat.le_of_ble_eq_true rfl) (rcv_S rfl) rfl ?_
  refine wp_lload rfl rfl ?_
  refine wp_lload rfl rfl ?_
  refine wp_lcmp rfl ?_
  refine wp_iflt (tn := 17) rfl rfl (fun c1 => ?_) (fun c1 => ?_)
  · replace H := H.1 c1
    refine wp_iconst rfl ?_
    refine wp_zret rfl rfl (by decide) ?_
    show Wp X _ 50 7 [vi x1] [vi 0] _ _
    refine wp_zret rfl rfl (by decide) ?_
    show Wp X _ 119 4 [vr 89, vi x1, vi x2, vi x3, vi x4, vi x5] [vi 0] _ _
    refine wp_ifeqT (tn := 37) rfl rfl (by decide) ?_
    refine wp_iconst rfl ?_
    refine wp_call (k := 49) (ρ2 := 0) (L2 := [vi (-2)]) rfl rfl rfl (Nat.le_of_ble_eq_true rfl) (Nat.le_of_ble_eq_true rfl) (Nat.le_of_ble_eq_true rfl) (rcv_S rfl) rfl ?_
    refine wp_sipush rfl ?_
    refine wp_iload rfl rfl ?_
    refine wp_i2l rfl ?_
    refine wp_lsub rfl ?_
    refine Wp.topL (y := (-9223372036854775806)) (by decide) ?_
    refine wp_lret rfl rfl ?_
    show Wp X _ 119 42 [vr 89, vi x1, vi x2, vi x3, vi x4, vi x5] [vl (-9223372036854775806)] _ _
    exact wp_lret rfl rfl H
  · replace H := H.2 c1
    refine wp_lload rfl rfl ?_
    refine wp_lload rfl rfl ?_
    refine wp_lcmp rfl ?_
    refine wp_ifgt (tn := 17) rfl rfl (fun c2 => ?_) (fun c2 => ?_)
    · replace H := H.1 c2
      refine wp_iconst rfl ?_
      refine wp_zret rfl rfl (by decide) ?_
      show Wp X _ 50 7 [vi x1] [vi 0] _ _
      refine wp_zret rfl rfl (by decide) ?_
      show Wp X _ 119 4 [vr 89, vi x1, vi x2, vi x3, vi x4, vi x5] [vi 0] _ _
      refine wp_ifeqT (tn := 37) rfl rfl (by decide) ?_
      refine wp_iconst rfl ?_
      refine wp_call (k := 49) (ρ2 := 0) (L2 := [vi (-2)]) rfl rfl rfl (Nat.le_of_ble_eq_true rfl) (Nat.le_of_ble_eq_true rfl) (Nat.le_of_ble_eq_true rfl) (rcv_S rfl) rfl ?_
      refine wp_sipush rfl ?_
      refine wp_iload rfl rfl ?_
      refine wp_i2l rfl ?_
      refine wp_lsub rfl ?_
      refine Wp.topL (y := (-9223372036854775806)) (by decide) ?_
      refine wp_lret rfl rfl ?_
      show Wp X _ 119 42 [vr 89, vi x1, vi x2, vi x3, vi x4, vi x5] [vl (-9223372036854775806)] _ _
      exact wp_lret rfl rfl H
    · replace H := H.2 c2
      refine wp_iconst rfl ?_
      refine wp_goto (tn := 18) rfl rfl ?_
      refine wp_zret rfl rfl (by decide) ?_
      show Wp X _ 50 7 [vi x1] [vi 1] _ _
      refine wp_zret rfl rfl (by decide) ?_
      show Wp X _ 119 4 [vr 89, vi x1, vi x2, vi x3, vi x4, vi x5] [vi 1] _ _
      refine wp_ifeqF (tn := 37) rfl rfl (by decide) ?_
      refine wp_iload rfl rfl ?_
      refine wp_iload rfl rfl ?_
      refine wp_call (k := 117) (ρ2 := 1) (L2 := [vi x2, vi x3]) rfl rfl rfl (Nat.le_of_ble_eq_true rfl) (Nat.le_of_ble_eq_true rfl) (Nat.le_of_ble_eq_true rfl) (rcv_S rfl) rfl ?_
      refine wp_iload rfl rfl ?_
      refine wp_i2l rfl ?_
      refine wp_sipush rfl ?_
      refine wp_sipush rfl ?_
      refine wp_call (k := 48) (ρ2 := 0) (L2 := [vl x2, vu, vl 1, vu, vl 9, vu]) rfl rfl rfl (Nat.le_of_ble_eq_true rfl) (Nat.le_of_ble_eq_true rfl) (Nat.le_of_ble_eq_true rfl) (rcv_S rfl) rfl ?_
      refine wp_lload rfl rfl ?_
      refine wp_lload rfl rfl ?_
      refine wp_lcmp rfl ?_
      refine wp_iflt (tn := 17) rfl rfl (fun c3 => ?_) (fun c3 => ?_)
      · replace H := H.1 c3
        refine wp_iconst rfl ?_
        refine wp_zret rfl rfl (by decide) ?_
        show Wp X _ 117 9 [vi x2, vi x3] [vi 0] _ _
        refine wp_ifeqT (tn := 30) rfl rfl (by decide) ?_
        refine wp_iconst rfl ?_
        refine wp_zret rfl rfl (by decide) ?_
        show Wp X _ 119 12 [vr 89, vi x1, vi x2, vi x3, vi x4, vi x5] [vi 0] _ _
        refine wp_ifeqT (tn := 37) rfl rfl (by decide) ?_
        refine wp_iconst rfl ?_
        refine wp_call (k := 49) (ρ2 := 0) (L2 := [vi (-2)]) rfl rfl rfl (Nat.le_of_ble_eq_true rfl) (Nat.le_of_ble_eq_true rfl) (Nat.le_of_ble_eq_true rfl) (rcv_S rfl) rfl ?_
        refine wp_sipush rfl ?_
        refine wp_iload rfl rfl ?_
        refine wp_i2l rfl ?_
        refine wp_lsub rfl ?_
        refine Wp.topL (y := (-9223372036854775806)) (by decide) ?_
        refine wp_lret rfl rfl ?_
        show Wp X _ 119 42 [vr 89, vi x1, vi x2, vi x3, vi x4, vi x5] [vl (-9223372036854775806)] _ _
        exact wp_lret rfl rfl H
      · replace H := H.2 c3
        refine wp_lload rfl rfl ?_
        refine wp_lload rfl rfl ?_
        refine wp_lcmp rfl ?_
        refine wp_ifgt (tn := 17) rfl rfl (fun c4 => ?_) (fun c4 => ?_)
        · replace H := H.1 c4
          refine wp_iconst rfl ?_
          refine wp_zret rfl rfl (by decide) ?_
          show Wp X _ 117 9 [vi x2, vi x3] [vi 0] _ _
          refine wp_ifeqT (tn := 30) rfl rfl (by decide) ?_
          refine wp_iconst rfl ?_
          refine wp_zret rfl rfl (by decide) ?_
          show Wp X _ 119 12 [vr 89, vi x1, vi x2, vi x3, vi x4, vi x5] [vi 0] _ _
          refine wp_ifeqT (tn := 37) rfl rfl (by decide) ?_
          refine wp_iconst rfl ?_
          refine wp_call (k := 49) (ρ2 := 0) (L2 := [vi (-2)]) rfl rfl rfl (Nat.le_of_ble_eq_true rfl) (Nat.le_of_ble_eq_true rfl) (Nat.le_of_ble_eq_true rfl) (rcv_S rfl) rfl ?_
          refine wp_sipush rfl ?_
          refine wp_iload rfl rfl ?_
          refine wp_i2l rfl ?_
          refine wp_lsub rfl ?_
          refine Wp.topL (y := (-9223372036854775806)) (by decide) ?_
          refine wp_lret rfl rfl ?_
          show Wp X _ 119 42 [vr 89, vi x1, vi x2, vi x3, vi x4, vi x5] [vl (-9223372036854775806)] _ _
          exact wp_lret rfl rfl H
        · replace H := H.2 c4
          refine wp_iconst rfl ?_
          refine wp_goto (tn := 18) rfl rfl ?_
          refine wp_zret rfl rfl (by decide) ?_
          show Wp X _ 117 9 [vi x2, vi x3] [vi 1] _ _
          refine wp_ifeqF (tn := 30) rfl rfl (by decide) ?_
          refine wp_iload rfl rfl ?_
          refine wp_i2l rfl ?_
          refine wp_sipush rfl ?_
          refine wp_sipush rfl ?_
          refine wp_call (k := 48) (ρ2 := 0) (L2 := [vl x3, vu, vl (-7), vu, vl 7, vu]) rfl rfl rfl (Nat.le_of_ble_eq_true rfl) (Nat.le_of_ble_eq_true rfl) (Nat.le_of_ble_eq_true rfl) (rcv_S rfl) rfl ?_
          refine wp_lload rfl rfl ?_
          refine wp_lload rfl rfl ?_
          refine wp_lcmp rfl ?_
          refine wp_iflt (tn := 17) rfl rfl (fun c5 => ?_) (fun c5 => ?_)
          · replace H := H.1 c5
            refine wp_iconst rfl ?_
            refine wp_zret rfl rfl (by decide) ?_
            show Wp X _ 117 23 [vi x2, vi x3] [vi 0] _ _
            refine wp_ifeqT (tn := 30) rfl rfl (by decide) ?_
            refine wp_iconst rfl ?_
            refine wp_zret rfl rfl (by decide) ?_
            show Wp X _ 119 12 [vr 89, vi x1, vi x2, vi x3, vi x4, vi x5] [vi 0] _ _
            refine wp_ifeqT (tn := 37) rfl rfl (by decide) ?_
            refine wp_iconst rfl ?_
            refine wp_call (k := 49) (ρ2 := 0) (L2 := [vi (-2)]) rfl rfl rfl (Nat.le_of_ble_eq_true rfl) (Nat.le_of_ble_eq_true rfl) (Nat.le_of_ble_eq_true rfl) (rcv_S rfl) rfl ?_
            refine wp_sipush rfl ?_
            refine wp_iload rfl rfl ?_
            refine wp_i2l rfl ?_
            refine wp_lsub rfl ?_
            refine Wp.topL (y := (-9223372036854775806)) (by decide) ?_
            refine wp_lret rfl rfl ?_
            show Wp X _ 119 42 [vr 89, vi x1, vi x2, vi x3, vi x4, vi x5] [vl (-9223372036854775806)] _ _
            exact wp_lret rfl rfl H
          · replace H := H.2 c5
            refine wp_lload rfl rfl ?_
            refine wp_lload rfl rfl ?_
            refine wp_lcmp rfl ?_
            refine wp_ifgt (tn := 17) rfl rfl (fun c6 => ?_) (fun c6 => ?_)
            · replace H := H.1 c6
              refine wp_iconst rfl ?_
              refine wp_zret rfl rfl (by decide) ?_
              show Wp X _ 117 23 [vi x2, vi x3] [vi 0] _ _
              refine wp_ifeqT (tn := 30) rfl rfl (by decide) ?_
              refine wp_iconst rfl ?_
              refine wp_zret rfl rfl (by decide) ?_
              show Wp X _ 119 12 [vr 89, vi x1, vi x2, vi x3, vi x4, vi x5] [vi 0] _ _
              refine wp_ifeqT (tn := 37) rfl rfl (by decide) ?_
              refine wp_iconst rfl ?_
              refine wp_call (k := 49) (ρ2 := 0) (L2 := [vi (-2)]) rfl rfl rfl (Nat.le_of_ble_eq_true rfl) (Nat.le_of_ble_eq_true rfl) (Nat.le_of_ble_eq_true rfl) (rcv_S rfl) rfl ?_
              refine wp_sipush rfl ?_
              refine wp_iload rfl rfl ?_
              refine wp_i2l rfl ?_
              refine wp_lsub rfl ?_
              refine Wp.topL (y := (-9223372036854775806)) (by decide) ?_
              refine wp_lret rfl rfl ?_
              show Wp X _ 119 42 [vr 89, vi x1, vi x2, vi x3, vi x4, vi x5] [vl (-9223372036854775806)] _ _
              exact wp_lret rfl rfl H
            · replace H := H.2 c6
              refine wp_iconst rfl ?_
              refine wp_goto (tn := 18) rfl rfl ?_
              refine wp_zret rfl rfl (by decide) ?_
              show Wp X _ 117 23 [vi x2, vi x3] [vi 1] _ _
              refine wp_ifeqF (tn := 30) rfl rfl (by decide) ?_
              refine wp_iconst rfl ?_
              refine wp_goto (tn := 31) rfl rfl ?_
              refine wp_zret rfl rfl (by decide) ?_
              show Wp X _ 119 12 [vr 89, vi x1, vi x2, vi x3, vi x4, vi x5] [vi 1] _ _
              refine wp_ifeqF (tn := 37) rfl rfl (by decide) ?_
              refine wp_iload rfl rfl ?_
              refine wp_call (k := 50) (ρ2 := 1) (L2 := [vi x5]) rfl rfl rfl (Nat.le_of_ble_eq_true rfl) (Nat.le_of_ble_eq_true rfl) (Nat.le_of_ble_eq_true rfl) (rcv_S rfl) rfl ?_
              refine wp_iload rfl rfl ?_
              refine wp_i2l rfl ?_
              refine wp_sipush rfl ?_
              refine wp_sipush rfl ?_
              refine wp_call (k := 48) (ρ2 := 0) (L2 := [vl x5, vu, vl 0, vu, vl 1, vu]) rfl rfl rfl (Nat.le_of_ble_eq_true rfl) (Nat.le_of_ble_eq_true rfl) (Nat.le_of_ble_eq_true rfl) (rcv_S rfl) rfl ?_
              refine wp_lload rfl rfl ?_
              refine wp_lload rfl rfl ?_
              refine wp_lcmp rfl ?_
              refine wp_iflt (tn := 17) rfl rfl (fun c7 => ?_) (fun c7 => ?_)
              · replace H := H.1 c7
                refine wp_iconst rfl ?_
                refine wp_zret rfl rfl (by decide) ?_
                show Wp X _ 50 7 [vi x5] [vi 0] _ _
                refine wp_zret rfl rfl (by decide) ?_
                show Wp X _ 119 20 [vr 89, vi x1, vi x2, vi x3, vi x4, vi x5] [vi 0] _ _
                refine wp_ifeqT (tn := 37) rfl rfl (by decide) ?_
                refine wp_iconst rfl ?_
                refine wp_call (k := 49) (ρ2 := 0) (L2 := [vi (-2)]) rfl rfl rfl (Nat.le_of_ble_eq_true rfl) (Nat.le_of_ble_eq_true rfl) (Nat.le_of_ble_eq_true rfl) (rcv_S rfl) rfl ?_
                refine wp_sipush rfl ?_
                refine wp_iload rfl rfl ?_
                refine wp_i2l rfl ?_
                refine wp_lsub rfl ?_
                refine Wp.topL (y := (-9223372036854775806)) (by decide) ?_
                refine wp_lret rfl rfl ?_
                show Wp X _ 119 42 [vr 89, vi x1, vi x2, vi x3, vi x4, vi x5] [vl (-9223372036854775806)] _ _
                exact wp_lret rfl rfl H
              · replace H := H.2 c7
                refine wp_lload rfl rfl ?_
                refine wp_lload rfl rfl ?_
                refine wp_lcmp rfl ?_
                refine wp_ifgt (tn := 17) rfl rfl (fun c8 => ?_) (fun c8 => ?_)
                · replace H := H.1 c8
                  refine wp_iconst rfl ?_
                  refine wp_zret rfl rfl (by decide) ?_
                  show Wp X _ 50 7 [vi x5] [vi 0] _ _
                  refine wp_zret rfl rfl (by decide) ?_
                  show Wp X _ 119 20 [vr 89, vi x1, vi x2, vi x3, vi x4, vi x5] [vi 0] _ _
                  refine wp_ifeqT (tn := 37) rfl rfl (by decide) ?_
                  refine wp_iconst rfl ?_
                  refine wp_call (k := 49) (ρ2 := 0) (L2 := [vi (-2)]) rfl rfl rfl (Nat.le_of_ble_eq_true rfl) (Nat.le_of_ble_eq_true rfl) (Nat.le_of_ble_eq_true rfl) (rcv_S rfl) rfl ?_
                  refine wp_sipush rfl ?_
                  refine wp_iload rfl rfl ?_
                  refine wp_i2l rfl ?_
                  refine wp_lsub rfl ?_
                  refine Wp.topL (y := (-9223372036854775806)) (by decide) ?_
                  refine wp_lret rfl rfl ?_
                  show Wp X _ 119 42 [vr 89, vi x1, vi x2, vi x3, vi x4, vi x5] [vl (-9223372036854775806)] _ _
                  exact wp_lret rfl rfl H
                · replace H := H.2 c8
                  refine wp_iconst rfl ?_
                  refine wp_goto (tn := 18) rfl rfl ?_
                  refine wp_zret rfl rfl (by decide) ?_
                  show Wp X _ 50 7 [vi x5] [vi 1] _ _
                  refine wp_zret rfl rfl (by decide) ?_
                  show Wp X _ 119 20 [vr 89, vi x1, vi x2, vi x3, vi x4, vi x5] [vi 1] _ _
                  refine wp_ifeqF (tn := 37) rfl rfl (by decide) ?_
                  refine wp_aload rfl rfl ?_
                  refine wp_iload rfl rfl ?_
                  refine wp_iload rfl rfl ?_
                  refine wp_iload rfl rfl ?_
                  refine wp_iload rfl rfl ?_
                  refine wp_iload rfl rfl ?_
                  exact wp_call (k := 118) (ρ2 := 5) (L2 := [vr 89, vi x1, vi x2, vi x3, vi x4, vi x5]) rfl rfl rfl (Nat.le_of_ble_eq_true rfl) (Nat.le_of_ble_eq_true rfl) (Nat.le_of_ble_eq_true rfl) (rcv_V rfl (congrArg Prod.fst (kf_89 X.1))) rfl H
/-- WarnLinesModel.soon(IIIZI)J, from 34 -/
theorem S119_89_34 {X : Nat × (Int → Int)} {h : HP} {Q : bQ} (zx0 : aV) (zx1 : aV) (zx2 : aV) (zx3 : aV) (zx4 : aV) (zx5 : aV) (s0 : Int) (H : Q (some (vl s0)) h) : Wp X 6 119 34 [zx0, zx1, zx2, zx3, zx4, zx5] [vl s0] h Q := by
  refine wp_goto (tn := 42) rfl rfl ?_
  exact wp_lret rfl rfl H
/-- WarnLinesModel.costOf(III)J, from 0 -/
theorem S120_89_0 {X : Nat × (Int → Int)} {h : HP} {Q : bQ} (x1 : Int) (x2 : Int) (x3 : Int) (H : Wp X 4 116 0 [vr 89, vi x1, vu, vu] [] h (fun v h' => Wp X 5 120 5 [vr 89, vi x1, vi x2, vi x3, vu, vu] (psh v []) h' Q)) : Wp X 5 120 0 [vr 89, vi x1, vi x2, vi x3, vu, vu] [] h Q := by
  refine wp_aload rfl rfl ?_
  refine wp_iload rfl rfl ?_
  exact wp_call (k := 116) (ρ2 := 4) (L2 := [vr 89, vi x1, vu, vu]) rfl rfl rfl (Nat.le_of_ble_eq_true rfl) (Nat.le_of_ble_eq_true rfl) (Nat.le_of_ble_eq_true rfl) (rcv_V rfl (congrArg Prod.fst (kf_89 X.1))) rfl H
/-- WarnLinesModel.costOf(III)J, from 5 -/
theorem S120_89_5 {X : Nat × (Int → Int)} {h : HP} {Q : bQ} (zx1 : aV) (x2 : Int) (x3 : Int) (s0 : Int) (H : Wp X 2 114 0 [vr 89, vi x2, vi 0, vu, vu, vu, vu, vu] [] h (fun v h' => Wp X 5 120 12 [vr 89, zx1, vi x2, vi x3, vu, vu] (psh v []) h' Q)) : Wp X 5 120 5 [vr 89, zx1, vi x2, vi x3, vu, vu] [vi s0] h Q := by
  refine wp_pop rfl ?_
  refine wp_aload rfl rfl ?_
  refine wp_iload rfl rfl ?_
  refine wp_iconst rfl ?_
  exact wp_call (k := 114) (ρ2 := 2) (L2 := [vr 89, vi x2, vi 0, vu, vu, vu, vu, vu]) rfl rfl rfl (Nat.le_of_ble_eq_true rfl) (Nat.le_of_ble_eq_true rfl) (Nat.le_of_ble_eq_true rfl) (rcv_V rfl (congrArg Prod.fst (kf_89 X.1))) rfl H
/-- WarnLinesModel.costOf(III)J, from 12 -/
theorem S120_89_12 {X : Nat × (Int → Int)} {h : HP} {Q : bQ} (zx1 : aV) (x2 : Int) (x3 : Int) (H : Wp X 1 115 0 [vr 89, vi x2, vu, vu, vu] [] h (fun v h' => Wp X 5 120 17 [vr 89, zx1, vi x2, vi x3, vu, vu] (psh v []) h' Q)) : Wp X 5 120 12 [vr 89, zx1, vi x2, vi x3, vu, vu] [] h Q := by
  refine wp_aload rfl rfl ?_
  refine wp_iload rfl rfl ?_
  exact wp_call (k := 115) (ρ2 := 1) (L2 := [vr 89, vi x2, vu, vu, vu]) rfl rfl rfl (Nat.le_of_ble_eq_true rfl) (Nat.le_of_ble_eq_true rfl) (Nat.le_of_ble_eq_true rfl) (rcv_V rfl (congrArg Prod.fst (kf_89 X.1))) rfl H
/-- WarnLinesModel.costOf(III)J, from 17 -/
theorem S120_89_17 {X : Nat × (Int → Int)} {h : HP} {Q : bQ} (zx1 : aV) (x2 : Int) (x3 : Int) (s0 : Int) (H : Wp X 2 114 0 [vr 89, vi x2, vi x3, vu, vu, vu, vu, vu] [] h (fun v h' => Wp X 5 120 25 [vr 89, zx1, vi x2, vi x3, vl s0, vu] (psh v []) h' Q)) : Wp X 5 120 17 [vr 89, zx1, vi x2, vi x3, vu, vu] [vl s0] h Q := by
  refine wp_lstore (L2 := [vr 89, zx1, vi x2, vi x3, vl s0, vu]) rfl (Nat.le_of_ble_eq_true rfl) rfl ?_
  refine wp_aload rfl rfl ?_
  refine wp_iload rfl rfl ?_
  refine wp_iload rfl rfl ?_
  exact wp_call (k := 114) (ρ2 := 2) (L2 := [vr 89, vi x2, vi x3, vu, vu, vu, vu, vu]) rfl rfl rfl (Nat.le_of_ble_eq_true rfl) (Nat.le_of_ble_eq_true rfl) (Nat.le_of_ble_eq_true rfl) (rcv_V rfl (congrArg Prod.fst (kf_89 X.1))) rfl H
/-- WarnLinesModel.costOf(III)J, from 25 -/
theorem S120_89_25 {X : Nat × (Int → Int)} {h : HP} {Q : bQ} (zx1 : aV) (x2 : Int) (zx3 : aV) (x4 : Int) (H : ((R64 ((h 97 8) * x4)) ∧ ((R32 (6 * x2)) ∧ Wp X 1 115 0 [vr 89, vi x2, vu, vu, vu] [] h (fun v h' => Wp X 5 120 53 [vr 89, zx1, vi x2, zx3, vl x4, vu] (psh v [vl ((i64 1 <<< ((i32 (6 * x2)).toInt64 &&& 63)).toInt), vl (h 97 9), vl ((h 97 8) * x4)]) h' Q)))) : Wp X 5 120 25 [vr 89, zx1, vi x2, zx3, vl x4, vu] [] h Q := by
  refine wp_aload rfl rfl ?_
  refine wp_getR (r := 96) rfl (congrArg Prod.fst (kf_89 X.1)) rfl ?_
  refine wp_iconst rfl ?_
  refine wp_iaload rfl (kf_97 X.1) (by decide) ?_
  refine wp_i2l rfl ?_
  refine wp_lload rfl rfl ?_
  refine wp_lmul rfl ?_
  have g1 := H.1
  replace H := H.2
  refine Wp.topL (y := ((h 97 8) * x4)) (w64_I g1) ?_
  refine wp_aload rfl rfl ?_
  refine wp_getR (r := 96) rfl (congrArg Prod.fst (kf_89 X.1)) rfl ?_
  refine wp_iconst rfl ?_
  refine wp_iaload rfl (kf_97 X.1) (by decide) ?_
  refine wp_i2l rfl ?_
  refine wp_iload rfl rfl ?_
  refine wp_call (k := 113) (ρ2 := 0) (L2 := [vi x2]) rfl rfl rfl (Nat.le_of_ble_eq_true rfl) (Nat.le_of_ble_eq_true rfl) (Nat.le_of_ble_eq_true rfl) (rcv_S rfl) rfl ?_
  refine wp_sipush rfl ?_
  refine wp_iconst rfl ?_
  refine wp_iload rfl rfl ?_
  refine wp_imul rfl ?_
  have g2 := H.1
  replace H := H.2
  refine Wp.topI (y := (6 * x2)) (w32_I g2) ?_
  refine wp_lshl rfl ?_
  refine wp_lret rfl rfl ?_
  show Wp X _ 120 48 [vr 89, zx1, vi x2, zx3, vl x4, vu] [vl ((i64 1 <<< ((i32 (6 * x2)).toInt64 &&& 63)).toInt), vl (h 97 9), vl ((h 97 8) * x4)] _ _
  refine wp_aload rfl rfl ?_
  refine wp_iload rfl rfl ?_
  exact wp_call (k := 115) (ρ2 := 1) (L2 := [vr 89, vi x2, vu, vu, vu]) rfl rfl rfl (Nat.le_of_ble_eq_true rfl) (Nat.le_of_ble_eq_true rfl) (Nat.le_of_ble_eq_true rfl) (rcv_V rfl (congrArg Prod.fst (kf_89 X.1))) rfl H
/-- WarnLinesModel.costOf(III)J, from 53 -/
theorem S120_89_53 {X : Nat × (Int → Int)} {h : HP} {Q : bQ} (zx0 : aV) (zx1 : aV) (zx2 : aV) (zx3 : aV) (zx4 : aV) (s0 : Int) (s1 : Int) (s2 : Int) (s3 : Int) (H : ((R64 (s1 - s0)) ∧ ((R64 (s2 * (s1 - s0))) ∧ ((R64 (s3 + (s2 * (s1 - s0)))) ∧ Q (some (vl (s3 + (s2 * (s1 - s0))))) h)))) : Wp X 5 120 53 [zx0, zx1, zx2, zx3, zx4, vu] [vl s0, vl s1, vl s2, vl s3] h Q := by
  refine wp_lsub rfl ?_
  have g1 := H.1
  replace H := H.2
  refine Wp.topL (y := (s1 - s0)) (w64_I g1) ?_
  refine wp_lmul rfl ?_
  have g2 := H.1
  replace H := H.2
  refine Wp.topL (y := (s2 * (s1 - s0))) (w64_I g2) ?_
  refine wp_ladd rfl ?_
  have g3 := H.1
  replace H := H.2
  refine Wp.topL (y := (s3 + (s2 * (s1 - s0)))) (w64_I g3) ?_
  exact wp_lret rfl rfl H
/-- WarnLinesModel.cheaper(III)J, from 0 -/
theorem S121_89_0 {X : Nat × (Int → Int)} {h : HP} {Q : bQ} (x1 : Int) (x2 : Int) (x3 : Int) (H : (((lcp x1 1) < 0 → Q (some (vl (-9223372036854775806))) h) ∧ (0 ≤ (lcp x1 1) → ((0 < (lcp x1 9) → Q (some (vl (-9223372036854775806))) h) ∧ ((lcp x1 9) ≤ 0 → (((lcp x2 (-7)) < 0 → Q (some (vl (-9223372036854775806))) h) ∧ (0 ≤ (lcp x2 (-7)) → ((0 < (lcp x2 7) → Q (some (vl (-9223372036854775806))) h) ∧ ((lcp x2 7) ≤ 0 → (((lcp x3 0) < 0 → Q (some (vl (-9223372036854775806))) h) ∧ (0 ≤ (lcp x3 0) → ((0 < (lcp x3 2) → Q (some (vl (-9223372036854775806))) h) ∧ ((lcp x3 2) ≤ 0 → Wp X 4 116 0 [vr 89, vi 0, vu, vu] [] h (fun v h' => Wp X 6 121 31 [vr 89, vi x1, vi x2, vi x3, vu, vu, vu, vu, vu] (psh v []) h' Q)))))))))))))) : Wp X 6 121 0 [vr 89, vi x1, vi x2, vi x3, vu, vu, vu, vu, vu] [] h Q := by
  refine wp_iload rfl rfl ?_
  refine wp_iload rfl rfl ?_
  refine wp_call (k := 117) (ρ2 := 1) (L2 := [vi x1, vi x2]) rfl rfl rfl (Nat.le_of_ble_eq_true rfl) (Nat.le_of_ble_eq_true rfl) (Nat.le_of_ble_eq_true rfl) (rcv_S rfl) rfl ?_
  refine wp_iload rfl rfl ?_
  refine wp_i2l rfl ?_
  refine wp_sipush rfl ?_
  refine wp_sipush rfl ?_
  refine wp_call (k := 48) (ρ2 := 0) (L2 := [vl x1, vu, vl 1, vu, vl 9, vu]) rfl rfl rfl (Nat.le_of_ble_eq_true rfl) (Nat.le_of_ble_eq_true rfl) (Nat.le_of_ble_eq_true rfl) (rcv_S rfl) rfl ?_
  refine wp_lload rfl rfl ?_
  refine wp_lload rfl rfl ?_
  refine wp_lcmp rfl ?_
  refine wp_iflt (tn := 17) rfl rfl (fun c1 => ?_) (fun c1 => ?_)
  · replace H := H.1 c1
    refine wp_iconst rfl ?_
    refine wp_zret rfl rfl (by decide) ?_
    show Wp X _ 117 9 [vi x1, vi x2] [vi 0] _ _
    refine wp_ifeqT (tn := 30) rfl rfl (by decide) ?_
    refine wp_iconst rfl ?_
    refine wp_zret rfl rfl (by decide) ?_
    show Wp X _ 121 5 [vr 89, vi x1, vi x2, vi x3, vu, vu, vu, vu, vu] [vi 0] _ _
    refine wp_ifeqT (tn := 20) rfl rfl (by decide) ?_
    refine wp_iconst rfl ?_
    refine wp_call (k := 49) (ρ2 := 0) (L2 := [vi (-2)]) rfl rfl rfl (Nat.le_of_ble_eq_true rfl) (Nat.le_of_ble_eq_true rfl) (Nat.le_of_ble_eq_true rfl) (rcv_S rfl) rfl ?_
    refine wp_sipush rfl ?_
    refine wp_iload rfl rfl ?_
    refine wp_i2l rfl ?_
    refine wp_lsub rfl ?_
    refine Wp.topL (y := (-9223372036854775806)) (by decide) ?_
    refine wp_lret rfl rfl ?_
    show Wp X _ 121 25 [vr 89, vi x1, vi x2, vi x3, vu, vu, vu, vu, vu] [vl (-9223372036854775806)] _ _
    exact wp_lret rfl rfl H
  · replace H := H.2 c1
    refine wp_lload rfl rfl ?_
    refine wp_lload rfl rfl ?_
    refine wp_lcmp rfl ?_
    refine wp_ifgt (tn := 17) rfl rfl (fun c2 => ?_) (fun c2 => ?_)
    · replace H := H.1 c2
      refine wp_iconst rfl ?_
      refine wp_zret rfl rfl (by decide) ?_
      show Wp X _ 117 9 [vi x1, vi x2] [vi 0] _ _
      refine wp_ifeqT (tn := 30) rfl rfl (by decide) ?_
      refine wp_iconst rfl ?_
      refine wp_zret rfl rfl (by decide) ?_
      show Wp X _ 121 5 [vr 89, vi x1, vi x2, vi x3, vu, vu, vu, vu, vu] [vi 0] _ _
      refine wp_ifeqT (tn := 20) rfl rfl (by decide) ?_
      refine wp_iconst rfl ?_
      refine wp_call (k := 49) (ρ2 := 0) (L2 := [vi (-2)]) rfl rfl rfl (Nat.le_of_ble_eq_true rfl) (Nat.le_of_ble_eq_true rfl) (Nat.le_of_ble_eq_true rfl) (rcv_S rfl) rfl ?_
      refine wp_sipush rfl ?_
      refine wp_iload rfl rfl ?_
      refine wp_i2l rfl ?_
      refine wp_lsub rfl ?_
      refine Wp.topL (y := (-9223372036854775806)) (by decide) ?_
      refine wp_lret rfl rfl ?_
      show Wp X _ 121 25 [vr 89, vi x1, vi x2, vi x3, vu, vu, vu, vu, vu] [vl (-9223372036854775806)] _ _
      exact wp_lret rfl rfl H
    · replace H := H.2 c2
      refine wp_iconst rfl ?_
      refine wp_goto (tn := 18) rfl rfl ?_
      refine wp_zret rfl rfl (by decide) ?_
      show Wp X _ 117 9 [vi x1, vi x2] [vi 1] _ _
      refine wp_ifeqF (tn := 30) rfl rfl (by decide) ?_
      refine wp_iload rfl rfl ?_
      refine wp_i2l rfl ?_
      refine wp_sipush rfl ?_
      refine wp_sipush rfl ?_
      refine wp_call (k := 48) (ρ2 := 0) (L2 := [vl x2, vu, vl (-7), vu, vl 7, vu]) rfl rfl rfl (Nat.le_of_ble_eq_true rfl) (Nat.le_of_ble_eq_true rfl) (Nat.le_of_ble_eq_true rfl) (rcv_S rfl) rfl ?_
      refine wp_lload rfl rfl ?_
      refine wp_lload rfl rfl ?_
      refine wp_lcmp rfl ?_
      refine wp_iflt (tn := 17) rfl rfl (fun c3 => ?_) (fun c3 => ?_)
      · replace H := H.1 c3
        refine wp_iconst rfl ?_
        refine wp_zret rfl rfl (by decide) ?_
        show Wp X _ 117 23 [vi x1, vi x2] [vi 0] _ _
        refine wp_ifeqT (tn := 30) rfl rfl (by decide) ?_
        refine wp_iconst rfl ?_
        refine wp_zret rfl rfl (by decide) ?_
        show Wp X _ 121 5 [vr 89, vi x1, vi x2, vi x3, vu, vu, vu, vu, vu] [vi 0] _ _
        refine wp_ifeqT (tn := 20) rfl rfl (by decide) ?_
        refine wp_iconst rfl ?_
        refine wp_call (k := 49) (ρ2 := 0) (L2 := [vi (-2)]) rfl rfl rfl (Nat.le_of_ble_eq_true rfl) (Nat.le_of_ble_eq_true rfl) (Nat.le_of_ble_eq_true rfl) (rcv_S rfl) rfl ?_
        refine wp_sipush rfl ?_
        refine wp_iload rfl rfl ?_
        refine wp_i2l rfl ?_
        refine wp_lsub rfl ?_
        refine Wp.topL (y := (-9223372036854775806)) (by decide) ?_
        refine wp_lret rfl rfl ?_
        show Wp X _ 121 25 [vr 89, vi x1, vi x2, vi x3, vu, vu, vu, vu, vu] [vl (-9223372036854775806)] _ _
        exact wp_lret rfl rfl H
      · replace H := H.2 c3
        refine wp_lload rfl rfl ?_
        refine wp_lload rfl rfl ?_
        refine wp_lcmp rfl ?_
        refine wp_ifgt (tn := 17) rfl rfl (fun c4 => ?_) (fun c4 => ?_)
        · replace H := H.1 c4
          refine wp_iconst rfl ?_
          refine wp_zret rfl rfl (by decide) ?_
          show Wp X _ 117 23 [vi x1, vi x2] [vi 0] _ _
          refine wp_ifeqT (tn := 30) rfl rfl (by decide) ?_
          refine wp_iconst rfl ?_
          refine wp_zret rfl rfl (by decide) ?_
          show Wp X _ 121 5 [vr 89, vi x1, vi x2, vi x3, vu, vu, vu, vu, vu] [vi 0] _ _
          refine wp_ifeqT (tn := 20) rfl rfl (by decide) ?_
          refine wp_iconst rfl ?_
          refine wp_call (k := 49) (ρ2 := 0) (L2 := [vi (-2)]) rfl rfl rfl (Nat.le_of_ble_eq_true rfl) (Nat.le_of_ble_eq_true rfl) (Nat.le_of_ble_eq_true rfl) (rcv_S rfl) rfl ?_
          refine wp_sipush rfl ?_
          refine wp_iload rfl rfl ?_
          refine wp_i2l rfl ?_
          refine wp_lsub rfl ?_
          refine Wp.topL (y := (-9223372036854775806)) (by decide) ?_
          refine wp_lret rfl rfl ?_
          show Wp X _ 121 25 [vr 89, vi x1, vi x2, vi x3, vu, vu, vu, vu, vu] [vl (-9223372036854775806)] _ _
          exact wp_lret rfl rfl H
        · replace H := H.2 c4
          refine wp_iconst rfl ?_
          refine wp_goto (tn := 18) rfl rfl ?_
          refine wp_zret rfl rfl (by decide) ?_
          show Wp X _ 117 23 [vi x1, vi x2] [vi 1] _ _
          refine wp_ifeqF (tn := 30) rfl rfl (by decide) ?_
          refine wp_iconst rfl ?_
          refine wp_goto (tn := 31) rfl rfl ?_
          refine wp_zret rfl rfl (by decide) ?_
          show Wp X _ 121 5 [vr 89, vi x1, vi x2, vi x3, vu, vu, vu, vu, vu] [vi 1] _ _
          refine wp_ifeqF (tn := 20) rfl rfl (by decide) ?_
          refine wp_iload rfl rfl ?_
          refine wp_i2l rfl ?_
          refine wp_sipush rfl ?_
          refine wp_sipush rfl ?_
          refine wp_call (k := 48) (ρ2 := 0) (L2 := [vl x3, vu, vl 0, vu, vl 2, vu]) rfl rfl rfl (Nat.le_of_ble_eq_true rfl) (Nat.le_of_ble_eq_true rfl) (Nat.le_of_ble_eq_true rfl) (rcv_S rfl) rfl ?_
          refine wp_lload rfl rfl ?_
          refine wp_lload rfl rfl ?_
          refine wp_lcmp rfl ?_
          refine wp_iflt (tn := 17) rfl rfl (fun c5 => ?_) (fun c5 => ?_)
          · replace H := H.1 c5
            refine wp_iconst rfl ?_
            refine wp_zret rfl rfl (by decide) ?_
            show Wp X _ 121 17 [vr 89, vi x1, vi x2, vi x3, vu, vu, vu, vu, vu] [vi 0] _ _
            refine wp_ifneF (tn := 26) rfl rfl (by decide) ?_
            refine wp_iconst rfl ?_
            refine wp_call (k := 49) (ρ2 := 0) (L2 := [vi (-2)]) rfl rfl rfl (Nat.le_of_ble_eq_true rfl) (Nat.le_of_ble_eq_true rfl) (Nat.le_of_ble_eq_true rfl) (rcv_S rfl) rfl ?_
            refine wp_sipush rfl ?_
            refine wp_iload rfl rfl ?_
            refine wp_i2l rfl ?_
            refine wp_lsub rfl ?_
            refine Wp.topL (y := (-9223372036854775806)) (by decide) ?_
            refine wp_lret rfl rfl ?_
            show Wp X _ 121 25 [vr 89, vi x1, vi x2, vi x3, vu, vu, vu, vu, vu] [vl (-9223372036854775806)] _ _
            exact wp_lret rfl rfl H
          · replace H := H.2 c5
            refine wp_lload rfl rfl ?_
            refine wp_lload rfl rfl ?_
            refine wp_lcmp rfl ?_
            refine wp_ifgt (tn := 17) rfl rfl (fun c6 => ?_) (fun c6 => ?_)
            · replace H := H.1 c6
              refine wp_iconst rfl ?_
              refine wp_zret rfl rfl (by decide) ?_
              show Wp X _ 121 17 [vr 89, vi x1, vi x2, vi x3, vu, vu, vu, vu, vu] [vi 0] _ _
              refine wp_ifneF (tn := 26) rfl rfl (by decide) ?_
              refine wp_iconst rfl ?_
              refine wp_call (k := 49) (ρ2 := 0) (L2 := [vi (-2)]) rfl rfl rfl (Nat.le_of_ble_eq_true rfl) (Nat.le_of_ble_eq_true rfl) (Nat.le_of_ble_eq_true rfl) (rcv_S rfl) rfl ?_
              refine wp_sipush rfl ?_
              refine wp_iload rfl rfl ?_
              refine wp_i2l rfl ?_
              refine wp_lsub rfl ?_
              refine Wp.topL (y := (-9223372036854775806)) (by decide) ?_
              refine wp_lret rfl rfl ?_
              show Wp X _ 121 25 [vr 89, vi x1, vi x2, vi x3, vu, vu, vu, vu, vu] [vl (-9223372036854775806)] _ _
              exact wp_lret rfl rfl H
            · replace H := H.2 c6
              refine wp_iconst rfl ?_
              refine wp_goto (tn := 18) rfl rfl ?_
              refine wp_zret rfl rfl (by decide) ?_
              show Wp X _ 121 17 [vr 89, vi x1, vi x2, vi x3, vu, vu, vu, vu, vu] [vi 1] _ _
              refine wp_ifneT (tn := 26) rfl rfl (by decide) ?_
              refine wp_aload rfl rfl ?_
              refine wp_iconst rfl ?_
              exact wp_call (k := 116) (ρ2 := 4) (L2 := [vr 89, vi 0, vu, vu]) rfl rfl rfl (Nat.le_of_ble_eq_true rfl) (Nat.le_of_ble_eq_true rfl) (Nat.le_of_ble_eq_true rfl) (rcv_V rfl (congrArg Prod.fst (kf_89 X.1))) rfl H
/-- WarnLinesModel.cheaper(III)J, from 31 -/
theorem S121_89_31 {X : Nat × (Int → Int)} {h : HP} {Q : bQ} (x1 : Int) (x2 : Int) (x3 : Int) (s0 : Int) (H : ((s0 = 0 → Q (some (vl (-9223372036854775805))) h) ∧ (s0 ≠ 0 → Wp X 4 116 0 [vr 89, vi 1, vu, vu] [] h (fun v h' => Wp X 6 121 39 [vr 89, vi x1, vi x2, vi x3, vu, vu, vu, vu, vu] (psh v []) h' Q)))) : Wp X 6 121 31 [vr 89, vi x1, vi x2, vi x3, vu, vu, vu, vu, vu] [vi s0] h Q := by
  refine wp_ifeq (tn := 42) rfl rfl (fun c1 => ?_) (fun c1 => ?_)
  · replace H := H.1 c1
    refine wp_iconst rfl ?_
    refine wp_call (k := 49) (ρ2 := 0) (L2 := [vi (-3)]) rfl rfl rfl (Nat.le_of_ble_eq_true rfl) (Nat.le_of_ble_eq_true rfl) (Nat.le_of_ble_eq_true rfl) (rcv_S rfl) rfl ?_
    refine wp_sipush rfl ?_
    refine wp_iload rfl rfl ?_
    refine wp_i2l rfl ?_
    refine wp_lsub rfl ?_
    refine Wp.topL (y := (-9223372036854775805)) (by decide) ?_
    refine wp_lret rfl rfl ?_
    show Wp X _ 121 47 [vr 89, vi x1, vi x2, vi x3, vu, vu, vu, vu, vu] [vl (-9223372036854775805)] _ _
    exact wp_lret rfl rfl H
  · replace H := H.2 c1
    refine wp_aload rfl rfl ?_
    refine wp_iconst rfl ?_
    exact wp_call (k := 116) (ρ2 := 4) (L2 := [vr 89, vi 1, vu, vu]) rfl rfl rfl (Nat.le_of_ble_eq_true rfl) (Nat.le_of_ble_eq_true rfl) (Nat.le_of_ble_eq_true rfl) (rcv_V rfl (congrArg Prod.fst (kf_89 X.1))) rfl H
/-- WarnLinesModel.cheaper(III)J, from 39 -/
theorem S121_89_39 {X : Nat × (Int → Int)} {h : HP} {Q : bQ} (x1 : Int) (x2 : Int) (x3 : Int) (s0 : Int) (H : ((s0 ≠ 0 → Wp X 5 120 0 [vr 89, vi 0, vi x1, vi x2, vu, vu] [] h (fun v h' => Wp X 6 121 55 [vr 89, vi x1, vi x2, vi x3, vu, vu, vu, vu, vu] (psh v []) h' Q)) ∧ (s0 = 0 → Q (some (vl (-9223372036854775805))) h))) : Wp X 6 121 39 [vr 89, vi x1, vi x2, vi x3, vu, vu, vu, vu, vu] [vi s0] h Q := by
  refine wp_ifne (tn := 48) rfl rfl (fun c1 => ?_) (fun c1 => ?_)
  · replace H := H.1 c1
    refine wp_aload rfl rfl ?_
    refine wp_iconst rfl ?_
    refine wp_iload rfl rfl ?_
    refine wp_iload rfl rfl ?_
    exact wp_call (k := 120) (ρ2 := 5) (L2 := [vr 89, vi 0, vi x1, vi x2, vu, vu]) rfl rfl rfl (Nat.le_of_ble_eq_true rfl) (Nat.le_of_ble_eq_true rfl) (Nat.le_of_ble_eq_true rfl) (rcv_V rfl (congrArg Prod.fst (kf_89 X.1))) rfl H
  · replace H := H.2 c1
    refine wp_iconst rfl ?_
    refine wp_call (k := 49) (ρ2 := 0) (L2 := [vi (-3)]) rfl rfl rfl (Nat.le_of_ble_eq_true rfl) (Nat.le_of_ble_eq_true rfl) (Nat.le_of_ble_eq_true rfl) (rcv_S rfl) rfl ?_
    refine wp_sipush rfl ?_
    refine wp_iload rfl rfl ?_
    refine wp_i2l rfl ?_
    refine wp_lsub rfl ?_
    refine Wp.topL (y := (-9223372036854775805)) (by decide) ?_
    refine wp_lret rfl rfl ?_
    show Wp X _ 121 47 [vr 89, vi x1, vi x2, vi x3, vu, vu, vu, vu, vu] [vl (-9223372036854775805)] _ _
    exact wp_lret rfl rfl H
/-- WarnLinesModel.cheaper(III)J, from 55 -/
theorem S121_89_55 {X : Nat × (Int → Int)} {h : HP} {Q : bQ} (x1 : Int) (x2 : Int) (x3 : Int) (s0 : Int) (H : Wp X 5 120 0 [vr 89, vi 1, vi x1, vi x2, vu, vu] [] h (fun v h' => Wp X 6 121 64 [vr 89, vi x1, vi x2, vi x3, vl s0, vu, vu, vu, vu] (psh v []) h' Q)) : Wp X 6 121 55 [vr 89, vi x1, vi x2, vi x3, vu, vu, vu, vu, vu] [vl s0] h Q := by
  refine wp_lstore (L2 := [vr 89, vi x1, vi x2, vi x3, vl s0, vu, vu, vu, vu]) rfl (Nat.le_of_ble_eq_true rfl) rfl ?_
  refine wp_aload rfl rfl ?_
  refine wp_iconst rfl ?_
  refine wp_iload rfl rfl ?_
  refine wp_iload rfl rfl ?_
  exact wp_call (k := 120) (ρ2 := 5) (L2 := [vr 89, vi 1, vi x1, vi x2, vu, vu]) rfl rfl rfl (Nat.le_of_ble_eq_true rfl) (Nat.le_of_ble_eq_true rfl) (Nat.le_of_ble_eq_true rfl) (rcv_V rfl (congrArg Prod.fst (kf_89 X.1))) rfl H
/-- WarnLinesModel.cheaper(III)J, from 64 -/
theorem S121_89_64 {X : Nat × (Int → Int)} {h : HP} {Q : bQ} (zx0 : aV) (x1 : Int) (zx2 : aV) (x3 : Int) (x4 : Int) (s0 : Int) (H : ((0 ≤ (lcp s0 x4) → ((x3 ≠ 2 → ((R32 (6 * x1)) ∧ Wp X 1 61 0 [vl x4, vu, vl ((i64 1 <<< ((i32 (6 * x1)).toInt64 &&& 63)).toInt), vu, vi x3] [] h (fun v h' => Wp X 6 121 112 [zx0, vi x1, zx2, vi x3, vl x4, vu, vl s0, vu, vi 0] (psh v []) h' Q))) ∧ (x3 = 2 → Wp X 6 121 112 [zx0, vi x1, zx2, vi x3, vl x4, vu, vl s0, vu, vi 0] [vl 0] h Q))) ∧ ((lcp s0 x4) < 0 → ((x3 ≠ 2 → ((R32 (6 * x1)) ∧ Wp X 1 61 0 [vl s0, vu, vl ((i64 1 <<< ((i32 (6 * x1)).toInt64 &&& 63)).toInt), vu, vi x3] [] h (fun v h' => Wp X 6 121 112 [zx0, vi x1, zx2, vi x3, vl x4, vu, vl s0, vu, vi 1] (psh v []) h' Q))) ∧ (x3 = 2 → Wp X 6 121 112 [zx0, vi x1, zx2, vi x3, vl x4, vu, vl s0, vu, vi 1] [vl 1] h Q))))) : Wp X 6 121 64 [zx0, vi x1, zx2, vi x3, vl x4, vu, vu, vu, vu] [vl s0] h Q := by
  refine wp_lstore (L2 := [zx0, vi x1, zx2, vi x3, vl x4, vu, vl s0, vu, vu]) rfl (Nat.le_of_ble_eq_true rfl) rfl ?_
  refine wp_lload rfl rfl ?_
  refine wp_lload rfl rfl ?_
  refine wp_lcmp rfl ?_
  refine wp_ifge (tn := 78) rfl rfl (fun c1 => ?_) (fun c1 => ?_)
  · replace H := H.1 c1
    refine wp_iconst rfl ?_
    refine wp_istore (L2 := [zx0, vi x1, zx2, vi x3, vl x4, vu, vl s0, vu, vi 0]) rfl (Nat.le_of_ble_eq_true rfl) rfl ?_
    refine wp_iload rfl rfl ?_
    refine wp_iconst rfl ?_
    refine wp_icne (tn := 92) rfl rfl (fun c2 => ?_) (fun c2 => ?_)
    · replace H := H.1 c2
      refine wp_iload rfl rfl ?_
      refine wp_ifneF (tn := 102) rfl rfl (by decide) ?_
      refine wp_lload rfl rfl ?_
      refine wp_goto (tn := 104) rfl rfl ?_
      refine wp_iload rfl rfl ?_
      refine wp_call (k := 113) (ρ2 := 0) (L2 := [vi x1]) rfl rfl rfl (Nat.le_of_ble_eq_true rfl) (Nat.le_of_ble_eq_true rfl) (Nat.le_of_ble_eq_true rfl) (rcv_S rfl) rfl ?_
      refine wp_sipush rfl ?_
      refine wp_iconst rfl ?_
      refine wp_iload rfl rfl ?_
      refine wp_imul rfl ?_
      have g3 := H.1
      replace H := H.2
      refine Wp.topI (y := (6 * x1)) (w32_I g3) ?_
      refine wp_lshl rfl ?_
      refine wp_lret rfl rfl ?_
      show Wp X _ 121 108 [zx0, vi x1, zx2, vi x3, vl x4, vu, vl s0, vu, vi 0] [vl ((i64 1 <<< ((i32 (6 * x1)).toInt64 &&& 63)).toInt), vl x4] _ _
      refine wp_iload rfl rfl ?_
      exact wp_call (k := 61) (ρ2 := 1) (L2 := [vl x4, vu, vl ((i64 1 <<< ((i32 (6 * x1)).toInt64 &&& 63)).toInt), vu, vi x3]) rfl rfl rfl (Nat.le_of_ble_eq_true rfl) (Nat.le_of_ble_eq_true rfl) (Nat.le_of_ble_eq_true rfl) (rcv_S rfl) rfl H
    · replace H := H.2 c2
      refine wp_iload rfl rfl ?_
      refine wp_i2l rfl ?_
      refine wp_goto (tn := 112) rfl rfl ?_
      exact H
  · replace H := H.2 c1
    refine wp_iconst rfl ?_
    refine wp_goto (tn := 79) rfl rfl ?_
    refine wp_istore (L2 := [zx0, vi x1, zx2, vi x3, vl x4, vu, vl s0, vu, vi 1]) rfl (Nat.le_of_ble_eq_true rfl) rfl ?_
    refine wp_iload rfl rfl ?_
    refine wp_iconst rfl ?_
    refine wp_icne (tn := 92) rfl rfl (fun c4 => ?_) (fun c4 => ?_)
    · replace H := H.1 c4
      refine wp_iload rfl rfl ?_
      refine wp_ifneT (tn := 102) rfl rfl (by decide) ?_
      refine wp_lload rfl rfl ?_
      refine wp_iload rfl rfl ?_
      refine wp_call (k := 113) (ρ2 := 0) (L2 := [vi x1]) rfl rfl rfl (Nat.le_of_ble_eq_true rfl) (Nat.le_of_ble_eq_true rfl) (Nat.le_of_ble_eq_true rfl) (rcv_S rfl) rfl ?_
      refine wp_sipush rfl ?_
      refine wp_iconst rfl ?_
      refine wp_iload rfl rfl ?_
      refine wp_imul rfl ?_
      have g5 := H.1
      replace H := H.2
      refine Wp.topI (y := (6 * x1)) (w32_I g5) ?_
      refine wp_lshl rfl ?_
      refine wp_lret rfl rfl ?_
      show Wp X _ 121 108 [zx0, vi x1, zx2, vi x3, vl x4, vu, vl s0, vu, vi 1] [vl ((i64 1 <<< ((i32 (6 * x1)).toInt64 &&& 63)).toInt), vl s0] _ _
      refine wp_iload rfl rfl ?_
      exact wp_call (k := 61) (ρ2 := 1) (L2 := [vl s0, vu, vl ((i64 1 <<< ((i32 (6 * x1)).toInt64 &&& 63)).toInt), vu, vi x3]) rfl rfl rfl (Nat.le_of_ble_eq_true rfl) (Nat.le_of_ble_eq_true rfl) (Nat.le_of_ble_eq_true rfl) (rcv_S rfl) rfl H
    · replace H := H.2 c4
      refine wp_iload rfl rfl ?_
      refine wp_i2l rfl ?_
      refine wp_goto (tn := 112) rfl rfl ?_
      exact H
/-- WarnLinesModel.cheaper(III)J, from 112 -/
theorem S121_89_112 {X : Nat × (Int → Int)} {h : HP} {Q : bQ} (zx0 : aV) (zx1 : aV) (zx2 : aV) (zx3 : aV) (zx4 : aV) (zx6 : aV) (zx8 : aV) (s0 : Int) (H : Q (some (vl s0)) h) : Wp X 6 121 112 [zx0, zx1, zx2, zx3, zx4, vu, zx6, vu, zx8] [vl s0] h Q := by
  exact wp_lret rfl rfl H
/-- WarnLinesModel.findSums()V, from 0 -/
theorem S122_89_0 {X : Nat × (Int → Int)} {h : HP} {Q : bQ}  (H : ((R64 (60 * (h 89 19))) ∧ ((R64 ((60 * (h 89 19)) * (h 97 4))) ∧ Wp X 0 122 26 [vr 89, vl 0, vu, vl 0, vu, vl ((60 * (h 89 19)) * (h 97 4)), vu, vi 0, vu, vu] [] h Q))) : Wp X 0 122 0 [vr 89, vu, vu, vu, vu, vu, vu, vu, vu, vu] [] h Q := by
  refine wp_sipush rfl ?_
  refine wp_lstore (L2 := [vr 89, vl 0, vu, vu, vu, vu, vu, vu, vu, vu]) rfl (Nat.le_of_ble_eq_true rfl) rfl ?_
  refine wp_sipush rfl ?_
  refine wp_lstore (L2 := [vr 89, vl 0, vu, vl 0, vu, vu, vu, vu, vu, vu]) rfl (Nat.le_of_ble_eq_true rfl) rfl ?_
  refine wp_sipush rfl ?_
  refine wp_aload rfl rfl ?_
  refine wp_getI (j := 19) rfl (congrArg Prod.fst (kf_89 X.1)) rfl ?_
  refine wp_i2l rfl ?_
  refine wp_lmul rfl ?_
  have g1 := H.1
  replace H := H.2
  refine Wp.topL (y := (60 * (h 89 19))) (w64_I g1) ?_
  refine wp_aload rfl rfl ?_
  refine wp_getR (r := 96) rfl (congrArg Prod.fst (kf_89 X.1)) rfl ?_
  refine wp_iconst rfl ?_
  refine wp_iaload rfl (kf_97 X.1) (by decide) ?_
  refine wp_i2l rfl ?_
  refine wp_lmul rfl ?_
  have g2 := H.1
  replace H := H.2
  refine Wp.topL (y := ((60 * (h 89 19)) * (h 97 4))) (w64_I g2) ?_
  refine wp_lstore (L2 := [vr 89, vl 0, vu, vl 0, vu, vl ((60 * (h 89 19)) * (h 97 4)), vu, vu, vu, vu]) rfl (Nat.le_of_ble_eq_true rfl) rfl ?_
  refine wp_iconst rfl ?_
  refine wp_istore (L2 := [vr 89, vl 0, vu, vl 0, vu, vl ((60 * (h 89 19)) * (h 97 4)), vu, vi 0, vu, vu]) rfl (Nat.le_of_ble_eq_true rfl) rfl ?_
  exact H
/-- WarnLinesModel.findSums()V, from 26 -/
theorem S122_89_26 {X : Nat × (Int → Int)} {h : HP} {Q : bQ} (x1 : Int) (x3 : Int) (x5 : Int) (x7 : Int) (zx8 : aV) (H : (((h 89 16) ≤ x7 → Q none h) ∧ (x7 < (h 89 16) → ((0 ≤ x7 ∧ x7 < 20) ∧ ((0 ≤ (h 102 x7) ∧ (h 102 x7) < 20) ∧ ((R64 ((h 99 (h 102 x7)) * (h 89 19))) ∧ ((R64 (((h 99 (h 102 x7)) * (h 89 19)) - (h 89 17))) ∧ ((R64 (x1 + (((h 99 (h 102 x7)) * (h 89 19)) - (h 89 17)))) ∧ ((R64 ((x1 + (((h 99 (h 102 x7)) * (h 89 19)) - (h 89 17))) - x5)) ∧ ((0 ≤ (lcp ((x1 + (((h 99 (h 102 x7)) * (h 89 19)) - (h 89 17))) - x5) 0) → ((R64 (x3 - (((h 99 (h 102 x7)) * (h 89 19)) - (h 89 17)))) ∧ ((R64 ((x3 - (((h 99 (h 102 x7)) * (h 89 19)) - (h 89 17))) - x5)) ∧ ((0 ≤ (lcp ((x3 - (((h 99 (h 102 x7)) * (h 89 19)) - (h 89 17))) - x5) 0) → Wp X 0 122 26 [vr 89, vl ((x1 + (((h 99 (h 102 x7)) * (h 89 19)) - (h 89 17))) - x5), vu, vl ((x3 - (((h 99 (h 102 x7)) * (h 89 19)) - (h 89 17))) - x5), vu, vl x5, vu, vi (x7 + 1), vl (((h 99 (h 102 x7)) * (h 89 19)) - (h 89 17)), vu] [] (upd2 (upd2 h 116 x7 ((x1 + (((h 99 (h 102 x7)) * (h 89 19)) - (h 89 17))) - x5)) 117 x7 ((x3 - (((h 99 (h 102 x7)) * (h 89 19)) - (h 89 17))) - x5)) Q) ∧ ((lcp ((x3 - (((h 99 (h 102 x7)) * (h 89 19)) - (h 89 17))) - x5) 0) < 0 → Wp X 0 122 26 [vr 89, vl ((x1 + (((h 99 (h 102 x7)) * (h 89 19)) - (h 89 17))) - x5), vu, vl 0, vu, vl x5, vu, vi (x7 + 1), vl (((h 99 (h 102 x7)) * (h 89 19)) - (h 89 17)), vu] [] (upd2 (upd2 h 116 x7 ((x1 + (((h 99 (h 102 x7)) * (h 89 19)) - (h 89 17))) - x5)) 117 x7 0) Q))))) ∧ ((lcp ((x1 + (((h 99 (h 102 x7)) * (h 89 19)) - (h 89 17))) - x5) 0) < 0 → ((R64 (x3 - (((h 99 (h 102 x7)) * (h 89 19)) - (h 89 17)))) ∧ ((R64 ((x3 - (((h 99 (h 102 x7)) * (h 89 19)) - (h 89 17))) - x5)) ∧ ((0 ≤ (lcp ((x3 - (((h 99 (h 102 x7)) * (h 89 19)) - (h 89 17))) - x5) 0) → Wp X 0 122 26 [vr 89, vl 0, vu, vl ((x3 - (((h 99 (h 102 x7)) * (h 89 19)) - (h 89 17))) - x5), vu, vl x5, vu, vi (x7 + 1), vl (((h 99 (h 102 x7)) * (h 89 19)) - (h 89 17)), vu] [] (upd2 (upd2 h 116 x7 0) 117 x7 ((x3 - (((h 99 (h 102 x7)) * (h 89 19)) - (h 89 17))) - x5)) Q) ∧ ((lcp ((x3 - (((h 99 (h 102 x7)) * (h 89 19)) - (h 89 17))) - x5) 0) < 0 → Wp X 0 122 26 [vr 89, vl 0, vu, vl 0, vu, vl x5, vu, vi (x7 + 1), vl (((h 99 (h 102 x7)) * (h 89 19)) - (h 89 17)), vu] [] (upd2 (upd2 h 116 x7 0) 117 x7 0) Q))))))))))))))) : Wp X 0 122 26 [vr 89, vl x1, vu, vl x3, vu, vl x5, vu, vi x7, zx8, vu] [] h Q := by
  refine wp_iload rfl rfl ?_
  refine wp_aload rfl rfl ?_
  refine wp_getI (j := 16) rfl (congrArg Prod.fst (kf_89 X.1)) rfl ?_
  refine wp_icge (tn := 131) rfl rfl (fun c1 => ?_) (fun c1 => ?_)
  · replace H := H.1 c1
    exact wp_vret rfl rfl H
  · replace H := H.2 c1
    refine wp_aload rfl rfl ?_
    refine wp_getR (r := 98) rfl (congrArg Prod.fst (kf_89 X.1)) rfl ?_
    refine wp_aload rfl rfl ?_
    refine wp_getR (r := 101) rfl (congrArg Prod.fst (kf_89 X.1)) rfl ?_
    refine wp_iload rfl rfl ?_
    have g2 := H.1
    replace H := H.2
    refine wp_iaload rfl (kf_102 X.1) g2 ?_
    have g3 := H.1
    replace H := H.2
    refine wp_iaload rfl (kf_99 X.1) g3 ?_
    refine wp_i2l rfl ?_
    refine wp_aload rfl rfl ?_
    refine wp_getI (j := 19) rfl (congrArg Prod.fst (kf_89 X.1)) rfl ?_
    refine wp_i2l rfl ?_
    refine wp_lmul rfl ?_
    have g4 := H.1
    replace H := H.2
    refine Wp.topL (y := ((h 99 (h 102 x7)) * (h 89 19))) (w64_I g4) ?_
    refine wp_aload rfl rfl ?_
    refine wp_getL (j := 17) rfl (congrArg Prod.fst (kf_89 X.1)) rfl ?_
    refine wp_lsub rfl ?_
    have g5 := H.1
    replace H := H.2
    refine Wp.topL (y := (((h 99 (h 102 x7)) * (h 89 19)) - (h 89 17))) (w64_I g5) ?_
    refine wp_lstore (L2 := [vr 89, vl x1, vu, vl x3, vu, vl x5, vu, vi x7, vl (((h 99 (h 102 x7)) * (h 89 19)) - (h 89 17)), vu]) rfl (Nat.le_of_ble_eq_true rfl) rfl ?_
    refine wp_lload rfl rfl ?_
    refine wp_lload rfl rfl ?_
    refine wp_ladd rfl ?_
    have g6 := H.1
    replace H := H.2
    refine Wp.topL (y := (x1 + (((h 99 (h 102 x7)) * (h 89 19)) - (h 89 17)))) (w64_I g6) ?_
    refine wp_lload rfl rfl ?_
    refine wp_lsub rfl ?_
    have g7 := H.1
    replace H := H.2
    refine Wp.topL (y := ((x1 + (((h 99 (h 102 x7)) * (h 89 19)) - (h 89 17))) - x5)) (w64_I g7) ?_
    refine wp_sipush rfl ?_
    refine wp_lcmp rfl ?_
    refine wp_ifge (tn := 77) rfl rfl (fun c8 => ?_) (fun c8 => ?_)
    · replace H := H.1 c8
      refine wp_lload rfl rfl ?_
      refine wp_lload rfl rfl ?_
      refine wp_ladd rfl ?_
      refine Wp.topL (y := (x1 + (((h 99 (h 102 x7)) * (h 89 19)) - (h 89 17)))) (w64_I g6) ?_
      refine wp_lload rfl rfl ?_
      refine wp_lsub rfl ?_
      refine Wp.topL (y := ((x1 + (((h 99 (h 102 x7)) * (h 89 19)) - (h 89 17))) - x5)) (w64_I g7) ?_
      refine wp_lstore (L2 := [vr 89, vl ((x1 + (((h 99 (h 102 x7)) * (h 89 19)) - (h 89 17))) - x5), vu, vl x3, vu, vl x5, vu, vi x7, vl (((h 99 (h 102 x7)) * (h 89 19)) - (h 89 17)), vu]) rfl (Nat.le_of_ble_eq_true rfl) rfl ?_
      refine wp_lload rfl rfl ?_
      refine wp_lload rfl rfl ?_
      refine wp_lsub rfl ?_
      have g9 := H.1
      replace H := H.2
      refine Wp.topL (y := (x3 - (((h 99 (h 102 x7)) * (h 89 19)) - (h 89 17)))) (w64_I g9) ?_
      refine wp_lload rfl rfl ?_
      refine wp_lsub rfl ?_
      have g10 := H.1
      replace H := H.2
      refine Wp.topL (y := ((x3 - (((h 99 (h 102 x7)) * (h 89 19)) - (h 89 17))) - x5)) (w64_I g10) ?_
      refine wp_sipush rfl ?_
      refine wp_lcmp rfl ?_
      refine wp_ifge (tn := 101) rfl rfl (fun c11 => ?_) (fun c11 => ?_)
      · replace H := H.1 c11
        refine wp_lload rfl rfl ?_
        refine wp_lload rfl rfl ?_
        refine wp_lsub rfl ?_
        refine Wp.topL (y := (x3 - (((h 99 (h 102 x7)) * (h 89 19)) - (h 89 17)))) (w64_I g9) ?_
        refine wp_lload rfl rfl ?_
        refine wp_lsub rfl ?_
        refine Wp.topL (y := ((x3 - (((h 99 (h 102 x7)) * (h 89 19)) - (h 89 17))) - x5)) (w64_I g10) ?_
        refine wp_lstore (L2 := [vr 89, vl ((x1 + (((h 99 (h 102 x7)) * (h 89 19)) - (h 89 17))) - x5), vu, vl ((x3 - (((h 99 (h 102 x7)) * (h 89 19)) - (h 89 17))) - x5), vu, vl x5, vu, vi x7, vl (((h 99 (h 102 x7)) * (h 89 19)) - (h 89 17)), vu]) rfl (Nat.le_of_ble_eq_true rfl) rfl ?_
        refine wp_aload rfl rfl ?_
        refine wp_getR (r := 115) rfl (congrArg Prod.fst (kf_89 X.1)) rfl ?_
        refine wp_iload rfl rfl ?_
        refine wp_lload rfl rfl ?_
        refine wp_lastore rfl (kf_116 X.1) ⟨g2.1, g2.2⟩ ?_
        refine wp_aload rfl rfl ?_
        refine wp_getR (r := 116) rfl (congrArg Prod.fst (kf_89 X.1)) rfl ?_
        refine wp_iload rfl rfl ?_
        refine wp_lload rfl rfl ?_
        refine wp_lastore rfl (kf_117 X.1) ⟨g2.1, g2.2⟩ ?_
        refine wp_iincR (L2 := [vr 89, vl ((x1 + (((h 99 (h 102 x7)) * (h 89 19)) - (h 89 17))) - x5), vu, vl ((x3 - (((h 99 (h 102 x7)) * (h 89 19)) - (h 89 17))) - x5), vu, vl x5, vu, vi (x7 + 1), vl (((h 99 (h 102 x7)) * (h 89 19)) - (h 89 17)), vu]) rfl rfl (by clear H; unfold R32; omega) rfl ?_
        refine wp_goto (tn := 26) rfl rfl ?_
        exact H
      · replace H := H.2 c11
        refine wp_sipush rfl ?_
        refine wp_goto (tn := 108) rfl rfl ?_
        refine wp_lstore (L2 := [vr 89, vl ((x1 + (((h 99 (h 102 x7)) * (h 89 19)) - (h 89 17))) - x5), vu, vl 0, vu, vl x5, vu, vi x7, vl (((h 99 (h 102 x7)) * (h 89 19)) - (h 89 17)), vu]) rfl (Nat.le_of_ble_eq_true rfl) rfl ?_
        refine wp_aload rfl rfl ?_
        refine wp_getR (r := 115) rfl (congrArg Prod.fst (kf_89 X.1)) rfl ?_
        refine wp_iload rfl rfl ?_
        refine wp_lload rfl rfl ?_
        refine wp_lastore rfl (kf_116 X.1) ⟨g2.1, g2.2⟩ ?_
        refine wp_aload rfl rfl ?_
        refine wp_getR (r := 116) rfl (congrArg Prod.fst (kf_89 X.1)) rfl ?_
        refine wp_iload rfl rfl ?_
        refine wp_lload rfl rfl ?_
        refine wp_lastore rfl (kf_117 X.1) ⟨g2.1, g2.2⟩ ?_
        refine wp_iincR (L2 := [vr 89, vl ((x1 + (((h 99 (h 102 x7)) * (h 89 19)) - (h 89 17))) - x5), vu, vl 0, vu, vl x5, vu, vi (x7 + 1), vl (((h 99 (h 102 x7)) * (h 89 19)) - (h 89 17)), vu]) rfl rfl (by clear H; unfold R32; omega) rfl ?_
        refine wp_goto (tn := 26) rfl rfl ?_
        exact H
    · replace H := H.2 c8
      refine wp_sipush rfl ?_
      refine wp_goto (tn := 84) rfl rfl ?_
      refine wp_lstore (L2 := [vr 89, vl 0, vu, vl x3, vu, vl x5, vu, vi x7, vl (((h 99 (h 102 x7)) * (h 89 19)) - (h 89 17)), vu]) rfl (Nat.le_of_ble_eq_true rfl) rfl ?_
      refine wp_lload rfl rfl ?_
      refine wp_lload rfl rfl ?_
      refine wp_lsub rfl ?_
      have g12 := H.1
      replace H := H.2
      refine Wp.topL (y := (x3 - (((h 99 (h 102 x7)) * (h 89 19)) - (h 89 17)))) (w64_I g12) ?_
      refine wp_lload rfl rfl ?_
      refine wp_lsub rfl ?_
      have g13 := H.1
      replace H := H.2
      refine Wp.topL (y := ((x3 - (((h 99 (h 102 x7)) * (h 89 19)) - (h 89 17))) - x5)) (w64_I g13) ?_
      refine wp_sipush rfl ?_
      refine wp_lcmp rfl ?_
      refine wp_ifge (tn := 101) rfl rfl (fun c14 => ?_) (fun c14 => ?_)
      · replace H := H.1 c14
        refine wp_lload rfl rfl ?_
        refine wp_lload rfl rfl ?_
        refine wp_lsub rfl ?_
        refine Wp.topL (y := (x3 - (((h 99 (h 102 x7)) * (h 89 19)) - (h 89 17)))) (w64_I g12) ?_
        refine wp_lload rfl rfl ?_
        refine wp_lsub rfl ?_
        refine Wp.topL (y := ((x3 - (((h 99 (h 102 x7)) * (h 89 19)) - (h 89 17))) - x5)) (w64_I g13) ?_
        refine wp_lstore (L2 := [vr 89, vl 0, vu, vl ((x3 - (((h 99 (h 102 x7)) * (h 89 19)) - (h 89 17))) - x5), vu, vl x5, vu, vi x7, vl (((h 99 (h 102 x7)) * (h 89 19)) - (h 89 17)), vu]) rfl (Nat.le_of_ble_eq_true rfl) rfl ?_
        refine wp_aload rfl rfl ?_
        refine wp_getR (r := 115) rfl (congrArg Prod.fst (kf_89 X.1)) rfl ?_
        refine wp_iload rfl rfl ?_
        refine wp_lload rfl rfl ?_
        refine wp_lastore rfl (kf_116 X.1) ⟨g2.1, g2.2⟩ ?_
        refine wp_aload rfl rfl ?_
        refine wp_getR (r := 116) rfl (congrArg Prod.fst (kf_89 X.1)) rfl ?_
        refine wp_iload rfl rfl ?_
        refine wp_lload rfl rfl ?_
        refine wp_lastore rfl (kf_117 X.1) ⟨g2.1, g2.2⟩ ?_
        refine wp_iincR (L2 := [vr 89, vl 0, vu, vl ((x3 - (((h 99 (h 102 x7)) * (h 89 19)) - (h 89 17))) - x5), vu, vl x5, vu, vi (x7 + 1), vl (((h 99 (h 102 x7)) * (h 89 19)) - (h 89 17)), vu]) rfl rfl (by clear H; unfold R32; omega) rfl ?_
        refine wp_goto (tn := 26) rfl rfl ?_
        exact H
      · replace H := H.2 c14
        refine wp_sipush rfl ?_
        refine wp_goto (tn := 108) rfl rfl ?_
        refine wp_lstore (L2 := [vr 89, vl 0, vu, vl 0, vu, vl x5, vu, vi x7, vl (((h 99 (h 102 x7)) * (h 89 19)) - (h 89 17)), vu]) rfl (Nat.le_of_ble_eq_true rfl) rfl ?_
        refine wp_aload rfl rfl ?_
        refine wp_getR (r := 115) rfl (congrArg Prod.fst (kf_89 X.1)) rfl ?_
        refine wp_iload rfl rfl ?_
        refine wp_lload rfl rfl ?_
        refine wp_lastore rfl (kf_116 X.1) ⟨g2.1, g2.2⟩ ?_
        refine wp_aload rfl rfl ?_
        refine wp_getR (r := 116) rfl (congrArg Prod.fst (kf_89 X.1)) rfl ?_
        refine wp_iload rfl rfl ?_
        refine wp_lload rfl rfl ?_
        refine wp_lastore rfl (kf_117 X.1) ⟨g2.1, g2.2⟩ ?_
        refine wp_iincR (L2 := [vr 89, vl 0, vu, vl 0, vu, vl x5, vu, vi (x7 + 1), vl (((h 99 (h 102 x7)) * (h 89 19)) - (h 89 17)), vu]) rfl rfl (by clear H; unfold R32; omega) rfl ?_
        refine wp_goto (tn := 26) rfl rfl ?_
        exact H
/-- WarnLinesModel.sum(III)J, from 0 -/
theorem S123_89_0 {X : Nat × (Int → Int)} {h : HP} {Q : bQ} (x1 : Int) (x2 : Int) (x3 : Int) (H : ((R32 ((h 89 5) - 1)) ∧ (((lcp x1 0) < 0 → Q (some (vl (-9223372036854775806))) h) ∧ (0 ≤ (lcp x1 0) → ((0 < (lcp x1 ((h 89 5) - 1)) → Q (some (vl (-9223372036854775806))) h) ∧ ((lcp x1 ((h 89 5) - 1)) ≤ 0 → ((x2 = 1 → (((lcp x3 0) < 0 → Q (some (vl (-9223372036854775806))) h) ∧ (0 ≤ (lcp x3 0) → ((0 < (lcp x3 1) → Q (some (vl (-9223372036854775806))) h) ∧ ((lcp x3 1) ≤ 0 → Wp X 3 78 0 [vr 89, vu, vu, vu, vu] [] h (fun v h' => Wp X 4 123 35 [vr 89, vi x1, vi x2, vi x3, vu] (psh v []) h' Q)))))) ∧ (x2 ≠ 1 → ((x2 ≠ (-1) → Q (some (vl (-9223372036854775806))) h) ∧ (x2 = (-1) → (((lcp x3 0) < 0 → Q (some (vl (-9223372036854775806))) h) ∧ (0 ≤ (lcp x3 0) → ((0 < (lcp x3 1) → Q (some (vl (-9223372036854775806))) h) ∧ ((lcp x3 1) ≤ 0 → Wp X 3 78 0 [vr 89, vu, vu, vu, vu] [] h (fun v h' => Wp X 4 123 35 [vr 89, vi x1, vi x2, vi x3, vu] (psh v []) h' Q))))))))))))))) : Wp X 4 123 0 [vr 89, vi x1, vi x2, vi x3, vu] [] h Q := by
  refine wp_aload rfl rfl ?_
  refine wp_iload rfl rfl ?_
  refine wp_call (k := 62) (ρ2 := 1) (L2 := [vr 89, vi x1]) rfl rfl rfl (Nat.le_of_ble_eq_true rfl) (Nat.le_of_ble_eq_true rfl) (Nat.le_of_ble_eq_true rfl) (rcv_V rfl (congrArg Prod.fst (kf_89 X.1))) rfl ?_
  refine wp_iload rfl rfl ?_
  refine wp_i2l rfl ?_
  refine wp_sipush rfl ?_
  refine wp_aload rfl rfl ?_
  refine wp_getI (j := 5) rfl (congrArg Prod.fst (kf_89 X.1)) rfl ?_
  refine wp_iconst rfl ?_
  refine wp_isub rfl ?_
  have g1 := H.1
  replace H := H.2
  refine Wp.topI (y := ((h 89 5) - 1)) (w32_I g1) ?_
  refine wp_i2l rfl ?_
  refine wp_call (k := 48) (ρ2 := 0) (L2 := [vl x1, vu, vl 0, vu, vl ((h 89 5) - 1), vu]) rfl rfl rfl (Nat.le_of_ble_eq_true rfl) (Nat.le_of_ble_eq_true rfl) (Nat.le_of_ble_eq_true rfl) (rcv_S rfl) rfl ?_
  refine wp_lload rfl rfl ?_
  refine wp_lload rfl rfl ?_
  refine wp_lcmp rfl ?_
  refine wp_iflt (tn := 17) rfl rfl (fun c2 => ?_) (fun c2 => ?_)
  · replace H := H.1 c2
    refine wp_iconst rfl ?_
    refine wp_zret rfl rfl (by decide) ?_
    show Wp X _ 62 13 [vr 89, vi x1] [vi 0] _ _
    refine wp_zret rfl rfl (by decide) ?_
    show Wp X _ 123 5 [vr 89, vi x1, vi x2, vi x3, vu] [vi 0] _ _
    refine wp_ifeqT (tn := 25) rfl rfl (by decide) ?_
    refine wp_iconst rfl ?_
    refine wp_call (k := 49) (ρ2 := 0) (L2 := [vi (-2)]) rfl rfl rfl (Nat.le_of_ble_eq_true rfl) (Nat.le_of_ble_eq_true rfl) (Nat.le_of_ble_eq_true rfl) (rcv_S rfl) rfl ?_
    refine wp_sipush rfl ?_
    refine wp_iload rfl rfl ?_
    refine wp_i2l rfl ?_
    refine wp_lsub rfl ?_
    refine Wp.topL (y := (-9223372036854775806)) (by decide) ?_
    refine wp_lret rfl rfl ?_
    show Wp X _ 123 30 [vr 89, vi x1, vi x2, vi x3, vu] [vl (-9223372036854775806)] _ _
    exact wp_lret rfl rfl H
  · replace H := H.2 c2
    refine wp_lload rfl rfl ?_
    refine wp_lload rfl rfl ?_
    refine wp_lcmp rfl ?_
    refine wp_ifgt (tn := 17) rfl rfl (fun c3 => ?_) (fun c3 => ?_)
    · replace H := H.1 c3
      refine wp_iconst rfl ?_
      refine wp_zret rfl rfl (by decide) ?_
      show Wp X _ 62 13 [vr 89, vi x1] [vi 0] _ _
      refine wp_zret rfl rfl (by decide) ?_
      show Wp X _ 123 5 [vr 89, vi x1, vi x2, vi x3, vu] [vi 0] _ _
      refine wp_ifeqT (tn := 25) rfl rfl (by decide) ?_
      refine wp_iconst rfl ?_
      refine wp_call (k := 49) (ρ2 := 0) (L2 := [vi (-2)]) rfl rfl rfl (Nat.le_of_ble_eq_true rfl) (Nat.le_of_ble_eq_true rfl) (Nat.le_of_ble_eq_true rfl) (rcv_S rfl) rfl ?_
      refine wp_sipush rfl ?_
      refine wp_iload rfl rfl ?_
      refine wp_i2l rfl ?_
      refine wp_lsub rfl ?_
      refine Wp.topL (y := (-9223372036854775806)) (by decide) ?_
      refine wp_lret rfl rfl ?_
      show Wp X _ 123 30 [vr 89, vi x1, vi x2, vi x3, vu] [vl (-9223372036854775806)] _ _
      exact wp_lret rfl rfl H
    · replace H := H.2 c3
      refine wp_iconst rfl ?_
      refine wp_goto (tn := 18) rfl rfl ?_
      refine wp_zret rfl rfl (by decide) ?_
      show Wp X _ 62 13 [vr 89, vi x1] [vi 1] _ _
      refine wp_zret rfl rfl (by decide) ?_
      show Wp X _ 123 5 [vr 89, vi x1, vi x2, vi x3, vu] [vi 1] _ _
      refine wp_ifeqF (tn := 25) rfl rfl (by decide) ?_
      refine wp_iload rfl rfl ?_
      refine wp_iconst rfl ?_
      refine wp_iceq (tn := 18) rfl rfl (fun c4 => ?_) (fun c4 => ?_)
      · replace H := H.1 c4
        refine wp_iload rfl rfl ?_
        refine wp_call (k := 50) (ρ2 := 1) (L2 := [vi x3]) rfl rfl rfl (Nat.le_of_ble_eq_true rfl) (Nat.le_of_ble_eq_true rfl) (Nat.le_of_ble_eq_true rfl) (rcv_S rfl) rfl ?_
        refine wp_iload rfl rfl ?_
        refine wp_i2l rfl ?_
        refine wp_sipush rfl ?_
        refine wp_sipush rfl ?_
        refine wp_call (k := 48) (ρ2 := 0) (L2 := [vl x3, vu, vl 0, vu, vl 1, vu]) rfl rfl rfl (Nat.le_of_ble_eq_true rfl) (Nat.le_of_ble_eq_true rfl) (Nat.le_of_ble_eq_true rfl) (rcv_S rfl) rfl ?_
        refine wp_lload rfl rfl ?_
        refine wp_lload rfl rfl ?_
        refine wp_lcmp rfl ?_
        refine wp_iflt (tn := 17) rfl rfl (fun c5 => ?_) (fun c5 => ?_)
        · replace H := H.1 c5
          refine wp_iconst rfl ?_
          refine wp_zret rfl rfl (by decide) ?_
          show Wp X _ 50 7 [vi x3] [vi 0] _ _
          refine wp_zret rfl rfl (by decide) ?_
          show Wp X _ 123 22 [vr 89, vi x1, vi x2, vi x3, vu] [vi 0] _ _
          refine wp_ifneF (tn := 31) rfl rfl (by decide) ?_
          refine wp_iconst rfl ?_
          refine wp_call (k := 49) (ρ2 := 0) (L2 := [vi (-2)]) rfl rfl rfl (Nat.le_of_ble_eq_true rfl) (Nat.le_of_ble_eq_true rfl) (Nat.le_of_ble_eq_true rfl) (rcv_S rfl) rfl ?_
          refine wp_sipush rfl ?_
          refine wp_iload rfl rfl ?_
          refine wp_i2l rfl ?_
          refine wp_lsub rfl ?_
          refine Wp.topL (y := (-9223372036854775806)) (by decide) ?_
          refine wp_lret rfl rfl ?_
          show Wp X _ 123 30 [vr 89, vi x1, vi x2, vi x3, vu] [vl (-9223372036854775806)] _ _
          exact wp_lret rfl rfl H
        · replace H := H.2 c5
          refine wp_lload rfl rfl ?_
          refine wp_lload rfl rfl ?_
          refine wp_lcmp rfl ?_
          refine wp_ifgt (tn := 17) rfl rfl (fun c6 => ?_) (fun c6 => ?_)
          · replace H := H.1 c6
            refine wp_iconst rfl ?_
            refine wp_zret rfl rfl (by decide) ?_
            show Wp X _ 50 7 [vi x3] [vi 0] _ _
            refine wp_zret rfl rfl (by decide) ?_
            show Wp X _ 123 22 [vr 89, vi x1, vi x2, vi x3, vu] [vi 0] _ _
            refine wp_ifneF (tn := 31) rfl rfl (by decide) ?_
            refine wp_iconst rfl ?_
            refine wp_call (k := 49) (ρ2 := 0) (L2 := [vi (-2)]) rfl rfl rfl (Nat.le_of_ble_eq_true rfl) (Nat.le_of_ble_eq_true rfl) (Nat.le_of_ble_eq_true rfl) (rcv_S rfl) rfl ?_
            refine wp_sipush rfl ?_
            refine wp_iload rfl rfl ?_
            refine wp_i2l rfl ?_
            refine wp_lsub rfl ?_
            refine Wp.topL (y := (-9223372036854775806)) (by decide) ?_
            refine wp_lret rfl rfl ?_
            show Wp X _ 123 30 [vr 89, vi x1, vi x2, vi x3, vu] [vl (-9223372036854775806)] _ _
            exact wp_lret rfl rfl H
          · replace H := H.2 c6
            refine wp_iconst rfl ?_
            refine wp_goto (tn := 18) rfl rfl ?_
            refine wp_zret rfl rfl (by decide) ?_
            show Wp X _ 50 7 [vi x3] [vi 1] _ _
            refine wp_zret rfl rfl (by decide) ?_
            show Wp X _ 123 22 [vr 89, vi x1, vi x2, vi x3, vu] [vi 1] _ _
            refine wp_ifneT (tn := 31) rfl rfl (by decide) ?_
            refine wp_aload rfl rfl ?_
            exact wp_call (k := 78) (ρ2 := 3) (L2 := [vr 89, vu, vu, vu, vu]) rfl rfl rfl (Nat.le_of_ble_eq_true rfl) (Nat.le_of_ble_eq_true rfl) (Nat.le_of_ble_eq_true rfl) (rcv_V rfl (congrArg Prod.fst (kf_89 X.1))) rfl H
      · replace H := H.2 c4
        refine wp_iload rfl rfl ?_
        refine wp_iconst rfl ?_
        refine wp_icne (tn := 25) rfl rfl (fun c7 => ?_) (fun c7 => ?_)
        · replace H := H.1 c7
          refine wp_iconst rfl ?_
          refine wp_call (k := 49) (ρ2 := 0) (L2 := [vi (-2)]) rfl rfl rfl (Nat.le_of_ble_eq_true rfl) (Nat.le_of_ble_eq_true rfl) (Nat.le_of_ble_eq_true rfl) (rcv_S rfl) rfl ?_
          refine wp_sipush rfl ?_
          refine wp_iload rfl rfl ?_
          refine wp_i2l rfl ?_
          refine wp_lsub rfl ?_
          refine Wp.topL (y := (-9223372036854775806)) (by decide) ?_
          refine wp_lret rfl rfl ?_
          show Wp X _ 123 30 [vr 89, vi x1, vi x2, vi x3, vu] [vl (-9223372036854775806)] _ _
          exact wp_lret rfl rfl H
        · replace H := H.2 c7
          refine wp_iload rfl rfl ?_
          refine wp_call (k := 50) (ρ2 := 1) (L2 := [vi x3]) rfl rfl rfl (Nat.le_of_ble_eq_true rfl) (Nat.le_of_ble_eq_true rfl) (Nat.le_of_ble_eq_true rfl) (rcv_S rfl) rfl ?_
          refine wp_iload rfl rfl ?_
          refine wp_i2l rfl ?_
          refine wp_sipush rfl ?_
          refine wp_sipush rfl ?_
          refine wp_call (k := 48) (ρ2 := 0) (L2 := [vl x3, vu, vl 0, vu, vl 1, vu]) rfl rfl rfl (Nat.le_of_ble_eq_true rfl) (Nat.le_of_ble_eq_true rfl) (Nat.le_of_ble_eq_true rfl) (rcv_S rfl) rfl ?_
          refine wp_lload rfl rfl ?_
          refine wp_lload rfl rfl ?_
          refine wp_lcmp rfl ?_
          refine wp_iflt (tn := 17) rfl rfl (fun c8 => ?_) (fun c8 => ?_)
          · replace H := H.1 c8
            refine wp_iconst rfl ?_
            refine wp_zret rfl rfl (by decide) ?_
            show Wp X _ 50 7 [vi x3] [vi 0] _ _
            refine wp_zret rfl rfl (by decide) ?_
            show Wp X _ 123 22 [vr 89, vi x1, vi x2, vi x3, vu] [vi 0] _ _
            refine wp_ifneF (tn := 31) rfl rfl (by decide) ?_
            refine wp_iconst rfl ?_
            refine wp_call (k := 49) (ρ2 := 0) (L2 := [vi (-2)]) rfl rfl rfl (Nat.le_of_ble_eq_true rfl) (Nat.le_of_ble_eq_true rfl) (Nat.le_of_ble_eq_true rfl) (rcv_S rfl) rfl ?_
            refine wp_sipush rfl ?_
            refine wp_iload rfl rfl ?_
            refine wp_i2l rfl ?_
            refine wp_lsub rfl ?_
            refine Wp.topL (y := (-9223372036854775806)) (by decide) ?_
            refine wp_lret rfl rfl ?_
            show Wp X _ 123 30 [vr 89, vi x1, vi x2, vi x3, vu] [vl (-9223372036854775806)] _ _
            exact wp_lret rfl rfl H
          · replace H := H.2 c8
            refine wp_lload rfl rfl ?_
            refine wp_lload rfl rfl ?_
            refine wp_lcmp rfl ?_
            refine wp_ifgt (tn := 17) rfl rfl (fun c9 => ?_) (fun c9 => ?_)
            · replace H := H.1 c9
              refine wp_iconst rfl ?_
              refine wp_zret rfl rfl (by decide) ?_
              show Wp X _ 50 7 [vi x3] [vi 0] _ _
              refine wp_zret rfl rfl (by decide) ?_
              show Wp X _ 123 22 [vr 89, vi x1, vi x2, vi x3, vu] [vi 0] _ _
              refine wp_ifneF (tn := 31) rfl rfl (by decide) ?_
              refine wp_iconst rfl ?_
              refine wp_call (k := 49) (ρ2 := 0) (L2 := [vi (-2)]) rfl rfl rfl (Nat.le_of_ble_eq_true rfl) (Nat.le_of_ble_eq_true rfl) (Nat.le_of_ble_eq_true rfl) (rcv_S rfl) rfl ?_
              refine wp_sipush rfl ?_
              refine wp_iload rfl rfl ?_
              refine wp_i2l rfl ?_
              refine wp_lsub rfl ?_
              refine Wp.topL (y := (-9223372036854775806)) (by decide) ?_
              refine wp_lret rfl rfl ?_
              show Wp X _ 123 30 [vr 89, vi x1, vi x2, vi x3, vu] [vl (-9223372036854775806)] _ _
              exact wp_lret rfl rfl H
            · replace H := H.2 c9
              refine wp_iconst rfl ?_
              refine wp_goto (tn := 18) rfl rfl ?_
              refine wp_zret rfl rfl (by decide) ?_
              show Wp X _ 50 7 [vi x3] [vi 1] _ _
              refine wp_zret rfl rfl (by decide) ?_
              show Wp X _ 123 22 [vr 89, vi x1, vi x2, vi x3, vu] [vi 1] _ _
              refine wp_ifneT (tn := 31) rfl rfl (by decide) ?_
              refine wp_aload rfl rfl ?_
              exact wp_call (k := 78) (ρ2 := 3) (L2 := [vr 89, vu, vu, vu, vu]) rfl rfl rfl (Nat.le_of_ble_eq_true rfl) (Nat.le_of_ble_eq_true rfl) (Nat.le_of_ble_eq_true rfl) (rcv_V rfl (congrArg Prod.fst (kf_89 X.1))) rfl H
/-- WarnLinesModel.sum(III)J, from 35 -/
theorem S123_89_35 {X : Nat × (Int → Int)} {h : HP} {Q : bQ} (x1 : Int) (x2 : Int) (x3 : Int) (s0 : Int) (H : ((s0 = 0 → Q (some (vl (-9223372036854775805))) h) ∧ (s0 ≠ 0 → ((0 ≤ x1 ∧ x1 < 20) ∧ (((h 101 x1) = 0 → Wp X 0 122 0 [vr 89, vu, vu, vu, vu, vu, vu, vu, vu, vu] [] h (fun v h' => Wp X 4 123 57 [vr 89, vi x1, vi x2, vi x3, vu] (psh v []) h' Q)) ∧ ((h 101 x1) ≠ 0 → Q (some (vl (-9223372036854775805))) h)))))) : Wp X 4 123 35 [vr 89, vi x1, vi x2, vi x3, vu] [vi s0] h Q := by
  refine wp_ifeq (tn := 47) rfl rfl (fun c1 => ?_) (fun c1 => ?_)
  · replace H := H.1 c1
    refine wp_iconst rfl ?_
    refine wp_call (k := 49) (ρ2 := 0) (L2 := [vi (-3)]) rfl rfl rfl (Nat.le_of_ble_eq_true rfl) (Nat.le_of_ble_eq_true rfl) (Nat.le_of_ble_eq_true rfl) (rcv_S rfl) rfl ?_
    refine wp_sipush rfl ?_
    refine wp_iload rfl rfl ?_
    refine wp_i2l rfl ?_
    refine wp_lsub rfl ?_
    refine Wp.topL (y := (-9223372036854775805)) (by decide) ?_
    refine wp_lret rfl rfl ?_
    show Wp X _ 123 52 [vr 89, vi x1, vi x2, vi x3, vu] [vl (-9223372036854775805)] _ _
    exact wp_lret rfl rfl H
  · replace H := H.2 c1
    refine wp_aload rfl rfl ?_
    refine wp_getR (r := 100) rfl (congrArg Prod.fst (kf_89 X.1)) rfl ?_
    refine wp_iload rfl rfl ?_
    have g2 := H.1
    replace H := H.2
    refine wp_baload rfl (kf_101 X.1) g2 ?_
    refine wp_ifeq (tn := 53) rfl rfl (fun c3 => ?_) (fun c3 => ?_)
    · replace H := H.1 c3
      refine wp_aload rfl rfl ?_
      exact wp_call (k := 122) (ρ2 := 0) (L2 := [vr 89, vu, vu, vu, vu, vu, vu, vu, vu, vu]) rfl rfl rfl (Nat.le_of_ble_eq_true rfl) (Nat.le_of_ble_eq_true rfl) (Nat.le_of_ble_eq_true rfl) (rcv_V rfl (congrArg Prod.fst (kf_89 X.1))) rfl H
    · replace H := H.2 c3
      refine wp_iconst rfl ?_
      refine wp_call (k := 49) (ρ2 := 0) (L2 := [vi (-3)]) rfl rfl rfl (Nat.le_of_ble_eq_true rfl) (Nat.le_of_ble_eq_true rfl) (Nat.le_of_ble_eq_true rfl) (rcv_S rfl) rfl ?_
      refine wp_sipush rfl ?_
      refine wp_iload rfl rfl ?_
      refine wp_i2l rfl ?_
      refine wp_lsub rfl ?_
      refine Wp.topL (y := (-9223372036854775805)) (by decide) ?_
      refine wp_lret rfl rfl ?_
      show Wp X _ 123 52 [vr 89, vi x1, vi x2, vi x3, vu] [vl (-9223372036854775805)] _ _
      exact wp_lret rfl rfl H
/-- WarnLinesModel.sum(III)J, from 57 -/
theorem S123_89_57 {X : Nat × (Int → Int)} {h : HP} {Q : bQ} (x1 : Int) (x2 : Int) (x3 : Int) (H : Wp X 0 99 0 [vr 89, vi x1, vu] [] h (fun v h' => Wp X 4 123 62 [vr 89, vi x1, vi x2, vi x3, vu] (psh v []) h' Q)) : Wp X 4 123 57 [vr 89, vi x1, vi x2, vi x3, vu] [] h Q := by
  refine wp_aload rfl rfl ?_
  refine wp_iload rfl rfl ?_
  exact wp_call (k := 99) (ρ2 := 0) (L2 := [vr 89, vi x1, vu]) rfl rfl rfl (Nat.le_of_ble_eq_true rfl) (Nat.le_of_ble_eq_true rfl) (Nat.le_of_ble_eq_true rfl) (rcv_V rfl (congrArg Prod.fst (kf_89 X.1))) rfl H
/-- WarnLinesModel.sum(III)J, from 62 -/
theorem S123_89_62 {X : Nat × (Int → Int)} {h : HP} {Q : bQ} (zx1 : aV) (x2 : Int) (x3 : Int) (s0 : Int) (H : ((x2 ≠ 1 → ((0 ≤ s0 ∧ s0 < 20) ∧ ((R64 (60 * (h 89 19))) ∧ Wp X 1 61 0 [vl (h 117 s0), vu, vl (60 * (h 89 19)), vu, vi x3] [] h (fun v h' => Wp X 4 123 99 [vr 89, zx1, vi x2, vi x3, vi s0] (psh v []) h' Q)))) ∧ (x2 = 1 → ((0 ≤ s0 ∧ s0 < 20) ∧ ((R64 (60 * (h 89 19))) ∧ Wp X 1 61 0 [vl (h 116 s0), vu, vl (60 * (h 89 19)), vu, vi x3] [] h (fun v h' => Wp X 4 123 99 [vr 89, zx1, vi x2, vi x3, vi s0] (psh v []) h' Q)))))) : Wp X 4 123 62 [vr 89, zx1, vi x2, vi x3, vu] [vi s0] h Q := by
  refine wp_istore (L2 := [vr 89, zx1, vi x2, vi x3, vi s0]) rfl (Nat.le_of_ble_eq_true rfl) rfl ?_
  refine wp_iload rfl rfl ?_
  refine wp_iconst rfl ?_
  refine wp_icne (tn := 79) rfl rfl (fun c1 => ?_) (fun c1 => ?_)
  · replace H := H.1 c1
    refine wp_aload rfl rfl ?_
    refine wp_getR (r := 116) rfl (congrArg Prod.fst (kf_89 X.1)) rfl ?_
    refine wp_iload rfl rfl ?_
    have g2 := H.1
    replace H := H.2
    refine wp_laload rfl (kf_117 X.1) g2 ?_
    refine wp_sipush rfl ?_
    refine wp_aload rfl rfl ?_
    refine wp_getI (j := 19) rfl (congrArg Prod.fst (kf_89 X.1)) rfl ?_
    refine wp_i2l rfl ?_
    refine wp_lmul rfl ?_
    have g3 := H.1
    replace H := H.2
    refine Wp.topL (y := (60 * (h 89 19))) (w64_I g3) ?_
    refine wp_iload rfl rfl ?_
    exact wp_call (k := 61) (ρ2 := 1) (L2 := [vl (h 117 s0), vu, vl (60 * (h 89 19)), vu, vi x3]) rfl rfl rfl (Nat.le_of_ble_eq_true rfl) (Nat.le_of_ble_eq_true rfl) (Nat.le_of_ble_eq_true rfl) (rcv_S rfl) rfl H
  · replace H := H.2 c1
    refine wp_aload rfl rfl ?_
    refine wp_getR (r := 115) rfl (congrArg Prod.fst (kf_89 X.1)) rfl ?_
    refine wp_iload rfl rfl ?_
    have g4 := H.1
    replace H := H.2
    refine wp_laload rfl (kf_116 X.1) g4 ?_
    refine wp_goto (tn := 86) rfl rfl ?_
    refine wp_sipush rfl ?_
    refine wp_aload rfl rfl ?_
    refine wp_getI (j := 19) rfl (congrArg Prod.fst (kf_89 X.1)) rfl ?_
    refine wp_i2l rfl ?_
    refine wp_lmul rfl ?_
    have g5 := H.1
    replace H := H.2
    refine Wp.topL (y := (60 * (h 89 19))) (w64_I g5) ?_
    refine wp_iload rfl rfl ?_
    exact wp_call (k := 61) (ρ2 := 1) (L2 := [vl (h 116 s0), vu, vl (60 * (h 89 19)), vu, vi x3]) rfl rfl rfl (Nat.le_of_ble_eq_true rfl) (Nat.le_of_ble_eq_true rfl) (Nat.le_of_ble_eq_true rfl) (rcv_S rfl) rfl H
/-- WarnLinesModel.sum(III)J, from 99 -/
theorem S123_89_99 {X : Nat × (Int → Int)} {h : HP} {Q : bQ} (zx0 : aV) (zx1 : aV) (zx2 : aV) (zx3 : aV) (zx4 : aV) (s0 : Int) (H : Q (some (vl s0)) h) : Wp X 4 123 99 [zx0, zx1, zx2, zx3, zx4] [vl s0] h Q := by
  exact wp_lret rfl rfl H
/-- WarnLinesModel.cause(II)I, from 0 -/
theorem S124_89_0 {X : Nat × (Int → Int)} {h : HP} {Q : bQ} (x1 : Int) (x2 : Int) (H : (((lcp x1 0) < 0 → Q (some (vi (-2))) h) ∧ (0 ≤ (lcp x1 0) → ((0 < (lcp x1 5) → Q (some (vi (-2))) h) ∧ ((lcp x1 5) ≤ 0 → (((lcp x2 0) < 0 → Q (some (vi (-2))) h) ∧ (0 ≤ (lcp x2 0) → ((0 < (lcp x2 19) → Q (some (vi (-2))) h) ∧ ((lcp x2 19) ≤ 0 → (((h 89 38) ≠ 12 → ((0 ≤ (h 89 38) ∧ (h 89 38) < 12) ∧ Q (some (vi ((h 89 38) + 1))) (upd2 (upd2 (upd2 h 118 (h 89 38) x1) 119 (h 89 38) x2) 89 38 ((h 89 38) + 1)))) ∧ ((h 89 38) = 12 → Q (some (vi (-4))) h))))))))))) : Wp X 1 124 0 [vr 89, vi x1, vi x2] [] h Q := by
  refine wp_iload rfl rfl ?_
  refine wp_i2l rfl ?_
  refine wp_sipush rfl ?_
  refine wp_sipush rfl ?_
  refine wp_call (k := 48) (ρ2 := 0) (L2 := [vl x1, vu, vl 0, vu, vl 5, vu]) rfl rfl rfl (Nat.le_of_ble_eq_true rfl) (Nat.le_of_ble_eq_true rfl) (Nat.le_of_ble_eq_true rfl) (rcv_S rfl) rfl ?_
  refine wp_lload rfl rfl ?_
  refine wp_lload rfl rfl ?_
  refine wp_lcmp rfl ?_
  refine wp_iflt (tn := 17) rfl rfl (fun c1 => ?_) (fun c1 => ?_)
  · replace H := H.1 c1
    refine wp_iconst rfl ?_
    refine wp_zret rfl rfl (by decide) ?_
    show Wp X _ 124 9 [vr 89, vi x1, vi x2] [vi 0] _ _
    refine wp_ifeqT (tn := 24) rfl rfl (by decide) ?_
    refine wp_iconst rfl ?_
    exact wp_iret rfl rfl H
  · replace H := H.2 c1
    refine wp_lload rfl rfl ?_
    refine wp_lload rfl rfl ?_
    refine wp_lcmp rfl ?_
    refine wp_ifgt (tn := 17) rfl rfl (fun c2 => ?_) (fun c2 => ?_)
    · replace H := H.1 c2
      refine wp_iconst rfl ?_
      refine wp_zret rfl rfl (by decide) ?_
      show Wp X _ 124 9 [vr 89, vi x1, vi x2] [vi 0] _ _
      refine wp_ifeqT (tn := 24) rfl rfl (by decide) ?_
      refine wp_iconst rfl ?_
      exact wp_iret rfl rfl H
    · replace H := H.2 c2
      refine wp_iconst rfl ?_
      refine wp_goto (tn := 18) rfl rfl ?_
      refine wp_zret rfl rfl (by decide) ?_
      show Wp X _ 124 9 [vr 89, vi x1, vi x2] [vi 1] _ _
      refine wp_ifeqF (tn := 24) rfl rfl (by decide) ?_
      refine wp_iload rfl rfl ?_
      refine wp_i2l rfl ?_
      refine wp_sipush rfl ?_
      refine wp_sipush rfl ?_
      refine wp_call (k := 48) (ρ2 := 0) (L2 := [vl x2, vu, vl 0, vu, vl 19, vu]) rfl rfl rfl (Nat.le_of_ble_eq_true rfl) (Nat.le_of_ble_eq_true rfl) (Nat.le_of_ble_eq_true rfl) (rcv_S rfl) rfl ?_
      refine wp_lload rfl rfl ?_
      refine wp_lload rfl rfl ?_
      refine wp_lcmp rfl ?_
      refine wp_iflt (tn := 17) rfl rfl (fun c3 => ?_) (fun c3 => ?_)
      · replace H := H.1 c3
        refine wp_iconst rfl ?_
        refine wp_zret rfl rfl (by decide) ?_
        show Wp X _ 124 21 [vr 89, vi x1, vi x2] [vi 0] _ _
        refine wp_ifneF (tn := 27) rfl rfl (by decide) ?_
        refine wp_iconst rfl ?_
        exact wp_iret rfl rfl H
      · replace H := H.2 c3
        refine wp_lload rfl rfl ?_
        refine wp_lload rfl rfl ?_
        refine wp_lcmp rfl ?_
        refine wp_ifgt (tn := 17) rfl rfl (fun c4 => ?_) (fun c4 => ?_)
        · replace H := H.1 c4
          refine wp_iconst rfl ?_
          refine wp_zret rfl rfl (by decide) ?_
          show Wp X _ 124 21 [vr 89, vi x1, vi x2] [vi 0] _ _
          refine wp_ifneF (tn := 27) rfl rfl (by decide) ?_
          refine wp_iconst rfl ?_
          exact wp_iret rfl rfl H
        · replace H := H.2 c4
          refine wp_iconst rfl ?_
          refine wp_goto (tn := 18) rfl rfl ?_
          refine wp_zret rfl rfl (by decide) ?_
          show Wp X _ 124 21 [vr 89, vi x1, vi x2] [vi 1] _ _
          refine wp_ifneT (tn := 27) rfl rfl (by decide) ?_
          refine wp_aload rfl rfl ?_
          refine wp_getI (j := 38) rfl (congrArg Prod.fst (kf_89 X.1)) rfl ?_
          refine wp_iconst rfl ?_
          refine wp_icne (tn := 39) rfl rfl (fun c5 => ?_) (fun c5 => ?_)
          · replace H := H.1 c5
            refine wp_aload rfl rfl ?_
            refine wp_getR (r := 117) rfl (congrArg Prod.fst (kf_89 X.1)) rfl ?_
            refine wp_aload rfl rfl ?_
            refine wp_getI (j := 38) rfl (congrArg Prod.fst (kf_89 X.1)) rfl ?_
            refine wp_iload rfl rfl ?_
            have g6 := H.1
            replace H := H.2
            refine wp_iastore rfl (kf_118 X.1) g6 ?_
            refine wp_aload rfl rfl ?_
            refine wp_getR (r := 118) rfl (congrArg Prod.fst (kf_89 X.1)) rfl ?_
            refine wp_aload rfl rfl ?_
            refine wp_getI (j := 38) rfl (congrArg Prod.fst (kf_89 X.1)) rfl ?_
            refine Wp.topI (y := (h 89 38)) (congrFun (upd2_ne (by decide)) _) ?_
            refine wp_iload rfl rfl ?_
            refine wp_iastore rfl (kf_119 X.1) ⟨g6.1, g6.2⟩ ?_
            refine wp_aload rfl rfl ?_
            refine wp_dupR rfl ?_
            refine wp_getI (j := 38) rfl (congrArg Prod.fst (kf_89 X.1)) rfl ?_
            refine Wp.topI (y := (h 89 38)) (congrFun ((upd2_ne (by decide)).trans (upd2_ne (by decide))) _) ?_
            refine wp_iconst rfl ?_
            refine wp_iadd rfl ?_
            refine Wp.topI (y := ((h 89 38) + 1)) (w32_I (by clear H; unfold R32; omega)) ?_
            refine wp_putI (j := 38) rfl (congrArg Prod.fst (kf_89 X.1)) rfl rfl rfl ?_
            refine wp_aload rfl rfl ?_
            refine wp_getI (j := 38) rfl (congrArg Prod.fst (kf_89 X.1)) rfl ?_
            refine Wp.topI (y := ((h 89 38) + 1)) ((congrFun (upd2_cg ((upd2_ne (by decide)).trans (upd2_ne (by decide)))) _).trans upd2_s) ?_
            exact wp_iret rfl rfl H
          · replace H := H.2 c5
            refine wp_iconst rfl ?_
            exact wp_iret rfl rfl H
/-- WarnLinesModel.overOf(I)I, from 0 -/
theorem S125_89_0 {X : Nat × (Int → Int)} {h : HP} {Q : bQ} (x1 : Int) (H : Wp X 3 78 0 [vr 89, vu, vu, vu, vu] [] h (fun v h' => Wp X 4 125 4 [vr 89, vi x1, vu, vu, vu, vu, vu, vu, vu, vu] (psh v []) h' Q)) : Wp X 4 125 0 [vr 89, vi x1, vu, vu, vu, vu, vu, vu, vu, vu] [] h Q := by
  refine wp_aload rfl rfl ?_
  exact wp_call (k := 78) (ρ2 := 3) (L2 := [vr 89, vu, vu, vu, vu]) rfl rfl rfl (Nat.le_of_ble_eq_true rfl) (Nat.le_of_ble_eq_true rfl) (Nat.le_of_ble_eq_true rfl) (rcv_V rfl (congrArg Prod.fst (kf_89 X.1))) rfl H
/-- WarnLinesModel.overOf(I)I, from 4 -/
theorem S125_89_4 {X : Nat × (Int → Int)} {h : HP} {Q : bQ} (x1 : Int) (s0 : Int) (H : ((s0 ≠ 0 → Wp X 0 122 0 [vr 89, vu, vu, vu, vu, vu, vu, vu, vu, vu] [] h (fun v h' => Wp X 4 125 14 [vr 89, vi x1, vu, vu, vu, vu, vu, vu, vu, vu] (psh v []) h' Q)) ∧ (s0 = 0 → Q (some (vi (-3))) h))) : Wp X 4 125 4 [vr 89, vi x1, vu, vu, vu, vu, vu, vu, vu, vu] [vi s0] h Q := by
  refine wp_ifne (tn := 10) rfl rfl (fun c1 => ?_) (fun c1 => ?_)
  · replace H := H.1 c1
    refine wp_aload rfl rfl ?_
    exact wp_call (k := 122) (ρ2 := 0) (L2 := [vr 89, vu, vu, vu, vu, vu, vu, vu, vu, vu]) rfl rfl rfl (Nat.le_of_ble_eq_true rfl) (Nat.le_of_ble_eq_true rfl) (Nat.le_of_ble_eq_true rfl) (rcv_V rfl (congrArg Prod.fst (kf_89 X.1))) rfl H
  · replace H := H.2 c1
    refine wp_iconst rfl ?_
    exact wp_iret rfl rfl H
/-- WarnLinesModel.overOf(I)I, from 14 -/
theorem S125_89_14 {X : Nat × (Int → Int)} {h : HP} {Q : bQ} (x1 : Int) (H : ((R64 (60 * (h 89 19))) ∧ ((R64 ((60 * (h 89 19)) * (h 97 5))) ∧ Wp X 4 125 35 [vr 89, vi x1, vl ((60 * (h 89 19)) * (h 97 5)), vu, vi 0, vu, vu, vu, vu, vu] [] h Q))) : Wp X 4 125 14 [vr 89, vi x1, vu, vu, vu, vu, vu, vu, vu, vu] [] h Q := by
  refine wp_sipush rfl ?_
  refine wp_aload rfl rfl ?_
  refine wp_getI (j := 19) rfl (congrArg Prod.fst (kf_89 X.1)) rfl ?_
  refine wp_i2l rfl ?_
  refine wp_lmul rfl ?_
  have g1 := H.1
  replace H := H.2
  refine Wp.topL (y := (60 * (h 89 19))) (w64_I g1) ?_
  refine wp_aload rfl rfl ?_
  refine wp_getR (r := 96) rfl (congrArg Prod.fst (kf_89 X.1)) rfl ?_
  refine wp_iconst rfl ?_
  refine wp_iaload rfl (kf_97 X.1) (by decide) ?_
  refine wp_i2l rfl ?_
  refine wp_lmul rfl ?_
  have g2 := H.1
  replace H := H.2
  refine Wp.topL (y := ((60 * (h 89 19)) * (h 97 5))) (w64_I g2) ?_
  refine wp_lstore (L2 := [vr 89, vi x1, vl ((60 * (h 89 19)) * (h 97 5)), vu, vu, vu, vu, vu, vu, vu]) rfl (Nat.le_of_ble_eq_true rfl) rfl ?_
  refine wp_iconst rfl ?_
  refine wp_istore (L2 := [vr 89, vi x1, vl ((60 * (h 89 19)) * (h 97 5)), vu, vi 0, vu, vu, vu, vu, vu]) rfl (Nat.le_of_ble_eq_true rfl) rfl ?_
  exact H
/-- WarnLinesModel.overOf(I)I, from 35 -/
theorem S125_89_35 {X : Nat × (Int → Int)} {h : HP} {Q : bQ} (x1 : Int) (x2 : Int) (x4 : Int) (H : (((h 89 16) ≤ x4 → ((x4 ≠ (h 89 16) → ((0 ≤ x4 ∧ x4 < 20) ∧ (((lcp (h 116 x4) x2) ≤ 0 → Wp X 4 125 108 [vr 89, vi x1, vl x2, vu, vi x4, vi 0, vi x4, vu, vu, vu] [] h Q) ∧ (0 < (lcp (h 116 x4) x2) → Wp X 4 125 108 [vr 89, vi x1, vl x2, vu, vi x4, vi 1, vi x4, vu, vu, vu] [] h Q)))) ∧ (x4 = (h 89 16) → Q (some (vi (-1))) h))) ∧ (x4 < (h 89 16) → ((0 ≤ x4 ∧ x4 < 20) ∧ ((0 < (lcp (h 116 x4) x2) → ((x4 ≠ (h 89 16) → Wp X 4 125 108 [vr 89, vi x1, vl x2, vu, vi x4, vi 1, vi x4, vu, vu, vu] [] h Q) ∧ (x4 = (h 89 16) → Q (some (vi (-1))) h))) ∧ ((lcp (h 116 x4) x2) ≤ 0 → ((0 < (lcp (h 117 x4) x2) → ((x4 ≠ (h 89 16) → Wp X 4 125 108 [vr 89, vi x1, vl x2, vu, vi x4, vi 0, vi x4, vu, vu, vu] [] h Q) ∧ (x4 = (h 89 16) → Q (some (vi (-1))) h))) ∧ ((lcp (h 117 x4) x2) ≤ 0 → Wp X 4 125 35 [vr 89, vi x1, vl x2, vu, vi (x4 + 1), vu, vu, vu, vu, vu] [] h Q)))))))) : Wp X 4 125 35 [vr 89, vi x1, vl x2, vu, vi x4, vu, vu, vu, vu, vu] [] h Q := by
  refine wp_iload rfl rfl ?_
  refine wp_aload rfl rfl ?_
  refine wp_getI (j := 16) rfl (congrArg Prod.fst (kf_89 X.1)) rfl ?_
  refine wp_icge (tn := 74) rfl rfl (fun c1 => ?_) (fun c1 => ?_)
  · replace H := H.1 c1
    refine wp_iload rfl rfl ?_
    refine wp_aload rfl rfl ?_
    refine wp_getI (j := 16) rfl (congrArg Prod.fst (kf_89 X.1)) rfl ?_
    refine wp_icne (tn := 85) rfl rfl (fun c2 => ?_) (fun c2 => ?_)
    · replace H := H.1 c2
      refine wp_aload rfl rfl ?_
      refine wp_getR (r := 115) rfl (congrArg Prod.fst (kf_89 X.1)) rfl ?_
      refine wp_iload rfl rfl ?_
      have g3 := H.1
      replace H := H.2
      refine wp_laload rfl (kf_116 X.1) g3 ?_
      refine wp_lload rfl rfl ?_
      refine wp_lcmp rfl ?_
      refine wp_ifle (tn := 101) rfl rfl (fun c4 => ?_) (fun c4 => ?_)
      · replace H := H.1 c4
        refine wp_iconst rfl ?_
        refine wp_istore (L2 := [vr 89, vi x1, vl x2, vu, vi x4, vi 0, vu, vu, vu, vu]) rfl (Nat.le_of_ble_eq_true rfl) rfl ?_
        refine wp_iload rfl rfl ?_
        refine wp_istore (L2 := [vr 89, vi x1, vl x2, vu, vi x4, vi 0, vi x4, vu, vu, vu]) rfl (Nat.le_of_ble_eq_true rfl) rfl ?_
        exact H
      · replace H := H.2 c4
        refine wp_iconst rfl ?_
        refine wp_goto (tn := 102) rfl rfl ?_
        refine wp_istore (L2 := [vr 89, vi x1, vl x2, vu, vi x4, vi 1, vu, vu, vu, vu]) rfl (Nat.le_of_ble_eq_true rfl) rfl ?_
        refine wp_iload rfl rfl ?_
        refine wp_istore (L2 := [vr 89, vi x1, vl x2, vu, vi x4, vi 1, vi x4, vu, vu, vu]) rfl (Nat.le_of_ble_eq_true rfl) rfl ?_
        exact H
    · replace H := H.2 c2
      refine wp_iconst rfl ?_
      exact wp_iret rfl rfl H
  · replace H := H.2 c1
    refine wp_aload rfl rfl ?_
    refine wp_getR (r := 115) rfl (congrArg Prod.fst (kf_89 X.1)) rfl ?_
    refine wp_iload rfl rfl ?_
    have g5 := H.1
    replace H := H.2
    refine wp_laload rfl (kf_116 X.1) g5 ?_
    refine wp_lload rfl rfl ?_
    refine wp_lcmp rfl ?_
    refine wp_ifgt (tn := 74) rfl rfl (fun c6 => ?_) (fun c6 => ?_)
    · replace H := H.1 c6
      refine wp_iload rfl rfl ?_
      refine wp_aload rfl rfl ?_
      refine wp_getI (j := 16) rfl (congrArg Prod.fst (kf_89 X.1)) rfl ?_
      refine wp_icne (tn := 85) rfl rfl (fun c7 => ?_) (fun c7 => ?_)
      · replace H := H.1 c7
        refine wp_aload rfl rfl ?_
        refine wp_getR (r := 115) rfl (congrArg Prod.fst (kf_89 X.1)) rfl ?_
        refine wp_iload rfl rfl ?_
        refine wp_laload rfl (kf_116 X.1) ⟨g5.1, g5.2⟩ ?_
        refine wp_lload rfl rfl ?_
        refine wp_lcmp rfl ?_
        refine wp_ifleF (tn := 101) rfl rfl c6 ?_
        refine wp_iconst rfl ?_
        refine wp_goto (tn := 102) rfl rfl ?_
        refine wp_istore (L2 := [vr 89, vi x1, vl x2, vu, vi x4, vi 1, vu, vu, vu, vu]) rfl (Nat.le_of_ble_eq_true rfl) rfl ?_
        refine wp_iload rfl rfl ?_
        refine wp_istore (L2 := [vr 89, vi x1, vl x2, vu, vi x4, vi 1, vi x4, vu, vu, vu]) rfl (Nat.le_of_ble_eq_true rfl) rfl ?_
        exact H
      · replace H := H.2 c7
        refine wp_iconst rfl ?_
        exact wp_iret rfl rfl H
    · replace H := H.2 c6
      refine wp_aload rfl rfl ?_
      refine wp_getR (r := 116) rfl (congrArg Prod.fst (kf_89 X.1)) rfl ?_
      refine wp_iload rfl rfl ?_
      refine wp_laload rfl (kf_117 X.1) ⟨g5.1, g5.2⟩ ?_
      refine wp_lload rfl rfl ?_
      refine wp_lcmp rfl ?_
      refine wp_ifgt (tn := 74) rfl rfl (fun c8 => ?_) (fun c8 => ?_)
      · replace H := H.1 c8
        refine wp_iload rfl rfl ?_
        refine wp_aload rfl rfl ?_
        refine wp_getI (j := 16) rfl (congrArg Prod.fst (kf_89 X.1)) rfl ?_
        refine wp_icne (tn := 85) rfl rfl (fun c9 => ?_) (fun c9 => ?_)
        · replace H := H.1 c9
          refine wp_aload rfl rfl ?_
          refine wp_getR (r := 115) rfl (congrArg Prod.fst (kf_89 X.1)) rfl ?_
          refine wp_iload rfl rfl ?_
          refine wp_laload rfl (kf_116 X.1) ⟨g5.1, g5.2⟩ ?_
          refine wp_lload rfl rfl ?_
          refine wp_lcmp rfl ?_
          refine wp_ifleT (tn := 101) rfl rfl c6 ?_
          refine wp_iconst rfl ?_
          refine wp_istore (L2 := [vr 89, vi x1, vl x2, vu, vi x4, vi 0, vu, vu, vu, vu]) rfl (Nat.le_of_ble_eq_true rfl) rfl ?_
          refine wp_iload rfl rfl ?_
          refine wp_istore (L2 := [vr 89, vi x1, vl x2, vu, vi x4, vi 0, vi x4, vu, vu, vu]) rfl (Nat.le_of_ble_eq_true rfl) rfl ?_
          exact H
        · replace H := H.2 c9
          refine wp_iconst rfl ?_
          exact wp_iret rfl rfl H
      · replace H := H.2 c8
        refine wp_iincR (L2 := [vr 89, vi x1, vl x2, vu, vi (x4 + 1), vu, vu, vu, vu, vu]) rfl rfl (by clear H; unfold R32; omega) rfl ?_
        refine wp_goto (tn := 35) rfl rfl ?_
        exact H
/-- WarnLinesModel.overOf(I)I, from 108 -/
theorem S125_89_108 {X : Nat × (Int → Int)} {h : HP} {Q : bQ} (x1 : Int) (zx2 : aV) (x4 : Int) (x5 : Int) (x6 : Int) (H : ((x6 ≤ 0 → ((3 ≤ x1 → Wp X 4 125 204 [vr 89, vi x1, zx2, vu, vi x4, vi x5, vi x6, vi (-1), vi (-1), vi 0] [] h Q) ∧ (x1 < 3 → ((x1 ≠ 0 → ((x1 ≠ 1 → ((0 ≤ x6 ∧ x6 < 20) ∧ Q (some (vi (h 102 x6))) h)) ∧ (x1 = 1 → ((x5 = 0 → Q (some (vi 2)) h) ∧ (x5 ≠ 0 → Q (some (vi 1)) h))))) ∧ (x1 = 0 → ((0 ≤ x4 ∧ x4 < 20) ∧ Q (some (vi (h 102 x4))) h)))))) ∧ (0 < x6 → ((x5 = 0 → ((R32 (x6 - 1)) ∧ ((0 ≤ (x6 - 1) ∧ (x6 - 1) < 20) ∧ (((lcp (h 117 (x6 - 1)) 0) = 0 → ((3 ≤ x1 → Wp X 4 125 204 [vr 89, vi x1, zx2, vu, vi x4, vi x5, vi x6, vi (-1), vi (-1), vi 0] [] h Q) ∧ (x1 < 3 → ((x1 ≠ 0 → ((x1 ≠ 1 → ((0 ≤ x6 ∧ x6 < 20) ∧ Q (some (vi (h 102 x6))) h)) ∧ (x1 = 1 → Q (some (vi 2)) h))) ∧ (x1 = 0 → ((0 ≤ x4 ∧ x4 < 20) ∧ Q (some (vi (h 102 x4))) h)))))) ∧ ((lcp (h 117 (x6 - 1)) 0) ≠ 0 → Wp X 4 125 108 [vr 89, vi x1, zx2, vu, vi x4, vi x5, vi (x6 + (-1)), vu, vu, vu] [] h Q))))) ∧ (x5 ≠ 0 → ((R32 (x6 - 1)) ∧ ((0 ≤ (x6 - 1) ∧ (x6 - 1) < 20) ∧ (((lcp (h 116 (x6 - 1)) 0) = 0 → ((3 ≤ x1 → Wp X 4 125 204 [vr 89, vi x1, zx2, vu, vi x4, vi x5, vi x6, vi (-1), vi (-1), vi 0] [] h Q) ∧ (x1 < 3 → ((x1 ≠ 0 → ((x1 ≠ 1 → ((0 ≤ x6 ∧ x6 < 20) ∧ Q (some (vi (h 102 x6))) h)) ∧ (x1 = 1 → Q (some (vi 1)) h))) ∧ (x1 = 0 → ((0 ≤ x4 ∧ x4 < 20) ∧ Q (some (vi (h 102 x4))) h)))))) ∧ ((lcp (h 116 (x6 - 1)) 0) ≠ 0 → Wp X 4 125 108 [vr 89, vi x1, zx2, vu, vi x4, vi x5, vi (x6 + (-1)), vu, vu, vu] [] h Q))))))))) : Wp X 4 125 108 [vr 89, vi x1, zx2, vu, vi x4, vi x5, vi x6, vu, vu, vu] [] h Q := by
  refine wp_iload rfl rfl ?_
  refine wp_ifle (tn := 150) rfl rfl (fun c1 => ?_) (fun c1 => ?_)
  · replace H := H.1 c1
    refine wp_iload rfl rfl ?_
    refine wp_iconst rfl ?_
    refine wp_icge (tn := 195) rfl rfl (fun c2 => ?_) (fun c2 => ?_)
    · replace H := H.1 c2
      refine wp_iconst rfl ?_
      refine wp_istore (L2 := [vr 89, vi x1, zx2, vu, vi x4, vi x5, vi x6, vi (-1), vu, vu]) rfl (Nat.le_of_ble_eq_true rfl) rfl ?_
      refine wp_iconst rfl ?_
      refine wp_istore (L2 := [vr 89, vi x1, zx2, vu, vi x4, vi x5, vi x6, vi (-1), vi (-1), vu]) rfl (Nat.le_of_ble_eq_true rfl) rfl ?_
      refine wp_iconst rfl ?_
      refine wp_istore (L2 := [vr 89, vi x1, zx2, vu, vi x4, vi x5, vi x6, vi (-1), vi (-1), vi 0]) rfl (Nat.le_of_ble_eq_true rfl) rfl ?_
      exact H
    · replace H := H.2 c2
      refine wp_iload rfl rfl ?_
      refine wp_ifne (tn := 169) rfl rfl (fun c3 => ?_) (fun c3 => ?_)
      · replace H := H.1 c3
        refine wp_iload rfl rfl ?_
        refine wp_iconst rfl ?_
        refine wp_icne (tn := 187) rfl rfl (fun c4 => ?_) (fun c4 => ?_)
        · replace H := H.1 c4
          refine wp_aload rfl rfl ?_
          refine wp_getR (r := 101) rfl (congrArg Prod.fst (kf_89 X.1)) rfl ?_
          refine wp_iload rfl rfl ?_
          have g5 := H.1
          replace H := H.2
          refine wp_iaload rfl (kf_102 X.1) g5 ?_
          exact wp_iret rfl rfl H
        · replace H := H.2 c4
          refine wp_iload rfl rfl ?_
          refine wp_ifeq (tn := 183) rfl rfl (fun c6 => ?_) (fun c6 => ?_)
          · replace H := H.1 c6
            refine wp_iconst rfl ?_
            refine wp_goto (tn := 194) rfl rfl ?_
            exact wp_iret rfl rfl H
          · replace H := H.2 c6
            refine wp_iconst rfl ?_
            refine wp_goto (tn := 194) rfl rfl ?_
            exact wp_iret rfl rfl H
      · replace H := H.2 c3
        refine wp_aload rfl rfl ?_
        refine wp_getR (r := 101) rfl (congrArg Prod.fst (kf_89 X.1)) rfl ?_
        refine wp_iload rfl rfl ?_
        have g7 := H.1
        replace H := H.2
        refine wp_iaload rfl (kf_102 X.1) g7 ?_
        refine wp_goto (tn := 194) rfl rfl ?_
        exact wp_iret rfl rfl H
  · replace H := H.2 c1
    refine wp_iload rfl rfl ?_
    refine wp_ifeq (tn := 130) rfl rfl (fun c8 => ?_) (fun c8 => ?_)
    · replace H := H.1 c8
      refine wp_aload rfl rfl ?_
      refine wp_getR (r := 116) rfl (congrArg Prod.fst (kf_89 X.1)) rfl ?_
      refine wp_iload rfl rfl ?_
      refine wp_iconst rfl ?_
      refine wp_isub rfl ?_
      have g9 := H.1
      replace H := H.2
      refine Wp.topI (y := (x6 - 1)) (w32_I g9) ?_
      have g10 := H.1
      replace H := H.2
      refine wp_laload rfl (kf_117 X.1) g10 ?_
      refine wp_sipush rfl ?_
      refine wp_lcmp rfl ?_
      refine wp_ifeq (tn := 150) rfl rfl (fun c11 => ?_) (fun c11 => ?_)
      · replace H := H.1 c11
        refine wp_iload rfl rfl ?_
        refine wp_iconst rfl ?_
        refine wp_icge (tn := 195) rfl rfl (fun c12 => ?_) (fun c12 => ?_)
        · replace H := H.1 c12
          refine wp_iconst rfl ?_
          refine wp_istore (L2 := [vr 89, vi x1, zx2, vu, vi x4, vi x5, vi x6, vi (-1), vu, vu]) rfl (Nat.le_of_ble_eq_true rfl) rfl ?_
          refine wp_iconst rfl ?_
          refine wp_istore (L2 := [vr 89, vi x1, zx2, vu, vi x4, vi x5, vi x6, vi (-1), vi (-1), vu]) rfl (Nat.le_of_ble_eq_true rfl) rfl ?_
          refine wp_iconst rfl ?_
          refine wp_istore (L2 := [vr 89, vi x1, zx2, vu, vi x4, vi x5, vi x6, vi (-1), vi (-1), vi 0]) rfl (Nat.le_of_ble_eq_true rfl) rfl ?_
          exact H
        · replace H := H.2 c12
          refine wp_iload rfl rfl ?_
          refine wp_ifne (tn := 169) rfl rfl (fun c13 => ?_) (fun c13 => ?_)
          · replace H := H.1 c13
            refine wp_iload rfl rfl ?_
            refine wp_iconst rfl ?_
            refine wp_icne (tn := 187) rfl rfl (fun c14 => ?_) (fun c14 => ?_)
            · replace H := H.1 c14
              refine wp_aload rfl rfl ?_
              refine wp_getR (r := 101) rfl (congrArg Prod.fst (kf_89 X.1)) rfl ?_
              refine wp_iload rfl rfl ?_
              have g15 := H.1
              replace H := H.2
              refine wp_iaload rfl (kf_102 X.1) g15 ?_
              exact wp_iret rfl rfl H
            · replace H := H.2 c14
              refine wp_iload rfl rfl ?_
              refine wp_ifeqT (tn := 183) rfl rfl c8 ?_
              refine wp_iconst rfl ?_
              refine wp_goto (tn := 194) rfl rfl ?_
              exact wp_iret rfl rfl H
          · replace H := H.2 c13
            refine wp_aload rfl rfl ?_
            refine wp_getR (r := 101) rfl (congrArg Prod.fst (kf_89 X.1)) rfl ?_
            refine wp_iload rfl rfl ?_
            have g16 := H.1
            replace H := H.2
            refine wp_iaload rfl (kf_102 X.1) g16 ?_
            refine wp_goto (tn := 194) rfl rfl ?_
            exact wp_iret rfl rfl H
      · replace H := H.2 c11
        refine wp_iincR (L2 := [vr 89, vi x1, zx2, vu, vi x4, vi x5, vi (x6 + (-1)), vu, vu, vu]) rfl rfl (by clear H; unfold R32; omega) rfl ?_
        refine wp_goto (tn := 108) rfl rfl ?_
        exact H
    · replace H := H.2 c8
      refine wp_aload rfl rfl ?_
      refine wp_getR (r := 115) rfl (congrArg Prod.fst (kf_89 X.1)) rfl ?_
      refine wp_iload rfl rfl ?_
      refine wp_iconst rfl ?_
      refine wp_isub rfl ?_
      have g17 := H.1
      replace H := H.2
      refine Wp.topI (y := (x6 - 1)) (w32_I g17) ?_
      have g18 := H.1
      replace H := H.2
      refine wp_laload rfl (kf_116 X.1) g18 ?_
      refine wp_goto (tn := 139) rfl rfl ?_
      refine wp_sipush rfl ?_
      refine wp_lcmp rfl ?_
      refine wp_ifeq (tn := 150) rfl rfl (fun c19 => ?_) (fun c19 => ?_)
      · replace H := H.1 c19
        refine wp_iload rfl rfl ?_
        refine wp_iconst rfl ?_
        refine wp_icge (tn := 195) rfl rfl (fun c20 => ?_) (fun c20 => ?_)
        · replace H := H.1 c20
          refine wp_iconst rfl ?_
          refine wp_istore (L2 := [vr 89, vi x1, zx2, vu, vi x4, vi x5, vi x6, vi (-1), vu, vu]) rfl (Nat.le_of_ble_eq_true rfl) rfl ?_
          refine wp_iconst rfl ?_
          refine wp_istore (L2 := [vr 89, vi x1, zx2, vu, vi x4, vi x5, vi x6, vi (-1), vi (-1), vu]) rfl (Nat.le_of_ble_eq_true rfl) rfl ?_
          refine wp_iconst rfl ?_
          refine wp_istore (L2 := [vr 89, vi x1, zx2, vu, vi x4, vi x5, vi x6, vi (-1), vi (-1), vi 0]) rfl (Nat.le_of_ble_eq_true rfl) rfl ?_
          exact H
        · replace H := H.2 c20
          refine wp_iload rfl rfl ?_
          refine wp_ifne (tn := 169) rfl rfl (fun c21 => ?_) (fun c21 => ?_)
          · replace H := H.1 c21
            refine wp_iload rfl rfl ?_
            refine wp_iconst rfl ?_
            refine wp_icne (tn := 187) rfl rfl (fun c22 => ?_) (fun c22 => ?_)
            · replace H := H.1 c22
              refine wp_aload rfl rfl ?_
              refine wp_getR (r := 101) rfl (congrArg Prod.fst (kf_89 X.1)) rfl ?_
              refine wp_iload rfl rfl ?_
              have g23 := H.1
              replace H := H.2
              refine wp_iaload rfl (kf_102 X.1) g23 ?_
              exact wp_iret rfl rfl H
            · replace H := H.2 c22
              refine wp_iload rfl rfl ?_
              refine wp_ifeqF (tn := 183) rfl rfl c8 ?_
              refine wp_iconst rfl ?_
              refine wp_goto (tn := 194) rfl rfl ?_
              exact wp_iret rfl rfl H
          · replace H := H.2 c21
            refine wp_aload rfl rfl ?_
            refine wp_getR (r := 101) rfl (congrArg Prod.fst (kf_89 X.1)) rfl ?_
            refine wp_iload rfl rfl ?_
            have g24 := H.1
            replace H := H.2
            refine wp_iaload rfl (kf_102 X.1) g24 ?_
            refine wp_goto (tn := 194) rfl rfl ?_
            exact wp_iret rfl rfl H
      · replace H := H.2 c19
        refine wp_iincR (L2 := [vr 89, vi x1, zx2, vu, vi x4, vi x5, vi (x6 + (-1)), vu, vu, vu]) rfl rfl (by clear H; unfold R32; omega) rfl ?_
        refine wp_goto (tn := 108) rfl rfl ?_
        exact H
/-- WarnLinesModel.overOf(I)I, from 204 -/
theorem S125_89_204 {X : Nat × (Int → Int)} {h : HP} {Q : bQ} (zx1 : aV) (zx2 : aV) (zx4 : aV) (zx5 : aV) (x6 : Int) (x7 : Int) (x8 : Int) (x9 : Int) (H : (((h 89 38) ≤ x9 → Q (some (vi x7)) h) ∧ (x9 < (h 89 38) → ((0 ≤ x9 ∧ x9 < 12) ∧ ((0 ≤ x6 ∧ x6 < 20) ∧ (((h 102 x6) < (h 119 x9) → Wp X 4 125 204 [vr 89, zx1, zx2, vu, zx4, zx5, vi x6, vi x7, vi x8, vi (x9 + 1)] [] h Q) ∧ ((h 119 x9) ≤ (h 102 x6) → (((h 119 x9) < x8 → Wp X 4 125 204 [vr 89, zx1, zx2, vu, zx4, zx5, vi x6, vi x7, vi x8, vi (x9 + 1)] [] h Q) ∧ (x8 ≤ (h 119 x9) → Wp X 4 125 204 [vr 89, zx1, zx2, vu, zx4, zx5, vi x6, vi (h 118 x9), vi (h 119 x9), vi (x9 + 1)] [] h Q))))))))) : Wp X 4 125 204 [vr 89, zx1, zx2, vu, zx4, zx5, vi x6, vi x7, vi x8, vi x9] [] h Q := by
  refine wp_iload rfl rfl ?_
  refine wp_aload rfl rfl ?_
  refine wp_getI (j := 38) rfl (congrArg Prod.fst (kf_89 X.1)) rfl ?_
  refine wp_icge (tn := 266) rfl rfl (fun c1 => ?_) (fun c1 => ?_)
  · replace H := H.1 c1
    refine wp_iload rfl rfl ?_
    exact wp_iret rfl rfl H
  · replace H := H.2 c1
    refine wp_aload rfl rfl ?_
    refine wp_getR (r := 118) rfl (congrArg Prod.fst (kf_89 X.1)) rfl ?_
    refine wp_iload rfl rfl ?_
    have g2 := H.1
    replace H := H.2
    refine wp_iaload rfl (kf_119 X.1) g2 ?_
    refine wp_aload rfl rfl ?_
    refine wp_getR (r := 101) rfl (congrArg Prod.fst (kf_89 X.1)) rfl ?_
    refine wp_iload rfl rfl ?_
    have g3 := H.1
    replace H := H.2
    refine wp_iaload rfl (kf_102 X.1) g3 ?_
    refine wp_icgt (tn := 260) rfl rfl (fun c4 => ?_) (fun c4 => ?_)
    · replace H := H.1 c4
      refine wp_iincR (L2 := [vr 89, zx1, zx2, vu, zx4, zx5, vi x6, vi x7, vi x8, vi (x9 + 1)]) rfl rfl (by clear H; unfold R32; omega) rfl ?_
      refine wp_goto (tn := 204) rfl rfl ?_
      exact H
    · replace H := H.2 c4
      refine wp_aload rfl rfl ?_
      refine wp_getR (r := 118) rfl (congrArg Prod.fst (kf_89 X.1)) rfl ?_
      refine wp_iload rfl rfl ?_
      refine wp_iaload rfl (kf_119 X.1) ⟨g2.1, g2.2⟩ ?_
      refine wp_iload rfl rfl ?_
      refine wp_iclt (tn := 260) rfl rfl (fun c5 => ?_) (fun c5 => ?_)
      · replace H := H.1 c5
        refine wp_iincR (L2 := [vr 89, zx1, zx2, vu, zx4, zx5, vi x6, vi x7, vi x8, vi (x9 + 1)]) rfl rfl (by clear H; unfold R32; omega) rfl ?_
        refine wp_goto (tn := 204) rfl rfl ?_
        exact H
      · replace H := H.2 c5
        refine wp_aload rfl rfl ?_
        refine wp_getR (r := 118) rfl (congrArg Prod.fst (kf_89 X.1)) rfl ?_
        refine wp_iload rfl rfl ?_
        refine wp_iaload rfl (kf_119 X.1) ⟨g2.1, g2.2⟩ ?_
        refine wp_istore (L2 := [vr 89, zx1, zx2, vu, zx4, zx5, vi x6, vi x7, vi (h 119 x9), vi x9]) rfl (Nat.le_of_ble_eq_true rfl) rfl ?_
        refine wp_aload rfl rfl ?_
        refine wp_getR (r := 117) rfl (congrArg Prod.fst (kf_89 X.1)) rfl ?_
        refine wp_iload rfl rfl ?_
        refine wp_iaload rfl (kf_118 X.1) ⟨g2.1, g2.2⟩ ?_
        refine wp_istore (L2 := [vr 89, zx1, zx2, vu, zx4, zx5, vi x6, vi (h 118 x9), vi (h 119 x9), vi x9]) rfl (Nat.le_of_ble_eq_true rfl) rfl ?_
        refine wp_iincR (L2 := [vr 89, zx1, zx2, vu, zx4, zx5, vi x6, vi (h 118 x9), vi (h 119 x9), vi (x9 + 1)]) rfl rfl (by clear H; unfold R32; omega) rfl ?_
        refine wp_goto (tn := 204) rfl rfl ?_
        exact H
/-- WarnLinesModel.over(I)I, from 0 -/
theorem S126_89_0 {X : Nat × (Int → Int)} {h : HP} {Q : bQ} (x1 : Int) (H : (((lcp x1 0) < 0 → Q (some (vi (-2))) h) ∧ (0 ≤ (lcp x1 0) → ((0 < (lcp x1 3) → Q (some (vi (-2))) h) ∧ ((lcp x1 3) ≤ 0 → Wp X 4 125 0 [vr 89, vi x1, vu, vu, vu, vu, vu, vu, vu, vu] [] h (fun v h' => Wp X 5 126 17 [vr 89, vi x1] (psh v []) h' Q)))))) : Wp X 5 126 0 [vr 89, vi x1] [] h Q := by
  refine wp_iload rfl rfl ?_
  refine wp_i2l rfl ?_
  refine wp_sipush rfl ?_
  refine wp_sipush rfl ?_
  refine wp_call (k := 48) (ρ2 := 0) (L2 := [vl x1, vu, vl 0, vu, vl 3, vu]) rfl rfl rfl (Nat.le_of_ble_eq_true rfl) (Nat.le_of_ble_eq_true rfl) (Nat.le_of_ble_eq_true rfl) (rcv_S rfl) rfl ?_
  refine wp_lload rfl rfl ?_
  refine wp_lload rfl rfl ?_
  refine wp_lcmp rfl ?_
  refine wp_iflt (tn := 17) rfl rfl (fun c1 => ?_) (fun c1 => ?_)
  · replace H := H.1 c1
    refine wp_iconst rfl ?_
    refine wp_zret rfl rfl (by decide) ?_
    show Wp X _ 126 9 [vr 89, vi x1] [vi 0] _ _
    refine wp_ifeqT (tn := 20) rfl rfl (by decide) ?_
    refine wp_iconst rfl ?_
    exact wp_iret rfl rfl H
  · replace H := H.2 c1
    refine wp_lload rfl rfl ?_
    refine wp_lload rfl rfl ?_
    refine wp_lcmp rfl ?_
    refine wp_ifgt (tn := 17) rfl rfl (fun c2 => ?_) (fun c2 => ?_)
    · replace H := H.1 c2
      refine wp_iconst rfl ?_
      refine wp_zret rfl rfl (by decide) ?_
      show Wp X _ 126 9 [vr 89, vi x1] [vi 0] _ _
      refine wp_ifeqT (tn := 20) rfl rfl (by decide) ?_
      refine wp_iconst rfl ?_
      exact wp_iret rfl rfl H
    · replace H := H.2 c2
      refine wp_iconst rfl ?_
      refine wp_goto (tn := 18) rfl rfl ?_
      refine wp_zret rfl rfl (by decide) ?_
      show Wp X _ 126 9 [vr 89, vi x1] [vi 1] _ _
      refine wp_ifeqF (tn := 20) rfl rfl (by decide) ?_
      refine wp_aload rfl rfl ?_
      refine wp_iload rfl rfl ?_
      exact wp_call (k := 125) (ρ2 := 4) (L2 := [vr 89, vi x1, vu, vu, vu, vu, vu, vu, vu, vu]) rfl rfl rfl (Nat.le_of_ble_eq_true rfl) (Nat.le_of_ble_eq_true rfl) (Nat.le_of_ble_eq_true rfl) (rcv_V rfl (congrArg Prod.fst (kf_89 X.1))) rfl H
/-- WarnLinesModel.over(I)I, from 17 -/
theorem S126_89_17 {X : Nat × (Int → Int)} {h : HP} {Q : bQ} (zx0 : aV) (zx1 : aV) (s0 : Int) (H : Q (some (vi s0)) h) : Wp X 5 126 17 [zx0, zx1] [vi s0] h Q := by
  refine wp_goto (tn := 22) rfl rfl ?_
  exact wp_iret rfl rfl H
/-- WarnLinesModel.blamedOf(I)I, from 0 -/
theorem S127_89_0 {X : Nat × (Int → Int)} {h : HP} {Q : bQ} (x1 : Int) (H : Wp X 3 92 0 [vr 89, vi x1, vu] [] h (fun v h' => Wp X 4 127 5 [vr 89, vi x1, vu, vu, vu, vu, vu, vu, vu] (psh v []) h' Q)) : Wp X 4 127 0 [vr 89, vi x1, vu, vu, vu, vu, vu, vu, vu] [] h Q := by
  refine wp_aload rfl rfl ?_
  refine wp_iload rfl rfl ?_
  exact wp_call (k := 92) (ρ2 := 3) (L2 := [vr 89, vi x1, vu]) rfl rfl rfl (Nat.le_of_ble_eq_true rfl) (Nat.le_of_ble_eq_true rfl) (Nat.le_of_ble_eq_true rfl) (rcv_V rfl (congrArg Prod.fst (kf_89 X.1))) rfl H
/-- WarnLinesModel.blamedOf(I)I, from 5 -/
theorem S127_89_5 {X : Nat × (Int → Int)} {h : HP} {Q : bQ} (zx1 : aV) (s0 : Int) (H : ((s0 ≠ (-1) → Q (some (vi (-3))) h) ∧ (s0 = (-1) → Wp X 3 78 0 [vr 89, vu, vu, vu, vu] [] h (fun v h' => Wp X 4 127 13 [vr 89, zx1, vu, vu, vu, vu, vu, vu, vu] (psh v []) h' Q)))) : Wp X 4 127 5 [vr 89, zx1, vu, vu, vu, vu, vu, vu, vu] [vi s0] h Q := by
  refine wp_iconst rfl ?_
  refine wp_icne (tn := 16) rfl rfl (fun c1 => ?_) (fun c1 => ?_)
  · replace H := H.1 c1
    refine wp_iconst rfl ?_
    exact wp_iret rfl rfl H
  · replace H := H.2 c1
    refine wp_aload rfl rfl ?_
    exact wp_call (k := 78) (ρ2 := 3) (L2 := [vr 89, vu, vu, vu, vu]) rfl rfl rfl (Nat.le_of_ble_eq_true rfl) (Nat.le_of_ble_eq_true rfl) (Nat.le_of_ble_eq_true rfl) (rcv_V rfl (congrArg Prod.fst (kf_89 X.1))) rfl H
/-- WarnLinesModel.blamedOf(I)I, from 13 -/
theorem S127_89_13 {X : Nat × (Int → Int)} {h : HP} {Q : bQ} (zx1 : aV) (s0 : Int) (H : ((s0 ≠ 0 → Wp X 0 98 0 [vr 89, vu] [] h (fun v h' => Wp X 4 127 23 [vr 89, zx1, vu, vu, vu, vu, vu, vu, vu] (psh v []) h' Q)) ∧ (s0 = 0 → Q (some (vi (-3))) h))) : Wp X 4 127 13 [vr 89, zx1, vu, vu, vu, vu, vu, vu, vu] [vi s0] h Q := by
  refine wp_ifne (tn := 19) rfl rfl (fun c1 => ?_) (fun c1 => ?_)
  · replace H := H.1 c1
    refine wp_aload rfl rfl ?_
    exact wp_call (k := 98) (ρ2 := 0) (L2 := [vr 89, vu]) rfl rfl rfl (Nat.le_of_ble_eq_true rfl) (Nat.le_of_ble_eq_true rfl) (Nat.le_of_ble_eq_true rfl) (rcv_V rfl (congrArg Prod.fst (kf_89 X.1))) rfl H
  · replace H := H.2 c1
    refine wp_iconst rfl ?_
    exact wp_iret rfl rfl H
/-- WarnLinesModel.blamedOf(I)I, from 23 -/
theorem S127_89_23 {X : Nat × (Int → Int)} {h : HP} {Q : bQ} (zx1 : aV) (H : Wp X 4 127 30 [vr 89, (clr1 zx1), vi (-1), vi 0, vi 0, vu, vu, vu, vu] [] h Q) : Wp X 4 127 23 [vr 89, zx1, vu, vu, vu, vu, vu, vu, vu] [] h Q := by
  refine wp_iconst rfl ?_
  refine wp_istore (L2 := [vr 89, (clr1 zx1), vi (-1), vu, vu, vu, vu, vu, vu]) rfl (Nat.le_of_ble_eq_true rfl) rfl ?_
  refine wp_iconst rfl ?_
  refine wp_istore (L2 := [vr 89, (clr1 zx1), vi (-1), vi 0, vu, vu, vu, vu, vu]) rfl (Nat.le_of_ble_eq_true rfl) rfl ?_
  refine wp_iconst rfl ?_
  refine wp_istore (L2 := [vr 89, (clr1 zx1), vi (-1), vi 0, vi 0, vu, vu, vu, vu]) rfl (Nat.le_of_ble_eq_true rfl) rfl ?_
  exact H
/-- WarnLinesModel.blamedOf(I)I, from 30 -/
theorem S127_89_30 {X : Nat × (Int → Int)} {h : HP} {Q : bQ} (zx1 : aV) (x2 : Int) (x3 : Int) (x4 : Int) (zx5 : aV) (zx6 : aV) (zx7 : aV) (zx8 : aV) (H : ((6 ≤ x4 → Q (some (vi x2)) h) ∧ (x4 < 6 → Wp X 4 127 43 [vr 89, zx1, vi x2, vi x3, vi x4, vi 0, vi 0, zx7, zx8] [] h Q))) : Wp X 4 127 30 [vr 89, zx1, vi x2, vi x3, vi x4, zx5, zx6, zx7, zx8] [] h Q := by
  refine wp_iload rfl rfl ?_
  refine wp_iconst rfl ?_
  refine wp_icge (tn := 197) rfl rfl (fun c1 => ?_) (fun c1 => ?_)
  · replace H := H.1 c1
    refine wp_iload rfl rfl ?_
    exact wp_iret rfl rfl H
  · replace H := H.2 c1
    refine wp_iconst rfl ?_
    refine wp_istore (L2 := [vr 89, zx1, vi x2, vi x3, vi x4, vi 0, zx6, zx7, zx8]) rfl (Nat.le_of_ble_eq_true rfl) rfl ?_
    refine wp_iconst rfl ?_
    refine wp_istore (L2 := [vr 89, zx1, vi x2, vi x3, vi x4, vi 0, vi 0, zx7, zx8]) rfl (Nat.le_of_ble_eq_true rfl) rfl ?_
    exact H
/-- WarnLinesModel.blamedOf(I)I, from 43 -/
theorem S127_89_43 {X : Nat × (Int → Int)} {h : HP} {Q : bQ} (zx1 : aV) (x2 : Int) (x3 : Int) (x4 : Int) (x5 : Int) (x6 : Int) (zx7 : aV) (zx8 : aV) (H : (((h 89 16) ≤ x6 → ((x5 ≤ x3 → ((R32 (x4 + 1)) ∧ Wp X 4 127 30 [vr 89, (clr1 zx1), vi x2, vi x3, vi (x4 + 1), vi x5, vi x6, zx7, zx8] [] h Q)) ∧ (x3 < x5 → ((R32 (x4 + 1)) ∧ Wp X 4 127 30 [vr 89, (clr1 zx1), vi x4, vi x5, vi (x4 + 1), vi x5, vi x6, zx7, zx8] [] h Q)))) ∧ (x6 < (h 89 16) → Wp X 4 127 58 [vr 89, zx1, vi x2, vi x3, vi x4, vi x5, vi x6, vi 0, vi 0] [] h Q))) : Wp X 4 127 43 [vr 89, zx1, vi x2, vi x3, vi x4, vi x5, vi x6, zx7, zx8] [] h Q := by
  refine wp_iload rfl rfl ?_
  refine wp_aload rfl rfl ?_
  refine wp_getI (j := 16) rfl (congrArg Prod.fst (kf_89 X.1)) rfl ?_
  refine wp_icge (tn := 165) rfl rfl (fun c1 => ?_) (fun c1 => ?_)
  · replace H := H.1 c1
    refine wp_iload rfl rfl ?_
    refine wp_iload rfl rfl ?_
    refine wp_icle (tn := 176) rfl rfl (fun c2 => ?_) (fun c2 => ?_)
    · replace H := H.1 c2
      refine wp_iload rfl rfl ?_
      refine wp_istore (L2 := [vr 89, (clr1 zx1), vi x2, vi x3, vi x4, vi x5, vi x6, zx7, zx8]) rfl (Nat.le_of_ble_eq_true rfl) rfl ?_
      refine wp_iload rfl rfl ?_
      refine wp_iload rfl rfl ?_
      refine wp_icleT (tn := 189) rfl rfl c2 ?_
      refine wp_iload rfl rfl ?_
      refine wp_istore (L2 := [vr 89, (clr1 zx1), vi x2, vi x3, vi x4, vi x5, vi x6, zx7, zx8]) rfl (Nat.le_of_ble_eq_true rfl) rfl ?_
      have g3 := H.1
      replace H := H.2
      refine wp_iincR (L2 := [vr 89, (clr1 zx1), vi x2, vi x3, vi (x4 + 1), vi x5, vi x6, zx7, zx8]) rfl rfl g3 rfl ?_
      refine wp_goto (tn := 30) rfl rfl ?_
      exact H
    · replace H := H.2 c2
      refine wp_iload rfl rfl ?_
      refine wp_goto (tn := 177) rfl rfl ?_
      refine wp_istore (L2 := [vr 89, (clr1 zx1), vi x4, vi x3, vi x4, vi x5, vi x6, zx7, zx8]) rfl (Nat.le_of_ble_eq_true rfl) rfl ?_
      refine wp_iload rfl rfl ?_
      refine wp_iload rfl rfl ?_
      refine wp_icleF (tn := 189) rfl rfl c2 ?_
      refine wp_iload rfl rfl ?_
      refine wp_goto (tn := 190) rfl rfl ?_
      refine wp_istore (L2 := [vr 89, (clr1 zx1), vi x4, vi x5, vi x4, vi x5, vi x6, zx7, zx8]) rfl (Nat.le_of_ble_eq_true rfl) rfl ?_
      have g4 := H.1
      replace H := H.2
      refine wp_iincR (L2 := [vr 89, (clr1 zx1), vi x4, vi x5, vi (x4 + 1), vi x5, vi x6, zx7, zx8]) rfl rfl g4 rfl ?_
      refine wp_goto (tn := 30) rfl rfl ?_
      exact H
  · replace H := H.2 c1
    refine wp_iconst rfl ?_
    refine wp_istore (L2 := [vr 89, zx1, vi x2, vi x3, vi x4, vi x5, vi x6, vi 0, zx8]) rfl (Nat.le_of_ble_eq_true rfl) rfl ?_
    refine wp_iconst rfl ?_
    refine wp_istore (L2 := [vr 89, zx1, vi x2, vi x3, vi x4, vi x5, vi x6, vi 0, vi 0]) rfl (Nat.le_of_ble_eq_true rfl) rfl ?_
    exact H
/-- WarnLinesModel.blamedOf(I)I, from 58 -/
theorem S127_89_58 {X : Nat × (Int → Int)} {h : HP} {Q : bQ} (zx1 : aV) (x2 : Int) (x3 : Int) (x4 : Int) (x5 : Int) (x6 : Int) (x7 : Int) (x8 : Int) (H : (((h 89 38) ≤ x8 → ((x7 = 0 → ((R32 (x5 + 0)) ∧ ((R32 (x6 + 1)) ∧ Wp X 4 127 43 [vr 89, zx1, vi x2, vi x3, vi x4, vi (x5 + 0), vi (x6 + 1), vi x7, vi x8] [] h Q))) ∧ (x7 ≠ 0 → Wp X 3 97 0 [vr 89, vi x6, vu, vu] [] h (fun v h' => Wp X 4 127 148 [vr 89, zx1, vi x2, vi x3, vi x4, vi x5, vi x6, vi x7, vi x8] (psh v [vi x5]) h' Q)))) ∧ (x8 < (h 89 38) → ((x7 ≠ 0 → ((R32 (x8 + 1)) ∧ Wp X 4 127 58 [vr 89, zx1, vi x2, vi x3, vi x4, vi x5, vi x6, vi 1, vi (x8 + 1)] [] h Q)) ∧ (x7 = 0 → ((0 ≤ x8 ∧ x8 < 12) ∧ (((h 118 x8) ≠ x4 → Wp X 4 127 58 [vr 89, zx1, vi x2, vi x3, vi x4, vi x5, vi x6, vi 0, vi (x8 + 1)] [] h Q) ∧ ((h 118 x8) = x4 → ((0 ≤ x6 ∧ x6 < 20) ∧ ((R32 ((h 102 x6) - (h 97 6))) ∧ (((lcp (h 119 x8) ((h 102 x6) - (h 97 6))) < 0 → Wp X 4 127 58 [vr 89, zx1, vi x2, vi x3, vi x4, vi x5, vi x6, vi 0, vi (x8 + 1)] [] h Q) ∧ (0 ≤ (lcp (h 119 x8) ((h 102 x6) - (h 97 6))) → ((0 < (lcp (h 119 x8) (h 102 x6)) → Wp X 4 127 58 [vr 89, zx1, vi x2, vi x3, vi x4, vi x5, vi x6, vi 0, vi (x8 + 1)] [] h Q) ∧ ((lcp (h 119 x8) (h 102 x6)) ≤ 0 → Wp X 4 127 58 [vr 89, zx1, vi x2, vi x3, vi x4, vi x5, vi x6, vi 1, vi (x8 + 1)] [] h Q)))))))))))))) : Wp X 4 127 58 [vr 89, zx1, vi x2, vi x3, vi x4, vi x5, vi x6, vi x7, vi x8] [] h Q := by
  refine wp_iload rfl rfl ?_
  refine wp_aload rfl rfl ?_
  refine wp_getI (j := 38) rfl (congrArg Prod.fst (kf_89 X.1)) rfl ?_
  refine wp_icge (tn := 135) rfl rfl (fun c1 => ?_) (fun c1 => ?_)
  · replace H := H.1 c1
    refine wp_iload rfl rfl ?_
    refine wp_iload rfl rfl ?_
    refine wp_ifeq (tn := 155) rfl rfl (fun c2 => ?_) (fun c2 => ?_)
    · replace H := H.1 c2
      refine wp_iconst rfl ?_
      refine wp_iadd rfl ?_
      have g3 := H.1
      replace H := H.2
      refine Wp.topI (y := (x5 + 0)) (w32_I g3) ?_
      refine wp_istore (L2 := [vr 89, zx1, vi x2, vi x3, vi x4, vi (x5 + 0), vi x6, vi x7, vi x8]) rfl (Nat.le_of_ble_eq_true rfl) rfl ?_
      have g4 := H.1
      replace H := H.2
      refine wp_iincR (L2 := [vr 89, zx1, vi x2, vi x3, vi x4, vi (x5 + 0), vi (x6 + 1), vi x7, vi x8]) rfl rfl g4 rfl ?_
      refine wp_goto (tn := 43) rfl rfl ?_
      exact H
    · replace H := H.2 c2
      refine wp_aload rfl rfl ?_
      refine wp_iload rfl rfl ?_
      exact wp_call (k := 97) (ρ2 := 3) (L2 := [vr 89, vi x6, vu, vu]) rfl rfl rfl (Nat.le_of_ble_eq_true rfl) (Nat.le_of_ble_eq_true rfl) (Nat.le_of_ble_eq_true rfl) (rcv_V rfl (congrArg Prod.fst (kf_89 X.1))) rfl H
  · replace H := H.2 c1
    refine wp_iload rfl rfl ?_
    refine wp_ifne (tn := 122) rfl rfl (fun c5 => ?_) (fun c5 => ?_)
    · replace H := H.1 c5
      refine wp_iconst rfl ?_
      refine wp_goto (tn := 127) rfl rfl ?_
      refine wp_istore (L2 := [vr 89, zx1, vi x2, vi x3, vi x4, vi x5, vi x6, vi 1, vi x8]) rfl (Nat.le_of_ble_eq_true rfl) rfl ?_
      have g6 := H.1
      replace H := H.2
      refine wp_iincR (L2 := [vr 89, zx1, vi x2, vi x3, vi x4, vi x5, vi x6, vi 1, vi (x8 + 1)]) rfl rfl g6 rfl ?_
      refine wp_goto (tn := 58) rfl rfl ?_
      exact H
    · replace H := H.2 c5
      refine wp_aload rfl rfl ?_
      refine wp_getR (r := 117) rfl (congrArg Prod.fst (kf_89 X.1)) rfl ?_
      refine wp_iload rfl rfl ?_
      have g7 := H.1
      replace H := H.2
      refine wp_iaload rfl (kf_118 X.1) g7 ?_
      refine wp_iload rfl rfl ?_
      refine wp_icne (tn := 126) rfl rfl (fun c8 => ?_) (fun c8 => ?_)
      · replace H := H.1 c8
        refine wp_iconst rfl ?_
        refine wp_istore (L2 := [vr 89, zx1, vi x2, vi x3, vi x4, vi x5, vi x6, vi 0, vi x8]) rfl (Nat.le_of_ble_eq_true rfl) rfl ?_
        refine wp_iincR (L2 := [vr 89, zx1, vi x2, vi x3, vi x4, vi x5, vi x6, vi 0, vi (x8 + 1)]) rfl rfl (by clear H; unfold R32; omega) rfl ?_
        refine wp_goto (tn := 58) rfl rfl ?_
        exact H
      · replace H := H.2 c8
        refine wp_aload rfl rfl ?_
        refine wp_getR (r := 118) rfl (congrArg Prod.fst (kf_89 X.1)) rfl ?_
        refine wp_iload rfl rfl ?_
        refine wp_iaload rfl (kf_119 X.1) ⟨g7.1, g7.2⟩ ?_
        refine wp_i2l rfl ?_
        refine wp_aload rfl rfl ?_
        refine wp_getR (r := 101) rfl (congrArg Prod.fst (kf_89 X.1)) rfl ?_
        refine wp_iload rfl rfl ?_
        have g9 := H.1
        replace H := H.2
        refine wp_iaload rfl (kf_102 X.1) g9 ?_
        refine wp_aload rfl rfl ?_
        refine wp_getR (r := 96) rfl (congrArg Prod.fst (kf_89 X.1)) rfl ?_
        refine wp_iconst rfl ?_
        refine wp_iaload rfl (kf_97 X.1) (by decide) ?_
        refine wp_isub rfl ?_
        have g10 := H.1
        replace H := H.2
        refine Wp.topI (y := ((h 102 x6) - (h 97 6))) (w32_I g10) ?_
        refine wp_i2l rfl ?_
        refine wp_aload rfl rfl ?_
        refine wp_getR (r := 101) rfl (congrArg Prod.fst (kf_89 X.1)) rfl ?_
        refine wp_iload rfl rfl ?_
        refine wp_iaload rfl (kf_102 X.1) ⟨g9.1, g9.2⟩ ?_
        refine wp_i2l rfl ?_
        refine wp_call (k := 48) (ρ2 := 0) (L2 := [vl (h 119 x8), vu, vl ((h 102 x6) - (h 97 6)), vu, vl (h 102 x6), vu]) rfl rfl rfl (Nat.le_of_ble_eq_true rfl) (Nat.le_of_ble_eq_true rfl) (Nat.le_of_ble_eq_true rfl) (rcv_S rfl) rfl ?_
        refine wp_lload rfl rfl ?_
        refine wp_lload rfl rfl ?_
        refine wp_lcmp rfl ?_
        refine wp_iflt (tn := 17) rfl rfl (fun c11 => ?_) (fun c11 => ?_)
        · replace H := H.1 c11
          refine wp_iconst rfl ?_
          refine wp_zret rfl rfl (by decide) ?_
          show Wp X _ 127 119 [vr 89, zx1, vi x2, vi x3, vi x4, vi x5, vi x6, vi x7, vi x8] [vi 0] _ _
          refine wp_ifeqT (tn := 126) rfl rfl (by decide) ?_
          refine wp_iconst rfl ?_
          refine wp_istore (L2 := [vr 89, zx1, vi x2, vi x3, vi x4, vi x5, vi x6, vi 0, vi x8]) rfl (Nat.le_of_ble_eq_true rfl) rfl ?_
          refine wp_iincR (L2 := [vr 89, zx1, vi x2, vi x3, vi x4, vi x5, vi x6, vi 0, vi (x8 + 1)]) rfl rfl (by clear H; unfold R32; omega) rfl ?_
          refine wp_goto (tn := 58) rfl rfl ?_
          exact H
        · replace H := H.2 c11
          refine wp_lload rfl rfl ?_
          refine wp_lload rfl rfl ?_
          refine wp_lcmp rfl ?_
          refine wp_ifgt (tn := 17) rfl rfl (fun c12 => ?_) (fun c12 => ?_)
          · replace H := H.1 c12
            refine wp_iconst rfl ?_
            refine wp_zret rfl rfl (by decide) ?_
            show Wp X _ 127 119 [vr 89, zx1, vi x2, vi x3, vi x4, vi x5, vi x6, vi x7, vi x8] [vi 0] _ _
            refine wp_ifeqT (tn := 126) rfl rfl (by decide) ?_
            refine wp_iconst rfl ?_
            refine wp_istore (L2 := [vr 89, zx1, vi x2, vi x3, vi x4, vi x5, vi x6, vi 0, vi x8]) rfl (Nat.le_of_ble_eq_true rfl) rfl ?_
            refine wp_iincR (L2 := [vr 89, zx1, vi x2, vi x3, vi x4, vi x5, vi x6, vi 0, vi (x8 + 1)]) rfl rfl (by clear H; unfold R32; omega) rfl ?_
            refine wp_goto (tn := 58) rfl rfl ?_
            exact H
          · replace H := H.2 c12
            refine wp_iconst rfl ?_
            refine wp_goto (tn := 18) rfl rfl ?_
            refine wp_zret rfl rfl (by decide) ?_
            show Wp X _ 127 119 [vr 89, zx1, vi x2, vi x3, vi x4, vi x5, vi x6, vi x7, vi x8] [vi 1] _ _
            refine wp_ifeqF (tn := 126) rfl rfl (by decide) ?_
            refine wp_iconst rfl ?_
            refine wp_goto (tn := 127) rfl rfl ?_
            refine wp_istore (L2 := [vr 89, zx1, vi x2, vi x3, vi x4, vi x5, vi x6, vi 1, vi x8]) rfl (Nat.le_of_ble_eq_true rfl) rfl ?_
            refine wp_iincR (L2 := [vr 89, zx1, vi x2, vi x3, vi x4, vi x5, vi x6, vi 1, vi (x8 + 1)]) rfl rfl (by clear H; unfold R32; omega) rfl ?_
            refine wp_goto (tn := 58) rfl rfl ?_
            exact H
/-- WarnLinesModel.blamedOf(I)I, from 148 -/
theorem S127_89_148 {X : Nat × (Int → Int)} {h : HP} {Q : bQ} (zx1 : aV) (x2 : Int) (x3 : Int) (x4 : Int) (zx5 : aV) (x6 : Int) (zx7 : aV) (zx8 : aV) (s0 : Int) (s1 : Int) (H : ((s0 = 0 → ((R32 (s1 + 0)) ∧ ((R32 (x6 + 1)) ∧ Wp X 4 127 43 [vr 89, zx1, vi x2, vi x3, vi x4, vi (s1 + 0), vi (x6 + 1), zx7, zx8] [] h Q))) ∧ (s0 ≠ 0 → ((R32 (s1 + 1)) ∧ ((R32 (x6 + 1)) ∧ Wp X 4 127 43 [vr 89, zx1, vi x2, vi x3, vi x4, vi (s1 + 1), vi (x6 + 1), zx7, zx8] [] h Q))))) : Wp X 4 127 148 [vr 89, zx1, vi x2, vi x3, vi x4, zx5, vi x6, zx7, zx8] [vi s0, vi s1] h Q := by
  refine wp_ifeq (tn := 155) rfl rfl (fun c1 => ?_) (fun c1 => ?_)
  · replace H := H.1 c1
    refine wp_iconst rfl ?_
    refine wp_iadd rfl ?_
    have g2 := H.1
    replace H := H.2
    refine Wp.topI (y := (s1 + 0)) (w32_I g2) ?_
    refine wp_istore (L2 := [vr 89, zx1, vi x2, vi x3, vi x4, vi (s1 + 0), vi x6, zx7, zx8]) rfl (Nat.le_of_ble_eq_true rfl) rfl ?_
    have g3 := H.1
    replace H := H.2
    refine wp_iincR (L2 := [vr 89, zx1, vi x2, vi x3, vi x4, vi (s1 + 0), vi (x6 + 1), zx7, zx8]) rfl rfl g3 rfl ?_
    refine wp_goto (tn := 43) rfl rfl ?_
    exact H
  · replace H := H.2 c1
    refine wp_iconst rfl ?_
    refine wp_goto (tn := 156) rfl rfl ?_
    refine wp_iadd rfl ?_
    have g4 := H.1
    replace H := H.2
    refine Wp.topI (y := (s1 + 1)) (w32_I g4) ?_
    refine wp_istore (L2 := [vr 89, zx1, vi x2, vi x3, vi x4, vi (s1 + 1), vi x6, zx7, zx8]) rfl (Nat.le_of_ble_eq_true rfl) rfl ?_
    have g5 := H.1
    replace H := H.2
    refine wp_iincR (L2 := [vr 89, zx1, vi x2, vi x3, vi x4, vi (s1 + 1), vi (x6 + 1), zx7, zx8]) rfl rfl g5 rfl ?_
    refine wp_goto (tn := 43) rfl rfl ?_
    exact H
/-- WarnLinesModel.blamed(I)I, from 0 -/
theorem S128_89_0 {X : Nat × (Int → Int)} {h : HP} {Q : bQ} (x1 : Int) (H : (((lcp x1 0) < 0 → Q (some (vi (-2))) h) ∧ (0 ≤ (lcp x1 0) → ((0 < (lcp x1 1) → Q (some (vi (-2))) h) ∧ ((lcp x1 1) ≤ 0 → Wp X 4 127 0 [vr 89, vi x1, vu, vu, vu, vu, vu, vu, vu] [] h (fun v h' => Wp X 5 128 12 [vr 89, vi x1] (psh v []) h' Q)))))) : Wp X 5 128 0 [vr 89, vi x1] [] h Q := by
  refine wp_iload rfl rfl ?_
  refine wp_call (k := 50) (ρ2 := 1) (L2 := [vi x1]) rfl rfl rfl (Nat.le_of_ble_eq_true rfl) (Nat.le_of_ble_eq_true rfl) (Nat.le_of_ble_eq_true rfl) (rcv_S rfl) rfl ?_
  refine wp_iload rfl rfl ?_
  refine wp_i2l rfl ?_
  refine wp_sipush rfl ?_
  refine wp_sipush rfl ?_
  refine wp_call (k := 48) (ρ2 := 0) (L2 := [vl x1, vu, vl 0, vu, vl 1, vu]) rfl rfl rfl (Nat.le_of_ble_eq_true rfl) (Nat.le_of_ble_eq_true rfl) (Nat.le_of_ble_eq_true rfl) (rcv_S rfl) rfl ?_
  refine wp_lload rfl rfl ?_
  refine wp_lload rfl rfl ?_
  refine wp_lcmp rfl ?_
  refine wp_iflt (tn := 17) rfl rfl (fun c1 => ?_) (fun c1 => ?_)
  · replace H := H.1 c1
    refine wp_iconst rfl ?_
    refine wp_zret rfl rfl (by decide) ?_
    show Wp X _ 50 7 [vi x1] [vi 0] _ _
    refine wp_zret rfl rfl (by decide) ?_
    show Wp X _ 128 4 [vr 89, vi x1] [vi 0] _ _
    refine wp_ifeqT (tn := 15) rfl rfl (by decide) ?_
    refine wp_iconst rfl ?_
    exact wp_iret rfl rfl H
  · replace H := H.2 c1
    refine wp_lload rfl rfl ?_
    refine wp_lload rfl rfl ?_
    refine wp_lcmp rfl ?_
    refine wp_ifgt (tn := 17) rfl rfl (fun c2 => ?_) (fun c2 => ?_)
    · replace H := H.1 c2
      refine wp_iconst rfl ?_
      refine wp_zret rfl rfl (by decide) ?_
      show Wp X _ 50 7 [vi x1] [vi 0] _ _
      refine wp_zret rfl rfl (by decide) ?_
      show Wp X _ 128 4 [vr 89, vi x1] [vi 0] _ _
      refine wp_ifeqT (tn := 15) rfl rfl (by decide) ?_
      refine wp_iconst rfl ?_
      exact wp_iret rfl rfl H
    · replace H := H.2 c2
      refine wp_iconst rfl ?_
      refine wp_goto (tn := 18) rfl rfl ?_
      refine wp_zret rfl rfl (by decide) ?_
      show Wp X _ 50 7 [vi x1] [vi 1] _ _
      refine wp_zret rfl rfl (by decide) ?_
      show Wp X _ 128 4 [vr 89, vi x1] [vi 1] _ _
      refine wp_ifeqF (tn := 15) rfl rfl (by decide) ?_
      refine wp_aload rfl rfl ?_
      refine wp_iload rfl rfl ?_
      exact wp_call (k := 127) (ρ2 := 4) (L2 := [vr 89, vi x1, vu, vu, vu, vu, vu, vu, vu]) rfl rfl rfl (Nat.le_of_ble_eq_true rfl) (Nat.le_of_ble_eq_true rfl) (Nat.le_of_ble_eq_true rfl) (rcv_V rfl (congrArg Prod.fst (kf_89 X.1))) rfl H
/-- WarnLinesModel.blamed(I)I, from 12 -/
theorem S128_89_12 {X : Nat × (Int → Int)} {h : HP} {Q : bQ} (zx0 : aV) (zx1 : aV) (s0 : Int) (H : Q (some (vi s0)) h) : Wp X 5 128 12 [zx0, zx1] [vi s0] h Q := by
  refine wp_goto (tn := 17) rfl rfl ?_
  exact wp_iret rfl rfl H
