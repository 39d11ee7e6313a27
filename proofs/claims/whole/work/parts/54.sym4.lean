-- ===== the methods run symbolically, 4 (by program: wip/whole/gen_sym.py) =====
/-- WarnLinesModel.zoneNow(II)I, from 0 -/
theorem S84_89_0 {X : Nat × (Int → Int)} {h : HP} {Q : bQ} (x1 : Int) (x2 : Int) (H : Wp X 3 78 0 [vr 89, vu, vu, vu, vu] [] h (fun v h' => Wp X 4 84 4 [vr 89, vi x1, vi x2] (psh v []) h' Q)) : Wp X 4 84 0 [vr 89, vi x1, vi x2] [] h Q := by
  refine wp_aload rfl rfl ?_
  exact wp_call (k := 78) (ρ2 := 3) (L2 := [vr 89, vu, vu, vu, vu]) rfl rfl rfl (Nat.le_of_ble_eq_true rfl) (Nat.le_of_ble_eq_true rfl) (Nat.le_of_ble_eq_true rfl) (rcv_V rfl (congrArg Prod.fst (kf_89 X.1))) rfl H
/-- WarnLinesModel.zoneNow(II)I, from 4 -/
theorem S84_89_4 {X : Nat × (Int → Int)} {h : HP} {Q : bQ} (x1 : Int) (x2 : Int) (s0 : Int) (H : ((s0 = 0 → Q (some (vi (-3))) h) ∧ (s0 ≠ 0 → ((0 ≤ x1 ∧ x1 < 20) ∧ (((h 101 x1) = 0 → ((x2 ≠ 2 → ((x2 ≠ 1 → ((R64 ((h 99 x1) * (h 89 19))) ∧ ((R64 (((h 99 x1) * (h 89 19)) - (h 89 17))) ∧ ((R64 (5 * (((h 99 x1) * (h 89 19)) - (h 89 17)))) ∧ (((lcp (5 * (((h 99 x1) * (h 89 19)) - (h 89 17))) 0) ≤ 0 → ((0 ≤ (lcp (5 * (((h 99 x1) * (h 89 19)) - (h 89 17))) 0) → Q (some (vi 0)) h) ∧ ((lcp (5 * (((h 99 x1) * (h 89 19)) - (h 89 17))) 0) < 0 → Q (some (vi 2)) h))) ∧ (0 < (lcp (5 * (((h 99 x1) * (h 89 19)) - (h 89 17))) 0) → Q (some (vi 1)) h)))))) ∧ (x2 = 1 → Wp X 1 77 0 [vr 89, vi x1, vu, vu, vu] [] h (fun v h' => Wp X 4 84 42 [vr 89, vi x1, vi x2] (psh v []) h' Q)))) ∧ (x2 = 2 → Wp X 2 83 0 [vr 89, vi x1] [] h (fun v h' => Wp X 4 84 29 [vr 89, vi x1, vi x2] (psh v []) h' Q)))) ∧ ((h 101 x1) ≠ 0 → Q (some (vi (-3))) h)))))) : Wp X 4 84 4 [vr 89, vi x1, vi x2] [vi s0] h Q := by
  refine wp_ifeq (tn := 16) rfl rfl (fun c1 => ?_) (fun c1 => ?_)
  · replace H := H.1 c1
    refine wp_iconst rfl ?_
    exact wp_iret rfl rfl H
  · replace H := H.2 c1
    refine wp_aload rfl rfl ?_
    refine wp_getR (r := 100) rfl (congrArg Prod.fst (kf_89 X.1)) rfl ?_
    refine wp_iload rfl rfl ?_
    have g2 := H.1
    replace H := H.2
    refine wp_baload rfl (kf_101 X.1) g2 ?_
    refine wp_ifeq (tn := 19) rfl rfl (fun c3 => ?_) (fun c3 => ?_)
    · replace H := H.1 c3
      refine wp_iload rfl rfl ?_
      refine wp_iconst rfl ?_
      refine wp_icne (tn := 32) rfl rfl (fun c4 => ?_) (fun c4 => ?_)
      · replace H := H.1 c4
        refine wp_iload rfl rfl ?_
        refine wp_iconst rfl ?_
        refine wp_icne (tn := 45) rfl rfl (fun c5 => ?_) (fun c5 => ?_)
        · replace H := H.1 c5
          refine wp_aload rfl rfl ?_
          refine wp_iload rfl rfl ?_
          refine wp_call (k := 76) (ρ2 := 1) (L2 := [vr 89, vi x1]) rfl rfl rfl (Nat.le_of_ble_eq_true rfl) (Nat.le_of_ble_eq_true rfl) (Nat.le_of_ble_eq_true rfl) (rcv_V rfl (congrArg Prod.fst (kf_89 X.1))) rfl ?_
          refine wp_aload rfl rfl ?_
          refine wp_iload rfl rfl ?_
          refine wp_call (k := 75) (ρ2 := 0) (L2 := [vr 89, vi x1]) rfl rfl rfl (Nat.le_of_ble_eq_true rfl) (Nat.le_of_ble_eq_true rfl) (Nat.le_of_ble_eq_true rfl) (rcv_V rfl (congrArg Prod.fst (kf_89 X.1))) rfl ?_
          refine wp_sipush rfl ?_
          refine wp_aload rfl rfl ?_
          refine wp_getR (r := 98) rfl (congrArg Prod.fst (kf_89 X.1)) rfl ?_
          refine wp_iload rfl rfl ?_
          refine wp_iaload rfl (kf_99 X.1) ⟨g2.1, g2.2⟩ ?_
          refine wp_i2l rfl ?_
          refine wp_aload rfl rfl ?_
          refine wp_getI (j := 19) rfl (congrArg Prod.fst (kf_89 X.1)) rfl ?_
          refine wp_i2l rfl ?_
          refine wp_lmul rfl ?_
          have g6 := H.1
          replace H := H.2
          refine Wp.topL (y := ((h 99 x1) * (h 89 19))) (w64_I g6) ?_
          refine wp_aload rfl rfl ?_
          refine wp_getL (j := 17) rfl (congrArg Prod.fst (kf_89 X.1)) rfl ?_
          refine wp_lsub rfl ?_
          have g7 := H.1
          replace H := H.2
          refine Wp.topL (y := (((h 99 x1) * (h 89 19)) - (h 89 17))) (w64_I g7) ?_
          refine wp_lmul rfl ?_
          have g8 := H.1
          replace H := H.2
          refine Wp.topL (y := (5 * (((h 99 x1) * (h 89 19)) - (h 89 17)))) (w64_I g8) ?_
          refine wp_lret rfl rfl ?_
          show Wp X _ 76 5 [vr 89, vi x1] [vl (5 * (((h 99 x1) * (h 89 19)) - (h 89 17)))] _ _
          refine wp_sipush rfl ?_
          refine wp_lcmp rfl ?_
          refine wp_ifle (tn := 14) rfl rfl (fun c9 => ?_) (fun c9 => ?_)
          · replace H := H.1 c9
            refine wp_aload rfl rfl ?_
            refine wp_iload rfl rfl ?_
            refine wp_call (k := 75) (ρ2 := 0) (L2 := [vr 89, vi x1]) rfl rfl rfl (Nat.le_of_ble_eq_true rfl) (Nat.le_of_ble_eq_true rfl) (Nat.le_of_ble_eq_true rfl) (rcv_V rfl (congrArg Prod.fst (kf_89 X.1))) rfl ?_
            refine wp_sipush rfl ?_
            refine wp_aload rfl rfl ?_
            refine wp_getR (r := 98) rfl (congrArg Prod.fst (kf_89 X.1)) rfl ?_
            refine wp_iload rfl rfl ?_
            refine wp_iaload rfl (kf_99 X.1) ⟨g2.1, g2.2⟩ ?_
            refine wp_i2l rfl ?_
            refine wp_aload rfl rfl ?_
            refine wp_getI (j := 19) rfl (congrArg Prod.fst (kf_89 X.1)) rfl ?_
            refine wp_i2l rfl ?_
            refine wp_lmul rfl ?_
            refine Wp.topL (y := ((h 99 x1) * (h 89 19))) (w64_I g6) ?_
            refine wp_aload rfl rfl ?_
            refine wp_getL (j := 17) rfl (congrArg Prod.fst (kf_89 X.1)) rfl ?_
            refine wp_lsub rfl ?_
            refine Wp.topL (y := (((h 99 x1) * (h 89 19)) - (h 89 17))) (w64_I g7) ?_
            refine wp_lmul rfl ?_
            refine Wp.topL (y := (5 * (((h 99 x1) * (h 89 19)) - (h 89 17)))) (w64_I g8) ?_
            refine wp_lret rfl rfl ?_
            show Wp X _ 76 19 [vr 89, vi x1] [vl (5 * (((h 99 x1) * (h 89 19)) - (h 89 17)))] _ _
            refine wp_sipush rfl ?_
            refine wp_lcmp rfl ?_
            refine wp_ifge (tn := 28) rfl rfl (fun c10 => ?_) (fun c10 => ?_)
            · replace H := H.1 c10
              refine wp_iconst rfl ?_
              refine wp_iret rfl rfl ?_
              show Wp X _ 84 50 [vr 89, vi x1, vi x2] [vi 0] _ _
              refine wp_ifgeT (tn := 57) rfl rfl (by decide) ?_
              refine wp_aload rfl rfl ?_
              refine wp_iload rfl rfl ?_
              refine wp_call (k := 76) (ρ2 := 1) (L2 := [vr 89, vi x1]) rfl rfl rfl (Nat.le_of_ble_eq_true rfl) (Nat.le_of_ble_eq_true rfl) (Nat.le_of_ble_eq_true rfl) (rcv_V rfl (congrArg Prod.fst (kf_89 X.1))) rfl ?_
              refine wp_aload rfl rfl ?_
              refine wp_iload rfl rfl ?_
              refine wp_call (k := 75) (ρ2 := 0) (L2 := [vr 89, vi x1]) rfl rfl rfl (Nat.le_of_ble_eq_true rfl) (Nat.le_of_ble_eq_true rfl) (Nat.le_of_ble_eq_true rfl) (rcv_V rfl (congrArg Prod.fst (kf_89 X.1))) rfl ?_
              refine wp_sipush rfl ?_
              refine wp_aload rfl rfl ?_
              refine wp_getR (r := 98) rfl (congrArg Prod.fst (kf_89 X.1)) rfl ?_
              refine wp_iload rfl rfl ?_
              refine wp_iaload rfl (kf_99 X.1) ⟨g2.1, g2.2⟩ ?_
              refine wp_i2l rfl ?_
              refine wp_aload rfl rfl ?_
              refine wp_getI (j := 19) rfl (congrArg Prod.fst (kf_89 X.1)) rfl ?_
              refine wp_i2l rfl ?_
              refine wp_lmul rfl ?_
              refine Wp.topL (y := ((h 99 x1) * (h 89 19))) (w64_I g6) ?_
              refine wp_aload rfl rfl ?_
              refine wp_getL (j := 17) rfl (congrArg Prod.fst (kf_89 X.1)) rfl ?_
              refine wp_lsub rfl ?_
              refine Wp.topL (y := (((h 99 x1) * (h 89 19)) - (h 89 17))) (w64_I g7) ?_
              refine wp_lmul rfl ?_
              refine Wp.topL (y := (5 * (((h 99 x1) * (h 89 19)) - (h 89 17)))) (w64_I g8) ?_
              refine wp_lret rfl rfl ?_
              show Wp X _ 76 5 [vr 89, vi x1] [vl (5 * (((h 99 x1) * (h 89 19)) - (h 89 17)))] _ _
              refine wp_sipush rfl ?_
              refine wp_lcmp rfl ?_
              refine wp_ifleT (tn := 14) rfl rfl c9 ?_
              refine wp_aload rfl rfl ?_
              refine wp_iload rfl rfl ?_
              refine wp_call (k := 75) (ρ2 := 0) (L2 := [vr 89, vi x1]) rfl rfl rfl (Nat.le_of_ble_eq_true rfl) (Nat.le_of_ble_eq_true rfl) (Nat.le_of_ble_eq_true rfl) (rcv_V rfl (congrArg Prod.fst (kf_89 X.1))) rfl ?_
              refine wp_sipush rfl ?_
              refine wp_aload rfl rfl ?_
              refine wp_getR (r := 98) rfl (congrArg Prod.fst (kf_89 X.1)) rfl ?_
              refine wp_iload rfl rfl ?_
              refine wp_iaload rfl (kf_99 X.1) ⟨g2.1, g2.2⟩ ?_
              refine wp_i2l rfl ?_
              refine wp_aload rfl rfl ?_
              refine wp_getI (j := 19) rfl (congrArg Prod.fst (kf_89 X.1)) rfl ?_
              refine wp_i2l rfl ?_
              refine wp_lmul rfl ?_
              refine Wp.topL (y := ((h 99 x1) * (h 89 19))) (w64_I g6) ?_
              refine wp_aload rfl rfl ?_
              refine wp_getL (j := 17) rfl (congrArg Prod.fst (kf_89 X.1)) rfl ?_
              refine wp_lsub rfl ?_
              refine Wp.topL (y := (((h 99 x1) * (h 89 19)) - (h 89 17))) (w64_I g7) ?_
              refine wp_lmul rfl ?_
              refine Wp.topL (y := (5 * (((h 99 x1) * (h 89 19)) - (h 89 17)))) (w64_I g8) ?_
              refine wp_lret rfl rfl ?_
              show Wp X _ 76 19 [vr 89, vi x1] [vl (5 * (((h 99 x1) * (h 89 19)) - (h 89 17)))] _ _
              refine wp_sipush rfl ?_
              refine wp_lcmp rfl ?_
              refine wp_ifgeT (tn := 28) rfl rfl c10 ?_
              refine wp_iconst rfl ?_
              refine wp_iret rfl rfl ?_
              show Wp X _ 84 62 [vr 89, vi x1, vi x2] [vi 0] _ _
              exact wp_iret rfl rfl H
            · replace H := H.2 c10
              refine wp_iconst rfl ?_
              refine wp_goto (tn := 29) rfl rfl ?_
              refine wp_iret rfl rfl ?_
              show Wp X _ 84 50 [vr 89, vi x1, vi x2] [vi (-1)] _ _
              refine wp_ifgeF (tn := 57) rfl rfl (by decide) ?_
              refine wp_iconst rfl ?_
              refine wp_goto (tn := 62) rfl rfl ?_
              exact wp_iret rfl rfl H
          · replace H := H.2 c9
            refine wp_iconst rfl ?_
            refine wp_goto (tn := 29) rfl rfl ?_
            refine wp_iret rfl rfl ?_
            show Wp X _ 84 50 [vr 89, vi x1, vi x2] [vi 1] _ _
            refine wp_ifgeT (tn := 57) rfl rfl (by decide) ?_
            refine wp_aload rfl rfl ?_
            refine wp_iload rfl rfl ?_
            refine wp_call (k := 76) (ρ2 := 1) (L2 := [vr 89, vi x1]) rfl rfl rfl (Nat.le_of_ble_eq_true rfl) (Nat.le_of_ble_eq_true rfl) (Nat.le_of_ble_eq_true rfl) (rcv_V rfl (congrArg Prod.fst (kf_89 X.1))) rfl ?_
            refine wp_aload rfl rfl ?_
            refine wp_iload rfl rfl ?_
            refine wp_call (k := 75) (ρ2 := 0) (L2 := [vr 89, vi x1]) rfl rfl rfl (Nat.le_of_ble_eq_true rfl) (Nat.le_of_ble_eq_true rfl) (Nat.le_of_ble_eq_true rfl) (rcv_V rfl (congrArg Prod.fst (kf_89 X.1))) rfl ?_
            refine wp_sipush rfl ?_
            refine wp_aload rfl rfl ?_
            refine wp_getR (r := 98) rfl (congrArg Prod.fst (kf_89 X.1)) rfl ?_
            refine wp_iload rfl rfl ?_
            refine wp_iaload rfl (kf_99 X.1) ⟨g2.1, g2.2⟩ ?_
            refine wp_i2l rfl ?_
            refine wp_aload rfl rfl ?_
            refine wp_getI (j := 19) rfl (congrArg Prod.fst (kf_89 X.1)) rfl ?_
            refine wp_i2l rfl ?_
            refine wp_lmul rfl ?_
            refine Wp.topL (y := ((h 99 x1) * (h 89 19))) (w64_I g6) ?_
            refine wp_aload rfl rfl ?_
            refine wp_getL (j := 17) rfl (congrArg Prod.fst (kf_89 X.1)) rfl ?_
            refine wp_lsub rfl ?_
            refine Wp.topL (y := (((h 99 x1) * (h 89 19)) - (h 89 17))) (w64_I g7) ?_
            refine wp_lmul rfl ?_
            refine Wp.topL (y := (5 * (((h 99 x1) * (h 89 19)) - (h 89 17)))) (w64_I g8) ?_
            refine wp_lret rfl rfl ?_
            show Wp X _ 76 5 [vr 89, vi x1] [vl (5 * (((h 99 x1) * (h 89 19)) - (h 89 17)))] _ _
            refine wp_sipush rfl ?_
            refine wp_lcmp rfl ?_
            refine wp_ifleF (tn := 14) rfl rfl c9 ?_
            refine wp_iconst rfl ?_
            refine wp_goto (tn := 29) rfl rfl ?_
            refine wp_iret rfl rfl ?_
            show Wp X _ 84 62 [vr 89, vi x1, vi x2] [vi 1] _ _
            exact wp_iret rfl rfl H
        · replace H := H.2 c5
          refine wp_aload rfl rfl ?_
          refine wp_iload rfl rfl ?_
          exact wp_call (k := 77) (ρ2 := 1) (L2 := [vr 89, vi x1, vu, vu, vu]) rfl rfl rfl (Nat.le_of_ble_eq_true rfl) (Nat.le_of_ble_eq_true rfl) (Nat.le_of_ble_eq_true rfl) (rcv_V rfl (congrArg Prod.fst (kf_89 X.1))) rfl H
      · replace H := H.2 c4
        refine wp_aload rfl rfl ?_
        refine wp_iload rfl rfl ?_
        exact wp_call (k := 83) (ρ2 := 2) (L2 := [vr 89, vi x1]) rfl rfl rfl (Nat.le_of_ble_eq_true rfl) (Nat.le_of_ble_eq_true rfl) (Nat.le_of_ble_eq_true rfl) (rcv_V rfl (congrArg Prod.fst (kf_89 X.1))) rfl H
    · replace H := H.2 c3
      refine wp_iconst rfl ?_
      exact wp_iret rfl rfl H
/-- WarnLinesModel.zoneNow(II)I, from 29 -/
theorem S84_89_29 {X : Nat × (Int → Int)} {h : HP} {Q : bQ} (zx0 : aV) (zx1 : aV) (zx2 : aV) (s0 : Int) (H : Q (some (vi s0)) h) : Wp X 4 84 29 [zx0, zx1, zx2] [vi s0] h Q := by
  refine wp_goto (tn := 62) rfl rfl ?_
  exact wp_iret rfl rfl H
/-- WarnLinesModel.zoneNow(II)I, from 42 -/
theorem S84_89_42 {X : Nat × (Int → Int)} {h : HP} {Q : bQ} (zx0 : aV) (zx1 : aV) (zx2 : aV) (s0 : Int) (H : Q (some (vi s0)) h) : Wp X 4 84 42 [zx0, zx1, zx2] [vi s0] h Q := by
  refine wp_goto (tn := 62) rfl rfl ?_
  exact wp_iret rfl rfl H
/-- WarnLinesModel.zone(II)I, from 0 -/
theorem S85_89_0 {X : Nat × (Int → Int)} {h : HP} {Q : bQ} (x1 : Int) (x2 : Int) (H : ((R32 ((h 89 5) - 1)) ∧ (((lcp x1 0) < 0 → Q (some (vi (-2))) h) ∧ (0 ≤ (lcp x1 0) → ((0 < (lcp x1 ((h 89 5) - 1)) → Q (some (vi (-2))) h) ∧ ((lcp x1 ((h 89 5) - 1)) ≤ 0 → (((lcp x2 0) < 0 → Q (some (vi (-2))) h) ∧ (0 ≤ (lcp x2 0) → ((0 < (lcp x2 2) → Q (some (vi (-2))) h) ∧ ((lcp x2 2) ≤ 0 → Wp X 4 84 0 [vr 89, vi x1, vi x2] [] h (fun v h' => Wp X 5 85 26 [vr 89, vi x1, vi x2] (psh v []) h' Q))))))))))) : Wp X 5 85 0 [vr 89, vi x1, vi x2] [] h Q := by
  refine wp_aload rfl rfl ?_
  refine wp_iload rfl rfl ?_
  refine wp_call (k := 62) (ρ2 := 1) (L2 := [vr 89, vi x1]) rfl rfl rfl (Nat.le_of_ble_eq_true rfl) (Nat.le_of_ble_eq_true rfl) (Nat.le_of_ble_eq_true rfl) (rcv_V rfl (congrArg Prod.fst (kf_89 X.1))) rfl ?_
  refine wp_iload rfl rfl ?_
  refine wp_i2l rfl ?_
  refine wp_sipush rfl ?_
  refine wp_aload rfl rfl ?_
  refine wp_getI (j := 5) rfl (congrArg Prod.fst (kf_89 X.1)) rfl ?_
  refine wp_iconst rfl ?_
  refine wp_isub rfl ?_
  have g1 := H.1
  replace H := H.2
  refine Wp.topI (y := ((h 89 5) - 1)) (w32_I g1) ?_
  refine wp_i2l rfl ?_
  refine wp_call (k := 48) (ρ2 := 0) (L2 := [vl x1, vu, vl 0, vu, vl ((h 89 5) - 1), vu]) rfl rfl rfl (Nat.le_of_ble_eq_true rfl) (Nat.le_of_ble_eq_true rfl) (Nat.le_of_ble_eq_true rfl) (rcv_S rfl) rfl ?_
  refine wp_lload rfl rfl ?_
  refine wp_lload rfl rfl ?_
  refine wp_lcmp rfl ?_
  refine wp_iflt (tn := 17) rfl rfl (fun c2 => ?_) (fun c2 => ?_)
  · replace H := H.1 c2
    refine wp_iconst rfl ?_
    refine wp_zret rfl rfl (by decide) ?_
    show Wp X _ 62 13 [vr 89, vi x1] [vi 0] _ _
    refine wp_zret rfl rfl (by decide) ?_
    show Wp X _ 85 5 [vr 89, vi x1, vi x2] [vi 0] _ _
    refine wp_ifeqT (tn := 29) rfl rfl (by decide) ?_
    refine wp_iconst rfl ?_
    exact wp_iret rfl rfl H
  · replace H := H.2 c2
    refine wp_lload rfl rfl ?_
    refine wp_lload rfl rfl ?_
    refine wp_lcmp rfl ?_
    refine wp_ifgt (tn := 17) rfl rfl (fun c3 => ?_) (fun c3 => ?_)
    · replace H := H.1 c3
      refine wp_iconst rfl ?_
      refine wp_zret rfl rfl (by decide) ?_
      show Wp X _ 62 13 [vr 89, vi x1] [vi 0] _ _
      refine wp_zret rfl rfl (by decide) ?_
      show Wp X _ 85 5 [vr 89, vi x1, vi x2] [vi 0] _ _
      refine wp_ifeqT (tn := 29) rfl rfl (by decide) ?_
      refine wp_iconst rfl ?_
      exact wp_iret rfl rfl H
    · replace H := H.2 c3
      refine wp_iconst rfl ?_
      refine wp_goto (tn := 18) rfl rfl ?_
      refine wp_zret rfl rfl (by decide) ?_
      show Wp X _ 62 13 [vr 89, vi x1] [vi 1] _ _
      refine wp_zret rfl rfl (by decide) ?_
      show Wp X _ 85 5 [vr 89, vi x1, vi x2] [vi 1] _ _
      refine wp_ifeqF (tn := 29) rfl rfl (by decide) ?_
      refine wp_iload rfl rfl ?_
      refine wp_i2l rfl ?_
      refine wp_sipush rfl ?_
      refine wp_sipush rfl ?_
      refine wp_call (k := 48) (ρ2 := 0) (L2 := [vl x2, vu, vl 0, vu, vl 2, vu]) rfl rfl rfl (Nat.le_of_ble_eq_true rfl) (Nat.le_of_ble_eq_true rfl) (Nat.le_of_ble_eq_true rfl) (rcv_S rfl) rfl ?_
      refine wp_lload rfl rfl ?_
      refine wp_lload rfl rfl ?_
      refine wp_lcmp rfl ?_
      refine wp_iflt (tn := 17) rfl rfl (fun c4 => ?_) (fun c4 => ?_)
      · replace H := H.1 c4
        refine wp_iconst rfl ?_
        refine wp_zret rfl rfl (by decide) ?_
        show Wp X _ 85 17 [vr 89, vi x1, vi x2] [vi 0] _ _
        refine wp_ifeqT (tn := 29) rfl rfl (by decide) ?_
        refine wp_iconst rfl ?_
        exact wp_iret rfl rfl H
      · replace H := H.2 c4
        refine wp_lload rfl rfl ?_
        refine wp_lload rfl rfl ?_
        refine wp_lcmp rfl ?_
        refine wp_ifgt (tn := 17) rfl rfl (fun c5 => ?_) (fun c5 => ?_)
        · replace H := H.1 c5
          refine wp_iconst rfl ?_
          refine wp_zret rfl rfl (by decide) ?_
          show Wp X _ 85 17 [vr 89, vi x1, vi x2] [vi 0] _ _
          refine wp_ifeqT (tn := 29) rfl rfl (by decide) ?_
          refine wp_iconst rfl ?_
          exact wp_iret rfl rfl H
        · replace H := H.2 c5
          refine wp_iconst rfl ?_
          refine wp_goto (tn := 18) rfl rfl ?_
          refine wp_zret rfl rfl (by decide) ?_
          show Wp X _ 85 17 [vr 89, vi x1, vi x2] [vi 1] _ _
          refine wp_ifeqF (tn := 29) rfl rfl (by decide) ?_
          refine wp_aload rfl rfl ?_
          refine wp_iload rfl rfl ?_
          refine wp_iload rfl rfl ?_
          exact wp_call (k := 84) (ρ2 := 4) (L2 := [vr 89, vi x1, vi x2]) rfl rfl rfl (Nat.le_of_ble_eq_true rfl) (Nat.le_of_ble_eq_true rfl) (Nat.le_of_ble_eq_true rfl) (rcv_V rfl (congrArg Prod.fst (kf_89 X.1))) rfl H
/-- WarnLinesModel.zone(II)I, from 26 -/
theorem S85_89_26 {X : Nat × (Int → Int)} {h : HP} {Q : bQ} (zx0 : aV) (zx1 : aV) (zx2 : aV) (s0 : Int) (H : Q (some (vi s0)) h) : Wp X 5 85 26 [zx0, zx1, zx2] [vi s0] h Q := by
  refine wp_goto (tn := 31) rfl rfl ?_
  exact wp_iret rfl rfl H
/-- WarnLinesModel.type(II)I, from 0 -/
theorem S86_89_0 {X : Nat × (Int → Int)} {h : HP} {Q : bQ} (x1 : Int) (x2 : Int) (H : (((lcp x1 0) < 0 → Q (some (vi (-2))) h) ∧ (0 ≤ (lcp x1 0) → ((0 < (lcp x1 1) → Q (some (vi (-2))) h) ∧ ((lcp x1 1) ≤ 0 → (((lcp x2 0) < 0 → Q (some (vi (-2))) h) ∧ (0 ≤ (lcp x2 0) → ((0 < (lcp x2 255) → Q (some (vi (-2))) h) ∧ ((lcp x2 255) ≤ 0 → ((0 ≤ x1 ∧ x1 < 2) ∧ (((h 104 x1) ≠ 50 → ((R32 ((50 * x1) + (h 104 x1))) ∧ ((0 ≤ ((50 * x1) + (h 104 x1)) ∧ ((50 * x1) + (h 104 x1)) < 100) ∧ ((R32 ((h 104 x1) + 1)) ∧ Q (some (vi ((h 104 x1) + 1))) (upd2 (upd2 h 103 ((50 * x1) + (h 104 x1)) x2) 104 x1 ((h 104 x1) + 1)))))) ∧ ((h 104 x1) = 50 → Q (some (vi (-4))) h)))))))))))) : Wp X 2 86 0 [vr 89, vi x1, vi x2] [] h Q := by
  refine wp_iload rfl rfl ?_
  refine wp_call (k := 50) (ρ2 := 1) (L2 := [vi x1]) rfl rfl rfl (Nat.le_of_ble_eq_true rfl) (Nat.le_of_ble_eq_true rfl) (Nat.le_of_ble_eq_true rfl) (rcv_S rfl) rfl ?_
  refine wp_iload rfl rfl ?_
  refine wp_i2l rfl ?_
  refine wp_sipush rfl ?_
  refine wp_sipush rfl ?_
  refine wp_call (k := 48) (ρ2 := 0) (L2 := [vl x1, vu, vl 0, vu, vl 1, vu]) rfl rfl rfl (Nat.le_of_ble_eq_true rfl) (Nat.le_of_ble_eq_true rfl) (Nat.le_of_ble_eq_true rfl) (rcv_S rfl) rfl ?_
  refine wp_lload rfl rfl ?_
  refine wp_lload rfl rfl ?_
  refine wp_lcmp rfl ?_
  refine wp_iflt (tn := 17) rfl rfl (fun c1 => ?_) (fun c1 => ?_)
  · replace H := H.1 c1
    refine wp_iconst rfl ?_
    refine wp_zret rfl rfl (by decide) ?_
    show Wp X _ 50 7 [vi x1] [vi 0] _ _
    refine wp_zret rfl rfl (by decide) ?_
    show Wp X _ 86 4 [vr 89, vi x1, vi x2] [vi 0] _ _
    refine wp_ifeqT (tn := 19) rfl rfl (by decide) ?_
    refine wp_iconst rfl ?_
    exact wp_iret rfl rfl H
  · replace H := H.2 c1
    refine wp_lload rfl rfl ?_
    refine wp_lload rfl rfl ?_
    refine wp_lcmp rfl ?_
    refine wp_ifgt (tn := 17) rfl rfl (fun c2 => ?_) (fun c2 => ?_)
    · replace H := H.1 c2
      refine wp_iconst rfl ?_
      refine wp_zret rfl rfl (by decide) ?_
      show Wp X _ 50 7 [vi x1] [vi 0] _ _
      refine wp_zret rfl rfl (by decide) ?_
      show Wp X _ 86 4 [vr 89, vi x1, vi x2] [vi 0] _ _
      refine wp_ifeqT (tn := 19) rfl rfl (by decide) ?_
      refine wp_iconst rfl ?_
      exact wp_iret rfl rfl H
    · replace H := H.2 c2
      refine wp_iconst rfl ?_
      refine wp_goto (tn := 18) rfl rfl ?_
      refine wp_zret rfl rfl (by decide) ?_
      show Wp X _ 50 7 [vi x1] [vi 1] _ _
      refine wp_zret rfl rfl (by decide) ?_
      show Wp X _ 86 4 [vr 89, vi x1, vi x2] [vi 1] _ _
      refine wp_ifeqF (tn := 19) rfl rfl (by decide) ?_
      refine wp_iload rfl rfl ?_
      refine wp_i2l rfl ?_
      refine wp_sipush rfl ?_
      refine wp_sipush rfl ?_
      refine wp_call (k := 48) (ρ2 := 0) (L2 := [vl x2, vu, vl 0, vu, vl 255, vu]) rfl rfl rfl (Nat.le_of_ble_eq_true rfl) (Nat.le_of_ble_eq_true rfl) (Nat.le_of_ble_eq_true rfl) (rcv_S rfl) rfl ?_
      refine wp_lload rfl rfl ?_
      refine wp_lload rfl rfl ?_
      refine wp_lcmp rfl ?_
      refine wp_iflt (tn := 17) rfl rfl (fun c3 => ?_) (fun c3 => ?_)
      · replace H := H.1 c3
        refine wp_iconst rfl ?_
        refine wp_zret rfl rfl (by decide) ?_
        show Wp X _ 86 16 [vr 89, vi x1, vi x2] [vi 0] _ _
        refine wp_ifneF (tn := 22) rfl rfl (by decide) ?_
        refine wp_iconst rfl ?_
        exact wp_iret rfl rfl H
      · replace H := H.2 c3
        refine wp_lload rfl rfl ?_
        refine wp_lload rfl rfl ?_
        refine wp_lcmp rfl ?_
        refine wp_ifgt (tn := 17) rfl rfl (fun c4 => ?_) (fun c4 => ?_)
        · replace H := H.1 c4
          refine wp_iconst rfl ?_
          refine wp_zret rfl rfl (by decide) ?_
          show Wp X _ 86 16 [vr 89, vi x1, vi x2] [vi 0] _ _
          refine wp_ifneF (tn := 22) rfl rfl (by decide) ?_
          refine wp_iconst rfl ?_
          exact wp_iret rfl rfl H
        · replace H := H.2 c4
          refine wp_iconst rfl ?_
          refine wp_goto (tn := 18) rfl rfl ?_
          refine wp_zret rfl rfl (by decide) ?_
          show Wp X _ 86 16 [vr 89, vi x1, vi x2] [vi 1] _ _
          refine wp_ifneT (tn := 22) rfl rfl (by decide) ?_
          refine wp_aload rfl rfl ?_
          refine wp_getR (r := 103) rfl (congrArg Prod.fst (kf_89 X.1)) rfl ?_
          refine wp_iload rfl rfl ?_
          have g5 := H.1
          replace H := H.2
          refine wp_iaload rfl (kf_104 X.1) g5 ?_
          refine wp_iconst rfl ?_
          refine wp_icne (tn := 36) rfl rfl (fun c6 => ?_) (fun c6 => ?_)
          · replace H := H.1 c6
            refine wp_aload rfl rfl ?_
            refine wp_getR (r := 102) rfl (congrArg Prod.fst (kf_89 X.1)) rfl ?_
            refine wp_iconst rfl ?_
            refine wp_iload rfl rfl ?_
            refine wp_imul rfl ?_
            refine Wp.topI (y := (50 * x1)) (w32_I (by clear H; unfold R32; omega)) ?_
            refine wp_aload rfl rfl ?_
            refine wp_getR (r := 103) rfl (congrArg Prod.fst (kf_89 X.1)) rfl ?_
            refine wp_iload rfl rfl ?_
            refine wp_iaload rfl (kf_104 X.1) ⟨g5.1, g5.2⟩ ?_
            refine wp_iadd rfl ?_
            have g7 := H.1
            replace H := H.2
            refine Wp.topI (y := ((50 * x1) + (h 104 x1))) (w32_I g7) ?_
            refine wp_iload rfl rfl ?_
            have g8 := H.1
            replace H := H.2
            refine wp_iastore rfl (kf_103 X.1) g8 ?_
            refine wp_aload rfl rfl ?_
            refine wp_getR (r := 103) rfl (congrArg Prod.fst (kf_89 X.1)) rfl ?_
            refine wp_iload rfl rfl ?_
            refine wp_dup2 rfl ?_
            refine wp_iaload rfl (kf_104 X.1) ⟨g5.1, g5.2⟩ ?_
            refine Wp.topI (y := (h 104 x1)) (congrFun (upd2_ne (by decide)) _) ?_
            refine wp_iconst rfl ?_
            refine wp_iadd rfl ?_
            have g9 := H.1
            replace H := H.2
            refine Wp.topI (y := ((h 104 x1) + 1)) (w32_I g9) ?_
            refine wp_iastore rfl (kf_104 X.1) ⟨g5.1, g5.2⟩ ?_
            refine wp_aload rfl rfl ?_
            refine wp_getR (r := 103) rfl (congrArg Prod.fst (kf_89 X.1)) rfl ?_
            refine wp_iload rfl rfl ?_
            refine wp_iaload rfl (kf_104 X.1) ⟨g5.1, g5.2⟩ ?_
            refine Wp.topI (y := ((h 104 x1) + 1)) ((congrFun (upd2_cg (upd2_ne (by decide))) _).trans upd2_s) ?_
            exact wp_iret rfl rfl H
          · replace H := H.2 c6
            refine wp_iconst rfl ?_
            exact wp_iret rfl rfl H
/-- WarnLinesModel.wipe(I)I, from 0 -/
theorem S87_89_0 {X : Nat × (Int → Int)} {h : HP} {Q : bQ} (x1 : Int) (H : (((lcp x1 0) < 0 → Q (some (vi (-2))) h) ∧ (0 ≤ (lcp x1 0) → ((0 < (lcp x1 1) → Q (some (vi (-2))) h) ∧ ((lcp x1 1) ≤ 0 → ((0 ≤ x1 ∧ x1 < 2) ∧ Q (some (vi (h 104 x1))) (upd2 h 104 x1 0))))))) : Wp X 2 87 0 [vr 89, vi x1, vu] [] h Q := by
  refine wp_iload rfl rfl ?_
  refine wp_call (k := 50) (ρ2 := 1) (L2 := [vi x1]) rfl rfl rfl (Nat.le_of_ble_eq_true rfl) (Nat.le_of_ble_eq_true rfl) (Nat.le_of_ble_eq_true rfl) (rcv_S rfl) rfl ?_
  refine wp_iload rfl rfl ?_
  refine wp_i2l rfl ?_
  refine wp_sipush rfl ?_
  refine wp_sipush rfl ?_
  refine wp_call (k := 48) (ρ2 := 0) (L2 := [vl x1, vu, vl 0, vu, vl 1, vu]) rfl rfl rfl (Nat.le_of_ble_eq_true rfl) (Nat.le_of_ble_eq_true rfl) (Nat.le_of_ble_eq_true rfl) (rcv_S rfl) rfl ?_
  refine wp_lload rfl rfl ?_
  refine wp_lload rfl rfl ?_
  refine wp_lcmp rfl ?_
  refine wp_iflt (tn := 17) rfl rfl (fun c1 => ?_) (fun c1 => ?_)
  · replace H := H.1 c1
    refine wp_iconst rfl ?_
    refine wp_zret rfl rfl (by decide) ?_
    show Wp X _ 50 7 [vi x1] [vi 0] _ _
    refine wp_zret rfl rfl (by decide) ?_
    show Wp X _ 87 4 [vr 89, vi x1, vu] [vi 0] _ _
    refine wp_ifneF (tn := 10) rfl rfl (by decide) ?_
    refine wp_iconst rfl ?_
    exact wp_iret rfl rfl H
  · replace H := H.2 c1
    refine wp_lload rfl rfl ?_
    refine wp_lload rfl rfl ?_
    refine wp_lcmp rfl ?_
    refine wp_ifgt (tn := 17) rfl rfl (fun c2 => ?_) (fun c2 => ?_)
    · replace H := H.1 c2
      refine wp_iconst rfl ?_
      refine wp_zret rfl rfl (by decide) ?_
      show Wp X _ 50 7 [vi x1] [vi 0] _ _
      refine wp_zret rfl rfl (by decide) ?_
      show Wp X _ 87 4 [vr 89, vi x1, vu] [vi 0] _ _
      refine wp_ifneF (tn := 10) rfl rfl (by decide) ?_
      refine wp_iconst rfl ?_
      exact wp_iret rfl rfl H
    · replace H := H.2 c2
      refine wp_iconst rfl ?_
      refine wp_goto (tn := 18) rfl rfl ?_
      refine wp_zret rfl rfl (by decide) ?_
      show Wp X _ 50 7 [vi x1] [vi 1] _ _
      refine wp_zret rfl rfl (by decide) ?_
      show Wp X _ 87 4 [vr 89, vi x1, vu] [vi 1] _ _
      refine wp_ifneT (tn := 10) rfl rfl (by decide) ?_
      refine wp_aload rfl rfl ?_
      refine wp_getR (r := 103) rfl (congrArg Prod.fst (kf_89 X.1)) rfl ?_
      refine wp_iload rfl rfl ?_
      have g3 := H.1
      replace H := H.2
      refine wp_iaload rfl (kf_104 X.1) g3 ?_
      refine wp_istore (L2 := [vr 89, vi x1, vi (h 104 x1)]) rfl (Nat.le_of_ble_eq_true rfl) rfl ?_
      refine wp_aload rfl rfl ?_
      refine wp_getR (r := 103) rfl (congrArg Prod.fst (kf_89 X.1)) rfl ?_
      refine wp_iload rfl rfl ?_
      refine wp_iconst rfl ?_
      refine wp_iastore rfl (kf_104 X.1) ⟨g3.1, g3.2⟩ ?_
      refine wp_iload rfl rfl ?_
      exact wp_iret rfl rfl H
/-- WarnLinesModel.readsRule(I)Z, from 0 -/
theorem S91_89_0 {X : Nat × (Int → Int)} {h : HP} {Q : bQ} (x1 : Int) (H : ((0 ≤ x1 ∧ x1 < 2) ∧ (((h 104 x1) ≤ (h 89 23) → (((h 89 24) = 8 → Q (some (vi 0)) h) ∧ ((h 89 24) ≠ 8 → Q (some (vi 0)) h))) ∧ ((h 89 23) < (h 104 x1) → ((R32 ((50 * x1) + (h 89 23))) ∧ ((0 ≤ ((50 * x1) + (h 89 23)) ∧ ((50 * x1) + (h 89 23)) < 100) ∧ (((h 89 24) = 8 → Q (some (vi 0)) h) ∧ ((h 89 24) ≠ 8 → (((h 103 ((50 * x1) + (h 89 23))) = 122 → ((R32 ((h 89 23) + 1)) ∧ (((h 104 x1) ≤ ((h 89 23) + 1) → (((lcp (-49) 1) < 0 → Q (some (vi 0)) (upd2 h 89 23 ((h 89 23) + 1))) ∧ (0 ≤ (lcp (-49) 1) → ((0 < (lcp (-49) 5) → Q (some (vi 0)) (upd2 h 89 23 ((h 89 23) + 1))) ∧ ((lcp (-49) 5) ≤ 0 → ((R32 (((h 89 23) + 1) + 1)) ∧ Q (some (vi 0)) (upd2 (upd2 h 89 23 ((h 89 23) + 1)) 89 23 (((h 89 23) + 1) + 1)))))))) ∧ (((h 89 23) + 1) < (h 104 x1) → ((R32 ((50 * x1) + ((h 89 23) + 1))) ∧ ((0 ≤ ((50 * x1) + ((h 89 23) + 1)) ∧ ((50 * x1) + ((h 89 23) + 1)) < 100) ∧ ((R32 ((h 103 ((50 * x1) + ((h 89 23) + 1))) - 48)) ∧ (((lcp ((h 103 ((50 * x1) + ((h 89 23) + 1))) - 48) 1) < 0 → Q (some (vi 0)) (upd2 h 89 23 ((h 89 23) + 1))) ∧ (0 ≤ (lcp ((h 103 ((50 * x1) + ((h 89 23) + 1))) - 48) 1) → ((0 < (lcp ((h 103 ((50 * x1) + ((h 89 23) + 1))) - 48) 5) → Q (some (vi 0)) (upd2 h 89 23 ((h 89 23) + 1))) ∧ ((lcp ((h 103 ((50 * x1) + ((h 89 23) + 1))) - 48) 5) ≤ 0 → ((R32 (((h 89 23) + 1) + 1)) ∧ ((((h 103 ((50 * x1) + ((h 89 23) + 1))) - 48) < 0 → Q (some (vi 0)) (upd2 (upd2 h 89 23 ((h 89 23) + 1)) 89 23 (((h 89 23) + 1) + 1))) ∧ (0 ≤ ((h 103 ((50 * x1) + ((h 89 23) + 1))) - 48) → (((h 104 x1) ≤ (((h 89 23) + 1) + 1) → ((R32 ((((h 89 23) + 1) + 1) + 0)) ∧ Q (some (vi 0)) (upd2 (upd2 (upd2 h 89 23 ((h 89 23) + 1)) 89 23 (((h 89 23) + 1) + 1)) 89 23 ((((h 89 23) + 1) + 1) + 0)))) ∧ ((((h 89 23) + 1) + 1) < (h 104 x1) → ((R32 ((50 * x1) + (((h 89 23) + 1) + 1))) ∧ ((0 ≤ ((50 * x1) + (((h 89 23) + 1) + 1)) ∧ ((50 * x1) + (((h 89 23) + 1) + 1)) < 100) ∧ (((h 103 ((50 * x1) + (((h 89 23) + 1) + 1))) ≠ 47 → ((R32 ((((h 89 23) + 1) + 1) + 0)) ∧ Q (some (vi 0)) (upd2 (upd2 (upd2 h 89 23 ((h 89 23) + 1)) 89 23 (((h 89 23) + 1) + 1)) 89 23 ((((h 89 23) + 1) + 1) + 0)))) ∧ ((h 103 ((50 * x1) + (((h 89 23) + 1) + 1))) = 47 → ((R32 ((((h 89 23) + 1) + 1) + 1)) ∧ (((h 104 x1) ≤ ((((h 89 23) + 1) + 1) + 1) → (((lcp (-49) ((h 103 ((50 * x1) + ((h 89 23) + 1))) - 48)) < 0 → Q (some (vi 0)) (upd2 (upd2 (upd2 h 89 23 ((h 89 23) + 1)) 89 23 (((h 89 23) + 1) + 1)) 89 23 ((((h 89 23) + 1) + 1) + 1))) ∧ (0 ≤ (lcp (-49) ((h 103 ((50 * x1) + ((h 89 23) + 1))) - 48)) → ((0 < (lcp (-49) 5) → Q (some (vi 0)) (upd2 (upd2 (upd2 h 89 23 ((h 89 23) + 1)) 89 23 (((h 89 23) + 1) + 1)) 89 23 ((((h 89 23) + 1) + 1) + 1))) ∧ ((lcp (-49) 5) ≤ 0 → ((R32 (((((h 89 23) + 1) + 1) + 1) + 1)) ∧ Q (some (vi 0)) (upd2 (upd2 (upd2 (upd2 h 89 23 ((h 89 23) + 1)) 89 23 (((h 89 23) + 1) + 1)) 89 23 ((((h 89 23) + 1) + 1) + 1)) 89 23 (((((h 89 23) + 1) + 1) + 1) + 1)))))))) ∧ (((((h 89 23) + 1) + 1) + 1) < (h 104 x1) → ((R32 ((50 * x1) + ((((h 89 23) + 1) + 1) + 1))) ∧ ((0 ≤ ((50 * x1) + ((((h 89 23) + 1) + 1) + 1)) ∧ ((50 * x1) + ((((h 89 23) + 1) + 1) + 1)) < 100) ∧ ((R32 ((h 103 ((50 * x1) + ((((h 89 23) + 1) + 1) + 1))) - 48)) ∧ (((lcp ((h 103 ((50 * x1) + ((((h 89 23) + 1) + 1) + 1))) - 48) ((h 103 ((50 * x1) + ((h 89 23) + 1))) - 48)) < 0 → Q (some (vi 0)) (upd2 (upd2 (upd2 h 89 23 ((h 89 23) + 1)) 89 23 (((h 89 23) + 1) + 1)) 89 23 ((((h 89 23) + 1) + 1) + 1))) ∧ (0 ≤ (lcp ((h 103 ((50 * x1) + ((((h 89 23) + 1) + 1) + 1))) - 48) ((h 103 ((50 * x1) + ((h 89 23) + 1))) - 48)) → ((0 < (lcp ((h 103 ((50 * x1) + ((((h 89 23) + 1) + 1) + 1))) - 48) 5) → Q (some (vi 0)) (upd2 (upd2 (upd2 h 89 23 ((h 89 23) + 1)) 89 23 (((h 89 23) + 1) + 1)) 89 23 ((((h 89 23) + 1) + 1) + 1))) ∧ ((lcp ((h 103 ((50 * x1) + ((((h 89 23) + 1) + 1) + 1))) - 48) 5) ≤ 0 → ((R32 (((((h 89 23) + 1) + 1) + 1) + 1)) ∧ ((((h 103 ((50 * x1) + ((((h 89 23) + 1) + 1) + 1))) - 48) < 0 → Q (some (vi 0)) (upd2 (upd2 (upd2 (upd2 h 89 23 ((h 89 23) + 1)) 89 23 (((h 89 23) + 1) + 1)) 89 23 ((((h 89 23) + 1) + 1) + 1)) 89 23 (((((h 89 23) + 1) + 1) + 1) + 1))) ∧ (0 ≤ ((h 103 ((50 * x1) + ((((h 89 23) + 1) + 1) + 1))) - 48) → (((h 104 x1) ≤ (((((h 89 23) + 1) + 1) + 1) + 1) → ((R32 ((((((h 89 23) + 1) + 1) + 1) + 1) + 0)) ∧ Q (some (vi 0)) (upd2 (upd2 (upd2 (upd2 (upd2 h 89 23 ((h 89 23) + 1)) 89 23 (((h 89 23) + 1) + 1)) 89 23 ((((h 89 23) + 1) + 1) + 1)) 89 23 (((((h 89 23) + 1) + 1) + 1) + 1)) 89 23 ((((((h 89 23) + 1) + 1) + 1) + 1) + 0)))) ∧ ((((((h 89 23) + 1) + 1) + 1) + 1) < (h 104 x1) → ((R32 ((50 * x1) + (((((h 89 23) + 1) + 1) + 1) + 1))) ∧ ((0 ≤ ((50 * x1) + (((((h 89 23) + 1) + 1) + 1) + 1)) ∧ ((50 * x1) + (((((h 89 23) + 1) + 1) + 1) + 1)) < 100) ∧ (((h 103 ((50 * x1) + (((((h 89 23) + 1) + 1) + 1) + 1))) ≠ 62 → ((R32 ((((((h 89 23) + 1) + 1) + 1) + 1) + 0)) ∧ Q (some (vi 0)) (upd2 (upd2 (upd2 (upd2 (upd2 h 89 23 ((h 89 23) + 1)) 89 23 (((h 89 23) + 1) + 1)) 89 23 ((((h 89 23) + 1) + 1) + 1)) 89 23 (((((h 89 23) + 1) + 1) + 1) + 1)) 89 23 ((((((h 89 23) + 1) + 1) + 1) + 1) + 0)))) ∧ ((h 103 ((50 * x1) + (((((h 89 23) + 1) + 1) + 1) + 1))) = 62 → ((R32 ((((((h 89 23) + 1) + 1) + 1) + 1) + 1)) ∧ (((h 104 x1) ≤ ((((((h 89 23) + 1) + 1) + 1) + 1) + 1) → (((lcp (-49) 0) < 0 → Q (some (vi 0)) (upd2 (upd2 (upd2 (upd2 (upd2 h 89 23 ((h 89 23) + 1)) 89 23 (((h 89 23) + 1) + 1)) 89 23 ((((h 89 23) + 1) + 1) + 1)) 89 23 (((((h 89 23) + 1) + 1) + 1) + 1)) 89 23 ((((((h 89 23) + 1) + 1) + 1) + 1) + 1))) ∧ (0 ≤ (lcp (-49) 0) → ((0 < (lcp (-49) 3) → Q (some (vi 0)) (upd2 (upd2 (upd2 (upd2 (upd2 h 89 23 ((h 89 23) + 1)) 89 23 (((h 89 23) + 1) + 1)) 89 23 ((((h 89 23) + 1) + 1) + 1)) 89 23 (((((h 89 23) + 1) + 1) + 1) + 1)) 89 23 ((((((h 89 23) + 1) + 1) + 1) + 1) + 1))) ∧ ((lcp (-49) 3) ≤ 0 → ((R32 (((((((h 89 23) + 1) + 1) + 1) + 1) + 1) + 1)) ∧ Q (some (vi 0)) (upd2 (upd2 (upd2 (upd2 (upd2 (upd2 h 89 23 ((h 89 23) + 1)) 89 23 (((h 89 23) + 1) + 1)) 89 23 ((((h 89 23) + 1) + 1) + 1)) 89 23 (((((h 89 23) + 1) + 1) + 1) + 1)) 89 23 ((((((h 89 23) + 1) + 1) + 1) + 1) + 1)) 89 23 (((((((h 89 23) + 1) + 1) + 1) + 1) + 1) + 1)))))))) ∧ (((((((h 89 23) + 1) + 1) + 1) + 1) + 1) < (h 104 x1) → ((R32 ((50 * x1) + ((((((h 89 23) + 1) + 1) + 1) + 1) + 1))) ∧ ((0 ≤ ((50 * x1) + ((((((h 89 23) + 1) + 1) + 1) + 1) + 1)) ∧ ((50 * x1) + ((((((h 89 23) + 1) + 1) + 1) + 1) + 1)) < 100) ∧ ((R32 ((h 103 ((50 * x1) + ((((((h 89 23) + 1) + 1) + 1) + 1) + 1))) - 48)) ∧ (((lcp ((h 103 ((50 * x1) + ((((((h 89 23) + 1) + 1) + 1) + 1) + 1))) - 48) 0) < 0 → Q (some (vi 0)) (upd2 (upd2 (upd2 (upd2 (upd2 h 89 23 ((h 89 23) + 1)) 89 23 (((h 89 23) + 1) + 1)) 89 23 ((((h 89 23) + 1) + 1) + 1)) 89 23 (((((h 89 23) + 1) + 1) + 1) + 1)) 89 23 ((((((h 89 23) + 1) + 1) + 1) + 1) + 1))) ∧ (0 ≤ (lcp ((h 103 ((50 * x1) + ((((((h 89 23) + 1) + 1) + 1) + 1) + 1))) - 48) 0) → ((0 < (lcp ((h 103 ((50 * x1) + ((((((h 89 23) + 1) + 1) + 1) + 1) + 1))) - 48) 3) → Q (some (vi 0)) (upd2 (upd2 (upd2 (upd2 (upd2 h 89 23 ((h 89 23) + 1)) 89 23 (((h 89 23) + 1) + 1)) 89 23 ((((h 89 23) + 1) + 1) + 1)) 89 23 (((((h 89 23) + 1) + 1) + 1) + 1)) 89 23 ((((((h 89 23) + 1) + 1) + 1) + 1) + 1))) ∧ ((lcp ((h 103 ((50 * x1) + ((((((h 89 23) + 1) + 1) + 1) + 1) + 1))) - 48) 3) ≤ 0 → ((R32 (((((((h 89 23) + 1) + 1) + 1) + 1) + 1) + 1)) ∧ ((0 ≤ ((h 103 ((50 * x1) + ((((((h 89 23) + 1) + 1) + 1) + 1) + 1))) - 48) → ((0 ≤ (h 89 24) ∧ (h 89 24) < 8) ∧ Q (some (vi 1)) (upd2 (upd2 (upd2 (upd2 (upd2 (upd2 (upd2 (upd2 (upd2 (upd2 (upd2 h 89 23 ((h 89 23) + 1)) 89 23 (((h 89 23) + 1) + 1)) 89 23 ((((h 89 23) + 1) + 1) + 1)) 89 23 (((((h 89 23) + 1) + 1) + 1) + 1)) 89 23 ((((((h 89 23) + 1) + 1) + 1) + 1) + 1)) 89 23 (((((((h 89 23) + 1) + 1) + 1) + 1) + 1) + 1)) 105 (h 89 24) (h 103 ((50 * x1) + (h 89 23)))) 106 (h 89 24) ((h 103 ((50 * x1) + ((h 89 23) + 1))) - 48)) 107 (h 89 24) ((h 103 ((50 * x1) + ((((h 89 23) + 1) + 1) + 1))) - 48)) 108 (h 89 24) ((h 103 ((50 * x1) + ((((((h 89 23) + 1) + 1) + 1) + 1) + 1))) - 48)) 89 24 ((h 89 24) + 1)))) ∧ (((h 103 ((50 * x1) + ((((((h 89 23) + 1) + 1) + 1) + 1) + 1))) - 48) < 0 → Q (some (vi 0)) (upd2 (upd2 (upd2 (upd2 (upd2 (upd2 h 89 23 ((h 89 23) + 1)) 89 23 (((h 89 23) + 1) + 1)) 89 23 ((((h 89 23) + 1) + 1) + 1)) 89 23 (((((h 89 23) + 1) + 1) + 1) + 1)) 89 23 ((((((h 89 23) + 1) + 1) + 1) + 1) + 1)) 89 23 (((((((h 89 23) + 1) + 1) + 1) + 1) + 1) + 1)))))))))))))))))))))))))))))))))))))))))))))))))))))) ∧ ((h 103 ((50 * x1) + (h 89 23))) ≠ 122 → (((h 103 ((50 * x1) + (h 89 23))) = 114 → ((R32 ((h 89 23) + 1)) ∧ (((h 104 x1) ≤ ((h 89 23) + 1) → (((lcp (-49) 2) < 0 → Q (some (vi 0)) (upd2 h 89 23 ((h 89 23) + 1))) ∧ (0 ≤ (lcp (-49) 2) → ((0 < (lcp (-49) 9) → Q (some (vi 0)) (upd2 h 89 23 ((h 89 23) + 1))) ∧ ((lcp (-49) 9) ≤ 0 → ((R32 (((h 89 23) + 1) + 1)) ∧ Q (some (vi 0)) (upd2 (upd2 h 89 23 ((h 89 23) + 1)) 89 23 (((h 89 23) + 1) + 1)))))))) ∧ (((h 89 23) + 1) < (h 104 x1) → ((R32 ((50 * x1) + ((h 89 23) + 1))) ∧ ((0 ≤ ((50 * x1) + ((h 89 23) + 1)) ∧ ((50 * x1) + ((h 89 23) + 1)) < 100) ∧ ((R32 ((h 103 ((50 * x1) + ((h 89 23) + 1))) - 48)) ∧ (((lcp ((h 103 ((50 * x1) + ((h 89 23) + 1))) - 48) 2) < 0 → Q (some (vi 0)) (upd2 h 89 23 ((h 89 23) + 1))) ∧ (0 ≤ (lcp ((h 103 ((50 * x1) + ((h 89 23) + 1))) - 48) 2) → ((0 < (lcp ((h 103 ((50 * x1) + ((h 89 23) + 1))) - 48) 9) → Q (some (vi 0)) (upd2 h 89 23 ((h 89 23) + 1))) ∧ ((lcp ((h 103 ((50 * x1) + ((h 89 23) + 1))) - 48) 9) ≤ 0 → ((R32 (((h 89 23) + 1) + 1)) ∧ ((((h 103 ((50 * x1) + ((h 89 23) + 1))) - 48) < 0 → Q (some (vi 0)) (upd2 (upd2 h 89 23 ((h 89 23) + 1)) 89 23 (((h 89 23) + 1) + 1))) ∧ (0 ≤ ((h 103 ((50 * x1) + ((h 89 23) + 1))) - 48) → ((0 ≤ (h 89 24) ∧ (h 89 24) < 8) ∧ Q (some (vi 1)) (upd2 (upd2 (upd2 (upd2 (upd2 (upd2 (upd2 h 89 23 ((h 89 23) + 1)) 89 23 (((h 89 23) + 1) + 1)) 105 (h 89 24) (h 103 ((50 * x1) + (h 89 23)))) 106 (h 89 24) ((h 103 ((50 * x1) + ((h 89 23) + 1))) - 48)) 107 (h 89 24) ((h 103 ((50 * x1) + ((h 89 23) + 1))) - 48)) 108 (h 89 24) 0) 89 24 ((h 89 24) + 1))))))))))))))))) ∧ ((h 103 ((50 * x1) + (h 89 23))) ≠ 114 → (((h 103 ((50 * x1) + (h 89 23))) = 97 → ((R32 ((h 89 23) + 1)) ∧ (((h 104 x1) ≤ ((h 89 23) + 1) → (((lcp (-49) 3) < 0 → Q (some (vi 0)) (upd2 h 89 23 ((h 89 23) + 1))) ∧ (0 ≤ (lcp (-49) 3) → ((0 < (lcp (-49) 9) → Q (some (vi 0)) (upd2 h 89 23 ((h 89 23) + 1))) ∧ ((lcp (-49) 9) ≤ 0 → ((R32 (((h 89 23) + 1) + 1)) ∧ Q (some (vi 0)) (upd2 (upd2 h 89 23 ((h 89 23) + 1)) 89 23 (((h 89 23) + 1) + 1)))))))) ∧ (((h 89 23) + 1) < (h 104 x1) → ((R32 ((50 * x1) + ((h 89 23) + 1))) ∧ ((0 ≤ ((50 * x1) + ((h 89 23) + 1)) ∧ ((50 * x1) + ((h 89 23) + 1)) < 100) ∧ ((R32 ((h 103 ((50 * x1) + ((h 89 23) + 1))) - 48)) ∧ (((lcp ((h 103 ((50 * x1) + ((h 89 23) + 1))) - 48) 3) < 0 → Q (some (vi 0)) (upd2 h 89 23 ((h 89 23) + 1))) ∧ (0 ≤ (lcp ((h 103 ((50 * x1) + ((h 89 23) + 1))) - 48) 3) → ((0 < (lcp ((h 103 ((50 * x1) + ((h 89 23) + 1))) - 48) 9) → Q (some (vi 0)) (upd2 h 89 23 ((h 89 23) + 1))) ∧ ((lcp ((h 103 ((50 * x1) + ((h 89 23) + 1))) - 48) 9) ≤ 0 → ((R32 (((h 89 23) + 1) + 1)) ∧ ((((h 103 ((50 * x1) + ((h 89 23) + 1))) - 48) < 0 → Q (some (vi 0)) (upd2 (upd2 h 89 23 ((h 89 23) + 1)) 89 23 (((h 89 23) + 1) + 1))) ∧ (0 ≤ ((h 103 ((50 * x1) + ((h 89 23) + 1))) - 48) → ((0 ≤ (h 89 24) ∧ (h 89 24) < 8) ∧ Q (some (vi 1)) (upd2 (upd2 (upd2 (upd2 (upd2 (upd2 (upd2 h 89 23 ((h 89 23) + 1)) 89 23 (((h 89 23) + 1) + 1)) 105 (h 89 24) (h 103 ((50 * x1) + (h 89 23)))) 106 (h 89 24) ((h 103 ((50 * x1) + ((h 89 23) + 1))) - 48)) 107 (h 89 24) ((h 103 ((50 * x1) + ((h 89 23) + 1))) - 48)) 108 (h 89 24) 0) 89 24 ((h 89 24) + 1))))))))))))))))) ∧ ((h 103 ((50 * x1) + (h 89 23))) ≠ 97 → Q (some (vi 0)) h)))))))))))))) : Wp X 2 91 0 [vr 89, vi x1, vu, vu, vu, vu] [] h Q := by
  refine wp_aload rfl rfl ?_
  refine wp_iload rfl rfl ?_
  refine wp_call (k := 88) (ρ2 := 0) (L2 := [vr 89, vi x1]) rfl rfl rfl (Nat.le_of_ble_eq_true rfl) (Nat.le_of_ble_eq_true rfl) (Nat.le_of_ble_eq_true rfl) (rcv_V rfl (congrArg Prod.fst (kf_89 X.1))) rfl ?_
  refine wp_aload rfl rfl ?_
  refine wp_getI (j := 23) rfl (congrArg Prod.fst (kf_89 X.1)) rfl ?_
  refine wp_aload rfl rfl ?_
  refine wp_getR (r := 103) rfl (congrArg Prod.fst (kf_89 X.1)) rfl ?_
  refine wp_iload rfl rfl ?_
  have g1 := H.1
  replace H := H.2
  refine wp_iaload rfl (kf_104 X.1) g1 ?_
  refine wp_icge (tn := 30) rfl rfl (fun c2 => ?_) (fun c2 => ?_)
  · replace H := H.1 c2
    refine wp_iconst rfl ?_
    refine wp_iret rfl rfl ?_
    show Wp X _ 91 5 [vr 89, vi x1, vu, vu, vu, vu] [vi (-1)] _ _
    refine wp_istore (L2 := [vr 89, vi x1, vi (-1), vu, vu, vu]) rfl (Nat.le_of_ble_eq_true rfl) rfl ?_
    refine wp_aload rfl rfl ?_
    refine wp_getI (j := 24) rfl (congrArg Prod.fst (kf_89 X.1)) rfl ?_
    refine wp_iconst rfl ?_
    refine wp_iceq (tn := 33) rfl rfl (fun c3 => ?_) (fun c3 => ?_)
    · replace H := H.1 c3
      refine wp_iconst rfl ?_
      exact wp_zret rfl rfl (by decide) H
    · replace H := H.2 c3
      refine wp_iload rfl rfl ?_
      refine wp_iconst rfl ?_
      refine wp_iceqF (tn := 35) rfl rfl (by decide) ?_
      refine wp_iload rfl rfl ?_
      refine wp_iconst rfl ?_
      refine wp_iceqF (tn := 35) rfl rfl (by decide) ?_
      refine wp_iload rfl rfl ?_
      refine wp_iconst rfl ?_
      refine wp_iceqF (tn := 35) rfl rfl (by decide) ?_
      refine wp_iconst rfl ?_
      exact wp_zret rfl rfl (by decide) H
  · replace H := H.2 c2
    refine wp_aload rfl rfl ?_
    refine wp_getR (r := 102) rfl (congrArg Prod.fst (kf_89 X.1)) rfl ?_
    refine wp_iconst rfl ?_
    refine wp_iload rfl rfl ?_
    refine wp_imul rfl ?_
    refine Wp.topI (y := (50 * x1)) (w32_I (by clear H; unfold R32; omega)) ?_
    refine wp_aload rfl rfl ?_
    refine wp_getI (j := 23) rfl (congrArg Prod.fst (kf_89 X.1)) rfl ?_
    refine wp_iadd rfl ?_
    have g4 := H.1
    replace H := H.2
    refine Wp.topI (y := ((50 * x1) + (h 89 23))) (w32_I g4) ?_
    have g5 := H.1
    replace H := H.2
    refine wp_iaload rfl (kf_103 X.1) g5 ?_
    refine wp_goto (tn := 31) rfl rfl ?_
    refine wp_iret rfl rfl ?_
    show Wp X _ 91 5 [vr 89, vi x1, vu, vu, vu, vu] [vi (h 103 ((50 * x1) + (h 89 23)))] _ _
    refine wp_istore (L2 := [vr 89, vi x1, vi (h 103 ((50 * x1) + (h 89 23))), vu, vu, vu]) rfl (Nat.le_of_ble_eq_true rfl) rfl ?_
    refine wp_aload rfl rfl ?_
    refine wp_getI (j := 24) rfl (congrArg Prod.fst (kf_89 X.1)) rfl ?_
    refine wp_iconst rfl ?_
    refine wp_iceq (tn := 33) rfl rfl (fun c6 => ?_) (fun c6 => ?_)
    · replace H := H.1 c6
      refine wp_iconst rfl ?_
      exact wp_zret rfl rfl (by decide) H
    · replace H := H.2 c6
      refine wp_iload rfl rfl ?_
      refine wp_iconst rfl ?_
      refine wp_iceq (tn := 35) rfl rfl (fun c7 => ?_) (fun c7 => ?_)
      · replace H := H.1 c7
        refine wp_aload rfl rfl ?_
        refine wp_dupR rfl ?_
        refine wp_getI (j := 23) rfl (congrArg Prod.fst (kf_89 X.1)) rfl ?_
        refine wp_iconst rfl ?_
        refine wp_iadd rfl ?_
        have g8 := H.1
        replace H := H.2
        refine Wp.topI (y := ((h 89 23) + 1)) (w32_I g8) ?_
        refine wp_putI (j := 23) rfl (congrArg Prod.fst (kf_89 X.1)) rfl rfl rfl ?_
        refine wp_aload rfl rfl ?_
        refine wp_iload rfl rfl ?_
        refine wp_iload rfl rfl ?_
        refine wp_iconst rfl ?_
        refine wp_icneF (tn := 57) rfl rfl c7 ?_
        refine wp_iconst rfl ?_
        refine wp_goto (tn := 68) rfl rfl ?_
        refine wp_iload rfl rfl ?_
        refine wp_iconst rfl ?_
        refine wp_icneF (tn := 78) rfl rfl c7 ?_
        refine wp_iconst rfl ?_
        refine wp_goto (tn := 80) rfl rfl ?_
        refine wp_call (k := 90) (ρ2 := 1) (L2 := [vr 89, vi x1, vi 1, vi 5, vu]) rfl rfl rfl (Nat.le_of_ble_eq_true rfl) (Nat.le_of_ble_eq_true rfl) (Nat.le_of_ble_eq_true rfl) (rcv_V rfl (congrArg Prod.fst (kf_89 X.1))) rfl ?_
        refine wp_aload rfl rfl ?_
        refine wp_iload rfl rfl ?_
        refine wp_call (k := 88) (ρ2 := 0) (L2 := [vr 89, vi x1]) rfl rfl rfl (Nat.le_of_ble_eq_true rfl) (Nat.le_of_ble_eq_true rfl) (Nat.le_of_ble_eq_true rfl) (rcv_V rfl (congrArg Prod.fst (kf_89 X.1))) rfl ?_
        refine wp_aload rfl rfl ?_
        refine wp_getI (j := 23) rfl (congrArg Prod.fst (kf_89 X.1)) rfl ?_
        refine Wp.topI (y := ((h 89 23) + 1)) upd2_s ?_
        refine wp_aload rfl rfl ?_
        refine wp_getR (r := 103) rfl (congrArg Prod.fst (kf_89 X.1)) rfl ?_
        refine wp_iload rfl rfl ?_
        refine wp_iaload rfl (kf_104 X.1) ⟨g1.1, g1.2⟩ ?_
        refine Wp.topI (y := (h 104 x1)) (congrFun (upd2_ne (by decide)) _) ?_
        refine wp_icge (tn := 30) rfl rfl (fun c9 => ?_) (fun c9 => ?_)
        · replace H := H.1 c9
          refine wp_iconst rfl ?_
          refine wp_iret rfl rfl ?_
          show Wp X _ 90 5 [vr 89, vi x1, vi 1, vi 5, vu] [vi (-1)] _ _
          refine wp_iconst rfl ?_
          refine wp_isub rfl ?_
          refine Wp.topI (y := (-49)) (by decide) ?_
          refine wp_istore (L2 := [vr 89, vi x1, vi 1, vi 5, vi (-49)]) rfl (Nat.le_of_ble_eq_true rfl) rfl ?_
          refine wp_iload rfl rfl ?_
          refine wp_i2l rfl ?_
          refine wp_iload rfl rfl ?_
          refine wp_i2l rfl ?_
          refine wp_iload rfl rfl ?_
          refine wp_i2l rfl ?_
          refine wp_call (k := 48) (ρ2 := 0) (L2 := [vl (-49), vu, vl 1, vu, vl 5, vu]) rfl rfl rfl (Nat.le_of_ble_eq_true rfl) (Nat.le_of_ble_eq_true rfl) (Nat.le_of_ble_eq_true rfl) (rcv_S rfl) rfl ?_
          refine wp_lload rfl rfl ?_
          refine wp_lload rfl rfl ?_
          refine wp_lcmp rfl ?_
          refine wp_iflt (tn := 17) rfl rfl (fun c10 => ?_) (fun c10 => ?_)
          · replace H := H.1 c10
            refine wp_iconst rfl ?_
            refine wp_zret rfl rfl (by decide) ?_
            show Wp X _ 90 20 [vr 89, vi x1, vi 1, vi 5, vi (-49)] [vi 0] _ _
            refine wp_ifneF (tn := 25) rfl rfl (by decide) ?_
            refine wp_iconst rfl ?_
            refine wp_iret rfl rfl ?_
            show Wp X _ 91 83 [vr 89, vi x1, vi (h 103 ((50 * x1) + (h 89 23))), vu, vu, vu] [vi (-1)] _ _
            refine wp_istore (L2 := [vr 89, vi x1, vi (h 103 ((50 * x1) + (h 89 23))), vi (-1), vu, vu]) rfl (Nat.le_of_ble_eq_true rfl) rfl ?_
            refine wp_iload rfl rfl ?_
            refine wp_istore (L2 := [vr 89, vi x1, vi (h 103 ((50 * x1) + (h 89 23))), vi (-1), vi (-1), vu]) rfl (Nat.le_of_ble_eq_true rfl) rfl ?_
            refine wp_iconst rfl ?_
            refine wp_istore (L2 := [vr 89, vi x1, vi (h 103 ((50 * x1) + (h 89 23))), vi (-1), vi (-1), vi 0]) rfl (Nat.le_of_ble_eq_true rfl) rfl ?_
            refine wp_iload rfl rfl ?_
            refine wp_ifltT (tn := 151) rfl rfl (by decide) ?_
            refine wp_iload rfl rfl ?_
            refine wp_ifltT (tn := 165) rfl rfl (by decide) ?_
            refine wp_iconst rfl ?_
            exact wp_zret rfl rfl (by decide) H
          · replace H := H.2 c10
            refine wp_lload rfl rfl ?_
            refine wp_lload rfl rfl ?_
            refine wp_lcmp rfl ?_
            refine wp_ifgt (tn := 17) rfl rfl (fun c11 => ?_) (fun c11 => ?_)
            · replace H := H.1 c11
              refine wp_iconst rfl ?_
              refine wp_zret rfl rfl (by decide) ?_
              show Wp X _ 90 20 [vr 89, vi x1, vi 1, vi 5, vi (-49)] [vi 0] _ _
              refine wp_ifneF (tn := 25) rfl rfl (by decide) ?_
              refine wp_iconst rfl ?_
              refine wp_iret rfl rfl ?_
              show Wp X _ 91 83 [vr 89, vi x1, vi (h 103 ((50 * x1) + (h 89 23))), vu, vu, vu] [vi (-1)] _ _
              refine wp_istore (L2 := [vr 89, vi x1, vi (h 103 ((50 * x1) + (h 89 23))), vi (-1), vu, vu]) rfl (Nat.le_of_ble_eq_true rfl) rfl ?_
              refine wp_iload rfl rfl ?_
              refine wp_istore (L2 := [vr 89, vi x1, vi (h 103 ((50 * x1) + (h 89 23))), vi (-1), vi (-1), vu]) rfl (Nat.le_of_ble_eq_true rfl) rfl ?_
              refine wp_iconst rfl ?_
              refine wp_istore (L2 := [vr 89, vi x1, vi (h 103 ((50 * x1) + (h 89 23))), vi (-1), vi (-1), vi 0]) rfl (Nat.le_of_ble_eq_true rfl) rfl ?_
              refine wp_iload rfl rfl ?_
              refine wp_ifltT (tn := 151) rfl rfl (by decide) ?_
              refine wp_iload rfl rfl ?_
              refine wp_ifltT (tn := 165) rfl rfl (by decide) ?_
              refine wp_iconst rfl ?_
              exact wp_zret rfl rfl (by decide) H
            · replace H := H.2 c11
              refine wp_iconst rfl ?_
              refine wp_goto (tn := 18) rfl rfl ?_
              refine wp_zret rfl rfl (by decide) ?_
              show Wp X _ 90 20 [vr 89, vi x1, vi 1, vi 5, vi (-49)] [vi 1] _ _
              refine wp_ifneT (tn := 25) rfl rfl (by decide) ?_
              refine wp_aload rfl rfl ?_
              refine wp_dupR rfl ?_
              refine wp_getI (j := 23) rfl (congrArg Prod.fst (kf_89 X.1)) rfl ?_
              refine Wp.topI (y := ((h 89 23) + 1)) upd2_s ?_
              refine wp_iconst rfl ?_
              refine wp_iadd rfl ?_
              have g12 := H.1
              replace H := H.2
              refine Wp.topI (y := (((h 89 23) + 1) + 1)) (w32_I g12) ?_
              refine wp_putI (j := 23) rfl (congrArg Prod.fst (kf_89 X.1)) rfl rfl rfl ?_
              refine wp_iload rfl rfl ?_
              refine wp_iret rfl rfl ?_
              show Wp X _ 91 83 [vr 89, vi x1, vi (h 103 ((50 * x1) + (h 89 23))), vu, vu, vu] [vi (-49)] _ _
              refine wp_istore (L2 := [vr 89, vi x1, vi (h 103 ((50 * x1) + (h 89 23))), vi (-49), vu, vu]) rfl (Nat.le_of_ble_eq_true rfl) rfl ?_
              refine wp_iload rfl rfl ?_
              refine wp_istore (L2 := [vr 89, vi x1, vi (h 103 ((50 * x1) + (h 89 23))), vi (-49), vi (-49), vu]) rfl (Nat.le_of_ble_eq_true rfl) rfl ?_
              refine wp_iconst rfl ?_
              refine wp_istore (L2 := [vr 89, vi x1, vi (h 103 ((50 * x1) + (h 89 23))), vi (-49), vi (-49), vi 0]) rfl (Nat.le_of_ble_eq_true rfl) rfl ?_
              refine wp_iload rfl rfl ?_
              refine wp_ifltT (tn := 151) rfl rfl (by decide) ?_
              refine wp_iload rfl rfl ?_
              refine wp_ifltT (tn := 165) rfl rfl (by decide) ?_
              refine wp_iconst rfl ?_
              exact wp_zret rfl rfl (by decide) H
        · replace H := H.2 c9
          refine wp_aload rfl rfl ?_
          refine wp_getR (r := 102) rfl (congrArg Prod.fst (kf_89 X.1)) rfl ?_
          refine wp_iconst rfl ?_
          refine wp_iload rfl rfl ?_
          refine wp_imul rfl ?_
          refine Wp.topI (y := (50 * x1)) (w32_I (by clear H; unfold R32; omega)) ?_
          refine wp_aload rfl rfl ?_
          refine wp_getI (j := 23) rfl (congrArg Prod.fst (kf_89 X.1)) rfl ?_
          refine Wp.topI (y := ((h 89 23) + 1)) upd2_s ?_
          refine wp_iadd rfl ?_
          have g13 := H.1
          replace H := H.2
          refine Wp.topI (y := ((50 * x1) + ((h 89 23) + 1))) (w32_I g13) ?_
          have g14 := H.1
          replace H := H.2
          refine wp_iaload rfl (kf_103 X.1) g14 ?_
          refine Wp.topI (y := (h 103 ((50 * x1) + ((h 89 23) + 1)))) (congrFun (upd2_ne (by decide)) _) ?_
          refine wp_goto (tn := 31) rfl rfl ?_
          refine wp_iret rfl rfl ?_
          show Wp X _ 90 5 [vr 89, vi x1, vi 1, vi 5, vu] [vi (h 103 ((50 * x1) + ((h 89 23) + 1)))] _ _
          refine wp_iconst rfl ?_
          refine wp_isub rfl ?_
          have g15 := H.1
          replace H := H.2
          refine Wp.topI (y := ((h 103 ((50 * x1) + ((h 89 23) + 1))) - 48)) (w32_I g15) ?_
          refine wp_istore (L2 := [vr 89, vi x1, vi 1, vi 5, vi ((h 103 ((50 * x1) + ((h 89 23) + 1))) - 48)]) rfl (Nat.le_of_ble_eq_true rfl) rfl ?_
          refine wp_iload rfl rfl ?_
          refine wp_i2l rfl ?_
          refine wp_iload rfl rfl ?_
          refine wp_i2l rfl ?_
          refine wp_iload rfl rfl ?_
          refine wp_i2l rfl ?_
          refine wp_call (k := 48) (ρ2 := 0) (L2 := [vl ((h 103 ((50 * x1) + ((h 89 23) + 1))) - 48), vu, vl 1, vu, vl 5, vu]) rfl rfl rfl (Nat.le_of_ble_eq_true rfl) (Nat.le_of_ble_eq_true rfl) (Nat.le_of_ble_eq_true rfl) (rcv_S rfl) rfl ?_
          refine wp_lload rfl rfl ?_
          refine wp_lload rfl rfl ?_
          refine wp_lcmp rfl ?_
          refine wp_iflt (tn := 17) rfl rfl (fun c16 => ?_) (fun c16 => ?_)
          · replace H := H.1 c16
            refine wp_iconst rfl ?_
            refine wp_zret rfl rfl (by decide) ?_
            show Wp X _ 90 20 [vr 89, vi x1, vi 1, vi 5, vi ((h 103 ((50 * x1) + ((h 89 23) + 1))) - 48)] [vi 0] _ _
            refine wp_ifneF (tn := 25) rfl rfl (by decide) ?_
            refine wp_iconst rfl ?_
            refine wp_iret rfl rfl ?_
            show Wp X _ 91 83 [vr 89, vi x1, vi (h 103 ((50 * x1) + (h 89 23))), vu, vu, vu] [vi (-1)] _ _
            refine wp_istore (L2 := [vr 89, vi x1, vi (h 103 ((50 * x1) + (h 89 23))), vi (-1), vu, vu]) rfl (Nat.le_of_ble_eq_true rfl) rfl ?_
            refine wp_iload rfl rfl ?_
            refine wp_istore (L2 := [vr 89, vi x1, vi (h 103 ((50 * x1) + (h 89 23))), vi (-1), vi (-1), vu]) rfl (Nat.le_of_ble_eq_true rfl) rfl ?_
            refine wp_iconst rfl ?_
            refine wp_istore (L2 := [vr 89, vi x1, vi (h 103 ((50 * x1) + (h 89 23))), vi (-1), vi (-1), vi 0]) rfl (Nat.le_of_ble_eq_true rfl) rfl ?_
            refine wp_iload rfl rfl ?_
            refine wp_ifltT (tn := 151) rfl rfl (by decide) ?_
            refine wp_iload rfl rfl ?_
            refine wp_ifltT (tn := 165) rfl rfl (by decide) ?_
            refine wp_iconst rfl ?_
            exact wp_zret rfl rfl (by decide) H
          · replace H := H.2 c16
            refine wp_lload rfl rfl ?_
            refine wp_lload rfl rfl ?_
            refine wp_lcmp rfl ?_
            refine wp_ifgt (tn := 17) rfl rfl (fun c17 => ?_) (fun c17 => ?_)
            · replace H := H.1 c17
              refine wp_iconst rfl ?_
              refine wp_zret rfl rfl (by decide) ?_
              show Wp X _ 90 20 [vr 89, vi x1, vi 1, vi 5, vi ((h 103 ((50 * x1) + ((h 89 23) + 1))) - 48)] [vi 0] _ _
              refine wp_ifneF (tn := 25) rfl rfl (by decide) ?_
              refine wp_iconst rfl ?_
              refine wp_iret rfl rfl ?_
              show Wp X _ 91 83 [vr 89, vi x1, vi (h 103 ((50 * x1) + (h 89 23))), vu, vu, vu] [vi (-1)] _ _
              refine wp_istore (L2 := [vr 89, vi x1, vi (h 103 ((50 * x1) + (h 89 23))), vi (-1), vu, vu]) rfl (Nat.le_of_ble_eq_true rfl) rfl ?_
              refine wp_iload rfl rfl ?_
              refine wp_istore (L2 := [vr 89, vi x1, vi (h 103 ((50 * x1) + (h 89 23))), vi (-1), vi (-1), vu]) rfl (Nat.le_of_ble_eq_true rfl) rfl ?_
              refine wp_iconst rfl ?_
              refine wp_istore (L2 := [vr 89, vi x1, vi (h 103 ((50 * x1) + (h 89 23))), vi (-1), vi (-1), vi 0]) rfl (Nat.le_of_ble_eq_true rfl) rfl ?_
              refine wp_iload rfl rfl ?_
              refine wp_ifltT (tn := 151) rfl rfl (by decide) ?_
              refine wp_iload rfl rfl ?_
              refine wp_ifltT (tn := 165) rfl rfl (by decide) ?_
              refine wp_iconst rfl ?_
              exact wp_zret rfl rfl (by decide) H
            · replace H := H.2 c17
              refine wp_iconst rfl ?_
              refine wp_goto (tn := 18) rfl rfl ?_
              refine wp_zret rfl rfl (by decide) ?_
              show Wp X _ 90 20 [vr 89, vi x1, vi 1, vi 5, vi ((h 103 ((50 * x1) + ((h 89 23) + 1))) - 48)] [vi 1] _ _
              refine wp_ifneT (tn := 25) rfl rfl (by decide) ?_
              refine wp_aload rfl rfl ?_
              refine wp_dupR rfl ?_
              refine wp_getI (j := 23) rfl (congrArg Prod.fst (kf_89 X.1)) rfl ?_
              refine Wp.topI (y := ((h 89 23) + 1)) upd2_s ?_
              refine wp_iconst rfl ?_
              refine wp_iadd rfl ?_
              have g18 := H.1
              replace H := H.2
              refine Wp.topI (y := (((h 89 23) + 1) + 1)) (w32_I g18) ?_
              refine wp_putI (j := 23) rfl (congrArg Prod.fst (kf_89 X.1)) rfl rfl rfl ?_
              refine wp_iload rfl rfl ?_
              refine wp_iret rfl rfl ?_
              show Wp X _ 91 83 [vr 89, vi x1, vi (h 103 ((50 * x1) + (h 89 23))), vu, vu, vu] [vi ((h 103 ((50 * x1) + ((h 89 23) + 1))) - 48)] _ _
              refine wp_istore (L2 := [vr 89, vi x1, vi (h 103 ((50 * x1) + (h 89 23))), vi ((h 103 ((50 * x1) + ((h 89 23) + 1))) - 48), vu, vu]) rfl (Nat.le_of_ble_eq_true rfl) rfl ?_
              refine wp_iload rfl rfl ?_
              refine wp_istore (L2 := [vr 89, vi x1, vi (h 103 ((50 * x1) + (h 89 23))), vi ((h 103 ((50 * x1) + ((h 89 23) + 1))) - 48), vi ((h 103 ((50 * x1) + ((h 89 23) + 1))) - 48), vu]) rfl (Nat.le_of_ble_eq_true rfl) rfl ?_
              refine wp_iconst rfl ?_
              refine wp_istore (L2 := [vr 89, vi x1, vi (h 103 ((50 * x1) + (h 89 23))), vi ((h 103 ((50 * x1) + ((h 89 23) + 1))) - 48), vi ((h 103 ((50 * x1) + ((h 89 23) + 1))) - 48), vi 0]) rfl (Nat.le_of_ble_eq_true rfl) rfl ?_
              refine wp_iload rfl rfl ?_
              refine wp_iflt (tn := 151) rfl rfl (fun c19 => ?_) (fun c19 => ?_)
              · replace H := H.1 c19
                refine wp_iload rfl rfl ?_
                refine wp_ifltT (tn := 165) rfl rfl c19 ?_
                refine wp_iconst rfl ?_
                exact wp_zret rfl rfl (by decide) H
              · replace H := H.2 c19
                refine wp_iload rfl rfl ?_
                refine wp_iconst rfl ?_
                refine wp_icneF (tn := 151) rfl rfl c7 ?_
                refine wp_aload rfl rfl ?_
                refine wp_iload rfl rfl ?_
                refine wp_iconst rfl ?_
                refine wp_call (k := 89) (ρ2 := 1) (L2 := [vr 89, vi x1, vi 47, vu]) rfl rfl rfl (Nat.le_of_ble_eq_true rfl) (Nat.le_of_ble_eq_true rfl) (Nat.le_of_ble_eq_true rfl) (rcv_V rfl (congrArg Prod.fst (kf_89 X.1))) rfl ?_
                refine wp_aload rfl rfl ?_
                refine wp_iload rfl rfl ?_
                refine wp_call (k := 88) (ρ2 := 0) (L2 := [vr 89, vi x1]) rfl rfl rfl (Nat.le_of_ble_eq_true rfl) (Nat.le_of_ble_eq_true rfl) (Nat.le_of_ble_eq_true rfl) (rcv_V rfl (congrArg Prod.fst (kf_89 X.1))) rfl ?_
                refine wp_aload rfl rfl ?_
                refine wp_getI (j := 23) rfl (congrArg Prod.fst (kf_89 X.1)) rfl ?_
                refine Wp.topI (y := (((h 89 23) + 1) + 1)) upd2_s ?_
                refine wp_aload rfl rfl ?_
                refine wp_getR (r := 103) rfl (congrArg Prod.fst (kf_89 X.1)) rfl ?_
                refine wp_iload rfl rfl ?_
                refine wp_iaload rfl (kf_104 X.1) ⟨g1.1, g1.2⟩ ?_
                refine Wp.topI (y := (h 104 x1)) (congrFun ((upd2_ne (by decide)).trans (upd2_ne (by decide))) _) ?_
                refine wp_icge (tn := 30) rfl rfl (fun c20 => ?_) (fun c20 => ?_)
                · replace H := H.1 c20
                  refine wp_iconst rfl ?_
                  refine wp_iret rfl rfl ?_
                  show Wp X _ 89 5 [vr 89, vi x1, vi 47, vu] [vi (-1)] _ _
                  refine wp_iload rfl rfl ?_
                  refine wp_icneT (tn := 13) rfl rfl (by decide) ?_
                  refine wp_iconst rfl ?_
                  refine wp_istore (L2 := [vr 89, vi x1, vi 47, vi 0]) rfl (Nat.le_of_ble_eq_true rfl) rfl ?_
                  refine wp_aload rfl rfl ?_
                  refine wp_dupR rfl ?_
                  refine wp_getI (j := 23) rfl (congrArg Prod.fst (kf_89 X.1)) rfl ?_
                  refine Wp.topI (y := (((h 89 23) + 1) + 1)) upd2_s ?_
                  refine wp_iload rfl rfl ?_
                  refine wp_ifeqT (tn := 28) rfl rfl (by decide) ?_
                  refine wp_iconst rfl ?_
                  refine wp_iadd rfl ?_
                  have g21 := H.1
                  replace H := H.2
                  refine Wp.topI (y := ((((h 89 23) + 1) + 1) + 0)) (w32_I g21) ?_
                  refine wp_putI (j := 23) rfl (congrArg Prod.fst (kf_89 X.1)) rfl rfl rfl ?_
                  refine wp_iload rfl rfl ?_
                  refine wp_zret rfl rfl (by decide) ?_
                  show Wp X _ 91 107 [vr 89, vi x1, vi (h 103 ((50 * x1) + (h 89 23))), vi ((h 103 ((50 * x1) + ((h 89 23) + 1))) - 48), vi ((h 103 ((50 * x1) + ((h 89 23) + 1))) - 48), vi 0] [vi 0] _ _
                  refine wp_ifeqT (tn := 120) rfl rfl (by decide) ?_
                  refine wp_iconst rfl ?_
                  refine wp_istore (L2 := [vr 89, vi x1, vi (h 103 ((50 * x1) + (h 89 23))), vi ((h 103 ((50 * x1) + ((h 89 23) + 1))) - 48), vi (-1), vi 0]) rfl (Nat.le_of_ble_eq_true rfl) rfl ?_
                  refine wp_iload rfl rfl ?_
                  refine wp_ifltT (tn := 148) rfl rfl (by decide) ?_
                  refine wp_iconst rfl ?_
                  refine wp_istore (L2 := [vr 89, vi x1, vi (h 103 ((50 * x1) + (h 89 23))), vi ((h 103 ((50 * x1) + ((h 89 23) + 1))) - 48), vi (-1), vi (-1)]) rfl (Nat.le_of_ble_eq_true rfl) rfl ?_
                  refine wp_iload rfl rfl ?_
                  refine wp_ifltF (tn := 165) rfl rfl c19 ?_
                  refine wp_iload rfl rfl ?_
                  refine wp_ifltT (tn := 165) rfl rfl (by decide) ?_
                  refine wp_iconst rfl ?_
                  exact wp_zret rfl rfl (by decide) H
                · replace H := H.2 c20
                  refine wp_aload rfl rfl ?_
                  refine wp_getR (r := 102) rfl (congrArg Prod.fst (kf_89 X.1)) rfl ?_
                  refine wp_iconst rfl ?_
                  refine wp_iload rfl rfl ?_
                  refine wp_imul rfl ?_
                  refine Wp.topI (y := (50 * x1)) (w32_I (by clear H; unfold R32; omega)) ?_
                  refine wp_aload rfl rfl ?_
                  refine wp_getI (j := 23) rfl (congrArg Prod.fst (kf_89 X.1)) rfl ?_
                  refine Wp.topI (y := (((h 89 23) + 1) + 1)) upd2_s ?_
                  refine wp_iadd rfl ?_
                  have g22 := H.1
                  replace H := H.2
                  refine Wp.topI (y := ((50 * x1) + (((h 89 23) + 1) + 1))) (w32_I g22) ?_
                  have g23 := H.1
                  replace H := H.2
                  refine wp_iaload rfl (kf_103 X.1) g23 ?_
                  refine Wp.topI (y := (h 103 ((50 * x1) + (((h 89 23) + 1) + 1)))) (congrFun ((upd2_ne (by decide)).trans (upd2_ne (by decide))) _) ?_
                  refine wp_goto (tn := 31) rfl rfl ?_
                  refine wp_iret rfl rfl ?_
                  show Wp X _ 89 5 [vr 89, vi x1, vi 47, vu] [vi (h 103 ((50 * x1) + (((h 89 23) + 1) + 1)))] _ _
                  refine wp_iload rfl rfl ?_
                  refine wp_icne (tn := 13) rfl rfl (fun c24 => ?_) (fun c24 => ?_)
                  · replace H := H.1 c24
                    refine wp_iconst rfl ?_
                    refine wp_istore (L2 := [vr 89, vi x1, vi 47, vi 0]) rfl (Nat.le_of_ble_eq_true rfl) rfl ?_
                    refine wp_aload rfl rfl ?_
                    refine wp_dupR rfl ?_
                    refine wp_getI (j := 23) rfl (congrArg Prod.fst (kf_89 X.1)) rfl ?_
                    refine Wp.topI (y := (((h 89 23) + 1) + 1)) upd2_s ?_
                    refine wp_iload rfl rfl ?_
                    refine wp_ifeqT (tn := 28) rfl rfl (by decide) ?_
                    refine wp_iconst rfl ?_
                    refine wp_iadd rfl ?_
                    have g25 := H.1
                    replace H := H.2
                    refine Wp.topI (y := ((((h 89 23) + 1) + 1) + 0)) (w32_I g25) ?_
                    refine wp_putI (j := 23) rfl (congrArg Prod.fst (kf_89 X.1)) rfl rfl rfl ?_
                    refine wp_iload rfl rfl ?_
                    refine wp_zret rfl rfl (by decide) ?_
                    show Wp X _ 91 107 [vr 89, vi x1, vi (h 103 ((50 * x1) + (h 89 23))), vi ((h 103 ((50 * x1) + ((h 89 23) + 1))) - 48), vi ((h 103 ((50 * x1) + ((h 89 23) + 1))) - 48), vi 0] [vi 0] _ _
                    refine wp_ifeqT (tn := 120) rfl rfl (by decide) ?_
                    refine wp_iconst rfl ?_
                    refine wp_istore (L2 := [vr 89, vi x1, vi (h 103 ((50 * x1) + (h 89 23))), vi ((h 103 ((50 * x1) + ((h 89 23) + 1))) - 48), vi (-1), vi 0]) rfl (Nat.le_of_ble_eq_true rfl) rfl ?_
                    refine wp_iload rfl rfl ?_
                    refine wp_ifltT (tn := 148) rfl rfl (by decide) ?_
                    refine wp_iconst rfl ?_
                    refine wp_istore (L2 := [vr 89, vi x1, vi (h 103 ((50 * x1) + (h 89 23))), vi ((h 103 ((50 * x1) + ((h 89 23) + 1))) - 48), vi (-1), vi (-1)]) rfl (Nat.le_of_ble_eq_true rfl) rfl ?_
                    refine wp_iload rfl rfl ?_
                    refine wp_ifltF (tn := 165) rfl rfl c19 ?_
                    refine wp_iload rfl rfl ?_
                    refine wp_ifltT (tn := 165) rfl rfl (by decide) ?_
                    refine wp_iconst rfl ?_
                    exact wp_zret rfl rfl (by decide) H
                  · replace H := H.2 c24
                    refine wp_iconst rfl ?_
                    refine wp_goto (tn := 14) rfl rfl ?_
                    refine wp_istore (L2 := [vr 89, vi x1, vi 47, vi 1]) rfl (Nat.le_of_ble_eq_true rfl) rfl ?_
                    refine wp_aload rfl rfl ?_
                    refine wp_dupR rfl ?_
                    refine wp_getI (j := 23) rfl (congrArg Prod.fst (kf_89 X.1)) rfl ?_
                    refine Wp.topI (y := (((h 89 23) + 1) + 1)) upd2_s ?_
                    refine wp_iload rfl rfl ?_
                    refine wp_ifeqF (tn := 28) rfl rfl (by decide) ?_
                    refine wp_iconst rfl ?_
                    refine wp_goto (tn := 29) rfl rfl ?_
                    refine wp_iadd rfl ?_
                    have g26 := H.1
                    replace H := H.2
                    refine Wp.topI (y := ((((h 89 23) + 1) + 1) + 1)) (w32_I g26) ?_
                    refine wp_putI (j := 23) rfl (congrArg Prod.fst (kf_89 X.1)) rfl rfl rfl ?_
                    refine wp_iload rfl rfl ?_
                    refine wp_zret rfl rfl (by decide) ?_
                    show Wp X _ 91 107 [vr 89, vi x1, vi (h 103 ((50 * x1) + (h 89 23))), vi ((h 103 ((50 * x1) + ((h 89 23) + 1))) - 48), vi ((h 103 ((50 * x1) + ((h 89 23) + 1))) - 48), vi 0] [vi 1] _ _
                    refine wp_ifeqF (tn := 120) rfl rfl (by decide) ?_
                    refine wp_aload rfl rfl ?_
                    refine wp_iload rfl rfl ?_
                    refine wp_iload rfl rfl ?_
                    refine wp_iconst rfl ?_
                    refine wp_call (k := 90) (ρ2 := 1) (L2 := [vr 89, vi x1, vi ((h 103 ((50 * x1) + ((h 89 23) + 1))) - 48), vi 5, vu]) rfl rfl rfl (Nat.le_of_ble_eq_true rfl) (Nat.le_of_ble_eq_true rfl) (Nat.le_of_ble_eq_true rfl) (rcv_V rfl (congrArg Prod.fst (kf_89 X.1))) rfl ?_
                    refine wp_aload rfl rfl ?_
                    refine wp_iload rfl rfl ?_
                    refine wp_call (k := 88) (ρ2 := 0) (L2 := [vr 89, vi x1]) rfl rfl rfl (Nat.le_of_ble_eq_true rfl) (Nat.le_of_ble_eq_true rfl) (Nat.le_of_ble_eq_true rfl) (rcv_V rfl (congrArg Prod.fst (kf_89 X.1))) rfl ?_
                    refine wp_aload rfl rfl ?_
                    refine wp_getI (j := 23) rfl (congrArg Prod.fst (kf_89 X.1)) rfl ?_
                    refine Wp.topI (y := ((((h 89 23) + 1) + 1) + 1)) upd2_s ?_
                    refine wp_aload rfl rfl ?_
                    refine wp_getR (r := 103) rfl (congrArg Prod.fst (kf_89 X.1)) rfl ?_
                    refine wp_iload rfl rfl ?_
                    refine wp_iaload rfl (kf_104 X.1) ⟨g1.1, g1.2⟩ ?_
                    refine Wp.topI (y := (h 104 x1)) (congrFun ((upd2_ne (by decide)).trans ((upd2_ne (by decide)).trans (upd2_ne (by decide)))) _) ?_
                    refine wp_icge (tn := 30) rfl rfl (fun c27 => ?_) (fun c27 => ?_)
                    · replace H := H.1 c27
                      refine wp_iconst rfl ?_
                      refine wp_iret rfl rfl ?_
                      show Wp X _ 90 5 [vr 89, vi x1, vi ((h 103 ((50 * x1) + ((h 89 23) + 1))) - 48), vi 5, vu] [vi (-1)] _ _
                      refine wp_iconst rfl ?_
                      refine wp_isub rfl ?_
                      refine Wp.topI (y := (-49)) (by decide) ?_
                      refine wp_istore (L2 := [vr 89, vi x1, vi ((h 103 ((50 * x1) + ((h 89 23) + 1))) - 48), vi 5, vi (-49)]) rfl (Nat.le_of_ble_eq_true rfl) rfl ?_
                      refine wp_iload rfl rfl ?_
                      refine wp_i2l rfl ?_
                      refine wp_iload rfl rfl ?_
                      refine wp_i2l rfl ?_
                      refine wp_iload rfl rfl ?_
                      refine wp_i2l rfl ?_
                      refine wp_call (k := 48) (ρ2 := 0) (L2 := [vl (-49), vu, vl ((h 103 ((50 * x1) + ((h 89 23) + 1))) - 48), vu, vl 5, vu]) rfl rfl rfl (Nat.le_of_ble_eq_true rfl) (Nat.le_of_ble_eq_true rfl) (Nat.le_of_ble_eq_true rfl) (rcv_S rfl) rfl ?_
                      refine wp_lload rfl rfl ?_
                      refine wp_lload rfl rfl ?_
                      refine wp_lcmp rfl ?_
                      refine wp_iflt (tn := 17) rfl rfl (fun c28 => ?_) (fun c28 => ?_)
                      · replace H := H.1 c28
                        refine wp_iconst rfl ?_
                        refine wp_zret rfl rfl (by decide) ?_
                        show Wp X _ 90 20 [vr 89, vi x1, vi ((h 103 ((50 * x1) + ((h 89 23) + 1))) - 48), vi 5, vi (-49)] [vi 0] _ _
                        refine wp_ifneF (tn := 25) rfl rfl (by decide) ?_
                        refine wp_iconst rfl ?_
                        refine wp_iret rfl rfl ?_
                        show Wp X _ 91 117 [vr 89, vi x1, vi (h 103 ((50 * x1) + (h 89 23))), vi ((h 103 ((50 * x1) + ((h 89 23) + 1))) - 48), vi ((h 103 ((50 * x1) + ((h 89 23) + 1))) - 48), vi 0] [vi (-1)] _ _
                        refine wp_goto (tn := 121) rfl rfl ?_
                        refine wp_istore (L2 := [vr 89, vi x1, vi (h 103 ((50 * x1) + (h 89 23))), vi ((h 103 ((50 * x1) + ((h 89 23) + 1))) - 48), vi (-1), vi 0]) rfl (Nat.le_of_ble_eq_true rfl) rfl ?_
                        refine wp_iload rfl rfl ?_
                        refine wp_ifltT (tn := 148) rfl rfl (by decide) ?_
                        refine wp_iconst rfl ?_
                        refine wp_istore (L2 := [vr 89, vi x1, vi (h 103 ((50 * x1) + (h 89 23))), vi ((h 103 ((50 * x1) + ((h 89 23) + 1))) - 48), vi (-1), vi (-1)]) rfl (Nat.le_of_ble_eq_true rfl) rfl ?_
                        refine wp_iload rfl rfl ?_
                        refine wp_ifltF (tn := 165) rfl rfl c19 ?_
                        refine wp_iload rfl rfl ?_
                        refine wp_ifltT (tn := 165) rfl rfl (by decide) ?_
                        refine wp_iconst rfl ?_
                        exact wp_zret rfl rfl (by decide) H
                      · replace H := H.2 c28
                        refine wp_lload rfl rfl ?_
                        refine wp_lload rfl rfl ?_
                        refine wp_lcmp rfl ?_
                        refine wp_ifgt (tn := 17) rfl rfl (fun c29 => ?_) (fun c29 => ?_)
                        · replace H := H.1 c29
                          refine wp_iconst rfl ?_
                          refine wp_zret rfl rfl (by decide) ?_
                          show Wp X _ 90 20 [vr 89, vi x1, vi ((h 103 ((50 * x1) + ((h 89 23) + 1))) - 48), vi 5, vi (-49)] [vi 0] _ _
                          refine wp_ifneF (tn := 25) rfl rfl (by decide) ?_
                          refine wp_iconst rfl ?_
                          refine wp_iret rfl rfl ?_
                          show Wp X _ 91 117 [vr 89, vi x1, vi (h 103 ((50 * x1) + (h 89 23))), vi ((h 103 ((50 * x1) + ((h 89 23) + 1))) - 48), vi ((h 103 ((50 * x1) + ((h 89 23) + 1))) - 48), vi 0] [vi (-1)] _ _
                          refine wp_goto (tn := 121) rfl rfl ?_
                          refine wp_istore (L2 := [vr 89, vi x1, vi (h 103 ((50 * x1) + (h 89 23))), vi ((h 103 ((50 * x1) + ((h 89 23) + 1))) - 48), vi (-1), vi 0]) rfl (Nat.le_of_ble_eq_true rfl) rfl ?_
                          refine wp_iload rfl rfl ?_
                          refine wp_ifltT (tn := 148) rfl rfl (by decide) ?_
                          refine wp_iconst rfl ?_
                          refine wp_istore (L2 := [vr 89, vi x1, vi (h 103 ((50 * x1) + (h 89 23))), vi ((h 103 ((50 * x1) + ((h 89 23) + 1))) - 48), vi (-1), vi (-1)]) rfl (Nat.le_of_ble_eq_true rfl) rfl ?_
                          refine wp_iload rfl rfl ?_
                          refine wp_ifltF (tn := 165) rfl rfl c19 ?_
                          refine wp_iload rfl rfl ?_
                          refine wp_ifltT (tn := 165) rfl rfl (by decide) ?_
                          refine wp_iconst rfl ?_
                          exact wp_zret rfl rfl (by decide) H
                        · replace H := H.2 c29
                          refine wp_iconst rfl ?_
                          refine wp_goto (tn := 18) rfl rfl ?_
                          refine wp_zret rfl rfl (by decide) ?_
                          show Wp X _ 90 20 [vr 89, vi x1, vi ((h 103 ((50 * x1) + ((h 89 23) + 1))) - 48), vi 5, vi (-49)] [vi 1] _ _
                          refine wp_ifneT (tn := 25) rfl rfl (by decide) ?_
                          refine wp_aload rfl rfl ?_
                          refine wp_dupR rfl ?_
                          refine wp_getI (j := 23) rfl (congrArg Prod.fst (kf_89 X.1)) rfl ?_
                          refine Wp.topI (y := ((((h 89 23) + 1) + 1) + 1)) upd2_s ?_
                          refine wp_iconst rfl ?_
                          refine wp_iadd rfl ?_
                          have g30 := H.1
                          replace H := H.2
                          refine Wp.topI (y := (((((h 89 23) + 1) + 1) + 1) + 1)) (w32_I g30) ?_
                          refine wp_putI (j := 23) rfl (congrArg Prod.fst (kf_89 X.1)) rfl rfl rfl ?_
                          refine wp_iload rfl rfl ?_
                          refine wp_iret rfl rfl ?_
                          show Wp X _ 91 117 [vr 89, vi x1, vi (h 103 ((50 * x1) + (h 89 23))), vi ((h 103 ((50 * x1) + ((h 89 23) + 1))) - 48), vi ((h 103 ((50 * x1) + ((h 89 23) + 1))) - 48), vi 0] [vi (-49)] _ _
                          refine wp_goto (tn := 121) rfl rfl ?_
                          refine wp_istore (L2 := [vr 89, vi x1, vi (h 103 ((50 * x1) + (h 89 23))), vi ((h 103 ((50 * x1) + ((h 89 23) + 1))) - 48), vi (-49), vi 0]) rfl (Nat.le_of_ble_eq_true rfl) rfl ?_
                          refine wp_iload rfl rfl ?_
                          refine wp_ifltT (tn := 148) rfl rfl (by decide) ?_
                          refine wp_iconst rfl ?_
                          refine wp_istore (L2 := [vr 89, vi x1, vi (h 103 ((50 * x1) + (h 89 23))), vi ((h 103 ((50 * x1) + ((h 89 23) + 1))) - 48), vi (-49), vi (-1)]) rfl (Nat.le_of_ble_eq_true rfl) rfl ?_
                          refine wp_iload rfl rfl ?_
                          refine wp_ifltF (tn := 165) rfl rfl c19 ?_
                          refine wp_iload rfl rfl ?_
                          refine wp_ifltT (tn := 165) rfl rfl (by decide) ?_
                          refine wp_iconst rfl ?_
                          exact wp_zret rfl rfl (by decide) H
                    · replace H := H.2 c27
                      refine wp_aload rfl rfl ?_
                      refine wp_getR (r := 102) rfl (congrArg Prod.fst (kf_89 X.1)) rfl ?_
                      refine wp_iconst rfl ?_
                      refine wp_iload rfl rfl ?_
                      refine wp_imul rfl ?_
                      refine Wp.topI (y := (50 * x1)) (w32_I (by clear H; unfold R32; omega)) ?_
                      refine wp_aload rfl rfl ?_
                      refine wp_getI (j := 23) rfl (congrArg Prod.fst (kf_89 X.1)) rfl ?_
                      refine Wp.topI (y := ((((h 89 23) + 1) + 1) + 1)) upd2_s ?_
                      refine wp_iadd rfl ?_
                      have g31 := H.1
                      replace H := H.2
                      refine Wp.topI (y := ((50 * x1) + ((((h 89 23) + 1) + 1) + 1))) (w32_I g31) ?_
                      have g32 := H.1
                      replace H := H.2
                      refine wp_iaload rfl (kf_103 X.1) g32 ?_
                      refine Wp.topI (y := (h 103 ((50 * x1) + ((((h 89 23) + 1) + 1) + 1)))) (congrFun ((upd2_ne (by decide)).trans ((upd2_ne (by decide)).trans (upd2_ne (by decide)))) _) ?_
                      refine wp_goto (tn := 31) rfl rfl ?_
                      refine wp_iret rfl rfl ?_
                      show Wp X _ 90 5 [vr 89, vi x1, vi ((h 103 ((50 * x1) + ((h 89 23) + 1))) - 48), vi 5, vu] [vi (h 103 ((50 * x1) + ((((h 89 23) + 1) + 1) + 1)))] _ _
                      refine wp_iconst rfl ?_
                      refine wp_isub rfl ?_
                      have g33 := H.1
                      replace H := H.2
                      refine Wp.topI (y := ((h 103 ((50 * x1) + ((((h 89 23) + 1) + 1) + 1))) - 48)) (w32_I g33) ?_
                      refine wp_istore (L2 := [vr 89, vi x1, vi ((h 103 ((50 * x1) + ((h 89 23) + 1))) - 48), vi 5, vi ((h 103 ((50 * x1) + ((((h 89 23) + 1) + 1) + 1))) - 48)]) rfl (Nat.le_of_ble_eq_true rfl) rfl ?_
                      refine wp_iload rfl rfl ?_
                      refine wp_i2l rfl ?_
                      refine wp_iload rfl rfl ?_
                      refine wp_i2l rfl ?_
                      refine wp_iload rfl rfl ?_
                      refine wp_i2l rfl ?_
                      refine wp_call (k := 48) (ρ2 := 0) (L2 := [vl ((h 103 ((50 * x1) + ((((h 89 23) + 1) + 1) + 1))) - 48), vu, vl ((h 103 ((50 * x1) + ((h 89 23) + 1))) - 48), vu, vl 5, vu]) rfl rfl rfl (Nat.le_of_ble_eq_true rfl) (Nat.le_of_ble_eq_true rfl) (Nat.le_of_ble_eq_true rfl) (rcv_S rfl) rfl ?_
                      refine wp_lload rfl rfl ?_
                      refine wp_lload rfl rfl ?_
                      refine wp_lcmp rfl ?_
                      refine wp_iflt (tn := 17) rfl rfl (fun c34 => ?_) (fun c34 => ?_)
                      · replace H := H.1 c34
                        refine wp_iconst rfl ?_
                        refine wp_zret rfl rfl (by decide) ?_
                        show Wp X _ 90 20 [vr 89, vi x1, vi ((h 103 ((50 * x1) + ((h 89 23) + 1))) - 48), vi 5, vi ((h 103 ((50 * x1) + ((((h 89 23) + 1) + 1) + 1))) - 48)] [vi 0] _ _
                        refine wp_ifneF (tn := 25) rfl rfl (by decide) ?_
                        refine wp_iconst rfl ?_
                        refine wp_iret rfl rfl ?_
                        show Wp X _ 91 117 [vr 89, vi x1, vi (h 103 ((50 * x1) + (h 89 23))), vi ((h 103 ((50 * x1) + ((h 89 23) + 1))) - 48), vi ((h 103 ((50 * x1) + ((h 89 23) + 1))) - 48), vi 0] [vi (-1)] _ _
                        refine wp_goto (tn := 121) rfl rfl ?_
                        refine wp_istore (L2 := [vr 89, vi x1, vi (h 103 ((50 * x1) + (h 89 23))), vi ((h 103 ((50 * x1) + ((h 89 23) + 1))) - 48), vi (-1), vi 0]) rfl (Nat.le_of_ble_eq_true rfl) rfl ?_
                        refine wp_iload rfl rfl ?_
                        refine wp_ifltT (tn := 148) rfl rfl (by decide) ?_
                        refine wp_iconst rfl ?_
                        refine wp_istore (L2 := [vr 89, vi x1, vi (h 103 ((50 * x1) + (h 89 23))), vi ((h 103 ((50 * x1) + ((h 89 23) + 1))) - 48), vi (-1), vi (-1)]) rfl (Nat.le_of_ble_eq_true rfl) rfl ?_
                        refine wp_iload rfl rfl ?_
                        refine wp_ifltF (tn := 165) rfl rfl c19 ?_
                        refine wp_iload rfl rfl ?_
                        refine wp_ifltT (tn := 165) rfl rfl (by decide) ?_
                        refine wp_iconst rfl ?_
                        exact wp_zret rfl rfl (by decide) H
                      · replace H := H.2 c34
                        refine wp_lload rfl rfl ?_
                        refine wp_lload rfl rfl ?_
                        refine wp_lcmp rfl ?_
                        refine wp_ifgt (tn := 17) rfl rfl (fun c35 => ?_) (fun c35 => ?_)
                        · replace H := H.1 c35
                          refine wp_iconst rfl ?_
                          refine wp_zret rfl rfl (by decide) ?_
                          show Wp X _ 90 20 [vr 89, vi x1, vi ((h 103 ((50 * x1) + ((h 89 23) + 1))) - 48), vi 5, vi ((h 103 ((50 * x1) + ((((h 89 23) + 1) + 1) + 1))) - 48)] [vi 0] _ _
                          refine wp_ifneF (tn := 25) rfl rfl (by decide) ?_
                          refine wp_iconst rfl ?_
                          refine wp_iret rfl rfl ?_
                          show Wp X _ 91 117 [vr 89, vi x1, vi (h 103 ((50 * x1) + (h 89 23))), vi ((h 103 ((50 * x1) + ((h 89 23) + 1))) - 48), vi ((h 103 ((50 * x1) + ((h 89 23) + 1))) - 48), vi 0] [vi (-1)] _ _
                          refine wp_goto (tn := 121) rfl rfl ?_
                          refine wp_istore (L2 := [vr 89, vi x1, vi (h 103 ((50 * x1) + (h 89 23))), vi ((h 103 ((50 * x1) + ((h 89 23) + 1))) - 48), vi (-1), vi 0]) rfl (Nat.le_of_ble_eq_true rfl) rfl ?_
                          refine wp_iload rfl rfl ?_
                          refine wp_ifltT (tn := 148) rfl rfl (by decide) ?_
                          refine wp_iconst rfl ?_
                          refine wp_istore (L2 := [vr 89, vi x1, vi (h 103 ((50 * x1) + (h 89 23))), vi ((h 103 ((50 * x1) + ((h 89 23) + 1))) - 48), vi (-1), vi (-1)]) rfl (Nat.le_of_ble_eq_true rfl) rfl ?_
                          refine wp_iload rfl rfl ?_
                          refine wp_ifltF (tn := 165) rfl rfl c19 ?_
                          refine wp_iload rfl rfl ?_
                          refine wp_ifltT (tn := 165) rfl rfl (by decide) ?_
                          refine wp_iconst rfl ?_
                          exact wp_zret rfl rfl (by decide) H
                        · replace H := H.2 c35
                          refine wp_iconst rfl ?_
                          refine wp_goto (tn := 18) rfl rfl ?_
                          refine wp_zret rfl rfl (by decide) ?_
                          show Wp X _ 90 20 [vr 89, vi x1, vi ((h 103 ((50 * x1) + ((h 89 23) + 1))) - 48), vi 5, vi ((h 103 ((50 * x1) + ((((h 89 23) + 1) + 1) + 1))) - 48)] [vi 1] _ _
                          refine wp_ifneT (tn := 25) rfl rfl (by decide) ?_
                          refine wp_aload rfl rfl ?_
                          refine wp_dupR rfl ?_
                          refine wp_getI (j := 23) rfl (congrArg Prod.fst (kf_89 X.1)) rfl ?_
                          refine Wp.topI (y := ((((h 89 23) + 1) + 1) + 1)) upd2_s ?_
                          refine wp_iconst rfl ?_
                          refine wp_iadd rfl ?_
                          have g36 := H.1
                          replace H := H.2
                          refine Wp.topI (y := (((((h 89 23) + 1) + 1) + 1) + 1)) (w32_I g36) ?_
                          refine wp_putI (j := 23) rfl (congrArg Prod.fst (kf_89 X.1)) rfl rfl rfl ?_
                          refine wp_iload rfl rfl ?_
                          refine wp_iret rfl rfl ?_
                          show Wp X _ 91 117 [vr 89, vi x1, vi (h 103 ((50 * x1) + (h 89 23))), vi ((h 103 ((50 * x1) + ((h 89 23) + 1))) - 48), vi ((h 103 ((50 * x1) + ((h 89 23) + 1))) - 48), vi 0] [vi ((h 103 ((50 * x1) + ((((h 89 23) + 1) + 1) + 1))) - 48)] _ _
                          refine wp_goto (tn := 121) rfl rfl ?_
                          refine wp_istore (L2 := [vr 89, vi x1, vi (h 103 ((50 * x1) + (h 89 23))), vi ((h 103 ((50 * x1) + ((h 89 23) + 1))) - 48), vi ((h 103 ((50 * x1) + ((((h 89 23) + 1) + 1) + 1))) - 48), vi 0]) rfl (Nat.le_of_ble_eq_true rfl) rfl ?_
                          refine wp_iload rfl rfl ?_
                          refine wp_iflt (tn := 148) rfl rfl (fun c37 => ?_) (fun c37 => ?_)
                          · replace H := H.1 c37
                            refine wp_iconst rfl ?_
                            refine wp_istore (L2 := [vr 89, vi x1, vi (h 103 ((50 * x1) + (h 89 23))), vi ((h 103 ((50 * x1) + ((h 89 23) + 1))) - 48), vi ((h 103 ((50 * x1) + ((((h 89 23) + 1) + 1) + 1))) - 48), vi (-1)]) rfl (Nat.le_of_ble_eq_true rfl) rfl ?_
                            refine wp_iload rfl rfl ?_
                            refine wp_ifltF (tn := 165) rfl rfl c19 ?_
                            refine wp_iload rfl rfl ?_
                            refine wp_ifltT (tn := 165) rfl rfl c37 ?_
                            refine wp_iconst rfl ?_
                            exact wp_zret rfl rfl (by decide) H
                          · replace H := H.2 c37
                            refine wp_aload rfl rfl ?_
                            refine wp_iload rfl rfl ?_
                            refine wp_iconst rfl ?_
                            refine wp_call (k := 89) (ρ2 := 1) (L2 := [vr 89, vi x1, vi 62, vu]) rfl rfl rfl (Nat.le_of_ble_eq_true rfl) (Nat.le_of_ble_eq_true rfl) (Nat.le_of_ble_eq_true rfl) (rcv_V rfl (congrArg Prod.fst (kf_89 X.1))) rfl ?_
                            refine wp_aload rfl rfl ?_
                            refine wp_iload rfl rfl ?_
                            refine wp_call (k := 88) (ρ2 := 0) (L2 := [vr 89, vi x1]) rfl rfl rfl (Nat.le_of_ble_eq_true rfl) (Nat.le_of_ble_eq_true rfl) (Nat.le_of_ble_eq_true rfl) (rcv_V rfl (congrArg Prod.fst (kf_89 X.1))) rfl ?_
                            refine wp_aload rfl rfl ?_
                            refine wp_getI (j := 23) rfl (congrArg Prod.fst (kf_89 X.1)) rfl ?_
                            refine Wp.topI (y := (((((h 89 23) + 1) + 1) + 1) + 1)) upd2_s ?_
                            refine wp_aload rfl rfl ?_
                            refine wp_getR (r := 103) rfl (congrArg Prod.fst (kf_89 X.1)) rfl ?_
                            refine wp_iload rfl rfl ?_
                            refine wp_iaload rfl (kf_104 X.1) ⟨g1.1, g1.2⟩ ?_
                            refine Wp.topI (y := (h 104 x1)) (congrFun ((upd2_ne (by decide)).trans ((upd2_ne (by decide)).trans ((upd2_ne (by decide)).trans (upd2_ne (by decide))))) _) ?_
                            refine wp_icge (tn := 30) rfl rfl (fun c38 => ?_) (fun c38 => ?_)
                            · replace H := H.1 c38
                              refine wp_iconst rfl ?_
                              refine wp_iret rfl rfl ?_
                              show Wp X _ 89 5 [vr 89, vi x1, vi 62, vu] [vi (-1)] _ _
                              refine wp_iload rfl rfl ?_
                              refine wp_icneT (tn := 13) rfl rfl (by decide) ?_
                              refine wp_iconst rfl ?_
                              refine wp_istore (L2 := [vr 89, vi x1, vi 62, vi 0]) rfl (Nat.le_of_ble_eq_true rfl) rfl ?_
                              refine wp_aload rfl rfl ?_
                              refine wp_dupR rfl ?_
                              refine wp_getI (j := 23) rfl (congrArg Prod.fst (kf_89 X.1)) rfl ?_
                              refine Wp.topI (y := (((((h 89 23) + 1) + 1) + 1) + 1)) upd2_s ?_
                              refine wp_iload rfl rfl ?_
                              refine wp_ifeqT (tn := 28) rfl rfl (by decide) ?_
                              refine wp_iconst rfl ?_
                              refine wp_iadd rfl ?_
                              have g39 := H.1
                              replace H := H.2
                              refine Wp.topI (y := ((((((h 89 23) + 1) + 1) + 1) + 1) + 0)) (w32_I g39) ?_
                              refine wp_putI (j := 23) rfl (congrArg Prod.fst (kf_89 X.1)) rfl rfl rfl ?_
                              refine wp_iload rfl rfl ?_
                              refine wp_zret rfl rfl (by decide) ?_
                              show Wp X _ 91 135 [vr 89, vi x1, vi (h 103 ((50 * x1) + (h 89 23))), vi ((h 103 ((50 * x1) + ((h 89 23) + 1))) - 48), vi ((h 103 ((50 * x1) + ((((h 89 23) + 1) + 1) + 1))) - 48), vi 0] [vi 0] _ _
                              refine wp_ifeqT (tn := 148) rfl rfl (by decide) ?_
                              refine wp_iconst rfl ?_
                              refine wp_istore (L2 := [vr 89, vi x1, vi (h 103 ((50 * x1) + (h 89 23))), vi ((h 103 ((50 * x1) + ((h 89 23) + 1))) - 48), vi ((h 103 ((50 * x1) + ((((h 89 23) + 1) + 1) + 1))) - 48), vi (-1)]) rfl (Nat.le_of_ble_eq_true rfl) rfl ?_
                              refine wp_iload rfl rfl ?_
                              refine wp_ifltF (tn := 165) rfl rfl c19 ?_
                              refine wp_iload rfl rfl ?_
                              refine wp_ifltF (tn := 165) rfl rfl c37 ?_
                              refine wp_iload rfl rfl ?_
                              refine wp_ifgeF (tn := 167) rfl rfl (by decide) ?_
                              refine wp_iconst rfl ?_
                              exact wp_zret rfl rfl (by decide) H
                            · replace H := H.2 c38
                              refine wp_aload rfl rfl ?_
                              refine wp_getR (r := 102) rfl (congrArg Prod.fst (kf_89 X.1)) rfl ?_
                              refine wp_iconst rfl ?_
                              refine wp_iload rfl rfl ?_
                              refine wp_imul rfl ?_
                              refine Wp.topI (y := (50 * x1)) (w32_I (by clear H; unfold R32; omega)) ?_
                              refine wp_aload rfl rfl ?_
                              refine wp_getI (j := 23) rfl (congrArg Prod.fst (kf_89 X.1)) rfl ?_
                              refine Wp.topI (y := (((((h 89 23) + 1) + 1) + 1) + 1)) upd2_s ?_
                              refine wp_iadd rfl ?_
                              have g40 := H.1
                              replace H := H.2
                              refine Wp.topI (y := ((50 * x1) + (((((h 89 23) + 1) + 1) + 1) + 1))) (w32_I g40) ?_
                              have g41 := H.1
                              replace H := H.2
                              refine wp_iaload rfl (kf_103 X.1) g41 ?_
                              refine Wp.topI (y := (h 103 ((50 * x1) + (((((h 89 23) + 1) + 1) + 1) + 1)))) (congrFun ((upd2_ne (by decide)).trans ((upd2_ne (by decide)).trans ((upd2_ne (by decide)).trans (upd2_ne (by decide))))) _) ?_
                              refine wp_goto (tn := 31) rfl rfl ?_
                              refine wp_iret rfl rfl ?_
                              show Wp X _ 89 5 [vr 89, vi x1, vi 62, vu] [vi (h 103 ((50 * x1) + (((((h 89 23) + 1) + 1) + 1) + 1)))] _ _
                              refine wp_iload rfl rfl ?_
                              refine wp_icne (tn := 13) rfl rfl (fun c42 => ?_) (fun c42 => ?_)
                              · replace H := H.1 c42
                                refine wp_iconst rfl ?_
                                refine wp_istore (L2 := [vr 89, vi x1, vi 62, vi 0]) rfl (Nat.le_of_ble_eq_true rfl) rfl ?_
                                refine wp_aload rfl rfl ?_
                                refine wp_dupR rfl ?_
                                refine wp_getI (j := 23) rfl (congrArg Prod.fst (kf_89 X.1)) rfl ?_
                                refine Wp.topI (y := (((((h 89 23) + 1) + 1) + 1) + 1)) upd2_s ?_
                                refine wp_iload rfl rfl ?_
                                refine wp_ifeqT (tn := 28) rfl rfl (by decide) ?_
                                refine wp_iconst rfl ?_
                                refine wp_iadd rfl ?_
                                have g43 := H.1
                                replace H := H.2
                                refine Wp.topI (y := ((((((h 89 23) + 1) + 1) + 1) + 1) + 0)) (w32_I g43) ?_
                                refine wp_putI (j := 23) rfl (congrArg Prod.fst (kf_89 X.1)) rfl rfl rfl ?_
                                refine wp_iload rfl rfl ?_
                                refine wp_zret rfl rfl (by decide) ?_
                                show Wp X _ 91 135 [vr 89, vi x1, vi (h 103 ((50 * x1) + (h 89 23))), vi ((h 103 ((50 * x1) + ((h 89 23) + 1))) - 48), vi ((h 103 ((50 * x1) + ((((h 89 23) + 1) + 1) + 1))) - 48), vi 0] [vi 0] _ _
                                refine wp_ifeqT (tn := 148) rfl rfl (by decide) ?_
                                refine wp_iconst rfl ?_
                                refine wp_istore (L2 := [vr 89, vi x1, vi (h 103 ((50 * x1) + (h 89 23))), vi ((h 103 ((50 * x1) + ((h 89 23) + 1))) - 48), vi ((h 103 ((50 * x1) + ((((h 89 23) + 1) + 1) + 1))) - 48), vi (-1)]) rfl (Nat.le_of_ble_eq_true rfl) rfl ?_
                                refine wp_iload rfl rfl ?_
                                refine wp_ifltF (tn := 165) rfl rfl c19 ?_
                                refine wp_iload rfl rfl ?_
                                refine wp_ifltF (tn := 165) rfl rfl c37 ?_
                                refine wp_iload rfl rfl ?_
                                refine wp_ifgeF (tn := 167) rfl rfl (by decide) ?_
                                refine wp_iconst rfl ?_
                                exact wp_zret rfl rfl (by decide) H
                              · replace H := H.2 c42
                                refine wp_iconst rfl ?_
                                refine wp_goto (tn := 14) rfl rfl ?_
                                refine wp_istore (L2 := [vr 89, vi x1, vi 62, vi 1]) rfl (Nat.le_of_ble_eq_true rfl) rfl ?_
                                refine wp_aload rfl rfl ?_
                                refine wp_dupR rfl ?_
                                refine wp_getI (j := 23) rfl (congrArg Prod.fst (kf_89 X.1)) rfl ?_
                                refine Wp.topI (y := (((((h 89 23) + 1) + 1) + 1) + 1)) upd2_s ?_
                                refine wp_iload rfl rfl ?_
                                refine wp_ifeqF (tn := 28) rfl rfl (by decide) ?_
                                refine wp_iconst rfl ?_
                                refine wp_goto (tn := 29) rfl rfl ?_
                                refine wp_iadd rfl ?_
                                have g44 := H.1
                                replace H := H.2
                                refine Wp.topI (y := ((((((h 89 23) + 1) + 1) + 1) + 1) + 1)) (w32_I g44) ?_
                                refine wp_putI (j := 23) rfl (congrArg Prod.fst (kf_89 X.1)) rfl rfl rfl ?_
                                refine wp_iload rfl rfl ?_
                                refine wp_zret rfl rfl (by decide) ?_
                                show Wp X _ 91 135 [vr 89, vi x1, vi (h 103 ((50 * x1) + (h 89 23))), vi ((h 103 ((50 * x1) + ((h 89 23) + 1))) - 48), vi ((h 103 ((50 * x1) + ((((h 89 23) + 1) + 1) + 1))) - 48), vi 0] [vi 1] _ _
                                refine wp_ifeqF (tn := 148) rfl rfl (by decide) ?_
                                refine wp_aload rfl rfl ?_
                                refine wp_iload rfl rfl ?_
                                refine wp_iconst rfl ?_
                                refine wp_iconst rfl ?_
                                refine wp_call (k := 90) (ρ2 := 1) (L2 := [vr 89, vi x1, vi 0, vi 3, vu]) rfl rfl rfl (Nat.le_of_ble_eq_true rfl) (Nat.le_of_ble_eq_true rfl) (Nat.le_of_ble_eq_true rfl) (rcv_V rfl (congrArg Prod.fst (kf_89 X.1))) rfl ?_
                                refine wp_aload rfl rfl ?_
                                refine wp_iload rfl rfl ?_
                                refine wp_call (k := 88) (ρ2 := 0) (L2 := [vr 89, vi x1]) rfl rfl rfl (Nat.le_of_ble_eq_true rfl) (Nat.le_of_ble_eq_true rfl) (Nat.le_of_ble_eq_true rfl) (rcv_V rfl (congrArg Prod.fst (kf_89 X.1))) rfl ?_
                                refine wp_aload rfl rfl ?_
                                refine wp_getI (j := 23) rfl (congrArg Prod.fst (kf_89 X.1)) rfl ?_
                                refine Wp.topI (y := ((((((h 89 23) + 1) + 1) + 1) + 1) + 1)) upd2_s ?_
                                refine wp_aload rfl rfl ?_
                                refine wp_getR (r := 103) rfl (congrArg Prod.fst (kf_89 X.1)) rfl ?_
                                refine wp_iload rfl rfl ?_
                                refine wp_iaload rfl (kf_104 X.1) ⟨g1.1, g1.2⟩ ?_
                                refine Wp.topI (y := (h 104 x1)) (congrFun ((upd2_ne (by decide)).trans ((upd2_ne (by decide)).trans ((upd2_ne (by decide)).trans ((upd2_ne (by decide)).trans (upd2_ne (by decide)))))) _) ?_
                                refine wp_icge (tn := 30) rfl rfl (fun c45 => ?_) (fun c45 => ?_)
                                · replace H := H.1 c45
                                  refine wp_iconst rfl ?_
                                  refine wp_iret rfl rfl ?_
                                  show Wp X _ 90 5 [vr 89, vi x1, vi 0, vi 3, vu] [vi (-1)] _ _
                                  refine wp_iconst rfl ?_
                                  refine wp_isub rfl ?_
                                  refine Wp.topI (y := (-49)) (by decide) ?_
                                  refine wp_istore (L2 := [vr 89, vi x1, vi 0, vi 3, vi (-49)]) rfl (Nat.le_of_ble_eq_true rfl) rfl ?_
                                  refine wp_iload rfl rfl ?_
                                  refine wp_i2l rfl ?_
                                  refine wp_iload rfl rfl ?_
                                  refine wp_i2l rfl ?_
                                  refine wp_iload rfl rfl ?_
                                  refine wp_i2l rfl ?_
                                  refine wp_call (k := 48) (ρ2 := 0) (L2 := [vl (-49), vu, vl 0, vu, vl 3, vu]) rfl rfl rfl (Nat.le_of_ble_eq_true rfl) (Nat.le_of_ble_eq_true rfl) (Nat.le_of_ble_eq_true rfl) (rcv_S rfl) rfl ?_
                                  refine wp_lload rfl rfl ?_
                                  refine wp_lload rfl rfl ?_
                                  refine wp_lcmp rfl ?_
                                  refine wp_iflt (tn := 17) rfl rfl (fun c46 => ?_) (fun c46 => ?_)
                                  · replace H := H.1 c46
                                    refine wp_iconst rfl ?_
                                    refine wp_zret rfl rfl (by decide) ?_
                                    show Wp X _ 90 20 [vr 89, vi x1, vi 0, vi 3, vi (-49)] [vi 0] _ _
                                    refine wp_ifneF (tn := 25) rfl rfl (by decide) ?_
                                    refine wp_iconst rfl ?_
                                    refine wp_iret rfl rfl ?_
                                    show Wp X _ 91 145 [vr 89, vi x1, vi (h 103 ((50 * x1) + (h 89 23))), vi ((h 103 ((50 * x1) + ((h 89 23) + 1))) - 48), vi ((h 103 ((50 * x1) + ((((h 89 23) + 1) + 1) + 1))) - 48), vi 0] [vi (-1)] _ _
                                    refine wp_goto (tn := 149) rfl rfl ?_
                                    refine wp_istore (L2 := [vr 89, vi x1, vi (h 103 ((50 * x1) + (h 89 23))), vi ((h 103 ((50 * x1) + ((h 89 23) + 1))) - 48), vi ((h 103 ((50 * x1) + ((((h 89 23) + 1) + 1) + 1))) - 48), vi (-1)]) rfl (Nat.le_of_ble_eq_true rfl) rfl ?_
                                    refine wp_iload rfl rfl ?_
                                    refine wp_ifltF (tn := 165) rfl rfl c19 ?_
                                    refine wp_iload rfl rfl ?_
                                    refine wp_ifltF (tn := 165) rfl rfl c37 ?_
                                    refine wp_iload rfl rfl ?_
                                    refine wp_ifgeF (tn := 167) rfl rfl (by decide) ?_
                                    refine wp_iconst rfl ?_
                                    exact wp_zret rfl rfl (by decide) H
                                  · replace H := H.2 c46
                                    refine wp_lload rfl rfl ?_
                                    refine wp_lload rfl rfl ?_
                                    refine wp_lcmp rfl ?_
                                    refine wp_ifgt (tn := 17) rfl rfl (fun c47 => ?_) (fun c47 => ?_)
                                    · replace H := H.1 c47
                                      refine wp_iconst rfl ?_
                                      refine wp_zret rfl rfl (by decide) ?_
                                      show Wp X _ 90 20 [vr 89, vi x1, vi 0, vi 3, vi (-49)] [vi 0] _ _
                                      refine wp_ifneF (tn := 25) rfl rfl (by decide) ?_
                                      refine wp_iconst rfl ?_
                                      refine wp_iret rfl rfl ?_
                                      show Wp X _ 91 145 [vr 89, vi x1, vi (h 103 ((50 * x1) + (h 89 23))), vi ((h 103 ((50 * x1) + ((h 89 23) + 1))) - 48), vi ((h 103 ((50 * x1) + ((((h 89 23) + 1) + 1) + 1))) - 48), vi 0] [vi (-1)] _ _
                                      refine wp_goto (tn := 149) rfl rfl ?_
                                      refine wp_istore (L2 := [vr 89, vi x1, vi (h 103 ((50 * x1) + (h 89 23))), vi ((h 103 ((50 * x1) + ((h 89 23) + 1))) - 48), vi ((h 103 ((50 * x1) + ((((h 89 23) + 1) + 1) + 1))) - 48), vi (-1)]) rfl (Nat.le_of_ble_eq_true rfl) rfl ?_
                                      refine wp_iload rfl rfl ?_
                                      refine wp_ifltF (tn := 165) rfl rfl c19 ?_
                                      refine wp_iload rfl rfl ?_
                                      refine wp_ifltF (tn := 165) rfl rfl c37 ?_
                                      refine wp_iload rfl rfl ?_
                                      refine wp_ifgeF (tn := 167) rfl rfl (by decide) ?_
                                      refine wp_iconst rfl ?_
                                      exact wp_zret rfl rfl (by decide) H
                                    · replace H := H.2 c47
                                      refine wp_iconst rfl ?_
                                      refine wp_goto (tn := 18) rfl rfl ?_
                                      refine wp_zret rfl rfl (by decide) ?_
                                      show Wp X _ 90 20 [vr 89, vi x1, vi 0, vi 3, vi (-49)] [vi 1] _ _
                                      refine wp_ifneT (tn := 25) rfl rfl (by decide) ?_
                                      refine wp_aload rfl rfl ?_
                                      refine wp_dupR rfl ?_
                                      refine wp_getI (j := 23) rfl (congrArg Prod.fst (kf_89 X.1)) rfl ?_
                                      refine Wp.topI (y := ((((((h 89 23) + 1) + 1) + 1) + 1) + 1)) upd2_s ?_
                                      refine wp_iconst rfl ?_
                                      refine wp_iadd rfl ?_
                                      have g48 := H.1
                                      replace H := H.2
                                      refine Wp.topI (y := (((((((h 89 23) + 1) + 1) + 1) + 1) + 1) + 1)) (w32_I g48) ?_
                                      refine wp_putI (j := 23) rfl (congrArg Prod.fst (kf_89 X.1)) rfl rfl rfl ?_
                                      refine wp_iload rfl rfl ?_
                                      refine wp_iret rfl rfl ?_
                                      show Wp X _ 91 145 [vr 89, vi x1, vi (h 103 ((50 * x1) + (h 89 23))), vi ((h 103 ((50 * x1) + ((h 89 23) + 1))) - 48), vi ((h 103 ((50 * x1) + ((((h 89 23) + 1) + 1) + 1))) - 48), vi 0] [vi (-49)] _ _
                                      refine wp_goto (tn := 149) rfl rfl ?_
                                      refine wp_istore (L2 := [vr 89, vi x1, vi (h 103 ((50 * x1) + (h 89 23))), vi ((h 103 ((50 * x1) + ((h 89 23) + 1))) - 48), vi ((h 103 ((50 * x1) + ((((h 89 23) + 1) + 1) + 1))) - 48), vi (-49)]) rfl (Nat.le_of_ble_eq_true rfl) rfl ?_
                                      refine wp_iload rfl rfl ?_
                                      refine wp_ifltF (tn := 165) rfl rfl c19 ?_
                                      refine wp_iload rfl rfl ?_
                                      refine wp_ifltF (tn := 165) rfl rfl c37 ?_
                                      refine wp_iload rfl rfl ?_
                                      refine wp_ifgeF (tn := 167) rfl rfl (by decide) ?_
                                      refine wp_iconst rfl ?_
                                      exact wp_zret rfl rfl (by decide) H
                                · replace H := H.2 c45
                                  refine wp_aload rfl rfl ?_
                                  refine wp_getR (r := 102) rfl (congrArg Prod.fst (kf_89 X.1)) rfl ?_
                                  refine wp_iconst rfl ?_
                                  refine wp_iload rfl rfl ?_
                                  refine wp_imul rfl ?_
                                  refine Wp.topI (y := (50 * x1)) (w32_I (by clear H; unfold R32; omega)) ?_
                                  refine wp_aload rfl rfl ?_
                                  refine wp_getI (j := 23) rfl (congrArg Prod.fst (kf_89 X.1)) rfl ?_
                                  refine Wp.topI (y := ((((((h 89 23) + 1) + 1) + 1) + 1) + 1)) upd2_s ?_
                                  refine wp_iadd rfl ?_
                                  have g49 := H.1
                                  replace H := H.2
                                  refine Wp.topI (y := ((50 * x1) + ((((((h 89 23) + 1) + 1) + 1) + 1) + 1))) (w32_I g49) ?_
                                  have g50 := H.1
                                  replace H := H.2
                                  refine wp_iaload rfl (kf_103 X.1) g50 ?_
                                  refine Wp.topI (y := (h 103 ((50 * x1) + ((((((h 89 23) + 1) + 1) + 1) + 1) + 1)))) (congrFun ((upd2_ne (by decide)).trans ((upd2_ne (by decide)).trans ((upd2_ne (by decide)).trans ((upd2_ne (by decide)).trans (upd2_ne (by decide)))))) _) ?_
                                  refine wp_goto (tn := 31) rfl rfl ?_
                                  refine wp_iret rfl rfl ?_
                                  show Wp X _ 90 5 [vr 89, vi x1, vi 0, vi 3, vu] [vi (h 103 ((50 * x1) + ((((((h 89 23) + 1) + 1) + 1) + 1) + 1)))] _ _
                                  refine wp_iconst rfl ?_
                                  refine wp_isub rfl ?_
                                  have g51 := H.1
                                  replace H := H.2
                                  refine Wp.topI (y := ((h 103 ((50 * x1) + ((((((h 89 23) + 1) + 1) + 1) + 1) + 1))) - 48)) (w32_I g51) ?_
                                  refine wp_istore (L2 := [vr 89, vi x1, vi 0, vi 3, vi ((h 103 ((50 * x1) + ((((((h 89 23) + 1) + 1) + 1) + 1) + 1))) - 48)]) rfl (Nat.le_of_ble_eq_true rfl) rfl ?_
                                  refine wp_iload rfl rfl ?_
                                  refine wp_i2l rfl ?_
                                  refine wp_iload rfl rfl ?_
                                  refine wp_i2l rfl ?_
                                  refine wp_iload rfl rfl ?_
                                  refine wp_i2l rfl ?_
                                  refine wp_call (k := 48) (ρ2 := 0) (L2 := [vl ((h 103 ((50 * x1) + ((((((h 89 23) + 1) + 1) + 1) + 1) + 1))) - 48), vu, vl 0, vu, vl 3, vu]) rfl rfl rfl (Nat.le_of_ble_eq_true rfl) (Nat.le_of_ble_eq_true rfl) (Nat.le_of_ble_eq_true rfl) (rcv_S rfl) rfl ?_
                                  refine wp_lload rfl rfl ?_
                                  refine wp_lload rfl rfl ?_
                                  refine wp_lcmp rfl ?_
                                  refine wp_iflt (tn := 17) rfl rfl (fun c52 => ?_) (fun c52 => ?_)
                                  · replace H := H.1 c52
                                    refine wp_iconst rfl ?_
                                    refine wp_zret rfl rfl (by decide) ?_
                                    show Wp X _ 90 20 [vr 89, vi x1, vi 0, vi 3, vi ((h 103 ((50 * x1) + ((((((h 89 23) + 1) + 1) + 1) + 1) + 1))) - 48)] [vi 0] _ _
                                    refine wp_ifneF (tn := 25) rfl rfl (by decide) ?_
                                    refine wp_iconst rfl ?_
                                    refine wp_iret rfl rfl ?_
                                    show Wp X _ 91 145 [vr 89, vi x1, vi (h 103 ((50 * x1) + (h 89 23))), vi ((h 103 ((50 * x1) + ((h 89 23) + 1))) - 48), vi ((h 103 ((50 * x1) + ((((h 89 23) + 1) + 1) + 1))) - 48), vi 0] [vi (-1)] _ _
                                    refine wp_goto (tn := 149) rfl rfl ?_
                                    refine wp_istore (L2 := [vr 89, vi x1, vi (h 103 ((50 * x1) + (h 89 23))), vi ((h 103 ((50 * x1) + ((h 89 23) + 1))) - 48), vi ((h 103 ((50 * x1) + ((((h 89 23) + 1) + 1) + 1))) - 48), vi (-1)]) rfl (Nat.le_of_ble_eq_true rfl) rfl ?_
                                    refine wp_iload rfl rfl ?_
                                    refine wp_ifltF (tn := 165) rfl rfl c19 ?_
                                    refine wp_iload rfl rfl ?_
                                    refine wp_ifltF (tn := 165) rfl rfl c37 ?_
                                    refine wp_iload rfl rfl ?_
                                    refine wp_ifgeF (tn := 167) rfl rfl (by decide) ?_
                                    refine wp_iconst rfl ?_
                                    exact wp_zret rfl rfl (by decide) H
                                  · replace H := H.2 c52
                                    refine wp_lload rfl rfl ?_
                                    refine wp_lload rfl rfl ?_
                                    refine wp_lcmp rfl ?_
                                    refine wp_ifgt (tn := 17) rfl rfl (fun c53 => ?_) (fun c53 => ?_)
                                    · replace H := H.1 c53
                                      refine wp_iconst rfl ?_
                                      refine wp_zret rfl rfl (by decide) ?_
                                      show Wp X _ 90 20 [vr 89, vi x1, vi 0, vi 3, vi ((h 103 ((50 * x1) + ((((((h 89 23) + 1) + 1) + 1) + 1) + 1))) - 48)] [vi 0] _ _
                                      refine wp_ifneF (tn := 25) rfl rfl (by decide) ?_
                                      refine wp_iconst rfl ?_
                                      refine wp_iret rfl rfl ?_
                                      show Wp X _ 91 145 [vr 89, vi x1, vi (h 103 ((50 * x1) + (h 89 23))), vi ((h 103 ((50 * x1) + ((h 89 23) + 1))) - 48), vi ((h 103 ((50 * x1) + ((((h 89 23) + 1) + 1) + 1))) - 48), vi 0] [vi (-1)] _ _
                                      refine wp_goto (tn := 149) rfl rfl ?_
                                      refine wp_istore (L2 := [vr 89, vi x1, vi (h 103 ((50 * x1) + (h 89 23))), vi ((h 103 ((50 * x1) + ((h 89 23) + 1))) - 48), vi ((h 103 ((50 * x1) + ((((h 89 23) + 1) + 1) + 1))) - 48), vi (-1)]) rfl (Nat.le_of_ble_eq_true rfl) rfl ?_
                                      refine wp_iload rfl rfl ?_
                                      refine wp_ifltF (tn := 165) rfl rfl c19 ?_
                                      refine wp_iload rfl rfl ?_
                                      refine wp_ifltF (tn := 165) rfl rfl c37 ?_
                                      refine wp_iload rfl rfl ?_
                                      refine wp_ifgeF (tn := 167) rfl rfl (by decide) ?_
                                      refine wp_iconst rfl ?_
                                      exact wp_zret rfl rfl (by decide) H
                                    · replace H := H.2 c53
                                      refine wp_iconst rfl ?_
                                      refine wp_goto (tn := 18) rfl rfl ?_
                                      refine wp_zret rfl rfl (by decide) ?_
                                      show Wp X _ 90 20 [vr 89, vi x1, vi 0, vi 3, vi ((h 103 ((50 * x1) + ((((((h 89 23) + 1) + 1) + 1) + 1) + 1))) - 48)] [vi 1] _ _
                                      refine wp_ifneT (tn := 25) rfl rfl (by decide) ?_
                                      refine wp_aload rfl rfl ?_
                                      refine wp_dupR rfl ?_
                                      refine wp_getI (j := 23) rfl (congrArg Prod.fst (kf_89 X.1)) rfl ?_
                                      refine Wp.topI (y := ((((((h 89 23) + 1) + 1) + 1) + 1) + 1)) upd2_s ?_
                                      refine wp_iconst rfl ?_
                                      refine wp_iadd rfl ?_
                                      have g54 := H.1
                                      replace H := H.2
                                      refine Wp.topI (y := (((((((h 89 23) + 1) + 1) + 1) + 1) + 1) + 1)) (w32_I g54) ?_
                                      refine wp_putI (j := 23) rfl (congrArg Prod.fst (kf_89 X.1)) rfl rfl rfl ?_
                                      refine wp_iload rfl rfl ?_
                                      refine wp_iret rfl rfl ?_
                                      show Wp X _ 91 145 [vr 89, vi x1, vi (h 103 ((50 * x1) + (h 89 23))), vi ((h 103 ((50 * x1) + ((h 89 23) + 1))) - 48), vi ((h 103 ((50 * x1) + ((((h 89 23) + 1) + 1) + 1))) - 48), vi 0] [vi ((h 103 ((50 * x1) + ((((((h 89 23) + 1) + 1) + 1) + 1) + 1))) - 48)] _ _
                                      refine wp_goto (tn := 149) rfl rfl ?_
                                      refine wp_istore (L2 := [vr 89, vi x1, vi (h 103 ((50 * x1) + (h 89 23))), vi ((h 103 ((50 * x1) + ((h 89 23) + 1))) - 48), vi ((h 103 ((50 * x1) + ((((h 89 23) + 1) + 1) + 1))) - 48), vi ((h 103 ((50 * x1) + ((((((h 89 23) + 1) + 1) + 1) + 1) + 1))) - 48)]) rfl (Nat.le_of_ble_eq_true rfl) rfl ?_
                                      refine wp_iload rfl rfl ?_
                                      refine wp_ifltF (tn := 165) rfl rfl c19 ?_
                                      refine wp_iload rfl rfl ?_
                                      refine wp_ifltF (tn := 165) rfl rfl c37 ?_
                                      refine wp_iload rfl rfl ?_
                                      refine wp_ifge (tn := 167) rfl rfl (fun c55 => ?_) (fun c55 => ?_)
                                      · replace H := H.1 c55
                                        refine wp_aload rfl rfl ?_
                                        refine wp_getR (r := 104) rfl (congrArg Prod.fst (kf_89 X.1)) rfl ?_
                                        refine wp_aload rfl rfl ?_
                                        refine wp_getI (j := 24) rfl (congrArg Prod.fst (kf_89 X.1)) rfl ?_
                                        refine Wp.topI (y := (h 89 24)) ((upd2_o (by decide)).trans ((upd2_o (by decide)).trans ((upd2_o (by decide)).trans ((upd2_o (by decide)).trans ((upd2_o (by decide)).trans (upd2_o (by decide))))))) ?_
                                        refine wp_iload rfl rfl ?_
                                        have g56 := H.1
                                        replace H := H.2
                                        refine wp_iastore rfl (kf_105 X.1) g56 ?_
                                        refine wp_aload rfl rfl ?_
                                        refine wp_getR (r := 105) rfl (congrArg Prod.fst (kf_89 X.1)) rfl ?_
                                        refine wp_aload rfl rfl ?_
                                        refine wp_getI (j := 24) rfl (congrArg Prod.fst (kf_89 X.1)) rfl ?_
                                        refine Wp.topI (y := (h 89 24)) ((congrFun (upd2_ne (by decide)) _).trans ((upd2_o (by decide)).trans ((upd2_o (by decide)).trans ((upd2_o (by decide)).trans ((upd2_o (by decide)).trans ((upd2_o (by decide)).trans (upd2_o (by decide)))))))) ?_
                                        refine wp_iload rfl rfl ?_
                                        refine wp_iastore rfl (kf_106 X.1) ⟨g56.1, g56.2⟩ ?_
                                        refine wp_aload rfl rfl ?_
                                        refine wp_getR (r := 106) rfl (congrArg Prod.fst (kf_89 X.1)) rfl ?_
                                        refine wp_aload rfl rfl ?_
                                        refine wp_getI (j := 24) rfl (congrArg Prod.fst (kf_89 X.1)) rfl ?_
                                        refine Wp.topI (y := (h 89 24)) ((congrFun ((upd2_ne (by decide)).trans (upd2_ne (by decide))) _).trans ((upd2_o (by decide)).trans ((upd2_o (by decide)).trans ((upd2_o (by decide)).trans ((upd2_o (by decide)).trans ((upd2_o (by decide)).trans (upd2_o (by decide)))))))) ?_
                                        refine wp_iload rfl rfl ?_
                                        refine wp_iastore rfl (kf_107 X.1) ⟨g56.1, g56.2⟩ ?_
                                        refine wp_aload rfl rfl ?_
                                        refine wp_getR (r := 107) rfl (congrArg Prod.fst (kf_89 X.1)) rfl ?_
                                        refine wp_aload rfl rfl ?_
                                        refine wp_getI (j := 24) rfl (congrArg Prod.fst (kf_89 X.1)) rfl ?_
                                        refine Wp.topI (y := (h 89 24)) ((congrFun ((upd2_ne (by decide)).trans ((upd2_ne (by decide)).trans (upd2_ne (by decide)))) _).trans ((upd2_o (by decide)).trans ((upd2_o (by decide)).trans ((upd2_o (by decide)).trans ((upd2_o (by decide)).trans ((upd2_o (by decide)).trans (upd2_o (by decide)))))))) ?_
                                        refine wp_iload rfl rfl ?_
                                        refine wp_iastore rfl (kf_108 X.1) ⟨g56.1, g56.2⟩ ?_
                                        refine wp_aload rfl rfl ?_
                                        refine wp_dupR rfl ?_
                                        refine wp_getI (j := 24) rfl (congrArg Prod.fst (kf_89 X.1)) rfl ?_
                                        refine Wp.topI (y := (h 89 24)) ((congrFun ((upd2_ne (by decide)).trans ((upd2_ne (by decide)).trans ((upd2_ne (by decide)).trans (upd2_ne (by decide))))) _).trans ((upd2_o (by decide)).trans ((upd2_o (by decide)).trans ((upd2_o (by decide)).trans ((upd2_o (by decide)).trans ((upd2_o (by decide)).trans (upd2_o (by decide)))))))) ?_
                                        refine wp_iconst rfl ?_
                                        refine wp_iadd rfl ?_
                                        refine Wp.topI (y := ((h 89 24) + 1)) (w32_I (by clear H; unfold R32; omega)) ?_
                                        refine wp_putI (j := 24) rfl (congrArg Prod.fst (kf_89 X.1)) rfl rfl rfl ?_
                                        refine wp_iconst rfl ?_
                                        exact wp_zret rfl rfl (by decide) H
                                      · replace H := H.2 c55
                                        refine wp_iconst rfl ?_
                                        exact wp_zret rfl rfl (by decide) H
      · replace H := H.2 c7
        refine wp_iload rfl rfl ?_
        refine wp_iconst rfl ?_
        refine wp_iceq (tn := 35) rfl rfl (fun c57 => ?_) (fun c57 => ?_)
        · replace H := H.1 c57
          refine wp_aload rfl rfl ?_
          refine wp_dupR rfl ?_
          refine wp_getI (j := 23) rfl (congrArg Prod.fst (kf_89 X.1)) rfl ?_
          refine wp_iconst rfl ?_
          refine wp_iadd rfl ?_
          have g58 := H.1
          replace H := H.2
          refine Wp.topI (y := ((h 89 23) + 1)) (w32_I g58) ?_
          refine wp_putI (j := 23) rfl (congrArg Prod.fst (kf_89 X.1)) rfl rfl rfl ?_
          refine wp_aload rfl rfl ?_
          refine wp_iload rfl rfl ?_
          refine wp_iload rfl rfl ?_
          refine wp_iconst rfl ?_
          refine wp_icneT (tn := 57) rfl rfl c7 ?_
          refine wp_iload rfl rfl ?_
          refine wp_iconst rfl ?_
          refine wp_icneF (tn := 67) rfl rfl c57 ?_
          refine wp_iconst rfl ?_
          refine wp_goto (tn := 68) rfl rfl ?_
          refine wp_iload rfl rfl ?_
          refine wp_iconst rfl ?_
          refine wp_icneT (tn := 78) rfl rfl c7 ?_
          refine wp_iconst rfl ?_
          refine wp_call (k := 90) (ρ2 := 1) (L2 := [vr 89, vi x1, vi 2, vi 9, vu]) rfl rfl rfl (Nat.le_of_ble_eq_true rfl) (Nat.le_of_ble_eq_true rfl) (Nat.le_of_ble_eq_true rfl) (rcv_V rfl (congrArg Prod.fst (kf_89 X.1))) rfl ?_
          refine wp_aload rfl rfl ?_
          refine wp_iload rfl rfl ?_
          refine wp_call (k := 88) (ρ2 := 0) (L2 := [vr 89, vi x1]) rfl rfl rfl (Nat.le_of_ble_eq_true rfl) (Nat.le_of_ble_eq_true rfl) (Nat.le_of_ble_eq_true rfl) (rcv_V rfl (congrArg Prod.fst (kf_89 X.1))) rfl ?_
          refine wp_aload rfl rfl ?_
          refine wp_getI (j := 23) rfl (congrArg Prod.fst (kf_89 X.1)) rfl ?_
          refine Wp.topI (y := ((h 89 23) + 1)) upd2_s ?_
          refine wp_aload rfl rfl ?_
          refine wp_getR (r := 103) rfl (congrArg Prod.fst (kf_89 X.1)) rfl ?_
          refine wp_iload rfl rfl ?_
          refine wp_iaload rfl (kf_104 X.1) ⟨g1.1, g1.2⟩ ?_
          refine Wp.topI (y := (h 104 x1)) (congrFun (upd2_ne (by decide)) _) ?_
          refine wp_icge (tn := 30) rfl rfl (fun c59 => ?_) (fun c59 => ?_)
          · replace H := H.1 c59
            refine wp_iconst rfl ?_
            refine wp_iret rfl rfl ?_
            show Wp X _ 90 5 [vr 89, vi x1, vi 2, vi 9, vu] [vi (-1)] _ _
            refine wp_iconst rfl ?_
            refine wp_isub rfl ?_
            refine Wp.topI (y := (-49)) (by decide) ?_
            refine wp_istore (L2 := [vr 89, vi x1, vi 2, vi 9, vi (-49)]) rfl (Nat.le_of_ble_eq_true rfl) rfl ?_
            refine wp_iload rfl rfl ?_
            refine wp_i2l rfl ?_
            refine wp_iload rfl rfl ?_
            refine wp_i2l rfl ?_
            refine wp_iload rfl rfl ?_
            refine wp_i2l rfl ?_
            refine wp_call (k := 48) (ρ2 := 0) (L2 := [vl (-49), vu, vl 2, vu, vl 9, vu]) rfl rfl rfl (Nat.le_of_ble_eq_true rfl) (Nat.le_of_ble_eq_true rfl) (Nat.le_of_ble_eq_true rfl) (rcv_S rfl) rfl ?_
            refine wp_lload rfl rfl ?_
            refine wp_lload rfl rfl ?_
            refine wp_lcmp rfl ?_
            refine wp_iflt (tn := 17) rfl rfl (fun c60 => ?_) (fun c60 => ?_)
            · replace H := H.1 c60
              refine wp_iconst rfl ?_
              refine wp_zret rfl rfl (by decide) ?_
              show Wp X _ 90 20 [vr 89, vi x1, vi 2, vi 9, vi (-49)] [vi 0] _ _
              refine wp_ifneF (tn := 25) rfl rfl (by decide) ?_
              refine wp_iconst rfl ?_
              refine wp_iret rfl rfl ?_
              show Wp X _ 91 83 [vr 89, vi x1, vi (h 103 ((50 * x1) + (h 89 23))), vu, vu, vu] [vi (-1)] _ _
              refine wp_istore (L2 := [vr 89, vi x1, vi (h 103 ((50 * x1) + (h 89 23))), vi (-1), vu, vu]) rfl (Nat.le_of_ble_eq_true rfl) rfl ?_
              refine wp_iload rfl rfl ?_
              refine wp_istore (L2 := [vr 89, vi x1, vi (h 103 ((50 * x1) + (h 89 23))), vi (-1), vi (-1), vu]) rfl (Nat.le_of_ble_eq_true rfl) rfl ?_
              refine wp_iconst rfl ?_
              refine wp_istore (L2 := [vr 89, vi x1, vi (h 103 ((50 * x1) + (h 89 23))), vi (-1), vi (-1), vi 0]) rfl (Nat.le_of_ble_eq_true rfl) rfl ?_
              refine wp_iload rfl rfl ?_
              refine wp_ifltT (tn := 151) rfl rfl (by decide) ?_
              refine wp_iload rfl rfl ?_
              refine wp_ifltT (tn := 165) rfl rfl (by decide) ?_
              refine wp_iconst rfl ?_
              exact wp_zret rfl rfl (by decide) H
            · replace H := H.2 c60
              refine wp_lload rfl rfl ?_
              refine wp_lload rfl rfl ?_
              refine wp_lcmp rfl ?_
              refine wp_ifgt (tn := 17) rfl rfl (fun c61 => ?_) (fun c61 => ?_)
              · replace H := H.1 c61
                refine wp_iconst rfl ?_
                refine wp_zret rfl rfl (by decide) ?_
                show Wp X _ 90 20 [vr 89, vi x1, vi 2, vi 9, vi (-49)] [vi 0] _ _
                refine wp_ifneF (tn := 25) rfl rfl (by decide) ?_
                refine wp_iconst rfl ?_
                refine wp_iret rfl rfl ?_
                show Wp X _ 91 83 [vr 89, vi x1, vi (h 103 ((50 * x1) + (h 89 23))), vu, vu, vu] [vi (-1)] _ _
                refine wp_istore (L2 := [vr 89, vi x1, vi (h 103 ((50 * x1) + (h 89 23))), vi (-1), vu, vu]) rfl (Nat.le_of_ble_eq_true rfl) rfl ?_
                refine wp_iload rfl rfl ?_
                refine wp_istore (L2 := [vr 89, vi x1, vi (h 103 ((50 * x1) + (h 89 23))), vi (-1), vi (-1), vu]) rfl (Nat.le_of_ble_eq_true rfl) rfl ?_
                refine wp_iconst rfl ?_
                refine wp_istore (L2 := [vr 89, vi x1, vi (h 103 ((50 * x1) + (h 89 23))), vi (-1), vi (-1), vi 0]) rfl (Nat.le_of_ble_eq_true rfl) rfl ?_
                refine wp_iload rfl rfl ?_
                refine wp_ifltT (tn := 151) rfl rfl (by decide) ?_
                refine wp_iload rfl rfl ?_
                refine wp_ifltT (tn := 165) rfl rfl (by decide) ?_
                refine wp_iconst rfl ?_
                exact wp_zret rfl rfl (by decide) H
              · replace H := H.2 c61
                refine wp_iconst rfl ?_
                refine wp_goto (tn := 18) rfl rfl ?_
                refine wp_zret rfl rfl (by decide) ?_
                show Wp X _ 90 20 [vr 89, vi x1, vi 2, vi 9, vi (-49)] [vi 1] _ _
                refine wp_ifneT (tn := 25) rfl rfl (by decide) ?_
                refine wp_aload rfl rfl ?_
                refine wp_dupR rfl ?_
                refine wp_getI (j := 23) rfl (congrArg Prod.fst (kf_89 X.1)) rfl ?_
                refine Wp.topI (y := ((h 89 23) + 1)) upd2_s ?_
                refine wp_iconst rfl ?_
                refine wp_iadd rfl ?_
                have g62 := H.1
                replace H := H.2
                refine Wp.topI (y := (((h 89 23) + 1) + 1)) (w32_I g62) ?_
                refine wp_putI (j := 23) rfl (congrArg Prod.fst (kf_89 X.1)) rfl rfl rfl ?_
                refine wp_iload rfl rfl ?_
                refine wp_iret rfl rfl ?_
                show Wp X _ 91 83 [vr 89, vi x1, vi (h 103 ((50 * x1) + (h 89 23))), vu, vu, vu] [vi (-49)] _ _
                refine wp_istore (L2 := [vr 89, vi x1, vi (h 103 ((50 * x1) + (h 89 23))), vi (-49), vu, vu]) rfl (Nat.le_of_ble_eq_true rfl) rfl ?_
                refine wp_iload rfl rfl ?_
                refine wp_istore (L2 := [vr 89, vi x1, vi (h 103 ((50 * x1) + (h 89 23))), vi (-49), vi (-49), vu]) rfl (Nat.le_of_ble_eq_true rfl) rfl ?_
                refine wp_iconst rfl ?_
                refine wp_istore (L2 := [vr 89, vi x1, vi (h 103 ((50 * x1) + (h 89 23))), vi (-49), vi (-49), vi 0]) rfl (Nat.le_of_ble_eq_true rfl) rfl ?_
                refine wp_iload rfl rfl ?_
                refine wp_ifltT (tn := 151) rfl rfl (by decide) ?_
                refine wp_iload rfl rfl ?_
                refine wp_ifltT (tn := 165) rfl rfl (by decide) ?_
                refine wp_iconst rfl ?_
                exact wp_zret rfl rfl (by decide) H
          · replace H := H.2 c59
            refine wp_aload rfl rfl ?_
            refine wp_getR (r := 102) rfl (congrArg Prod.fst (kf_89 X.1)) rfl ?_
            refine wp_iconst rfl ?_
            refine wp_iload rfl rfl ?_
            refine wp_imul rfl ?_
            refine Wp.topI (y := (50 * x1)) (w32_I (by clear H; unfold R32; omega)) ?_
            refine wp_aload rfl rfl ?_
            refine wp_getI (j := 23) rfl (congrArg Prod.fst (kf_89 X.1)) rfl ?_
            refine Wp.topI (y := ((h 89 23) + 1)) upd2_s ?_
            refine wp_iadd rfl ?_
            have g63 := H.1
            replace H := H.2
            refine Wp.topI (y := ((50 * x1) + ((h 89 23) + 1))) (w32_I g63) ?_
            have g64 := H.1
            replace H := H.2
            refine wp_iaload rfl (kf_103 X.1) g64 ?_
            refine Wp.topI (y := (h 103 ((50 * x1) + ((h 89 23) + 1)))) (congrFun (upd2_ne (by decide)) _) ?_
            refine wp_goto (tn := 31) rfl rfl ?_
            refine wp_iret rfl rfl ?_
            show Wp X _ 90 5 [vr 89, vi x1, vi 2, vi 9, vu] [vi (h 103 ((50 * x1) + ((h 89 23) + 1)))] _ _
            refine wp_iconst rfl ?_
            refine wp_isub rfl ?_
            have g65 := H.1
            replace H := H.2
            refine Wp.topI (y := ((h 103 ((50 * x1) + ((h 89 23) + 1))) - 48)) (w32_I g65) ?_
            refine wp_istore (L2 := [vr 89, vi x1, vi 2, vi 9, vi ((h 103 ((50 * x1) + ((h 89 23) + 1))) - 48)]) rfl (Nat.le_of_ble_eq_true rfl) rfl ?_
            refine wp_iload rfl rfl ?_
            refine wp_i2l rfl ?_
            refine wp_iload rfl rfl ?_
            refine wp_i2l rfl ?_
            refine wp_iload rfl rfl ?_
            refine wp_i2l rfl ?_
            refine wp_call (k := 48) (ρ2 := 0) (L2 := [vl ((h 103 ((50 * x1) + ((h 89 23) + 1))) - 48), vu, vl 2, vu, vl 9, vu]) rfl rfl rfl (Nat.le_of_ble_eq_true rfl) (Nat.le_of_ble_eq_true rfl) (Nat.le_of_ble_eq_true rfl) (rcv_S rfl) rfl ?_
            refine wp_lload rfl rfl ?_
            refine wp_lload rfl rfl ?_
            refine wp_lcmp rfl ?_
            refine wp_iflt (tn := 17) rfl rfl (fun c66 => ?_) (fun c66 => ?_)
            · replace H := H.1 c66
              refine wp_iconst rfl ?_
              refine wp_zret rfl rfl (by decide) ?_
              show Wp X _ 90 20 [vr 89, vi x1, vi 2, vi 9, vi ((h 103 ((50 * x1) + ((h 89 23) + 1))) - 48)] [vi 0] _ _
              refine wp_ifneF (tn := 25) rfl rfl (by decide) ?_
              refine wp_iconst rfl ?_
              refine wp_iret rfl rfl ?_
              show Wp X _ 91 83 [vr 89, vi x1, vi (h 103 ((50 * x1) + (h 89 23))), vu, vu, vu] [vi (-1)] _ _
              refine wp_istore (L2 := [vr 89, vi x1, vi (h 103 ((50 * x1) + (h 89 23))), vi (-1), vu, vu]) rfl (Nat.le_of_ble_eq_true rfl) rfl ?_
              refine wp_iload rfl rfl ?_
              refine wp_istore (L2 := [vr 89, vi x1, vi (h 103 ((50 * x1) + (h 89 23))), vi (-1), vi (-1), vu]) rfl (Nat.le_of_ble_eq_true rfl) rfl ?_
              refine wp_iconst rfl ?_
              refine wp_istore (L2 := [vr 89, vi x1, vi (h 103 ((50 * x1) + (h 89 23))), vi (-1), vi (-1), vi 0]) rfl (Nat.le_of_ble_eq_true rfl) rfl ?_
              refine wp_iload rfl rfl ?_
              refine wp_ifltT (tn := 151) rfl rfl (by decide) ?_
              refine wp_iload rfl rfl ?_
              refine wp_ifltT (tn := 165) rfl rfl (by decide) ?_
              refine wp_iconst rfl ?_
              exact wp_zret rfl rfl (by decide) H
            · replace H := H.2 c66
              refine wp_lload rfl rfl ?_
              refine wp_lload rfl rfl ?_
              refine wp_lcmp rfl ?_
              refine wp_ifgt (tn := 17) rfl rfl (fun c67 => ?_) (fun c67 => ?_)
              · replace H := H.1 c67
                refine wp_iconst rfl ?_
                refine wp_zret rfl rfl (by decide) ?_
                show Wp X _ 90 20 [vr 89, vi x1, vi 2, vi 9, vi ((h 103 ((50 * x1) + ((h 89 23) + 1))) - 48)] [vi 0] _ _
                refine wp_ifneF (tn := 25) rfl rfl (by decide) ?_
                refine wp_iconst rfl ?_
                refine wp_iret rfl rfl ?_
                show Wp X _ 91 83 [vr 89, vi x1, vi (h 103 ((50 * x1) + (h 89 23))), vu, vu, vu] [vi (-1)] _ _
                refine wp_istore (L2 := [vr 89, vi x1, vi (h 103 ((50 * x1) + (h 89 23))), vi (-1), vu, vu]) rfl (Nat.le_of_ble_eq_true rfl) rfl ?_
                refine wp_iload rfl rfl ?_
                refine wp_istore (L2 := [vr 89, vi x1, vi (h 103 ((50 * x1) + (h 89 23))), vi (-1), vi (-1), vu]) rfl (Nat.le_of_ble_eq_true rfl) rfl ?_
                refine wp_iconst rfl ?_
                refine wp_istore (L2 := [vr 89, vi x1, vi (h 103 ((50 * x1) + (h 89 23))), vi (-1), vi (-1), vi 0]) rfl (Nat.le_of_ble_eq_true rfl) rfl ?_
                refine wp_iload rfl rfl ?_
                refine wp_ifltT (tn := 151) rfl rfl (by decide) ?_
                refine wp_iload rfl rfl ?_
                refine wp_ifltT (tn := 165) rfl rfl (by decide) ?_
                refine wp_iconst rfl ?_
                exact wp_zret rfl rfl (by decide) H
              · replace H := H.2 c67
                refine wp_iconst rfl ?_
                refine wp_goto (tn := 18) rfl rfl ?_
                refine wp_zret rfl rfl (by decide) ?_
                show Wp X _ 90 20 [vr 89, vi x1, vi 2, vi 9, vi ((h 103 ((50 * x1) + ((h 89 23) + 1))) - 48)] [vi 1] _ _
                refine wp_ifneT (tn := 25) rfl rfl (by decide) ?_
                refine wp_aload rfl rfl ?_
                refine wp_dupR rfl ?_
                refine wp_getI (j := 23) rfl (congrArg Prod.fst (kf_89 X.1)) rfl ?_
                refine Wp.topI (y := ((h 89 23) + 1)) upd2_s ?_
                refine wp_iconst rfl ?_
                refine wp_iadd rfl ?_
                have g68 := H.1
                replace H := H.2
                refine Wp.topI (y := (((h 89 23) + 1) + 1)) (w32_I g68) ?_
                refine wp_putI (j := 23) rfl (congrArg Prod.fst (kf_89 X.1)) rfl rfl rfl ?_
                refine wp_iload rfl rfl ?_
                refine wp_iret rfl rfl ?_
                show Wp X _ 91 83 [vr 89, vi x1, vi (h 103 ((50 * x1) + (h 89 23))), vu, vu, vu] [vi ((h 103 ((50 * x1) + ((h 89 23) + 1))) - 48)] _ _
                refine wp_istore (L2 := [vr 89, vi x1, vi (h 103 ((50 * x1) + (h 89 23))), vi ((h 103 ((50 * x1) + ((h 89 23) + 1))) - 48), vu, vu]) rfl (Nat.le_of_ble_eq_true rfl) rfl ?_
                refine wp_iload rfl rfl ?_
                refine wp_istore (L2 := [vr 89, vi x1, vi (h 103 ((50 * x1) + (h 89 23))), vi ((h 103 ((50 * x1) + ((h 89 23) + 1))) - 48), vi ((h 103 ((50 * x1) + ((h 89 23) + 1))) - 48), vu]) rfl (Nat.le_of_ble_eq_true rfl) rfl ?_
                refine wp_iconst rfl ?_
                refine wp_istore (L2 := [vr 89, vi x1, vi (h 103 ((50 * x1) + (h 89 23))), vi ((h 103 ((50 * x1) + ((h 89 23) + 1))) - 48), vi ((h 103 ((50 * x1) + ((h 89 23) + 1))) - 48), vi 0]) rfl (Nat.le_of_ble_eq_true rfl) rfl ?_
                refine wp_iload rfl rfl ?_
                refine wp_iflt (tn := 151) rfl rfl (fun c69 => ?_) (fun c69 => ?_)
                · replace H := H.1 c69
                  refine wp_iload rfl rfl ?_
                  refine wp_ifltT (tn := 165) rfl rfl c69 ?_
                  refine wp_iconst rfl ?_
                  exact wp_zret rfl rfl (by decide) H
                · replace H := H.2 c69
                  refine wp_iload rfl rfl ?_
                  refine wp_iconst rfl ?_
                  refine wp_icneT (tn := 151) rfl rfl c7 ?_
                  refine wp_iload rfl rfl ?_
                  refine wp_ifltF (tn := 165) rfl rfl c69 ?_
                  refine wp_iload rfl rfl ?_
                  refine wp_ifltF (tn := 165) rfl rfl c69 ?_
                  refine wp_iload rfl rfl ?_
                  refine wp_ifgeT (tn := 167) rfl rfl (by decide) ?_
                  refine wp_aload rfl rfl ?_
                  refine wp_getR (r := 104) rfl (congrArg Prod.fst (kf_89 X.1)) rfl ?_
                  refine wp_aload rfl rfl ?_
                  refine wp_getI (j := 24) rfl (congrArg Prod.fst (kf_89 X.1)) rfl ?_
                  refine Wp.topI (y := (h 89 24)) ((upd2_o (by decide)).trans (upd2_o (by decide))) ?_
                  refine wp_iload rfl rfl ?_
                  have g70 := H.1
                  replace H := H.2
                  refine wp_iastore rfl (kf_105 X.1) g70 ?_
                  refine wp_aload rfl rfl ?_
                  refine wp_getR (r := 105) rfl (congrArg Prod.fst (kf_89 X.1)) rfl ?_
                  refine wp_aload rfl rfl ?_
                  refine wp_getI (j := 24) rfl (congrArg Prod.fst (kf_89 X.1)) rfl ?_
                  refine Wp.topI (y := (h 89 24)) ((congrFun (upd2_ne (by decide)) _).trans ((upd2_o (by decide)).trans (upd2_o (by decide)))) ?_
                  refine wp_iload rfl rfl ?_
                  refine wp_iastore rfl (kf_106 X.1) ⟨g70.1, g70.2⟩ ?_
                  refine wp_aload rfl rfl ?_
                  refine wp_getR (r := 106) rfl (congrArg Prod.fst (kf_89 X.1)) rfl ?_
                  refine wp_aload rfl rfl ?_
                  refine wp_getI (j := 24) rfl (congrArg Prod.fst (kf_89 X.1)) rfl ?_
                  refine Wp.topI (y := (h 89 24)) ((congrFun ((upd2_ne (by decide)).trans (upd2_ne (by decide))) _).trans ((upd2_o (by decide)).trans (upd2_o (by decide)))) ?_
                  refine wp_iload rfl rfl ?_
                  refine wp_iastore rfl (kf_107 X.1) ⟨g70.1, g70.2⟩ ?_
                  refine wp_aload rfl rfl ?_
                  refine wp_getR (r := 107) rfl (congrArg Prod.fst (kf_89 X.1)) rfl ?_
                  refine wp_aload rfl rfl ?_
                  refine wp_getI (j := 24) rfl (congrArg Prod.fst (kf_89 X.1)) rfl ?_
                  refine Wp.topI (y := (h 89 24)) ((congrFun ((upd2_ne (by decide)).trans ((upd2_ne (by decide)).trans (upd2_ne (by decide)))) _).trans ((upd2_o (by decide)).trans (upd2_o (by decide)))) ?_
                  refine wp_iload rfl rfl ?_
                  refine wp_iastore rfl (kf_108 X.1) ⟨g70.1, g70.2⟩ ?_
                  refine wp_aload rfl rfl ?_
                  refine wp_dupR rfl ?_
                  refine wp_getI (j := 24) rfl (congrArg Prod.fst (kf_89 X.1)) rfl ?_
                  refine Wp.topI (y := (h 89 24)) ((congrFun ((upd2_ne (by decide)).trans ((upd2_ne (by decide)).trans ((upd2_ne (by decide)).trans (upd2_ne (by decide))))) _).trans ((upd2_o (by decide)).trans (upd2_o (by decide)))) ?_
                  refine wp_iconst rfl ?_
                  refine wp_iadd rfl ?_
                  refine Wp.topI (y := ((h 89 24) + 1)) (w32_I (by clear H; unfold R32; omega)) ?_
                  refine wp_putI (j := 24) rfl (congrArg Prod.fst (kf_89 X.1)) rfl rfl rfl ?_
                  refine wp_iconst rfl ?_
                  exact wp_zret rfl rfl (by decide) H
        · replace H := H.2 c57
          refine wp_iload rfl rfl ?_
          refine wp_iconst rfl ?_
          refine wp_iceq (tn := 35) rfl rfl (fun c71 => ?_) (fun c71 => ?_)
          · replace H := H.1 c71
            refine wp_aload rfl rfl ?_
            refine wp_dupR rfl ?_
            refine wp_getI (j := 23) rfl (congrArg Prod.fst (kf_89 X.1)) rfl ?_
            refine wp_iconst rfl ?_
            refine wp_iadd rfl ?_
            have g72 := H.1
            replace H := H.2
            refine Wp.topI (y := ((h 89 23) + 1)) (w32_I g72) ?_
            refine wp_putI (j := 23) rfl (congrArg Prod.fst (kf_89 X.1)) rfl rfl rfl ?_
            refine wp_aload rfl rfl ?_
            refine wp_iload rfl rfl ?_
            refine wp_iload rfl rfl ?_
            refine wp_iconst rfl ?_
            refine wp_icneT (tn := 57) rfl rfl c7 ?_
            refine wp_iload rfl rfl ?_
            refine wp_iconst rfl ?_
            refine wp_icneT (tn := 67) rfl rfl c57 ?_
            refine wp_iconst rfl ?_
            refine wp_iload rfl rfl ?_
            refine wp_iconst rfl ?_
            refine wp_icneT (tn := 78) rfl rfl c7 ?_
            refine wp_iconst rfl ?_
            refine wp_call (k := 90) (ρ2 := 1) (L2 := [vr 89, vi x1, vi 3, vi 9, vu]) rfl rfl rfl (Nat.le_of_ble_eq_true rfl) (Nat.le_of_ble_eq_true rfl) (Nat.le_of_ble_eq_true rfl) (rcv_V rfl (congrArg Prod.fst (kf_89 X.1))) rfl ?_
            refine wp_aload rfl rfl ?_
            refine wp_iload rfl rfl ?_
            refine wp_call (k := 88) (ρ2 := 0) (L2 := [vr 89, vi x1]) rfl rfl rfl (Nat.le_of_ble_eq_true rfl) (Nat.le_of_ble_eq_true rfl) (Nat.le_of_ble_eq_true rfl) (rcv_V rfl (congrArg Prod.fst (kf_89 X.1))) rfl ?_
            refine wp_aload rfl rfl ?_
            refine wp_getI (j := 23) rfl (congrArg Prod.fst (kf_89 X.1)) rfl ?_
            refine Wp.topI (y := ((h 89 23) + 1)) upd2_s ?_
            refine wp_aload rfl rfl ?_
            refine wp_getR (r := 103) rfl (congrArg Prod.fst (kf_89 X.1)) rfl ?_
            refine wp_iload rfl rfl ?_
            refine wp_iaload rfl (kf_104 X.1) ⟨g1.1, g1.2⟩ ?_
            refine Wp.topI (y := (h 104 x1)) (congrFun (upd2_ne (by decide)) _) ?_
            refine wp_icge (tn := 30) rfl rfl (fun c73 => ?_) (fun c73 => ?_)
            · replace H := H.1 c73
              refine wp_iconst rfl ?_
              refine wp_iret rfl rfl ?_
              show Wp X _ 90 5 [vr 89, vi x1, vi 3, vi 9, vu] [vi (-1)] _ _
              refine wp_iconst rfl ?_
              refine wp_isub rfl ?_
              refine Wp.topI (y := (-49)) (by decide) ?_
              refine wp_istore (L2 := [vr 89, vi x1, vi 3, vi 9, vi (-49)]) rfl (Nat.le_of_ble_eq_true rfl) rfl ?_
              refine wp_iload rfl rfl ?_
              refine wp_i2l rfl ?_
              refine wp_iload rfl rfl ?_
              refine wp_i2l rfl ?_
              refine wp_iload rfl rfl ?_
              refine wp_i2l rfl ?_
              refine wp_call (k := 48) (ρ2 := 0) (L2 := [vl (-49), vu, vl 3, vu, vl 9, vu]) rfl rfl rfl (Nat.le_of_ble_eq_true rfl) (Nat.le_of_ble_eq_true rfl) (Nat.le_of_ble_eq_true rfl) (rcv_S rfl) rfl ?_
              refine wp_lload rfl rfl ?_
              refine wp_lload rfl rfl ?_
              refine wp_lcmp rfl ?_
              refine wp_iflt (tn := 17) rfl rfl (fun c74 => ?_) (fun c74 => ?_)
              · replace H := H.1 c74
                refine wp_iconst rfl ?_
                refine wp_zret rfl rfl (by decide) ?_
                show Wp X _ 90 20 [vr 89, vi x1, vi 3, vi 9, vi (-49)] [vi 0] _ _
                refine wp_ifneF (tn := 25) rfl rfl (by decide) ?_
                refine wp_iconst rfl ?_
                refine wp_iret rfl rfl ?_
                show Wp X _ 91 83 [vr 89, vi x1, vi (h 103 ((50 * x1) + (h 89 23))), vu, vu, vu] [vi (-1)] _ _
                refine wp_istore (L2 := [vr 89, vi x1, vi (h 103 ((50 * x1) + (h 89 23))), vi (-1), vu, vu]) rfl (Nat.le_of_ble_eq_true rfl) rfl ?_
                refine wp_iload rfl rfl ?_
                refine wp_istore (L2 := [vr 89, vi x1, vi (h 103 ((50 * x1) + (h 89 23))), vi (-1), vi (-1), vu]) rfl (Nat.le_of_ble_eq_true rfl) rfl ?_
                refine wp_iconst rfl ?_
                refine wp_istore (L2 := [vr 89, vi x1, vi (h 103 ((50 * x1) + (h 89 23))), vi (-1), vi (-1), vi 0]) rfl (Nat.le_of_ble_eq_true rfl) rfl ?_
                refine wp_iload rfl rfl ?_
                refine wp_ifltT (tn := 151) rfl rfl (by decide) ?_
                refine wp_iload rfl rfl ?_
                refine wp_ifltT (tn := 165) rfl rfl (by decide) ?_
                refine wp_iconst rfl ?_
                exact wp_zret rfl rfl (by decide) H
              · replace H := H.2 c74
                refine wp_lload rfl rfl ?_
                refine wp_lload rfl rfl ?_
                refine wp_lcmp rfl ?_
                refine wp_ifgt (tn := 17) rfl rfl (fun c75 => ?_) (fun c75 => ?_)
                · replace H := H.1 c75
                  refine wp_iconst rfl ?_
                  refine wp_zret rfl rfl (by decide) ?_
                  show Wp X _ 90 20 [vr 89, vi x1, vi 3, vi 9, vi (-49)] [vi 0] _ _
                  refine wp_ifneF (tn := 25) rfl rfl (by decide) ?_
                  refine wp_iconst rfl ?_
                  refine wp_iret rfl rfl ?_
                  show Wp X _ 91 83 [vr 89, vi x1, vi (h 103 ((50 * x1) + (h 89 23))), vu, vu, vu] [vi (-1)] _ _
                  refine wp_istore (L2 := [vr 89, vi x1, vi (h 103 ((50 * x1) + (h 89 23))), vi (-1), vu, vu]) rfl (Nat.le_of_ble_eq_true rfl) rfl ?_
                  refine wp_iload rfl rfl ?_
                  refine wp_istore (L2 := [vr 89, vi x1, vi (h 103 ((50 * x1) + (h 89 23))), vi (-1), vi (-1), vu]) rfl (Nat.le_of_ble_eq_true rfl) rfl ?_
                  refine wp_iconst rfl ?_
                  refine wp_istore (L2 := [vr 89, vi x1, vi (h 103 ((50 * x1) + (h 89 23))), vi (-1), vi (-1), vi 0]) rfl (Nat.le_of_ble_eq_true rfl) rfl ?_
                  refine wp_iload rfl rfl ?_
                  refine wp_ifltT (tn := 151) rfl rfl (by decide) ?_
                  refine wp_iload rfl rfl ?_
                  refine wp_ifltT (tn := 165) rfl rfl (by decide) ?_
                  refine wp_iconst rfl ?_
                  exact wp_zret rfl rfl (by decide) H
                · replace H := H.2 c75
                  refine wp_iconst rfl ?_
                  refine wp_goto (tn := 18) rfl rfl ?_
                  refine wp_zret rfl rfl (by decide) ?_
                  show Wp X _ 90 20 [vr 89, vi x1, vi 3, vi 9, vi (-49)] [vi 1] _ _
                  refine wp_ifneT (tn := 25) rfl rfl (by decide) ?_
                  refine wp_aload rfl rfl ?_
                  refine wp_dupR rfl ?_
                  refine wp_getI (j := 23) rfl (congrArg Prod.fst (kf_89 X.1)) rfl ?_
                  refine Wp.topI (y := ((h 89 23) + 1)) upd2_s ?_
                  refine wp_iconst rfl ?_
                  refine wp_iadd rfl ?_
                  have g76 := H.1
                  replace H := H.2
                  refine Wp.topI (y := (((h 89 23) + 1) + 1)) (w32_I g76) ?_
                  refine wp_putI (j := 23) rfl (congrArg Prod.fst (kf_89 X.1)) rfl rfl rfl ?_
                  refine wp_iload rfl rfl ?_
                  refine wp_iret rfl rfl ?_
                  show Wp X _ 91 83 [vr 89, vi x1, vi (h 103 ((50 * x1) + (h 89 23))), vu, vu, vu] [vi (-49)] _ _
                  refine wp_istore (L2 := [vr 89, vi x1, vi (h 103 ((50 * x1) + (h 89 23))), vi (-49), vu, vu]) rfl (Nat.le_of_ble_eq_true rfl) rfl ?_
                  refine wp_iload rfl rfl ?_
                  refine wp_istore (L2 := [vr 89, vi x1, vi (h 103 ((50 * x1) + (h 89 23))), vi (-49), vi (-49), vu]) rfl (Nat.le_of_ble_eq_true rfl) rfl ?_
                  refine wp_iconst rfl ?_
                  refine wp_istore (L2 := [vr 89, vi x1, vi (h 103 ((50 * x1) + (h 89 23))), vi (-49), vi (-49), vi 0]) rfl (Nat.le_of_ble_eq_true rfl) rfl ?_
                  refine wp_iload rfl rfl ?_
                  refine wp_ifltT (tn := 151) rfl rfl (by decide) ?_
                  refine wp_iload rfl rfl ?_
                  refine wp_ifltT (tn := 165) rfl rfl (by decide) ?_
                  refine wp_iconst rfl ?_
                  exact wp_zret rfl rfl (by decide) H
            · replace H := H.2 c73
              refine wp_aload rfl rfl ?_
              refine wp_getR (r := 102) rfl (congrArg Prod.fst (kf_89 X.1)) rfl ?_
              refine wp_iconst rfl ?_
              refine wp_iload rfl rfl ?_
              refine wp_imul rfl ?_
              refine Wp.topI (y := (50 * x1)) (w32_I (by clear H; unfold R32; omega)) ?_
              refine wp_aload rfl rfl ?_
              refine wp_getI (j := 23) rfl (congrArg Prod.fst (kf_89 X.1)) rfl ?_
              refine Wp.topI (y := ((h 89 23) + 1)) upd2_s ?_
              refine wp_iadd rfl ?_
              have g77 := H.1
              replace H := H.2
              refine Wp.topI (y := ((50 * x1) + ((h 89 23) + 1))) (w32_I g77) ?_
              have g78 := H.1
              replace H := H.2
              refine wp_iaload rfl (kf_103 X.1) g78 ?_
              refine Wp.topI (y := (h 103 ((50 * x1) + ((h 89 23) + 1)))) (congrFun (upd2_ne (by decide)) _) ?_
              refine wp_goto (tn := 31) rfl rfl ?_
              refine wp_iret rfl rfl ?_
              show Wp X _ 90 5 [vr 89, vi x1, vi 3, vi 9, vu] [vi (h 103 ((50 * x1) + ((h 89 23) + 1)))] _ _
              refine wp_iconst rfl ?_
              refine wp_isub rfl ?_
              have g79 := H.1
              replace H := H.2
              refine Wp.topI (y := ((h 103 ((50 * x1) + ((h 89 23) + 1))) - 48)) (w32_I g79) ?_
              refine wp_istore (L2 := [vr 89, vi x1, vi 3, vi 9, vi ((h 103 ((50 * x1) + ((h 89 23) + 1))) - 48)]) rfl (Nat.le_of_ble_eq_true rfl) rfl ?_
              refine wp_iload rfl rfl ?_
              refine wp_i2l rfl ?_
              refine wp_iload rfl rfl ?_
              refine wp_i2l rfl ?_
              refine wp_iload rfl rfl ?_
              refine wp_i2l rfl ?_
              refine wp_call (k := 48) (ρ2 := 0) (L2 := [vl ((h 103 ((50 * x1) + ((h 89 23) + 1))) - 48), vu, vl 3, vu, vl 9, vu]) rfl rfl rfl (Nat.le_of_ble_eq_true rfl) (Nat.le_of_ble_eq_true rfl) (Nat.le_of_ble_eq_true rfl) (rcv_S rfl) rfl ?_
              refine wp_lload rfl rfl ?_
              refine wp_lload rfl rfl ?_
              refine wp_lcmp rfl ?_
              refine wp_iflt (tn := 17) rfl rfl (fun c80 => ?_) (fun c80 => ?_)
              · replace H := H.1 c80
                refine wp_iconst rfl ?_
                refine wp_zret rfl rfl (by decide) ?_
                show Wp X _ 90 20 [vr 89, vi x1, vi 3, vi 9, vi ((h 103 ((50 * x1) + ((h 89 23) + 1))) - 48)] [vi 0] _ _
                refine wp_ifneF (tn := 25) rfl rfl (by decide) ?_
                refine wp_iconst rfl ?_
                refine wp_iret rfl rfl ?_
                show Wp X _ 91 83 [vr 89, vi x1, vi (h 103 ((50 * x1) + (h 89 23))), vu, vu, vu] [vi (-1)] _ _
                refine wp_istore (L2 := [vr 89, vi x1, vi (h 103 ((50 * x1) + (h 89 23))), vi (-1), vu, vu]) rfl (Nat.le_of_ble_eq_true rfl) rfl ?_
                refine wp_iload rfl rfl ?_
                refine wp_istore (L2 := [vr 89, vi x1, vi (h 103 ((50 * x1) + (h 89 23))), vi (-1), vi (-1), vu]) rfl (Nat.le_of_ble_eq_true rfl) rfl ?_
                refine wp_iconst rfl ?_
                refine wp_istore (L2 := [vr 89, vi x1, vi (h 103 ((50 * x1) + (h 89 23))), vi (-1), vi (-1), vi 0]) rfl (Nat.le_of_ble_eq_true rfl) rfl ?_
                refine wp_iload rfl rfl ?_
                refine wp_ifltT (tn := 151) rfl rfl (by decide) ?_
                refine wp_iload rfl rfl ?_
                refine wp_ifltT (tn := 165) rfl rfl (by decide) ?_
                refine wp_iconst rfl ?_
                exact wp_zret rfl rfl (by decide) H
              · replace H := H.2 c80
                refine wp_lload rfl rfl ?_
                refine wp_lload rfl rfl ?_
                refine wp_lcmp rfl ?_
                refine wp_ifgt (tn := 17) rfl rfl (fun c81 => ?_) (fun c81 => ?_)
                · replace H := H.1 c81
                  refine wp_iconst rfl ?_
                  refine wp_zret rfl rfl (by decide) ?_
                  show Wp X _ 90 20 [vr 89, vi x1, vi 3, vi 9, vi ((h 103 ((50 * x1) + ((h 89 23) + 1))) - 48)] [vi 0] _ _
                  refine wp_ifneF (tn := 25) rfl rfl (by decide) ?_
                  refine wp_iconst rfl ?_
                  refine wp_iret rfl rfl ?_
                  show Wp X _ 91 83 [vr 89, vi x1, vi (h 103 ((50 * x1) + (h 89 23))), vu, vu, vu] [vi (-1)] _ _
                  refine wp_istore (L2 := [vr 89, vi x1, vi (h 103 ((50 * x1) + (h 89 23))), vi (-1), vu, vu]) rfl (Nat.le_of_ble_eq_true rfl) rfl ?_
                  refine wp_iload rfl rfl ?_
                  refine wp_istore (L2 := [vr 89, vi x1, vi (h 103 ((50 * x1) + (h 89 23))), vi (-1), vi (-1), vu]) rfl (Nat.le_of_ble_eq_true rfl) rfl ?_
                  refine wp_iconst rfl ?_
                  refine wp_istore (L2 := [vr 89, vi x1, vi (h 103 ((50 * x1) + (h 89 23))), vi (-1), vi (-1), vi 0]) rfl (Nat.le_of_ble_eq_true rfl) rfl ?_
                  refine wp_iload rfl rfl ?_
                  refine wp_ifltT (tn := 151) rfl rfl (by decide) ?_
                  refine wp_iload rfl rfl ?_
                  refine wp_ifltT (tn := 165) rfl rfl (by decide) ?_
                  refine wp_iconst rfl ?_
                  exact wp_zret rfl rfl (by decide) H
                · replace H := H.2 c81
                  refine wp_iconst rfl ?_
                  refine wp_goto (tn := 18) rfl rfl ?_
                  refine wp_zret rfl rfl (by decide) ?_
                  show Wp X _ 90 20 [vr 89, vi x1, vi 3, vi 9, vi ((h 103 ((50 * x1) + ((h 89 23) + 1))) - 48)] [vi 1] _ _
                  refine wp_ifneT (tn := 25) rfl rfl (by decide) ?_
                  refine wp_aload rfl rfl ?_
                  refine wp_dupR rfl ?_
                  refine wp_getI (j := 23) rfl (congrArg Prod.fst (kf_89 X.1)) rfl ?_
                  refine Wp.topI (y := ((h 89 23) + 1)) upd2_s ?_
                  refine wp_iconst rfl ?_
                  refine wp_iadd rfl ?_
                  have g82 := H.1
                  replace H := H.2
                  refine Wp.topI (y := (((h 89 23) + 1) + 1)) (w32_I g82) ?_
                  refine wp_putI (j := 23) rfl (congrArg Prod.fst (kf_89 X.1)) rfl rfl rfl ?_
                  refine wp_iload rfl rfl ?_
                  refine wp_iret rfl rfl ?_
                  show Wp X _ 91 83 [vr 89, vi x1, vi (h 103 ((50 * x1) + (h 89 23))), vu, vu, vu] [vi ((h 103 ((50 * x1) + ((h 89 23) + 1))) - 48)] _ _
                  refine wp_istore (L2 := [vr 89, vi x1, vi (h 103 ((50 * x1) + (h 89 23))), vi ((h 103 ((50 * x1) + ((h 89 23) + 1))) - 48), vu, vu]) rfl (Nat.le_of_ble_eq_true rfl) rfl ?_
                  refine wp_iload rfl rfl ?_
                  refine wp_istore (L2 := [vr 89, vi x1, vi (h 103 ((50 * x1) + (h 89 23))), vi ((h 103 ((50 * x1) + ((h 89 23) + 1))) - 48), vi ((h 103 ((50 * x1) + ((h 89 23) + 1))) - 48), vu]) rfl (Nat.le_of_ble_eq_true rfl) rfl ?_
                  refine wp_iconst rfl ?_
                  refine wp_istore (L2 := [vr 89, vi x1, vi (h 103 ((50 * x1) + (h 89 23))), vi ((h 103 ((50 * x1) + ((h 89 23) + 1))) - 48), vi ((h 103 ((50 * x1) + ((h 89 23) + 1))) - 48), vi 0]) rfl (Nat.le_of_ble_eq_true rfl) rfl ?_
                  refine wp_iload rfl rfl ?_
                  refine wp_iflt (tn := 151) rfl rfl (fun c83 => ?_) (fun c83 => ?_)
                  · replace H := H.1 c83
                    refine wp_iload rfl rfl ?_
                    refine wp_ifltT (tn := 165) rfl rfl c83 ?_
                    refine wp_iconst rfl ?_
                    exact wp_zret rfl rfl (by decide) H
                  · replace H := H.2 c83
                    refine wp_iload rfl rfl ?_
                    refine wp_iconst rfl ?_
                    refine wp_icneT (tn := 151) rfl rfl c7 ?_
                    refine wp_iload rfl rfl ?_
                    refine wp_ifltF (tn := 165) rfl rfl c83 ?_
                    refine wp_iload rfl rfl ?_
                    refine wp_ifltF (tn := 165) rfl rfl c83 ?_
                    refine wp_iload rfl rfl ?_
                    refine wp_ifgeT (tn := 167) rfl rfl (by decide) ?_
                    refine wp_aload rfl rfl ?_
                    refine wp_getR (r := 104) rfl (congrArg Prod.fst (kf_89 X.1)) rfl ?_
                    refine wp_aload rfl rfl ?_
                    refine wp_getI (j := 24) rfl (congrArg Prod.fst (kf_89 X.1)) rfl ?_
                    refine Wp.topI (y := (h 89 24)) ((upd2_o (by decide)).trans (upd2_o (by decide))) ?_
                    refine wp_iload rfl rfl ?_
                    have g84 := H.1
                    replace H := H.2
                    refine wp_iastore rfl (kf_105 X.1) g84 ?_
                    refine wp_aload rfl rfl ?_
                    refine wp_getR (r := 105) rfl (congrArg Prod.fst (kf_89 X.1)) rfl ?_
                    refine wp_aload rfl rfl ?_
                    refine wp_getI (j := 24) rfl (congrArg Prod.fst (kf_89 X.1)) rfl ?_
                    refine Wp.topI (y := (h 89 24)) ((congrFun (upd2_ne (by decide)) _).trans ((upd2_o (by decide)).trans (upd2_o (by decide)))) ?_
                    refine wp_iload rfl rfl ?_
                    refine wp_iastore rfl (kf_106 X.1) ⟨g84.1, g84.2⟩ ?_
                    refine wp_aload rfl rfl ?_
                    refine wp_getR (r := 106) rfl (congrArg Prod.fst (kf_89 X.1)) rfl ?_
                    refine wp_aload rfl rfl ?_
                    refine wp_getI (j := 24) rfl (congrArg Prod.fst (kf_89 X.1)) rfl ?_
                    refine Wp.topI (y := (h 89 24)) ((congrFun ((upd2_ne (by decide)).trans (upd2_ne (by decide))) _).trans ((upd2_o (by decide)).trans (upd2_o (by decide)))) ?_
                    refine wp_iload rfl rfl ?_
                    refine wp_iastore rfl (kf_107 X.1) ⟨g84.1, g84.2⟩ ?_
                    refine wp_aload rfl rfl ?_
                    refine wp_getR (r := 107) rfl (congrArg Prod.fst (kf_89 X.1)) rfl ?_
                    refine wp_aload rfl rfl ?_
                    refine wp_getI (j := 24) rfl (congrArg Prod.fst (kf_89 X.1)) rfl ?_
                    refine Wp.topI (y := (h 89 24)) ((congrFun ((upd2_ne (by decide)).trans ((upd2_ne (by decide)).trans (upd2_ne (by decide)))) _).trans ((upd2_o (by decide)).trans (upd2_o (by decide)))) ?_
                    refine wp_iload rfl rfl ?_
                    refine wp_iastore rfl (kf_108 X.1) ⟨g84.1, g84.2⟩ ?_
                    refine wp_aload rfl rfl ?_
                    refine wp_dupR rfl ?_
                    refine wp_getI (j := 24) rfl (congrArg Prod.fst (kf_89 X.1)) rfl ?_
                    refine Wp.topI (y := (h 89 24)) ((congrFun ((upd2_ne (by decide)).trans ((upd2_ne (by decide)).trans ((upd2_ne (by decide)).trans (upd2_ne (by decide))))) _).trans ((upd2_o (by decide)).trans (upd2_o (by decide)))) ?_
                    refine wp_iconst rfl ?_
                    refine wp_iadd rfl ?_
                    refine Wp.topI (y := ((h 89 24) + 1)) (w32_I (by clear H; unfold R32; omega)) ?_
                    refine wp_putI (j := 24) rfl (congrArg Prod.fst (kf_89 X.1)) rfl rfl rfl ?_
                    refine wp_iconst rfl ?_
                    exact wp_zret rfl rfl (by decide) H
          · replace H := H.2 c71
            refine wp_iconst rfl ?_
            exact wp_zret rfl rfl (by decide) H
/-- WarnLinesModel.reads(I)I, from 0 -/
theorem S92_89_0 {X : Nat × (Int → Int)} {h : HP} {Q : bQ} (x1 : Int) (H : ((0 ≤ x1 ∧ x1 < 2) ∧ (((h 104 x1) ≤ 0 → Wp X 3 92 25 [vr 89, vi x1, vi 0] [] (upd2 (upd2 h 89 23 0) 89 24 0) Q) ∧ (0 < (h 104 x1) → Wp X 3 92 25 [vr 89, vi x1, vi 1] [] (upd2 (upd2 h 89 23 0) 89 24 0) Q)))) : Wp X 3 92 0 [vr 89, vi x1, vu] [] h Q := by
  refine wp_aload rfl rfl ?_
  refine wp_iconst rfl ?_
  refine wp_putI (j := 23) rfl (congrArg Prod.fst (kf_89 X.1)) rfl rfl rfl ?_
  refine wp_aload rfl rfl ?_
  refine wp_iconst rfl ?_
  refine wp_putI (j := 24) rfl (congrArg Prod.fst (kf_89 X.1)) rfl rfl rfl ?_
  refine wp_aload rfl rfl ?_
  refine wp_getR (r := 103) rfl (congrArg Prod.fst (kf_89 X.1)) rfl ?_
  refine wp_iload rfl rfl ?_
  have g1 := H.1
  replace H := H.2
  refine wp_iaload rfl (kf_104 X.1) g1 ?_
  refine Wp.topI (y := (h 104 x1)) (congrFun ((upd2_ne (by decide)).trans (upd2_ne (by decide))) _) ?_
  refine wp_ifle (tn := 23) rfl rfl (fun c2 => ?_) (fun c2 => ?_)
  · replace H := H.1 c2
    refine wp_iconst rfl ?_
    refine wp_istore (L2 := [vr 89, vi x1, vi 0]) rfl (Nat.le_of_ble_eq_true rfl) rfl ?_
    exact H
  · replace H := H.2 c2
    refine wp_iconst rfl ?_
    refine wp_goto (tn := 24) rfl rfl ?_
    refine wp_istore (L2 := [vr 89, vi x1, vi 1]) rfl (Nat.le_of_ble_eq_true rfl) rfl ?_
    exact H
/-- WarnLinesModel.reads(I)I, from 25 -/
theorem S92_89_25 {X : Nat × (Int → Int)} {h : HP} {Q : bQ} (x1 : Int) (x2 : Int) (H : ((x2 = 0 → Q (some (vi (-1))) h) ∧ (x2 ≠ 0 → Wp X 2 91 0 [vr 89, vi x1, vu, vu, vu, vu] [] h (fun v h' => Wp X 3 92 34 [vr 89, vi x1, vi x2] (psh v []) h' Q)))) : Wp X 3 92 25 [vr 89, vi x1, vi x2] [] h Q := by
  refine wp_iload rfl rfl ?_
  refine wp_ifeq (tn := 101) rfl rfl (fun c1 => ?_) (fun c1 => ?_)
  · replace H := H.1 c1
    refine wp_iconst rfl ?_
    exact wp_iret rfl rfl H
  · replace H := H.2 c1
    refine wp_aload rfl rfl ?_
    refine wp_iload rfl rfl ?_
    exact wp_call (k := 91) (ρ2 := 2) (L2 := [vr 89, vi x1, vu, vu, vu, vu]) rfl rfl rfl (Nat.le_of_ble_eq_true rfl) (Nat.le_of_ble_eq_true rfl) (Nat.le_of_ble_eq_true rfl) (rcv_V rfl (congrArg Prod.fst (kf_89 X.1))) rfl H
/-- WarnLinesModel.reads(I)I, from 34 -/
theorem S92_89_34 {X : Nat × (Int → Int)} {h : HP} {Q : bQ} (x1 : Int) (zx2 : aV) (s0 : Int) (H : ((s0 ≠ 0 → ((0 ≤ x1 ∧ x1 < 2) ∧ (((h 104 x1) ≤ (h 89 23) → ((R32 ((h 89 23) + 0)) ∧ Wp X 3 92 25 [vr 89, vi x1, vi 0] [] (upd2 h 89 23 ((h 89 23) + 0)) Q)) ∧ ((h 89 23) < (h 104 x1) → ((R32 ((50 * x1) + (h 89 23))) ∧ ((0 ≤ ((50 * x1) + (h 89 23)) ∧ ((50 * x1) + (h 89 23)) < 100) ∧ (((h 103 ((50 * x1) + (h 89 23))) = 59 → ((R32 ((h 89 23) + 1)) ∧ Wp X 3 92 25 [vr 89, vi x1, vi 1] [] (upd2 h 89 23 ((h 89 23) + 1)) Q)) ∧ ((h 103 ((50 * x1) + (h 89 23))) ≠ 59 → Q (some (vi (h 89 23))) h)))))))) ∧ (s0 = 0 → Q (some (vi (h 89 23))) h))) : Wp X 3 92 34 [vr 89, vi x1, zx2] [vi s0] h Q := by
  refine wp_ifne (tn := 42) rfl rfl (fun c1 => ?_) (fun c1 => ?_)
  · replace H := H.1 c1
    refine wp_aload rfl rfl ?_
    refine wp_getI (j := 23) rfl (congrArg Prod.fst (kf_89 X.1)) rfl ?_
    refine wp_aload rfl rfl ?_
    refine wp_getR (r := 103) rfl (congrArg Prod.fst (kf_89 X.1)) rfl ?_
    refine wp_iload rfl rfl ?_
    have g2 := H.1
    replace H := H.2
    refine wp_iaload rfl (kf_104 X.1) g2 ?_
    refine wp_icge (tn := 59) rfl rfl (fun c3 => ?_) (fun c3 => ?_)
    · replace H := H.1 c3
      refine wp_iconst rfl ?_
      refine wp_istore (L2 := [vr 89, vi x1, vi 0]) rfl (Nat.le_of_ble_eq_true rfl) rfl ?_
      refine wp_iload rfl rfl ?_
      refine wp_ifeqT (tn := 80) rfl rfl (by decide) ?_
      refine wp_aload rfl rfl ?_
      refine wp_dupR rfl ?_
      refine wp_getI (j := 23) rfl (congrArg Prod.fst (kf_89 X.1)) rfl ?_
      refine wp_iload rfl rfl ?_
      refine wp_ifeqT (tn := 93) rfl rfl (by decide) ?_
      refine wp_iconst rfl ?_
      refine wp_iadd rfl ?_
      have g4 := H.1
      replace H := H.2
      refine Wp.topI (y := ((h 89 23) + 0)) (w32_I g4) ?_
      refine wp_putI (j := 23) rfl (congrArg Prod.fst (kf_89 X.1)) rfl rfl rfl ?_
      refine wp_goto (tn := 25) rfl rfl ?_
      exact H
    · replace H := H.2 c3
      refine wp_iconst rfl ?_
      refine wp_goto (tn := 60) rfl rfl ?_
      refine wp_istore (L2 := [vr 89, vi x1, vi 1]) rfl (Nat.le_of_ble_eq_true rfl) rfl ?_
      refine wp_iload rfl rfl ?_
      refine wp_ifeqF (tn := 80) rfl rfl (by decide) ?_
      refine wp_aload rfl rfl ?_
      refine wp_iload rfl rfl ?_
      refine wp_call (k := 88) (ρ2 := 0) (L2 := [vr 89, vi x1]) rfl rfl rfl (Nat.le_of_ble_eq_true rfl) (Nat.le_of_ble_eq_true rfl) (Nat.le_of_ble_eq_true rfl) (rcv_V rfl (congrArg Prod.fst (kf_89 X.1))) rfl ?_
      refine wp_aload rfl rfl ?_
      refine wp_getI (j := 23) rfl (congrArg Prod.fst (kf_89 X.1)) rfl ?_
      refine wp_aload rfl rfl ?_
      refine wp_getR (r := 103) rfl (congrArg Prod.fst (kf_89 X.1)) rfl ?_
      refine wp_iload rfl rfl ?_
      refine wp_iaload rfl (kf_104 X.1) ⟨g2.1, g2.2⟩ ?_
      refine wp_icgeF (tn := 30) rfl rfl c3 ?_
      refine wp_aload rfl rfl ?_
      refine wp_getR (r := 102) rfl (congrArg Prod.fst (kf_89 X.1)) rfl ?_
      refine wp_iconst rfl ?_
      refine wp_iload rfl rfl ?_
      refine wp_imul rfl ?_
      refine Wp.topI (y := (50 * x1)) (w32_I (by clear H; unfold R32; omega)) ?_
      refine wp_aload rfl rfl ?_
      refine wp_getI (j := 23) rfl (congrArg Prod.fst (kf_89 X.1)) rfl ?_
      refine wp_iadd rfl ?_
      have g5 := H.1
      replace H := H.2
      refine Wp.topI (y := ((50 * x1) + (h 89 23))) (w32_I g5) ?_
      have g6 := H.1
      replace H := H.2
      refine wp_iaload rfl (kf_103 X.1) g6 ?_
      refine wp_goto (tn := 31) rfl rfl ?_
      refine wp_iret rfl rfl ?_
      show Wp X _ 92 70 [vr 89, vi x1, vi 1] [vi (h 103 ((50 * x1) + (h 89 23)))] _ _
      refine wp_iconst rfl ?_
      refine wp_iceq (tn := 80) rfl rfl (fun c7 => ?_) (fun c7 => ?_)
      · replace H := H.1 c7
        refine wp_aload rfl rfl ?_
        refine wp_dupR rfl ?_
        refine wp_getI (j := 23) rfl (congrArg Prod.fst (kf_89 X.1)) rfl ?_
        refine wp_iload rfl rfl ?_
        refine wp_ifeqF (tn := 93) rfl rfl (by decide) ?_
        refine wp_iconst rfl ?_
        refine wp_goto (tn := 94) rfl rfl ?_
        refine wp_iadd rfl ?_
        have g8 := H.1
        replace H := H.2
        refine Wp.topI (y := ((h 89 23) + 1)) (w32_I g8) ?_
        refine wp_putI (j := 23) rfl (congrArg Prod.fst (kf_89 X.1)) rfl rfl rfl ?_
        refine wp_goto (tn := 25) rfl rfl ?_
        exact H
      · replace H := H.2 c7
        refine wp_aload rfl rfl ?_
        refine wp_getI (j := 23) rfl (congrArg Prod.fst (kf_89 X.1)) rfl ?_
        exact wp_iret rfl rfl H
  · replace H := H.2 c1
    refine wp_aload rfl rfl ?_
    refine wp_getI (j := 23) rfl (congrArg Prod.fst (kf_89 X.1)) rfl ?_
    exact wp_iret rfl rfl H
/-- WarnLinesModel.fault(I)I, from 0 -/
theorem S93_89_0 {X : Nat × (Int → Int)} {h : HP} {Q : bQ} (x1 : Int) (H : (((lcp x1 0) < 0 → Q (some (vi (-2))) h) ∧ (0 ≤ (lcp x1 0) → ((0 < (lcp x1 1) → Q (some (vi (-2))) h) ∧ ((lcp x1 1) ≤ 0 → Wp X 3 92 0 [vr 89, vi x1, vu] [] h (fun v h' => Wp X 4 93 12 [vr 89, vi x1] (psh v []) h' Q)))))) : Wp X 4 93 0 [vr 89, vi x1] [] h Q := by
  refine wp_iload rfl rfl ?_
  refine wp_call (k := 50) (ρ2 := 1) (L2 := [vi x1]) rfl rfl rfl (Nat.le_of_ble_eq_true rfl) (Nat.le_of_ble_eq_true rfl) (Nat.le_of_ble_eq_true rfl) (rcv_S rfl) rfl ?_
  refine wp_iload rfl rfl ?_
  refine wp_i2l rfl ?_
  refine wp_sipush rfl ?_
  refine wp_sipush rfl ?_
  refine wp_call (k := 48) (ρ2 := 0) (L2 := [vl x1, vu, vl 0, vu, vl 1, vu]) rfl rfl rfl (Nat.le_of_ble_eq_true rfl) (Nat.le_of_ble_eq_true rfl) (Nat.le_of_ble_eq_true rfl) (rcv_S rfl) rfl ?_
  refine wp_lload rfl rfl ?_
  refine wp_lload rfl rfl ?_
  refine wp_lcmp rfl ?_
  refine wp_iflt (tn := 17) rfl rfl (fun c1 => ?_) (fun c1 => ?_)
  · replace H := H.1 c1
    refine wp_iconst rfl ?_
    refine wp_zret rfl rfl (by decide) ?_
    show Wp X _ 50 7 [vi x1] [vi 0] _ _
    refine wp_zret rfl rfl (by decide) ?_
    show Wp X _ 93 4 [vr 89, vi x1] [vi 0] _ _
    refine wp_ifeqT (tn := 15) rfl rfl (by decide) ?_
    refine wp_iconst rfl ?_
    exact wp_iret rfl rfl H
  · replace H := H.2 c1
    refine wp_lload rfl rfl ?_
    refine wp_lload rfl rfl ?_
    refine wp_lcmp rfl ?_
    refine wp_ifgt (tn := 17) rfl rfl (fun c2 => ?_) (fun c2 => ?_)
    · replace H := H.1 c2
      refine wp_iconst rfl ?_
      refine wp_zret rfl rfl (by decide) ?_
      show Wp X _ 50 7 [vi x1] [vi 0] _ _
      refine wp_zret rfl rfl (by decide) ?_
      show Wp X _ 93 4 [vr 89, vi x1] [vi 0] _ _
      refine wp_ifeqT (tn := 15) rfl rfl (by decide) ?_
      refine wp_iconst rfl ?_
      exact wp_iret rfl rfl H
    · replace H := H.2 c2
      refine wp_iconst rfl ?_
      refine wp_goto (tn := 18) rfl rfl ?_
      refine wp_zret rfl rfl (by decide) ?_
      show Wp X _ 50 7 [vi x1] [vi 1] _ _
      refine wp_zret rfl rfl (by decide) ?_
      show Wp X _ 93 4 [vr 89, vi x1] [vi 1] _ _
      refine wp_ifeqF (tn := 15) rfl rfl (by decide) ?_
      refine wp_aload rfl rfl ?_
      refine wp_iload rfl rfl ?_
      exact wp_call (k := 92) (ρ2 := 3) (L2 := [vr 89, vi x1, vu]) rfl rfl rfl (Nat.le_of_ble_eq_true rfl) (Nat.le_of_ble_eq_true rfl) (Nat.le_of_ble_eq_true rfl) (rcv_V rfl (congrArg Prod.fst (kf_89 X.1))) rfl H
/-- WarnLinesModel.fault(I)I, from 12 -/
theorem S93_89_12 {X : Nat × (Int → Int)} {h : HP} {Q : bQ} (zx0 : aV) (zx1 : aV) (s0 : Int) (H : Q (some (vi s0)) h) : Wp X 4 93 12 [zx0, zx1] [vi s0] h Q := by
  refine wp_goto (tn := 17) rfl rfl ?_
  exact wp_iret rfl rfl H
/-- WarnLinesModel.isZoned(II)Z, from 0 -/
theorem S94_89_0 {X : Nat × (Int → Int)} {h : HP} {Q : bQ} (x1 : Int) (x2 : Int) (H : Wp X 2 94 8 [vr 89, vi x1, vi x2, vi 0, vi 0, vi x2, vu, vu] [] h Q) : Wp X 2 94 0 [vr 89, vi x1, vi x2, vu, vu, vu, vu, vu] [] h Q := by
  refine wp_iconst rfl ?_
  refine wp_istore (L2 := [vr 89, vi x1, vi x2, vi 0, vu, vu, vu, vu]) rfl (Nat.le_of_ble_eq_true rfl) rfl ?_
  refine wp_iconst rfl ?_
  refine wp_istore (L2 := [vr 89, vi x1, vi x2, vi 0, vi 0, vu, vu, vu]) rfl (Nat.le_of_ble_eq_true rfl) rfl ?_
  refine wp_iload rfl rfl ?_
  refine wp_istore (L2 := [vr 89, vi x1, vi x2, vi 0, vi 0, vi x2, vu, vu]) rfl (Nat.le_of_ble_eq_true rfl) rfl ?_
  exact H
/-- WarnLinesModel.isZoned(II)Z, from 8 -/
theorem S94_89_8 {X : Nat × (Int → Int)} {h : HP} {Q : bQ} (x1 : Int) (x2 : Int) (x3 : Int) (x4 : Int) (x5 : Int) (zx6 : aV) (zx7 : aV) (H : ((x5 < 0 → ((0 ≤ x1 ∧ x1 < 8) ∧ (((h 106 x1) ≤ x3 → Q (some (vi 1)) h) ∧ (x3 < (h 106 x1) → ((x4 < (h 106 x1) → Q (some (vi 0)) h) ∧ ((h 106 x1) ≤ x4 → Q (some (vi 1)) h)))))) ∧ (0 ≤ x5 → ((0 ≤ x1 ∧ x1 < 8) ∧ ((R32 (x2 - (h 107 x1))) ∧ ((x5 ≤ (x2 - (h 107 x1)) → (((h 106 x1) ≤ x3 → Q (some (vi 1)) h) ∧ (x3 < (h 106 x1) → ((x4 < (h 106 x1) → Q (some (vi 0)) h) ∧ ((h 106 x1) ≤ x4 → Q (some (vi 1)) h))))) ∧ ((x2 - (h 107 x1)) < x5 → ((0 ≤ x5 ∧ x5 < 20) ∧ Wp X 1 77 0 [vr 89, vi (h 109 x5), vu, vu, vu] [] h (fun v h' => Wp X 2 94 41 [vr 89, vi x1, vi x2, vi x3, vi x4, vi x5, vi (h 109 x5), zx7] (psh v []) h' Q))))))))) : Wp X 2 94 8 [vr 89, vi x1, vi x2, vi x3, vi x4, vi x5, zx6, zx7] [] h Q := by
  refine wp_iload rfl rfl ?_
  refine wp_iflt (tn := 109) rfl rfl (fun c1 => ?_) (fun c1 => ?_)
  · replace H := H.1 c1
    refine wp_iload rfl rfl ?_
    refine wp_aload rfl rfl ?_
    refine wp_getR (r := 105) rfl (congrArg Prod.fst (kf_89 X.1)) rfl ?_
    refine wp_iload rfl rfl ?_
    have g2 := H.1
    replace H := H.2
    refine wp_iaload rfl (kf_106 X.1) g2 ?_
    refine wp_icge (tn := 130) rfl rfl (fun c3 => ?_) (fun c3 => ?_)
    · replace H := H.1 c3
      refine wp_iconst rfl ?_
      refine wp_goto (tn := 135) rfl rfl ?_
      exact wp_zret rfl rfl (by decide) H
    · replace H := H.2 c3
      refine wp_iload rfl rfl ?_
      refine wp_aload rfl rfl ?_
      refine wp_getR (r := 105) rfl (congrArg Prod.fst (kf_89 X.1)) rfl ?_
      refine wp_iload rfl rfl ?_
      refine wp_iaload rfl (kf_106 X.1) ⟨g2.1, g2.2⟩ ?_
      refine wp_iclt (tn := 134) rfl rfl (fun c4 => ?_) (fun c4 => ?_)
      · replace H := H.1 c4
        refine wp_iconst rfl ?_
        exact wp_zret rfl rfl (by decide) H
      · replace H := H.2 c4
        refine wp_iconst rfl ?_
        refine wp_goto (tn := 135) rfl rfl ?_
        exact wp_zret rfl rfl (by decide) H
  · replace H := H.2 c1
    refine wp_iload rfl rfl ?_
    refine wp_iload rfl rfl ?_
    refine wp_aload rfl rfl ?_
    refine wp_getR (r := 106) rfl (congrArg Prod.fst (kf_89 X.1)) rfl ?_
    refine wp_iload rfl rfl ?_
    have g5 := H.1
    replace H := H.2
    refine wp_iaload rfl (kf_107 X.1) g5 ?_
    refine wp_isub rfl ?_
    have g6 := H.1
    replace H := H.2
    refine Wp.topI (y := (x2 - (h 107 x1))) (w32_I g6) ?_
    refine wp_icle (tn := 109) rfl rfl (fun c7 => ?_) (fun c7 => ?_)
    · replace H := H.1 c7
      refine wp_iload rfl rfl ?_
      refine wp_aload rfl rfl ?_
      refine wp_getR (r := 105) rfl (congrArg Prod.fst (kf_89 X.1)) rfl ?_
      refine wp_iload rfl rfl ?_
      refine wp_iaload rfl (kf_106 X.1) ⟨g5.1, g5.2⟩ ?_
      refine wp_icge (tn := 130) rfl rfl (fun c8 => ?_) (fun c8 => ?_)
      · replace H := H.1 c8
        refine wp_iconst rfl ?_
        refine wp_goto (tn := 135) rfl rfl ?_
        exact wp_zret rfl rfl (by decide) H
      · replace H := H.2 c8
        refine wp_iload rfl rfl ?_
        refine wp_aload rfl rfl ?_
        refine wp_getR (r := 105) rfl (congrArg Prod.fst (kf_89 X.1)) rfl ?_
        refine wp_iload rfl rfl ?_
        refine wp_iaload rfl (kf_106 X.1) ⟨g5.1, g5.2⟩ ?_
        refine wp_iclt (tn := 134) rfl rfl (fun c9 => ?_) (fun c9 => ?_)
        · replace H := H.1 c9
          refine wp_iconst rfl ?_
          exact wp_zret rfl rfl (by decide) H
        · replace H := H.2 c9
          refine wp_iconst rfl ?_
          refine wp_goto (tn := 135) rfl rfl ?_
          exact wp_zret rfl rfl (by decide) H
    · replace H := H.2 c7
      refine wp_aload rfl rfl ?_
      refine wp_getR (r := 108) rfl (congrArg Prod.fst (kf_89 X.1)) rfl ?_
      refine wp_iload rfl rfl ?_
      have g10 := H.1
      replace H := H.2
      refine wp_iaload rfl (kf_109 X.1) g10 ?_
      refine wp_istore (L2 := [vr 89, vi x1, vi x2, vi x3, vi x4, vi x5, vi (h 109 x5), zx7]) rfl (Nat.le_of_ble_eq_true rfl) rfl ?_
      refine wp_aload rfl rfl ?_
      refine wp_iload rfl rfl ?_
      exact wp_call (k := 77) (ρ2 := 1) (L2 := [vr 89, vi (h 109 x5), vu, vu, vu]) rfl rfl rfl (Nat.le_of_ble_eq_true rfl) (Nat.le_of_ble_eq_true rfl) (Nat.le_of_ble_eq_true rfl) (rcv_V rfl (congrArg Prod.fst (kf_89 X.1))) rfl H
/-- WarnLinesModel.isZoned(II)Z, from 41 -/
theorem S94_89_41 {X : Nat × (Int → Int)} {h : HP} {Q : bQ} (x1 : Int) (x2 : Int) (x3 : Int) (x4 : Int) (x5 : Int) (x6 : Int) (zx7 : aV) (s0 : Int) (H : ((0 ≤ x1 ∧ x1 < 8) ∧ ((s0 < (h 108 x1) → ((R32 (x3 + 0)) ∧ ((R32 (x4 + 0)) ∧ ((R32 (x5 + (-1))) ∧ Wp X 2 94 8 [vr 89, vi x1, vi x2, vi (x3 + 0), vi (x4 + 0), vi (x5 + (-1)), vi x6, vi 0] [] h Q)))) ∧ ((h 108 x1) ≤ s0 → ((0 ≤ x6 ∧ x6 < 20) ∧ ((R64 ((h 99 x6) * (h 89 19))) ∧ ((R64 (((h 99 x6) * (h 89 19)) - (h 89 17))) ∧ ((R64 (5 * (((h 99 x6) * (h 89 19)) - (h 89 17)))) ∧ (((lcp (5 * (((h 99 x6) * (h 89 19)) - (h 89 17))) 0) ≤ 0 → ((0 ≤ (lcp (5 * (((h 99 x6) * (h 89 19)) - (h 89 17))) 0) → ((R32 (x3 + 0)) ∧ ((R32 (x4 + 0)) ∧ ((R32 (x5 + (-1))) ∧ Wp X 2 94 8 [vr 89, vi x1, vi x2, vi (x3 + 0), vi (x4 + 0), vi (x5 + (-1)), vi x6, vi 1] [] h Q)))) ∧ ((lcp (5 * (((h 99 x6) * (h 89 19)) - (h 89 17))) 0) < 0 → ((R32 (x3 + 0)) ∧ ((R32 (x4 + 1)) ∧ ((R32 (x5 + (-1))) ∧ Wp X 2 94 8 [vr 89, vi x1, vi x2, vi (x3 + 0), vi (x4 + 1), vi (x5 + (-1)), vi x6, vi 1] [] h Q)))))) ∧ (0 < (lcp (5 * (((h 99 x6) * (h 89 19)) - (h 89 17))) 0) → ((R32 (x3 + 1)) ∧ ((R32 (x4 + 0)) ∧ ((R32 (x5 + (-1))) ∧ Wp X 2 94 8 [vr 89, vi x1, vi x2, vi (x3 + 1), vi (x4 + 0), vi (x5 + (-1)), vi x6, vi 1] [] h Q))))))))))))) : Wp X 2 94 41 [vr 89, vi x1, vi x2, vi x3, vi x4, vi x5, vi x6, zx7] [vi s0] h Q := by
  refine wp_aload rfl rfl ?_
  refine wp_getR (r := 107) rfl (congrArg Prod.fst (kf_89 X.1)) rfl ?_
  refine wp_iload rfl rfl ?_
  have g1 := H.1
  replace H := H.2
  refine wp_iaload rfl (kf_108 X.1) g1 ?_
  refine wp_iclt (tn := 54) rfl rfl (fun c2 => ?_) (fun c2 => ?_)
  · replace H := H.1 c2
    refine wp_iconst rfl ?_
    refine wp_istore (L2 := [vr 89, vi x1, vi x2, vi x3, vi x4, vi x5, vi x6, vi 0]) rfl (Nat.le_of_ble_eq_true rfl) rfl ?_
    refine wp_iload rfl rfl ?_
    refine wp_iload rfl rfl ?_
    refine wp_ifeqT (tn := 76) rfl rfl (by decide) ?_
    refine wp_iconst rfl ?_
    refine wp_iadd rfl ?_
    have g3 := H.1
    replace H := H.2
    refine Wp.topI (y := (x3 + 0)) (w32_I g3) ?_
    refine wp_istore (L2 := [vr 89, vi x1, vi x2, vi (x3 + 0), vi x4, vi x5, vi x6, vi 0]) rfl (Nat.le_of_ble_eq_true rfl) rfl ?_
    refine wp_iload rfl rfl ?_
    refine wp_iload rfl rfl ?_
    refine wp_ifeqT (tn := 99) rfl rfl (by decide) ?_
    refine wp_iconst rfl ?_
    refine wp_iadd rfl ?_
    have g4 := H.1
    replace H := H.2
    refine Wp.topI (y := (x4 + 0)) (w32_I g4) ?_
    refine wp_istore (L2 := [vr 89, vi x1, vi x2, vi (x3 + 0), vi (x4 + 0), vi x5, vi x6, vi 0]) rfl (Nat.le_of_ble_eq_true rfl) rfl ?_
    have g5 := H.1
    replace H := H.2
    refine wp_iincR (L2 := [vr 89, vi x1, vi x2, vi (x3 + 0), vi (x4 + 0), vi (x5 + (-1)), vi x6, vi 0]) rfl rfl g5 rfl ?_
    refine wp_goto (tn := 8) rfl rfl ?_
    exact H
  · replace H := H.2 c2
    refine wp_iconst rfl ?_
    refine wp_goto (tn := 55) rfl rfl ?_
    refine wp_istore (L2 := [vr 89, vi x1, vi x2, vi x3, vi x4, vi x5, vi x6, vi 1]) rfl (Nat.le_of_ble_eq_true rfl) rfl ?_
    refine wp_iload rfl rfl ?_
    refine wp_iload rfl rfl ?_
    refine wp_ifeqF (tn := 76) rfl rfl (by decide) ?_
    refine wp_aload rfl rfl ?_
    refine wp_iload rfl rfl ?_
    refine wp_call (k := 76) (ρ2 := 1) (L2 := [vr 89, vi x6]) rfl rfl rfl (Nat.le_of_ble_eq_true rfl) (Nat.le_of_ble_eq_true rfl) (Nat.le_of_ble_eq_true rfl) (rcv_V rfl (congrArg Prod.fst (kf_89 X.1))) rfl ?_
    refine wp_aload rfl rfl ?_
    refine wp_iload rfl rfl ?_
    refine wp_call (k := 75) (ρ2 := 0) (L2 := [vr 89, vi x6]) rfl rfl rfl (Nat.le_of_ble_eq_true rfl) (Nat.le_of_ble_eq_true rfl) (Nat.le_of_ble_eq_true rfl) (rcv_V rfl (congrArg Prod.fst (kf_89 X.1))) rfl ?_
    refine wp_sipush rfl ?_
    refine wp_aload rfl rfl ?_
    refine wp_getR (r := 98) rfl (congrArg Prod.fst (kf_89 X.1)) rfl ?_
    refine wp_iload rfl rfl ?_
    have g6 := H.1
    replace H := H.2
    refine wp_iaload rfl (kf_99 X.1) g6 ?_
    refine wp_i2l rfl ?_
    refine wp_aload rfl rfl ?_
    refine wp_getI (j := 19) rfl (congrArg Prod.fst (kf_89 X.1)) rfl ?_
    refine wp_i2l rfl ?_
    refine wp_lmul rfl ?_
    have g7 := H.1
    replace H := H.2
    refine Wp.topL (y := ((h 99 x6) * (h 89 19))) (w64_I g7) ?_
    refine wp_aload rfl rfl ?_
    refine wp_getL (j := 17) rfl (congrArg Prod.fst (kf_89 X.1)) rfl ?_
    refine wp_lsub rfl ?_
    have g8 := H.1
    replace H := H.2
    refine Wp.topL (y := (((h 99 x6) * (h 89 19)) - (h 89 17))) (w64_I g8) ?_
    refine wp_lmul rfl ?_
    have g9 := H.1
    replace H := H.2
    refine Wp.topL (y := (5 * (((h 99 x6) * (h 89 19)) - (h 89 17)))) (w64_I g9) ?_
    refine wp_lret rfl rfl ?_
    show Wp X _ 76 5 [vr 89, vi x6] [vl (5 * (((h 99 x6) * (h 89 19)) - (h 89 17)))] _ _
    refine wp_sipush rfl ?_
    refine wp_lcmp rfl ?_
    refine wp_ifle (tn := 14) rfl rfl (fun c10 => ?_) (fun c10 => ?_)
    · replace H := H.1 c10
      refine wp_aload rfl rfl ?_
      refine wp_iload rfl rfl ?_
      refine wp_call (k := 75) (ρ2 := 0) (L2 := [vr 89, vi x6]) rfl rfl rfl (Nat.le_of_ble_eq_true rfl) (Nat.le_of_ble_eq_true rfl) (Nat.le_of_ble_eq_true rfl) (rcv_V rfl (congrArg Prod.fst (kf_89 X.1))) rfl ?_
      refine wp_sipush rfl ?_
      refine wp_aload rfl rfl ?_
      refine wp_getR (r := 98) rfl (congrArg Prod.fst (kf_89 X.1)) rfl ?_
      refine wp_iload rfl rfl ?_
      refine wp_iaload rfl (kf_99 X.1) ⟨g6.1, g6.2⟩ ?_
      refine wp_i2l rfl ?_
      refine wp_aload rfl rfl ?_
      refine wp_getI (j := 19) rfl (congrArg Prod.fst (kf_89 X.1)) rfl ?_
      refine wp_i2l rfl ?_
      refine wp_lmul rfl ?_
      refine Wp.topL (y := ((h 99 x6) * (h 89 19))) (w64_I g7) ?_
      refine wp_aload rfl rfl ?_
      refine wp_getL (j := 17) rfl (congrArg Prod.fst (kf_89 X.1)) rfl ?_
      refine wp_lsub rfl ?_
      refine Wp.topL (y := (((h 99 x6) * (h 89 19)) - (h 89 17))) (w64_I g8) ?_
      refine wp_lmul rfl ?_
      refine Wp.topL (y := (5 * (((h 99 x6) * (h 89 19)) - (h 89 17)))) (w64_I g9) ?_
      refine wp_lret rfl rfl ?_
      show Wp X _ 76 19 [vr 89, vi x6] [vl (5 * (((h 99 x6) * (h 89 19)) - (h 89 17)))] _ _
      refine wp_sipush rfl ?_
      refine wp_lcmp rfl ?_
      refine wp_ifge (tn := 28) rfl rfl (fun c11 => ?_) (fun c11 => ?_)
      · replace H := H.1 c11
        refine wp_iconst rfl ?_
        refine wp_iret rfl rfl ?_
        show Wp X _ 94 69 [vr 89, vi x1, vi x2, vi x3, vi x4, vi x5, vi x6, vi 1] [vi 0, vi x3] _ _
        refine wp_ifleT (tn := 76) rfl rfl (by decide) ?_
        refine wp_iconst rfl ?_
        refine wp_iadd rfl ?_
        have g12 := H.1
        replace H := H.2
        refine Wp.topI (y := (x3 + 0)) (w32_I g12) ?_
        refine wp_istore (L2 := [vr 89, vi x1, vi x2, vi (x3 + 0), vi x4, vi x5, vi x6, vi 1]) rfl (Nat.le_of_ble_eq_true rfl) rfl ?_
        refine wp_iload rfl rfl ?_
        refine wp_iload rfl rfl ?_
        refine wp_ifeqF (tn := 99) rfl rfl (by decide) ?_
        refine wp_aload rfl rfl ?_
        refine wp_iload rfl rfl ?_
        refine wp_call (k := 76) (ρ2 := 1) (L2 := [vr 89, vi x6]) rfl rfl rfl (Nat.le_of_ble_eq_true rfl) (Nat.le_of_ble_eq_true rfl) (Nat.le_of_ble_eq_true rfl) (rcv_V rfl (congrArg Prod.fst (kf_89 X.1))) rfl ?_
        refine wp_aload rfl rfl ?_
        refine wp_iload rfl rfl ?_
        refine wp_call (k := 75) (ρ2 := 0) (L2 := [vr 89, vi x6]) rfl rfl rfl (Nat.le_of_ble_eq_true rfl) (Nat.le_of_ble_eq_true rfl) (Nat.le_of_ble_eq_true rfl) (rcv_V rfl (congrArg Prod.fst (kf_89 X.1))) rfl ?_
        refine wp_sipush rfl ?_
        refine wp_aload rfl rfl ?_
        refine wp_getR (r := 98) rfl (congrArg Prod.fst (kf_89 X.1)) rfl ?_
        refine wp_iload rfl rfl ?_
        refine wp_iaload rfl (kf_99 X.1) ⟨g6.1, g6.2⟩ ?_
        refine wp_i2l rfl ?_
        refine wp_aload rfl rfl ?_
        refine wp_getI (j := 19) rfl (congrArg Prod.fst (kf_89 X.1)) rfl ?_
        refine wp_i2l rfl ?_
        refine wp_lmul rfl ?_
        refine Wp.topL (y := ((h 99 x6) * (h 89 19))) (w64_I g7) ?_
        refine wp_aload rfl rfl ?_
        refine wp_getL (j := 17) rfl (congrArg Prod.fst (kf_89 X.1)) rfl ?_
        refine wp_lsub rfl ?_
        refine Wp.topL (y := (((h 99 x6) * (h 89 19)) - (h 89 17))) (w64_I g8) ?_
        refine wp_lmul rfl ?_
        refine Wp.topL (y := (5 * (((h 99 x6) * (h 89 19)) - (h 89 17)))) (w64_I g9) ?_
        refine wp_lret rfl rfl ?_
        show Wp X _ 76 5 [vr 89, vi x6] [vl (5 * (((h 99 x6) * (h 89 19)) - (h 89 17)))] _ _
        refine wp_sipush rfl ?_
        refine wp_lcmp rfl ?_
        refine wp_ifleT (tn := 14) rfl rfl c10 ?_
        refine wp_aload rfl rfl ?_
        refine wp_iload rfl rfl ?_
        refine wp_call (k := 75) (ρ2 := 0) (L2 := [vr 89, vi x6]) rfl rfl rfl (Nat.le_of_ble_eq_true rfl) (Nat.le_of_ble_eq_true rfl) (Nat.le_of_ble_eq_true rfl) (rcv_V rfl (congrArg Prod.fst (kf_89 X.1))) rfl ?_
        refine wp_sipush rfl ?_
        refine wp_aload rfl rfl ?_
        refine wp_getR (r := 98) rfl (congrArg Prod.fst (kf_89 X.1)) rfl ?_
        refine wp_iload rfl rfl ?_
        refine wp_iaload rfl (kf_99 X.1) ⟨g6.1, g6.2⟩ ?_
        refine wp_i2l rfl ?_
        refine wp_aload rfl rfl ?_
        refine wp_getI (j := 19) rfl (congrArg Prod.fst (kf_89 X.1)) rfl ?_
        refine wp_i2l rfl ?_
        refine wp_lmul rfl ?_
        refine Wp.topL (y := ((h 99 x6) * (h 89 19))) (w64_I g7) ?_
        refine wp_aload rfl rfl ?_
        refine wp_getL (j := 17) rfl (congrArg Prod.fst (kf_89 X.1)) rfl ?_
        refine wp_lsub rfl ?_
        refine Wp.topL (y := (((h 99 x6) * (h 89 19)) - (h 89 17))) (w64_I g8) ?_
        refine wp_lmul rfl ?_
        refine Wp.topL (y := (5 * (((h 99 x6) * (h 89 19)) - (h 89 17)))) (w64_I g9) ?_
        refine wp_lret rfl rfl ?_
        show Wp X _ 76 19 [vr 89, vi x6] [vl (5 * (((h 99 x6) * (h 89 19)) - (h 89 17)))] _ _
        refine wp_sipush rfl ?_
        refine wp_lcmp rfl ?_
        refine wp_ifgeT (tn := 28) rfl rfl c11 ?_
        refine wp_iconst rfl ?_
        refine wp_iret rfl rfl ?_
        show Wp X _ 94 92 [vr 89, vi x1, vi x2, vi (x3 + 0), vi x4, vi x5, vi x6, vi 1] [vi 0, vi x4] _ _
        refine wp_ifgeT (tn := 99) rfl rfl (by decide) ?_
        refine wp_iconst rfl ?_
        refine wp_iadd rfl ?_
        have g13 := H.1
        replace H := H.2
        refine Wp.topI (y := (x4 + 0)) (w32_I g13) ?_
        refine wp_istore (L2 := [vr 89, vi x1, vi x2, vi (x3 + 0), vi (x4 + 0), vi x5, vi x6, vi 1]) rfl (Nat.le_of_ble_eq_true rfl) rfl ?_
        have g14 := H.1
        replace H := H.2
        refine wp_iincR (L2 := [vr 89, vi x1, vi x2, vi (x3 + 0), vi (x4 + 0), vi (x5 + (-1)), vi x6, vi 1]) rfl rfl g14 rfl ?_
        refine wp_goto (tn := 8) rfl rfl ?_
        exact H
      · replace H := H.2 c11
        refine wp_iconst rfl ?_
        refine wp_goto (tn := 29) rfl rfl ?_
        refine wp_iret rfl rfl ?_
        show Wp X _ 94 69 [vr 89, vi x1, vi x2, vi x3, vi x4, vi x5, vi x6, vi 1] [vi (-1), vi x3] _ _
        refine wp_ifleT (tn := 76) rfl rfl (by decide) ?_
        refine wp_iconst rfl ?_
        refine wp_iadd rfl ?_
        have g15 := H.1
        replace H := H.2
        refine Wp.topI (y := (x3 + 0)) (w32_I g15) ?_
        refine wp_istore (L2 := [vr 89, vi x1, vi x2, vi (x3 + 0), vi x4, vi x5, vi x6, vi 1]) rfl (Nat.le_of_ble_eq_true rfl) rfl ?_
        refine wp_iload rfl rfl ?_
        refine wp_iload rfl rfl ?_
        refine wp_ifeqF (tn := 99) rfl rfl (by decide) ?_
        refine wp_aload rfl rfl ?_
        refine wp_iload rfl rfl ?_
        refine wp_call (k := 76) (ρ2 := 1) (L2 := [vr 89, vi x6]) rfl rfl rfl (Nat.le_of_ble_eq_true rfl) (Nat.le_of_ble_eq_true rfl) (Nat.le_of_ble_eq_true rfl) (rcv_V rfl (congrArg Prod.fst (kf_89 X.1))) rfl ?_
        refine wp_aload rfl rfl ?_
        refine wp_iload rfl rfl ?_
        refine wp_call (k := 75) (ρ2 := 0) (L2 := [vr 89, vi x6]) rfl rfl rfl (Nat.le_of_ble_eq_true rfl) (Nat.le_of_ble_eq_true rfl) (Nat.le_of_ble_eq_true rfl) (rcv_V rfl (congrArg Prod.fst (kf_89 X.1))) rfl ?_
        refine wp_sipush rfl ?_
        refine wp_aload rfl rfl ?_
        refine wp_getR (r := 98) rfl (congrArg Prod.fst (kf_89 X.1)) rfl ?_
        refine wp_iload rfl rfl ?_
        refine wp_iaload rfl (kf_99 X.1) ⟨g6.1, g6.2⟩ ?_
        refine wp_i2l rfl ?_
        refine wp_aload rfl rfl ?_
        refine wp_getI (j := 19) rfl (congrArg Prod.fst (kf_89 X.1)) rfl ?_
        refine wp_i2l rfl ?_
        refine wp_lmul rfl ?_
        refine Wp.topL (y := ((h 99 x6) * (h 89 19))) (w64_I g7) ?_
        refine wp_aload rfl rfl ?_
        refine wp_getL (j := 17) rfl (congrArg Prod.fst (kf_89 X.1)) rfl ?_
        refine wp_lsub rfl ?_
        refine Wp.topL (y := (((h 99 x6) * (h 89 19)) - (h 89 17))) (w64_I g8) ?_
        refine wp_lmul rfl ?_
        refine Wp.topL (y := (5 * (((h 99 x6) * (h 89 19)) - (h 89 17)))) (w64_I g9) ?_
        refine wp_lret rfl rfl ?_
        show Wp X _ 76 5 [vr 89, vi x6] [vl (5 * (((h 99 x6) * (h 89 19)) - (h 89 17)))] _ _
        refine wp_sipush rfl ?_
        refine wp_lcmp rfl ?_
        refine wp_ifleT (tn := 14) rfl rfl c10 ?_
        refine wp_aload rfl rfl ?_
        refine wp_iload rfl rfl ?_
        refine wp_call (k := 75) (ρ2 := 0) (L2 := [vr 89, vi x6]) rfl rfl rfl (Nat.le_of_ble_eq_true rfl) (Nat.le_of_ble_eq_true rfl) (Nat.le_of_ble_eq_true rfl) (rcv_V rfl (congrArg Prod.fst (kf_89 X.1))) rfl ?_
        refine wp_sipush rfl ?_
        refine wp_aload rfl rfl ?_
        refine wp_getR (r := 98) rfl (congrArg Prod.fst (kf_89 X.1)) rfl ?_
        refine wp_iload rfl rfl ?_
        refine wp_iaload rfl (kf_99 X.1) ⟨g6.1, g6.2⟩ ?_
        refine wp_i2l rfl ?_
        refine wp_aload rfl rfl ?_
        refine wp_getI (j := 19) rfl (congrArg Prod.fst (kf_89 X.1)) rfl ?_
        refine wp_i2l rfl ?_
        refine wp_lmul rfl ?_
        refine Wp.topL (y := ((h 99 x6) * (h 89 19))) (w64_I g7) ?_
        refine wp_aload rfl rfl ?_
        refine wp_getL (j := 17) rfl (congrArg Prod.fst (kf_89 X.1)) rfl ?_
        refine wp_lsub rfl ?_
        refine Wp.topL (y := (((h 99 x6) * (h 89 19)) - (h 89 17))) (w64_I g8) ?_
        refine wp_lmul rfl ?_
        refine Wp.topL (y := (5 * (((h 99 x6) * (h 89 19)) - (h 89 17)))) (w64_I g9) ?_
        refine wp_lret rfl rfl ?_
        show Wp X _ 76 19 [vr 89, vi x6] [vl (5 * (((h 99 x6) * (h 89 19)) - (h 89 17)))] _ _
        refine wp_sipush rfl ?_
        refine wp_lcmp rfl ?_
        refine wp_ifgeF (tn := 28) rfl rfl c11 ?_
        refine wp_iconst rfl ?_
        refine wp_goto (tn := 29) rfl rfl ?_
        refine wp_iret rfl rfl ?_
        show Wp X _ 94 92 [vr 89, vi x1, vi x2, vi (x3 + 0), vi x4, vi x5, vi x6, vi 1] [vi (-1), vi x4] _ _
        refine wp_ifgeF (tn := 99) rfl rfl (by decide) ?_
        refine wp_iconst rfl ?_
        refine wp_goto (tn := 100) rfl rfl ?_
        refine wp_iadd rfl ?_
        have g16 := H.1
        replace H := H.2
        refine Wp.topI (y := (x4 + 1)) (w32_I g16) ?_
        refine wp_istore (L2 := [vr 89, vi x1, vi x2, vi (x3 + 0), vi (x4 + 1), vi x5, vi x6, vi 1]) rfl (Nat.le_of_ble_eq_true rfl) rfl ?_
        have g17 := H.1
        replace H := H.2
        refine wp_iincR (L2 := [vr 89, vi x1, vi x2, vi (x3 + 0), vi (x4 + 1), vi (x5 + (-1)), vi x6, vi 1]) rfl rfl g17 rfl ?_
        refine wp_goto (tn := 8) rfl rfl ?_
        exact H
    · replace H := H.2 c10
      refine wp_iconst rfl ?_
      refine wp_goto (tn := 29) rfl rfl ?_
      refine wp_iret rfl rfl ?_
      show Wp X _ 94 69 [vr 89, vi x1, vi x2, vi x3, vi x4, vi x5, vi x6, vi 1] [vi 1, vi x3] _ _
      refine wp_ifleF (tn := 76) rfl rfl (by decide) ?_
      refine wp_iconst rfl ?_
      refine wp_goto (tn := 77) rfl rfl ?_
      refine wp_iadd rfl ?_
      have g18 := H.1
      replace H := H.2
      refine Wp.topI (y := (x3 + 1)) (w32_I g18) ?_
      refine wp_istore (L2 := [vr 89, vi x1, vi x2, vi (x3 + 1), vi x4, vi x5, vi x6, vi 1]) rfl (Nat.le_of_ble_eq_true rfl) rfl ?_
      refine wp_iload rfl rfl ?_
      refine wp_iload rfl rfl ?_
      refine wp_ifeqF (tn := 99) rfl rfl (by decide) ?_
      refine wp_aload rfl rfl ?_
      refine wp_iload rfl rfl ?_
      refine wp_call (k := 76) (ρ2 := 1) (L2 := [vr 89, vi x6]) rfl rfl rfl (Nat.le_of_ble_eq_true rfl) (Nat.le_of_ble_eq_true rfl) (Nat.le_of_ble_eq_true rfl) (rcv_V rfl (congrArg Prod.fst (kf_89 X.1))) rfl ?_
      refine wp_aload rfl rfl ?_
      refine wp_iload rfl rfl ?_
      refine wp_call (k := 75) (ρ2 := 0) (L2 := [vr 89, vi x6]) rfl rfl rfl (Nat.le_of_ble_eq_true rfl) (Nat.le_of_ble_eq_true rfl) (Nat.le_of_ble_eq_true rfl) (rcv_V rfl (congrArg Prod.fst (kf_89 X.1))) rfl ?_
      refine wp_sipush rfl ?_
      refine wp_aload rfl rfl ?_
      refine wp_getR (r := 98) rfl (congrArg Prod.fst (kf_89 X.1)) rfl ?_
      refine wp_iload rfl rfl ?_
      refine wp_iaload rfl (kf_99 X.1) ⟨g6.1, g6.2⟩ ?_
      refine wp_i2l rfl ?_
      refine wp_aload rfl rfl ?_
      refine wp_getI (j := 19) rfl (congrArg Prod.fst (kf_89 X.1)) rfl ?_
      refine wp_i2l rfl ?_
      refine wp_lmul rfl ?_
      refine Wp.topL (y := ((h 99 x6) * (h 89 19))) (w64_I g7) ?_
      refine wp_aload rfl rfl ?_
      refine wp_getL (j := 17) rfl (congrArg Prod.fst (kf_89 X.1)) rfl ?_
      refine wp_lsub rfl ?_
      refine Wp.topL (y := (((h 99 x6) * (h 89 19)) - (h 89 17))) (w64_I g8) ?_
      refine wp_lmul rfl ?_
      refine Wp.topL (y := (5 * (((h 99 x6) * (h 89 19)) - (h 89 17)))) (w64_I g9) ?_
      refine wp_lret rfl rfl ?_
      show Wp X _ 76 5 [vr 89, vi x6] [vl (5 * (((h 99 x6) * (h 89 19)) - (h 89 17)))] _ _
      refine wp_sipush rfl ?_
      refine wp_lcmp rfl ?_
      refine wp_ifleF (tn := 14) rfl rfl c10 ?_
      refine wp_iconst rfl ?_
      refine wp_goto (tn := 29) rfl rfl ?_
      refine wp_iret rfl rfl ?_
      show Wp X _ 94 92 [vr 89, vi x1, vi x2, vi (x3 + 1), vi x4, vi x5, vi x6, vi 1] [vi 1, vi x4] _ _
      refine wp_ifgeT (tn := 99) rfl rfl (by decide) ?_
      refine wp_iconst rfl ?_
      refine wp_iadd rfl ?_
      have g19 := H.1
      replace H := H.2
      refine Wp.topI (y := (x4 + 0)) (w32_I g19) ?_
      refine wp_istore (L2 := [vr 89, vi x1, vi x2, vi (x3 + 1), vi (x4 + 0), vi x5, vi x6, vi 1]) rfl (Nat.le_of_ble_eq_true rfl) rfl ?_
      have g20 := H.1
      replace H := H.2
      refine wp_iincR (L2 := [vr 89, vi x1, vi x2, vi (x3 + 1), vi (x4 + 0), vi (x5 + (-1)), vi x6, vi 1]) rfl rfl g20 rfl ?_
      refine wp_goto (tn := 8) rfl rfl ?_
      exact H
/-- WarnLinesModel.isWay(II)Z, from 0 -/
theorem S96_89_0 {X : Nat × (Int → Int)} {h : HP} {Q : bQ} (x1 : Int) (x2 : Int) (H : ((R32 (x2 + 1)) ∧ ((0 ≤ x1 ∧ x1 < 8) ∧ (((h 106 x1) ≤ (x2 + 1) → ((0 ≤ x2 ∧ x2 < 20) ∧ ((0 ≤ (h 109 x2) ∧ (h 109 x2) < 20) ∧ ((0 ≤ (x2 - 1) ∧ (x2 - 1) < 20) ∧ ((0 ≤ (h 109 (x2 - 1)) ∧ (h 109 (x2 - 1)) < 20) ∧ ((R32 ((h 99 (h 109 x2)) - (h 99 (h 109 (x2 - 1))))) ∧ ((((h 99 (h 109 x2)) - (h 99 (h 109 (x2 - 1)))) ≤ 0 → ((0 ≤ ((h 99 (h 109 x2)) - (h 99 (h 109 (x2 - 1)))) → Wp X 1 96 31 [vr 89, vi x1, vi x2, vi 0, vi x2] [] h Q) ∧ (((h 99 (h 109 x2)) - (h 99 (h 109 (x2 - 1)))) < 0 → Wp X 1 96 31 [vr 89, vi x1, vi x2, vi 1, vi x2] [] h Q))) ∧ (0 < ((h 99 (h 109 x2)) - (h 99 (h 109 (x2 - 1)))) → Wp X 1 96 31 [vr 89, vi x1, vi x2, vi 1, vi x2] [] h Q)))))))) ∧ ((x2 + 1) < (h 106 x1) → Q (some (vi 0)) h))))) : Wp X 1 96 0 [vr 89, vi x1, vi x2, vu, vu] [] h Q := by
  refine wp_iload rfl rfl ?_
  refine wp_iconst rfl ?_
  refine wp_iadd rfl ?_
  have g1 := H.1
  replace H := H.2
  refine Wp.topI (y := (x2 + 1)) (w32_I g1) ?_
  refine wp_aload rfl rfl ?_
  refine wp_getR (r := 105) rfl (congrArg Prod.fst (kf_89 X.1)) rfl ?_
  refine wp_iload rfl rfl ?_
  have g2 := H.1
  replace H := H.2
  refine wp_iaload rfl (kf_106 X.1) g2 ?_
  refine wp_icge (tn := 14) rfl rfl (fun c3 => ?_) (fun c3 => ?_)
  · replace H := H.1 c3
    refine wp_aload rfl rfl ?_
    refine wp_iload rfl rfl ?_
    refine wp_call (k := 95) (ρ2 := 0) (L2 := [vr 89, vi x2, vu]) rfl rfl rfl (Nat.le_of_ble_eq_true rfl) (Nat.le_of_ble_eq_true rfl) (Nat.le_of_ble_eq_true rfl) (rcv_V rfl (congrArg Prod.fst (kf_89 X.1))) rfl ?_
    refine wp_aload rfl rfl ?_
    refine wp_getR (r := 98) rfl (congrArg Prod.fst (kf_89 X.1)) rfl ?_
    refine wp_aload rfl rfl ?_
    refine wp_getR (r := 108) rfl (congrArg Prod.fst (kf_89 X.1)) rfl ?_
    refine wp_iload rfl rfl ?_
    have g4 := H.1
    replace H := H.2
    refine wp_iaload rfl (kf_109 X.1) g4 ?_
    have g5 := H.1
    replace H := H.2
    refine wp_iaload rfl (kf_99 X.1) g5 ?_
    refine wp_aload rfl rfl ?_
    refine wp_getR (r := 98) rfl (congrArg Prod.fst (kf_89 X.1)) rfl ?_
    refine wp_aload rfl rfl ?_
    refine wp_getR (r := 108) rfl (congrArg Prod.fst (kf_89 X.1)) rfl ?_
    refine wp_iload rfl rfl ?_
    refine wp_iconst rfl ?_
    refine wp_isub rfl ?_
    refine Wp.topI (y := (x2 - 1)) (w32_I (by clear H; unfold R32; omega)) ?_
    have g6 := H.1
    replace H := H.2
    refine wp_iaload rfl (kf_109 X.1) g6 ?_
    have g7 := H.1
    replace H := H.2
    refine wp_iaload rfl (kf_99 X.1) g7 ?_
    refine wp_isub rfl ?_
    have g8 := H.1
    replace H := H.2
    refine Wp.topI (y := ((h 99 (h 109 x2)) - (h 99 (h 109 (x2 - 1))))) (w32_I g8) ?_
    refine wp_istore (L2 := [vr 89, vi x2, vi ((h 99 (h 109 x2)) - (h 99 (h 109 (x2 - 1))))]) rfl (Nat.le_of_ble_eq_true rfl) rfl ?_
    refine wp_iload rfl rfl ?_
    refine wp_ifle (tn := 34) rfl rfl (fun c9 => ?_) (fun c9 => ?_)
    · replace H := H.1 c9
      refine wp_iload rfl rfl ?_
      refine wp_ifge (tn := 42) rfl rfl (fun c10 => ?_) (fun c10 => ?_)
      · replace H := H.1 c10
        refine wp_iconst rfl ?_
        refine wp_iret rfl rfl ?_
        show Wp X _ 96 19 [vr 89, vi x1, vi x2, vu, vu] [vi 0] _ _
        refine wp_ifeqT (tn := 26) rfl rfl (by decide) ?_
        refine wp_iconst rfl ?_
        refine wp_istore (L2 := [vr 89, vi x1, vi x2, vi 0, vu]) rfl (Nat.le_of_ble_eq_true rfl) rfl ?_
        refine wp_iload rfl rfl ?_
        refine wp_istore (L2 := [vr 89, vi x1, vi x2, vi 0, vi x2]) rfl (Nat.le_of_ble_eq_true rfl) rfl ?_
        exact H
      · replace H := H.2 c10
        refine wp_iconst rfl ?_
        refine wp_goto (tn := 43) rfl rfl ?_
        refine wp_iret rfl rfl ?_
        show Wp X _ 96 19 [vr 89, vi x1, vi x2, vu, vu] [vi (-1)] _ _
        refine wp_ifeqF (tn := 26) rfl rfl (by decide) ?_
        refine wp_iconst rfl ?_
        refine wp_goto (tn := 27) rfl rfl ?_
        refine wp_istore (L2 := [vr 89, vi x1, vi x2, vi 1, vu]) rfl (Nat.le_of_ble_eq_true rfl) rfl ?_
        refine wp_iload rfl rfl ?_
        refine wp_istore (L2 := [vr 89, vi x1, vi x2, vi 1, vi x2]) rfl (Nat.le_of_ble_eq_true rfl) rfl ?_
        exact H
    · replace H := H.2 c9
      refine wp_iconst rfl ?_
      refine wp_goto (tn := 43) rfl rfl ?_
      refine wp_iret rfl rfl ?_
      show Wp X _ 96 19 [vr 89, vi x1, vi x2, vu, vu] [vi 1] _ _
      refine wp_ifeqF (tn := 26) rfl rfl (by decide) ?_
      refine wp_iconst rfl ?_
      refine wp_goto (tn := 27) rfl rfl ?_
      refine wp_istore (L2 := [vr 89, vi x1, vi x2, vi 1, vu]) rfl (Nat.le_of_ble_eq_true rfl) rfl ?_
      refine wp_iload rfl rfl ?_
      refine wp_istore (L2 := [vr 89, vi x1, vi x2, vi 1, vi x2]) rfl (Nat.le_of_ble_eq_true rfl) rfl ?_
      exact H
  · replace H := H.2 c3
    refine wp_iconst rfl ?_
    exact wp_zret rfl rfl (by decide) H
/-- WarnLinesModel.isWay(II)Z, from 31 -/
theorem S96_89_31 {X : Nat × (Int → Int)} {h : HP} {Q : bQ} (x1 : Int) (x2 : Int) (x3 : Int) (x4 : Int) (H : ((0 ≤ x1 ∧ x1 < 8) ∧ ((R32 (x2 - (h 106 x1))) ∧ ((R32 ((x2 - (h 106 x1)) + 2)) ∧ ((x4 ≤ ((x2 - (h 106 x1)) + 2) → ((x3 = 0 ∨ x3 = 1) ∧ Q (some (vi x3)) h)) ∧ (((x2 - (h 106 x1)) + 2) < x4 → ((x3 = 0 → ((x3 = 0 ∨ x3 = 1) ∧ Q (some (vi x3)) h)) ∧ (x3 ≠ 0 → ((R32 (x4 - 1)) ∧ ((0 ≤ (x4 - 1) ∧ (x4 - 1) < 20) ∧ ((0 ≤ (h 109 (x4 - 1)) ∧ (h 109 (x4 - 1)) < 20) ∧ ((0 ≤ ((x4 - 1) - 1) ∧ ((x4 - 1) - 1) < 20) ∧ ((0 ≤ (h 109 ((x4 - 1) - 1)) ∧ (h 109 ((x4 - 1) - 1)) < 20) ∧ ((R32 ((h 99 (h 109 (x4 - 1))) - (h 99 (h 109 ((x4 - 1) - 1))))) ∧ ((((h 99 (h 109 (x4 - 1))) - (h 99 (h 109 ((x4 - 1) - 1)))) ≤ 0 → ((0 ≤ ((h 99 (h 109 (x4 - 1))) - (h 99 (h 109 ((x4 - 1) - 1)))) → (((h 105 x1) ≠ 114 → ((0 ≤ x4 ∧ x4 < 20) ∧ ((0 ≤ (h 109 x4) ∧ (h 109 x4) < 20) ∧ ((R32 ((h 99 (h 109 x4)) - (h 99 (h 109 (x4 - 1))))) ∧ ((((h 99 (h 109 x4)) - (h 99 (h 109 (x4 - 1)))) ≤ 0 → ((0 ≤ ((h 99 (h 109 x4)) - (h 99 (h 109 (x4 - 1)))) → Wp X 1 96 31 [vr 89, vi x1, vi x2, vi 1, vi (x4 + (-1))] [] h Q) ∧ (((h 99 (h 109 x4)) - (h 99 (h 109 (x4 - 1)))) < 0 → Wp X 1 96 31 [vr 89, vi x1, vi x2, vi 0, vi (x4 + (-1))] [] h Q))) ∧ (0 < ((h 99 (h 109 x4)) - (h 99 (h 109 (x4 - 1)))) → Wp X 1 96 31 [vr 89, vi x1, vi x2, vi 0, vi (x4 + (-1))] [] h Q)))))) ∧ ((h 105 x1) = 114 → ((0 ≤ x4 ∧ x4 < 20) ∧ ((0 ≤ (h 109 x4) ∧ (h 109 x4) < 20) ∧ ((R32 ((h 99 (h 109 x4)) - (h 99 (h 109 (x4 - 1))))) ∧ ((((h 99 (h 109 x4)) - (h 99 (h 109 (x4 - 1)))) ≤ 0 → ((0 ≤ ((h 99 (h 109 x4)) - (h 99 (h 109 (x4 - 1)))) → Wp X 1 96 31 [vr 89, vi x1, vi x2, vi 1, vi (x4 + (-1))] [] h Q) ∧ (((h 99 (h 109 x4)) - (h 99 (h 109 (x4 - 1)))) < 0 → Wp X 1 96 31 [vr 89, vi x1, vi x2, vi 0, vi (x4 + (-1))] [] h Q))) ∧ (0 < ((h 99 (h 109 x4)) - (h 99 (h 109 (x4 - 1)))) → Wp X 1 96 31 [vr 89, vi x1, vi x2, vi 0, vi (x4 + (-1))] [] h Q)))))))) ∧ (((h 99 (h 109 (x4 - 1))) - (h 99 (h 109 ((x4 - 1) - 1)))) < 0 → (((h 105 x1) ≠ 114 → ((0 ≤ x4 ∧ x4 < 20) ∧ ((0 ≤ (h 109 x4) ∧ (h 109 x4) < 20) ∧ ((R32 ((h 99 (h 109 x4)) - (h 99 (h 109 (x4 - 1))))) ∧ ((((h 99 (h 109 x4)) - (h 99 (h 109 (x4 - 1)))) ≤ 0 → ((0 ≤ ((h 99 (h 109 x4)) - (h 99 (h 109 (x4 - 1)))) → Wp X 1 96 31 [vr 89, vi x1, vi x2, vi 0, vi (x4 + (-1))] [] h Q) ∧ (((h 99 (h 109 x4)) - (h 99 (h 109 (x4 - 1)))) < 0 → Wp X 1 96 31 [vr 89, vi x1, vi x2, vi 0, vi (x4 + (-1))] [] h Q))) ∧ (0 < ((h 99 (h 109 x4)) - (h 99 (h 109 (x4 - 1)))) → Wp X 1 96 31 [vr 89, vi x1, vi x2, vi 1, vi (x4 + (-1))] [] h Q)))))) ∧ ((h 105 x1) = 114 → ((0 ≤ x4 ∧ x4 < 20) ∧ ((0 ≤ (h 109 x4) ∧ (h 109 x4) < 20) ∧ ((R32 ((h 99 (h 109 x4)) - (h 99 (h 109 (x4 - 1))))) ∧ ((((h 99 (h 109 x4)) - (h 99 (h 109 (x4 - 1)))) ≤ 0 → ((0 ≤ ((h 99 (h 109 x4)) - (h 99 (h 109 (x4 - 1)))) → Wp X 1 96 31 [vr 89, vi x1, vi x2, vi 0, vi (x4 + (-1))] [] h Q) ∧ (((h 99 (h 109 x4)) - (h 99 (h 109 (x4 - 1)))) < 0 → Wp X 1 96 31 [vr 89, vi x1, vi x2, vi 1, vi (x4 + (-1))] [] h Q))) ∧ (0 < ((h 99 (h 109 x4)) - (h 99 (h 109 (x4 - 1)))) → Wp X 1 96 31 [vr 89, vi x1, vi x2, vi 0, vi (x4 + (-1))] [] h Q)))))))))) ∧ (0 < ((h 99 (h 109 (x4 - 1))) - (h 99 (h 109 ((x4 - 1) - 1)))) → (((h 105 x1) ≠ 114 → ((0 ≤ x4 ∧ x4 < 20) ∧ ((0 ≤ (h 109 x4) ∧ (h 109 x4) < 20) ∧ ((R32 ((h 99 (h 109 x4)) - (h 99 (h 109 (x4 - 1))))) ∧ ((((h 99 (h 109 x4)) - (h 99 (h 109 (x4 - 1)))) ≤ 0 → ((0 ≤ ((h 99 (h 109 x4)) - (h 99 (h 109 (x4 - 1)))) → Wp X 1 96 31 [vr 89, vi x1, vi x2, vi 0, vi (x4 + (-1))] [] h Q) ∧ (((h 99 (h 109 x4)) - (h 99 (h 109 (x4 - 1)))) < 0 → Wp X 1 96 31 [vr 89, vi x1, vi x2, vi 1, vi (x4 + (-1))] [] h Q))) ∧ (0 < ((h 99 (h 109 x4)) - (h 99 (h 109 (x4 - 1)))) → Wp X 1 96 31 [vr 89, vi x1, vi x2, vi 0, vi (x4 + (-1))] [] h Q)))))) ∧ ((h 105 x1) = 114 → ((0 ≤ x4 ∧ x4 < 20) ∧ ((0 ≤ (h 109 x4) ∧ (h 109 x4) < 20) ∧ ((R32 ((h 99 (h 109 x4)) - (h 99 (h 109 (x4 - 1))))) ∧ ((((h 99 (h 109 x4)) - (h 99 (h 109 (x4 - 1)))) ≤ 0 → ((0 ≤ ((h 99 (h 109 x4)) - (h 99 (h 109 (x4 - 1)))) → Wp X 1 96 31 [vr 89, vi x1, vi x2, vi 0, vi (x4 + (-1))] [] h Q) ∧ (((h 99 (h 109 x4)) - (h 99 (h 109 (x4 - 1)))) < 0 → Wp X 1 96 31 [vr 89, vi x1, vi x2, vi 0, vi (x4 + (-1))] [] h Q))) ∧ (0 < ((h 99 (h 109 x4)) - (h 99 (h 109 (x4 - 1)))) → Wp X 1 96 31 [vr 89, vi x1, vi x2, vi 1, vi (x4 + (-1))] [] h Q))))))))))))))))))))))) : Wp X 1 96 31 [vr 89, vi x1, vi x2, vi x3, vi x4] [] h Q := by
  refine wp_iload rfl rfl ?_
  refine wp_iload rfl rfl ?_
  refine wp_aload rfl rfl ?_
  refine wp_getR (r := 105) rfl (congrArg Prod.fst (kf_89 X.1)) rfl ?_
  refine wp_iload rfl rfl ?_
  have g1 := H.1
  replace H := H.2
  refine wp_iaload rfl (kf_106 X.1) g1 ?_
  refine wp_isub rfl ?_
  have g2 := H.1
  replace H := H.2
  refine Wp.topI (y := (x2 - (h 106 x1))) (w32_I g2) ?_
  refine wp_iconst rfl ?_
  refine wp_iadd rfl ?_
  have g3 := H.1
  replace H := H.2
  refine Wp.topI (y := ((x2 - (h 106 x1)) + 2)) (w32_I g3) ?_
  refine wp_icle (tn := 100) rfl rfl (fun c4 => ?_) (fun c4 => ?_)
  · replace H := H.1 c4
    refine wp_iload rfl rfl ?_
    have g5 := H.1
    replace H := H.2
    exact wp_zret rfl rfl g5 H
  · replace H := H.2 c4
    refine wp_iload rfl rfl ?_
    refine wp_ifeq (tn := 100) rfl rfl (fun c6 => ?_) (fun c6 => ?_)
    · replace H := H.1 c6
      refine wp_iload rfl rfl ?_
      have g7 := H.1
      replace H := H.2
      exact wp_zret rfl rfl g7 H
    · replace H := H.2 c6
      refine wp_aload rfl rfl ?_
      refine wp_iload rfl rfl ?_
      refine wp_iconst rfl ?_
      refine wp_isub rfl ?_
      have g8 := H.1
      replace H := H.2
      refine Wp.topI (y := (x4 - 1)) (w32_I g8) ?_
      refine wp_call (k := 95) (ρ2 := 0) (L2 := [vr 89, vi (x4 - 1), vu]) rfl rfl rfl (Nat.le_of_ble_eq_true rfl) (Nat.le_of_ble_eq_true rfl) (Nat.le_of_ble_eq_true rfl) (rcv_V rfl (congrArg Prod.fst (kf_89 X.1))) rfl ?_
      refine wp_aload rfl rfl ?_
      refine wp_getR (r := 98) rfl (congrArg Prod.fst (kf_89 X.1)) rfl ?_
      refine wp_aload rfl rfl ?_
      refine wp_getR (r := 108) rfl (congrArg Prod.fst (kf_89 X.1)) rfl ?_
      refine wp_iload rfl rfl ?_
      have g9 := H.1
      replace H := H.2
      refine wp_iaload rfl (kf_109 X.1) g9 ?_
      have g10 := H.1
      replace H := H.2
      refine wp_iaload rfl (kf_99 X.1) g10 ?_
      refine wp_aload rfl rfl ?_
      refine wp_getR (r := 98) rfl (congrArg Prod.fst (kf_89 X.1)) rfl ?_
      refine wp_aload rfl rfl ?_
      refine wp_getR (r := 108) rfl (congrArg Prod.fst (kf_89 X.1)) rfl ?_
      refine wp_iload rfl rfl ?_
      refine wp_iconst rfl ?_
      refine wp_isub rfl ?_
      refine Wp.topI (y := ((x4 - 1) - 1)) (w32_I (by clear H; unfold R32; omega)) ?_
      have g11 := H.1
      replace H := H.2
      refine wp_iaload rfl (kf_109 X.1) g11 ?_
      have g12 := H.1
      replace H := H.2
      refine wp_iaload rfl (kf_99 X.1) g12 ?_
      refine wp_isub rfl ?_
      have g13 := H.1
      replace H := H.2
      refine Wp.topI (y := ((h 99 (h 109 (x4 - 1))) - (h 99 (h 109 ((x4 - 1) - 1))))) (w32_I g13) ?_
      refine wp_istore (L2 := [vr 89, vi (x4 - 1), vi ((h 99 (h 109 (x4 - 1))) - (h 99 (h 109 ((x4 - 1) - 1))))]) rfl (Nat.le_of_ble_eq_true rfl) rfl ?_
      refine wp_iload rfl rfl ?_
      refine wp_ifle (tn := 34) rfl rfl (fun c14 => ?_) (fun c14 => ?_)
      · replace H := H.1 c14
        refine wp_iload rfl rfl ?_
        refine wp_ifge (tn := 42) rfl rfl (fun c15 => ?_) (fun c15 => ?_)
        · replace H := H.1 c15
          refine wp_iconst rfl ?_
          refine wp_iret rfl rfl ?_
          show Wp X _ 96 58 [vr 89, vi x1, vi x2, vi x3, vi x4] [vi 0] _ _
          refine wp_aload rfl rfl ?_
          refine wp_getR (r := 104) rfl (congrArg Prod.fst (kf_89 X.1)) rfl ?_
          refine wp_iload rfl rfl ?_
          refine wp_iaload rfl (kf_105 X.1) ⟨g1.1, g1.2⟩ ?_
          refine wp_iconst rfl ?_
          refine wp_icne (tn := 78) rfl rfl (fun c16 => ?_) (fun c16 => ?_)
          · replace H := H.1 c16
            refine wp_aload rfl rfl ?_
            refine wp_iload rfl rfl ?_
            refine wp_call (k := 95) (ρ2 := 0) (L2 := [vr 89, vi x4, vu]) rfl rfl rfl (Nat.le_of_ble_eq_true rfl) (Nat.le_of_ble_eq_true rfl) (Nat.le_of_ble_eq_true rfl) (rcv_V rfl (congrArg Prod.fst (kf_89 X.1))) rfl ?_
            refine wp_aload rfl rfl ?_
            refine wp_getR (r := 98) rfl (congrArg Prod.fst (kf_89 X.1)) rfl ?_
            refine wp_aload rfl rfl ?_
            refine wp_getR (r := 108) rfl (congrArg Prod.fst (kf_89 X.1)) rfl ?_
            refine wp_iload rfl rfl ?_
            have g17 := H.1
            replace H := H.2
            refine wp_iaload rfl (kf_109 X.1) g17 ?_
            have g18 := H.1
            replace H := H.2
            refine wp_iaload rfl (kf_99 X.1) g18 ?_
            refine wp_aload rfl rfl ?_
            refine wp_getR (r := 98) rfl (congrArg Prod.fst (kf_89 X.1)) rfl ?_
            refine wp_aload rfl rfl ?_
            refine wp_getR (r := 108) rfl (congrArg Prod.fst (kf_89 X.1)) rfl ?_
            refine wp_iload rfl rfl ?_
            refine wp_iconst rfl ?_
            refine wp_isub rfl ?_
            refine Wp.topI (y := (x4 - 1)) (w32_I (by clear H; unfold R32; omega)) ?_
            refine wp_iaload rfl (kf_109 X.1) ⟨g9.1, g9.2⟩ ?_
            refine wp_iaload rfl (kf_99 X.1) ⟨g10.1, g10.2⟩ ?_
            refine wp_isub rfl ?_
            have g19 := H.1
            replace H := H.2
            refine Wp.topI (y := ((h 99 (h 109 x4)) - (h 99 (h 109 (x4 - 1))))) (w32_I g19) ?_
            refine wp_istore (L2 := [vr 89, vi x4, vi ((h 99 (h 109 x4)) - (h 99 (h 109 (x4 - 1))))]) rfl (Nat.le_of_ble_eq_true rfl) rfl ?_
            refine wp_iload rfl rfl ?_
            refine wp_ifle (tn := 34) rfl rfl (fun c20 => ?_) (fun c20 => ?_)
            · replace H := H.1 c20
              refine wp_iload rfl rfl ?_
              refine wp_ifge (tn := 42) rfl rfl (fun c21 => ?_) (fun c21 => ?_)
              · replace H := H.1 c21
                refine wp_iconst rfl ?_
                refine wp_iret rfl rfl ?_
                show Wp X _ 96 84 [vr 89, vi x1, vi x2, vi x3, vi x4] [vi 0, vi 0] _ _
                refine wp_ineg rfl ?_
                refine Wp.topI (y := (-0)) (by decide) ?_
                refine wp_icneF (tn := 92) rfl rfl (by decide) ?_
                refine wp_iconst rfl ?_
                refine wp_goto (tn := 93) rfl rfl ?_
                refine wp_istore (L2 := [vr 89, vi x1, vi x2, vi 1, vi x4]) rfl (Nat.le_of_ble_eq_true rfl) rfl ?_
                refine wp_iincR (L2 := [vr 89, vi x1, vi x2, vi 1, vi (x4 + (-1))]) rfl rfl (by clear H; unfold R32; omega) rfl ?_
                refine wp_goto (tn := 31) rfl rfl ?_
                exact H
              · replace H := H.2 c21
                refine wp_iconst rfl ?_
                refine wp_goto (tn := 43) rfl rfl ?_
                refine wp_iret rfl rfl ?_
                show Wp X _ 96 84 [vr 89, vi x1, vi x2, vi x3, vi x4] [vi (-1), vi 0] _ _
                refine wp_ineg rfl ?_
                refine Wp.topI (y := (-(-1))) (by decide) ?_
                refine wp_icneT (tn := 92) rfl rfl (by decide) ?_
                refine wp_iconst rfl ?_
                refine wp_istore (L2 := [vr 89, vi x1, vi x2, vi 0, vi x4]) rfl (Nat.le_of_ble_eq_true rfl) rfl ?_
                refine wp_iincR (L2 := [vr 89, vi x1, vi x2, vi 0, vi (x4 + (-1))]) rfl rfl (by clear H; unfold R32; omega) rfl ?_
                refine wp_goto (tn := 31) rfl rfl ?_
                exact H
            · replace H := H.2 c20
              refine wp_iconst rfl ?_
              refine wp_goto (tn := 43) rfl rfl ?_
              refine wp_iret rfl rfl ?_
              show Wp X _ 96 84 [vr 89, vi x1, vi x2, vi x3, vi x4] [vi 1, vi 0] _ _
              refine wp_ineg rfl ?_
              refine Wp.topI (y := (-1)) (by decide) ?_
              refine wp_icneT (tn := 92) rfl rfl (by decide) ?_
              refine wp_iconst rfl ?_
              refine wp_istore (L2 := [vr 89, vi x1, vi x2, vi 0, vi x4]) rfl (Nat.le_of_ble_eq_true rfl) rfl ?_
              refine wp_iincR (L2 := [vr 89, vi x1, vi x2, vi 0, vi (x4 + (-1))]) rfl rfl (by clear H; unfold R32; omega) rfl ?_
              refine wp_goto (tn := 31) rfl rfl ?_
              exact H
          · replace H := H.2 c16
            refine wp_aload rfl rfl ?_
            refine wp_iload rfl rfl ?_
            refine wp_call (k := 95) (ρ2 := 0) (L2 := [vr 89, vi x4, vu]) rfl rfl rfl (Nat.le_of_ble_eq_true rfl) (Nat.le_of_ble_eq_true rfl) (Nat.le_of_ble_eq_true rfl) (rcv_V rfl (congrArg Prod.fst (kf_89 X.1))) rfl ?_
            refine wp_aload rfl rfl ?_
            refine wp_getR (r := 98) rfl (congrArg Prod.fst (kf_89 X.1)) rfl ?_
            refine wp_aload rfl rfl ?_
            refine wp_getR (r := 108) rfl (congrArg Prod.fst (kf_89 X.1)) rfl ?_
            refine wp_iload rfl rfl ?_
            have g22 := H.1
            replace H := H.2
            refine wp_iaload rfl (kf_109 X.1) g22 ?_
            have g23 := H.1
            replace H := H.2
            refine wp_iaload rfl (kf_99 X.1) g23 ?_
            refine wp_aload rfl rfl ?_
            refine wp_getR (r := 98) rfl (congrArg Prod.fst (kf_89 X.1)) rfl ?_
            refine wp_aload rfl rfl ?_
            refine wp_getR (r := 108) rfl (congrArg Prod.fst (kf_89 X.1)) rfl ?_
            refine wp_iload rfl rfl ?_
            refine wp_iconst rfl ?_
            refine wp_isub rfl ?_
            refine Wp.topI (y := (x4 - 1)) (w32_I (by clear H; unfold R32; omega)) ?_
            refine wp_iaload rfl (kf_109 X.1) ⟨g9.1, g9.2⟩ ?_
            refine wp_iaload rfl (kf_99 X.1) ⟨g10.1, g10.2⟩ ?_
            refine wp_isub rfl ?_
            have g24 := H.1
            replace H := H.2
            refine Wp.topI (y := ((h 99 (h 109 x4)) - (h 99 (h 109 (x4 - 1))))) (w32_I g24) ?_
            refine wp_istore (L2 := [vr 89, vi x4, vi ((h 99 (h 109 x4)) - (h 99 (h 109 (x4 - 1))))]) rfl (Nat.le_of_ble_eq_true rfl) rfl ?_
            refine wp_iload rfl rfl ?_
            refine wp_ifle (tn := 34) rfl rfl (fun c25 => ?_) (fun c25 => ?_)
            · replace H := H.1 c25
              refine wp_iload rfl rfl ?_
              refine wp_ifge (tn := 42) rfl rfl (fun c26 => ?_) (fun c26 => ?_)
              · replace H := H.1 c26
                refine wp_iconst rfl ?_
                refine wp_iret rfl rfl ?_
                show Wp X _ 96 75 [vr 89, vi x1, vi x2, vi x3, vi x4] [vi 0, vi 0] _ _
                refine wp_goto (tn := 85) rfl rfl ?_
                refine wp_icneF (tn := 92) rfl rfl (by decide) ?_
                refine wp_iconst rfl ?_
                refine wp_goto (tn := 93) rfl rfl ?_
                refine wp_istore (L2 := [vr 89, vi x1, vi x2, vi 1, vi x4]) rfl (Nat.le_of_ble_eq_true rfl) rfl ?_
                refine wp_iincR (L2 := [vr 89, vi x1, vi x2, vi 1, vi (x4 + (-1))]) rfl rfl (by clear H; unfold R32; omega) rfl ?_
                refine wp_goto (tn := 31) rfl rfl ?_
                exact H
              · replace H := H.2 c26
                refine wp_iconst rfl ?_
                refine wp_goto (tn := 43) rfl rfl ?_
                refine wp_iret rfl rfl ?_
                show Wp X _ 96 75 [vr 89, vi x1, vi x2, vi x3, vi x4] [vi (-1), vi 0] _ _
                refine wp_goto (tn := 85) rfl rfl ?_
                refine wp_icneT (tn := 92) rfl rfl (by decide) ?_
                refine wp_iconst rfl ?_
                refine wp_istore (L2 := [vr 89, vi x1, vi x2, vi 0, vi x4]) rfl (Nat.le_of_ble_eq_true rfl) rfl ?_
                refine wp_iincR (L2 := [vr 89, vi x1, vi x2, vi 0, vi (x4 + (-1))]) rfl rfl (by clear H; unfold R32; omega) rfl ?_
                refine wp_goto (tn := 31) rfl rfl ?_
                exact H
            · replace H := H.2 c25
              refine wp_iconst rfl ?_
              refine wp_goto (tn := 43) rfl rfl ?_
              refine wp_iret rfl rfl ?_
              show Wp X _ 96 75 [vr 89, vi x1, vi x2, vi x3, vi x4] [vi 1, vi 0] _ _
              refine wp_goto (tn := 85) rfl rfl ?_
              refine wp_icneT (tn := 92) rfl rfl (by decide) ?_
              refine wp_iconst rfl ?_
              refine wp_istore (L2 := [vr 89, vi x1, vi x2, vi 0, vi x4]) rfl (Nat.le_of_ble_eq_true rfl) rfl ?_
              refine wp_iincR (L2 := [vr 89, vi x1, vi x2, vi 0, vi (x4 + (-1))]) rfl rfl (by clear H; unfold R32; omega) rfl ?_
              refine wp_goto (tn := 31) rfl rfl ?_
              exact H
        · replace H := H.2 c15
          refine wp_iconst rfl ?_
          refine wp_goto (tn := 43) rfl rfl ?_
          refine wp_iret rfl rfl ?_
          show Wp X _ 96 58 [vr 89, vi x1, vi x2, vi x3, vi x4] [vi (-1)] _ _
          refine wp_aload rfl rfl ?_
          refine wp_getR (r := 104) rfl (congrArg Prod.fst (kf_89 X.1)) rfl ?_
          refine wp_iload rfl rfl ?_
          refine wp_iaload rfl (kf_105 X.1) ⟨g1.1, g1.2⟩ ?_
          refine wp_iconst rfl ?_
          refine wp_icne (tn := 78) rfl rfl (fun c27 => ?_) (fun c27 => ?_)
          · replace H := H.1 c27
            refine wp_aload rfl rfl ?_
            refine wp_iload rfl rfl ?_
            refine wp_call (k := 95) (ρ2 := 0) (L2 := [vr 89, vi x4, vu]) rfl rfl rfl (Nat.le_of_ble_eq_true rfl) (Nat.le_of_ble_eq_true rfl) (Nat.le_of_ble_eq_true rfl) (rcv_V rfl (congrArg Prod.fst (kf_89 X.1))) rfl ?_
            refine wp_aload rfl rfl ?_
            refine wp_getR (r := 98) rfl (congrArg Prod.fst (kf_89 X.1)) rfl ?_
            refine wp_aload rfl rfl ?_
            refine wp_getR (r := 108) rfl (congrArg Prod.fst (kf_89 X.1)) rfl ?_
            refine wp_iload rfl rfl ?_
            have g28 := H.1
            replace H := H.2
            refine wp_iaload rfl (kf_109 X.1) g28 ?_
            have g29 := H.1
            replace H := H.2
            refine wp_iaload rfl (kf_99 X.1) g29 ?_
            refine wp_aload rfl rfl ?_
            refine wp_getR (r := 98) rfl (congrArg Prod.fst (kf_89 X.1)) rfl ?_
            refine wp_aload rfl rfl ?_
            refine wp_getR (r := 108) rfl (congrArg Prod.fst (kf_89 X.1)) rfl ?_
            refine wp_iload rfl rfl ?_
            refine wp_iconst rfl ?_
            refine wp_isub rfl ?_
            refine Wp.topI (y := (x4 - 1)) (w32_I (by clear H; unfold R32; omega)) ?_
            refine wp_iaload rfl (kf_109 X.1) ⟨g9.1, g9.2⟩ ?_
            refine wp_iaload rfl (kf_99 X.1) ⟨g10.1, g10.2⟩ ?_
            refine wp_isub rfl ?_
            have g30 := H.1
            replace H := H.2
            refine Wp.topI (y := ((h 99 (h 109 x4)) - (h 99 (h 109 (x4 - 1))))) (w32_I g30) ?_
            refine wp_istore (L2 := [vr 89, vi x4, vi ((h 99 (h 109 x4)) - (h 99 (h 109 (x4 - 1))))]) rfl (Nat.le_of_ble_eq_true rfl) rfl ?_
            refine wp_iload rfl rfl ?_
            refine wp_ifle (tn := 34) rfl rfl (fun c31 => ?_) (fun c31 => ?_)
            · replace H := H.1 c31
              refine wp_iload rfl rfl ?_
              refine wp_ifge (tn := 42) rfl rfl (fun c32 => ?_) (fun c32 => ?_)
              · replace H := H.1 c32
                refine wp_iconst rfl ?_
                refine wp_iret rfl rfl ?_
                show Wp X _ 96 84 [vr 89, vi x1, vi x2, vi x3, vi x4] [vi 0, vi (-1)] _ _
                refine wp_ineg rfl ?_
                refine Wp.topI (y := (-0)) (by decide) ?_
                refine wp_icneT (tn := 92) rfl rfl (by decide) ?_
                refine wp_iconst rfl ?_
                refine wp_istore (L2 := [vr 89, vi x1, vi x2, vi 0, vi x4]) rfl (Nat.le_of_ble_eq_true rfl) rfl ?_
                refine wp_iincR (L2 := [vr 89, vi x1, vi x2, vi 0, vi (x4 + (-1))]) rfl rfl (by clear H; unfold R32; omega) rfl ?_
                refine wp_goto (tn := 31) rfl rfl ?_
                exact H
              · replace H := H.2 c32
                refine wp_iconst rfl ?_
                refine wp_goto (tn := 43) rfl rfl ?_
                refine wp_iret rfl rfl ?_
                show Wp X _ 96 84 [vr 89, vi x1, vi x2, vi x3, vi x4] [vi (-1), vi (-1)] _ _
                refine wp_ineg rfl ?_
                refine Wp.topI (y := (-(-1))) (by decide) ?_
                refine wp_icneT (tn := 92) rfl rfl (by decide) ?_
                refine wp_iconst rfl ?_
                refine wp_istore (L2 := [vr 89, vi x1, vi x2, vi 0, vi x4]) rfl (Nat.le_of_ble_eq_true rfl) rfl ?_
                refine wp_iincR (L2 := [vr 89, vi x1, vi x2, vi 0, vi (x4 + (-1))]) rfl rfl (by clear H; unfold R32; omega) rfl ?_
                refine wp_goto (tn := 31) rfl rfl ?_
                exact H
            · replace H := H.2 c31
              refine wp_iconst rfl ?_
              refine wp_goto (tn := 43) rfl rfl ?_
              refine wp_iret rfl rfl ?_
              show Wp X _ 96 84 [vr 89, vi x1, vi x2, vi x3, vi x4] [vi 1, vi (-1)] _ _
              refine wp_ineg rfl ?_
              refine Wp.topI (y := (-1)) (by decide) ?_
              refine wp_icneF (tn := 92) rfl rfl (by decide) ?_
              refine wp_iconst rfl ?_
              refine wp_goto (tn := 93) rfl rfl ?_
              refine wp_istore (L2 := [vr 89, vi x1, vi x2, vi 1, vi x4]) rfl (Nat.le_of_ble_eq_true rfl) rfl ?_
              refine wp_iincR (L2 := [vr 89, vi x1, vi x2, vi 1, vi (x4 + (-1))]) rfl rfl (by clear H; unfold R32; omega) rfl ?_
              refine wp_goto (tn := 31) rfl rfl ?_
              exact H
          · replace H := H.2 c27
            refine wp_aload rfl rfl ?_
            refine wp_iload rfl rfl ?_
            refine wp_call (k := 95) (ρ2 := 0) (L2 := [vr 89, vi x4, vu]) rfl rfl rfl (Nat.le_of_ble_eq_true rfl) (Nat.le_of_ble_eq_true rfl) (Nat.le_of_ble_eq_true rfl) (rcv_V rfl (congrArg Prod.fst (kf_89 X.1))) rfl ?_
            refine wp_aload rfl rfl ?_
            refine wp_getR (r := 98) rfl (congrArg Prod.fst (kf_89 X.1)) rfl ?_
            refine wp_aload rfl rfl ?_
            refine wp_getR (r := 108) rfl (congrArg Prod.fst (kf_89 X.1)) rfl ?_
            refine wp_iload rfl rfl ?_
            have g33 := H.1
            replace H := H.2
            refine wp_iaload rfl (kf_109 X.1) g33 ?_
            have g34 := H.1
            replace H := H.2
            refine wp_iaload rfl (kf_99 X.1) g34 ?_
            refine wp_aload rfl rfl ?_
            refine wp_getR (r := 98) rfl (congrArg Prod.fst (kf_89 X.1)) rfl ?_
            refine wp_aload rfl rfl ?_
            refine wp_getR (r := 108) rfl (congrArg Prod.fst (kf_89 X.1)) rfl ?_
            refine wp_iload rfl rfl ?_
            refine wp_iconst rfl ?_
            refine wp_isub rfl ?_
            refine Wp.topI (y := (x4 - 1)) (w32_I (by clear H; unfold R32; omega)) ?_
            refine wp_iaload rfl (kf_109 X.1) ⟨g9.1, g9.2⟩ ?_
            refine wp_iaload rfl (kf_99 X.1) ⟨g10.1, g10.2⟩ ?_
            refine wp_isub rfl ?_
            have g35 := H.1
            replace H := H.2
            refine Wp.topI (y := ((h 99 (h 109 x4)) - (h 99 (h 109 (x4 - 1))))) (w32_I g35) ?_
            refine wp_istore (L2 := [vr 89, vi x4, vi ((h 99 (h 109 x4)) - (h 99 (h 109 (x4 - 1))))]) rfl (Nat.le_of_ble_eq_true rfl) rfl ?_
            refine wp_iload rfl rfl ?_
            refine wp_ifle (tn := 34) rfl rfl (fun c36 => ?_) (fun c36 => ?_)
            · replace H := H.1 c36
              refine wp_iload rfl rfl ?_
              refine wp_ifge (tn := 42) rfl rfl (fun c37 => ?_) (fun c37 => ?_)
              · replace H := H.1 c37
                refine wp_iconst rfl ?_
                refine wp_iret rfl rfl ?_
                show Wp X _ 96 75 [vr 89, vi x1, vi x2, vi x3, vi x4] [vi 0, vi (-1)] _ _
                refine wp_goto (tn := 85) rfl rfl ?_
                refine wp_icneT (tn := 92) rfl rfl (by decide) ?_
                refine wp_iconst rfl ?_
                refine wp_istore (L2 := [vr 89, vi x1, vi x2, vi 0, vi x4]) rfl (Nat.le_of_ble_eq_true rfl) rfl ?_
                refine wp_iincR (L2 := [vr 89, vi x1, vi x2, vi 0, vi (x4 + (-1))]) rfl rfl (by clear H; unfold R32; omega) rfl ?_
                refine wp_goto (tn := 31) rfl rfl ?_
                exact H
              · replace H := H.2 c37
                refine wp_iconst rfl ?_
                refine wp_goto (tn := 43) rfl rfl ?_
                refine wp_iret rfl rfl ?_
                show Wp X _ 96 75 [vr 89, vi x1, vi x2, vi x3, vi x4] [vi (-1), vi (-1)] _ _
                refine wp_goto (tn := 85) rfl rfl ?_
                refine wp_icneF (tn := 92) rfl rfl (by decide) ?_
                refine wp_iconst rfl ?_
                refine wp_goto (tn := 93) rfl rfl ?_
                refine wp_istore (L2 := [vr 89, vi x1, vi x2, vi 1, vi x4]) rfl (Nat.le_of_ble_eq_true rfl) rfl ?_
                refine wp_iincR (L2 := [vr 89, vi x1, vi x2, vi 1, vi (x4 + (-1))]) rfl rfl (by clear H; unfold R32; omega) rfl ?_
                refine wp_goto (tn := 31) rfl rfl ?_
                exact H
            · replace H := H.2 c36
              refine wp_iconst rfl ?_
              refine wp_goto (tn := 43) rfl rfl ?_
              refine wp_iret rfl rfl ?_
              show Wp X _ 96 75 [vr 89, vi x1, vi x2, vi x3, vi x4] [vi 1, vi (-1)] _ _
              refine wp_goto (tn := 85) rfl rfl ?_
              refine wp_icneT (tn := 92) rfl rfl (by decide) ?_
              refine wp_iconst rfl ?_
              refine wp_istore (L2 := [vr 89, vi x1, vi x2, vi 0, vi x4]) rfl (Nat.le_of_ble_eq_true rfl) rfl ?_
              refine wp_iincR (L2 := [vr 89, vi x1, vi x2, vi 0, vi (x4 + (-1))]) rfl rfl (by clear H; unfold R32; omega) rfl ?_
              refine wp_goto (tn := 31) rfl rfl ?_
              exact H
      · replace H := H.2 c14
        refine wp_iconst rfl ?_
        refine wp_goto (tn := 43) rfl rfl ?_
        refine wp_iret rfl rfl ?_
        show Wp X _ 96 58 [vr 89, vi x1, vi x2, vi x3, vi x4] [vi 1] _ _
        refine wp_aload rfl rfl ?_
        refine wp_getR (r := 104) rfl (congrArg Prod.fst (kf_89 X.1)) rfl ?_
        refine wp_iload rfl rfl ?_
        refine wp_iaload rfl (kf_105 X.1) ⟨g1.1, g1.2⟩ ?_
        refine wp_iconst rfl ?_
        refine wp_icne (tn := 78) rfl rfl (fun c38 => ?_) (fun c38 => ?_)
        · replace H := H.1 c38
          refine wp_aload rfl rfl ?_
          refine wp_iload rfl rfl ?_
          refine wp_call (k := 95) (ρ2 := 0) (L2 := [vr 89, vi x4, vu]) rfl rfl rfl (Nat.le_of_ble_eq_true rfl) (Nat.le_of_ble_eq_true rfl) (Nat.le_of_ble_eq_true rfl) (rcv_V rfl (congrArg Prod.fst (kf_89 X.1))) rfl ?_
          refine wp_aload rfl rfl ?_
          refine wp_getR (r := 98) rfl (congrArg Prod.fst (kf_89 X.1)) rfl ?_
          refine wp_aload rfl rfl ?_
          refine wp_getR (r := 108) rfl (congrArg Prod.fst (kf_89 X.1)) rfl ?_
          refine wp_iload rfl rfl ?_
          have g39 := H.1
          replace H := H.2
          refine wp_iaload rfl (kf_109 X.1) g39 ?_
          have g40 := H.1
          replace H := H.2
          refine wp_iaload rfl (kf_99 X.1) g40 ?_
          refine wp_aload rfl rfl ?_
          refine wp_getR (r := 98) rfl (congrArg Prod.fst (kf_89 X.1)) rfl ?_
          refine wp_aload rfl rfl ?_
          refine wp_getR (r := 108) rfl (congrArg Prod.fst (kf_89 X.1)) rfl ?_
          refine wp_iload rfl rfl ?_
          refine wp_iconst rfl ?_
          refine wp_isub rfl ?_
          refine Wp.topI (y := (x4 - 1)) (w32_I (by clear H; unfold R32; omega)) ?_
          refine wp_iaload rfl (kf_109 X.1) ⟨g9.1, g9.2⟩ ?_
          refine wp_iaload rfl (kf_99 X.1) ⟨g10.1, g10.2⟩ ?_
          refine wp_isub rfl ?_
          have g41 := H.1
          replace H := H.2
          refine Wp.topI (y := ((h 99 (h 109 x4)) - (h 99 (h 109 (x4 - 1))))) (w32_I g41) ?_
          refine wp_istore (L2 := [vr 89, vi x4, vi ((h 99 (h 109 x4)) - (h 99 (h 109 (x4 - 1))))]) rfl (Nat.le_of_ble_eq_true rfl) rfl ?_
          refine wp_iload rfl rfl ?_
          refine wp_ifle (tn := 34) rfl rfl (fun c42 => ?_) (fun c42 => ?_)
          · replace H := H.1 c42
            refine wp_iload rfl rfl ?_
            refine wp_ifge (tn := 42) rfl rfl (fun c43 => ?_) (fun c43 => ?_)
            · replace H := H.1 c43
              refine wp_iconst rfl ?_
              refine wp_iret rfl rfl ?_
              show Wp X _ 96 84 [vr 89, vi x1, vi x2, vi x3, vi x4] [vi 0, vi 1] _ _
              refine wp_ineg rfl ?_
              refine Wp.topI (y := (-0)) (by decide) ?_
              refine wp_icneT (tn := 92) rfl rfl (by decide) ?_
              refine wp_iconst rfl ?_
              refine wp_istore (L2 := [vr 89, vi x1, vi x2, vi 0, vi x4]) rfl (Nat.le_of_ble_eq_true rfl) rfl ?_
              refine wp_iincR (L2 := [vr 89, vi x1, vi x2, vi 0, vi (x4 + (-1))]) rfl rfl (by clear H; unfold R32; omega) rfl ?_
              refine wp_goto (tn := 31) rfl rfl ?_
              exact H
            · replace H := H.2 c43
              refine wp_iconst rfl ?_
              refine wp_goto (tn := 43) rfl rfl ?_
              refine wp_iret rfl rfl ?_
              show Wp X _ 96 84 [vr 89, vi x1, vi x2, vi x3, vi x4] [vi (-1), vi 1] _ _
              refine wp_ineg rfl ?_
              refine Wp.topI (y := (-(-1))) (by decide) ?_
              refine wp_icneF (tn := 92) rfl rfl (by decide) ?_
              refine wp_iconst rfl ?_
              refine wp_goto (tn := 93) rfl rfl ?_
              refine wp_istore (L2 := [vr 89, vi x1, vi x2, vi 1, vi x4]) rfl (Nat.le_of_ble_eq_true rfl) rfl ?_
              refine wp_iincR (L2 := [vr 89, vi x1, vi x2, vi 1, vi (x4 + (-1))]) rfl rfl (by clear H; unfold R32; omega) rfl ?_
              refine wp_goto (tn := 31) rfl rfl ?_
              exact H
          · replace H := H.2 c42
            refine wp_iconst rfl ?_
            refine wp_goto (tn := 43) rfl rfl ?_
            refine wp_iret rfl rfl ?_
            show Wp X _ 96 84 [vr 89, vi x1, vi x2, vi x3, vi x4] [vi 1, vi 1] _ _
            refine wp_ineg rfl ?_
            refine Wp.topI (y := (-1)) (by decide) ?_
            refine wp_icneT (tn := 92) rfl rfl (by decide) ?_
            refine wp_iconst rfl ?_
            refine wp_istore (L2 := [vr 89, vi x1, vi x2, vi 0, vi x4]) rfl (Nat.le_of_ble_eq_true rfl) rfl ?_
            refine wp_iincR (L2 := [vr 89, vi x1, vi x2, vi 0, vi (x4 + (-1))]) rfl rfl (by clear H; unfold R32; omega) rfl ?_
            refine wp_goto (tn := 31) rfl rfl ?_
            exact H
        · replace H := H.2 c38
          refine wp_aload rfl rfl ?_
          refine wp_iload rfl rfl ?_
          refine wp_call (k := 95) (ρ2 := 0) (L2 := [vr 89, vi x4, vu]) rfl rfl rfl (Nat.le_of_ble_eq_true rfl) (Nat.le_of_ble_eq_true rfl) (Nat.le_of_ble_eq_true rfl) (rcv_V rfl (congrArg Prod.fst (kf_89 X.1))) rfl ?_
          refine wp_aload rfl rfl ?_
          refine wp_getR (r := 98) rfl (congrArg Prod.fst (kf_89 X.1)) rfl ?_
          refine wp_aload rfl rfl ?_
          refine wp_getR (r := 108) rfl (congrArg Prod.fst (kf_89 X.1)) rfl ?_
          refine wp_iload rfl rfl ?_
          have g44 := H.1
          replace H := H.2
          refine wp_iaload rfl (kf_109 X.1) g44 ?_
          have g45 := H.1
          replace H := H.2
          refine wp_iaload rfl (kf_99 X.1) g45 ?_
          refine wp_aload rfl rfl ?_
          refine wp_getR (r := 98) rfl (congrArg Prod.fst (kf_89 X.1)) rfl ?_
          refine wp_aload rfl rfl ?_
          refine wp_getR (r := 108) rfl (congrArg Prod.fst (kf_89 X.1)) rfl ?_
          refine wp_iload rfl rfl ?_
          refine wp_iconst rfl ?_
          refine wp_isub rfl ?_
          refine Wp.topI (y := (x4 - 1)) (w32_I (by clear H; unfold R32; omega)) ?_
          refine wp_iaload rfl (kf_109 X.1) ⟨g9.1, g9.2⟩ ?_
          refine wp_iaload rfl (kf_99 X.1) ⟨g10.1, g10.2⟩ ?_
          refine wp_isub rfl ?_
          have g46 := H.1
          replace H := H.2
          refine Wp.topI (y := ((h 99 (h 109 x4)) - (h 99 (h 109 (x4 - 1))))) (w32_I g46) ?_
          refine wp_istore (L2 := [vr 89, vi x4, vi ((h 99 (h 109 x4)) - (h 99 (h 109 (x4 - 1))))]) rfl (Nat.le_of_ble_eq_true rfl) rfl ?_
          refine wp_iload rfl rfl ?_
          refine wp_ifle (tn := 34) rfl rfl (fun c47 => ?_) (fun c47 => ?_)
          · replace H := H.1 c47
            refine wp_iload rfl rfl ?_
            refine wp_ifge (tn := 42) rfl rfl (fun c48 => ?_) (fun c48 => ?_)
            · replace H := H.1 c48
              refine wp_iconst rfl ?_
              refine wp_iret rfl rfl ?_
              show Wp X _ 96 75 [vr 89, vi x1, vi x2, vi x3, vi x4] [vi 0, vi 1] _ _
              refine wp_goto (tn := 85) rfl rfl ?_
              refine wp_icneT (tn := 92) rfl rfl (by decide) ?_
              refine wp_iconst rfl ?_
              refine wp_istore (L2 := [vr 89, vi x1, vi x2, vi 0, vi x4]) rfl (Nat.le_of_ble_eq_true rfl) rfl ?_
              refine wp_iincR (L2 := [vr 89, vi x1, vi x2, vi 0, vi (x4 + (-1))]) rfl rfl (by clear H; unfold R32; omega) rfl ?_
              refine wp_goto (tn := 31) rfl rfl ?_
              exact H
            · replace H := H.2 c48
              refine wp_iconst rfl ?_
              refine wp_goto (tn := 43) rfl rfl ?_
              refine wp_iret rfl rfl ?_
              show Wp X _ 96 75 [vr 89, vi x1, vi x2, vi x3, vi x4] [vi (-1), vi 1] _ _
              refine wp_goto (tn := 85) rfl rfl ?_
              refine wp_icneT (tn := 92) rfl rfl (by decide) ?_
              refine wp_iconst rfl ?_
              refine wp_istore (L2 := [vr 89, vi x1, vi x2, vi 0, vi x4]) rfl (Nat.le_of_ble_eq_true rfl) rfl ?_
              refine wp_iincR (L2 := [vr 89, vi x1, vi x2, vi 0, vi (x4 + (-1))]) rfl rfl (by clear H; unfold R32; omega) rfl ?_
              refine wp_goto (tn := 31) rfl rfl ?_
              exact H
          · replace H := H.2 c47
            refine wp_iconst rfl ?_
            refine wp_goto (tn := 43) rfl rfl ?_
            refine wp_iret rfl rfl ?_
            show Wp X _ 96 75 [vr 89, vi x1, vi x2, vi x3, vi x4] [vi 1, vi 1] _ _
            refine wp_goto (tn := 85) rfl rfl ?_
            refine wp_icneF (tn := 92) rfl rfl (by decide) ?_
            refine wp_iconst rfl ?_
            refine wp_goto (tn := 93) rfl rfl ?_
            refine wp_istore (L2 := [vr 89, vi x1, vi x2, vi 1, vi x4]) rfl (Nat.le_of_ble_eq_true rfl) rfl ?_
            refine wp_iincR (L2 := [vr 89, vi x1, vi x2, vi 1, vi (x4 + (-1))]) rfl rfl (by clear H; unfold R32; omega) rfl ?_
            refine wp_goto (tn := 31) rfl rfl ?_
            exact H
/-- WarnLinesModel.warnsAt(I)I, from 0 -/
theorem S97_89_0 {X : Nat × (Int → Int)} {h : HP} {Q : bQ} (x1 : Int) (H : Wp X 3 97 4 [vr 89, vi x1, vi 0, vi 0] [] h Q) : Wp X 3 97 0 [vr 89, vi x1, vu, vu] [] h Q := by
  refine wp_iconst rfl ?_
  refine wp_istore (L2 := [vr 89, vi x1, vi 0, vu]) rfl (Nat.le_of_ble_eq_true rfl) rfl ?_
  refine wp_iconst rfl ?_
  refine wp_istore (L2 := [vr 89, vi x1, vi 0, vi 0]) rfl (Nat.le_of_ble_eq_true rfl) rfl ?_
  exact H
/-- WarnLinesModel.warnsAt(I)I, from 4 -/
theorem S97_89_4 {X : Nat × (Int → Int)} {h : HP} {Q : bQ} (x1 : Int) (x2 : Int) (x3 : Int) (H : (((h 89 24) ≤ x3 → Q (some (vi x2)) h) ∧ (x3 < (h 89 24) → ((0 ≤ x3 ∧ x3 < 8) ∧ (((h 105 x3) ≠ 122 → Wp X 1 96 0 [vr 89, vi x3, vi x1, vu, vu] [] h (fun v h' => Wp X 3 97 42 [vr 89, vi x1, vi x2, vi x3] (psh v [vi x2]) h' Q)) ∧ ((h 105 x3) = 122 → Wp X 2 94 0 [vr 89, vi x3, vi x1, vu, vu, vu, vu, vu] [] h (fun v h' => Wp X 3 97 30 [vr 89, vi x1, vi x2, vi x3] (psh v [vi x2]) h' Q))))))) : Wp X 3 97 4 [vr 89, vi x1, vi x2, vi x3] [] h Q := by
  refine wp_iload rfl rfl ?_
  refine wp_aload rfl rfl ?_
  refine wp_getI (j := 24) rfl (congrArg Prod.fst (kf_89 X.1)) rfl ?_
  refine wp_icge (tn := 60) rfl rfl (fun c1 => ?_) (fun c1 => ?_)
  · replace H := H.1 c1
    refine wp_iload rfl rfl ?_
    exact wp_iret rfl rfl H
  · replace H := H.2 c1
    refine wp_iload rfl rfl ?_
    refine wp_aload rfl rfl ?_
    refine wp_getR (r := 104) rfl (congrArg Prod.fst (kf_89 X.1)) rfl ?_
    refine wp_iload rfl rfl ?_
    have g2 := H.1
    replace H := H.2
    refine wp_iaload rfl (kf_105 X.1) g2 ?_
    refine wp_iconst rfl ?_
    refine wp_icne (tn := 36) rfl rfl (fun c3 => ?_) (fun c3 => ?_)
    · replace H := H.1 c3
      refine wp_aload rfl rfl ?_
      refine wp_iload rfl rfl ?_
      refine wp_iload rfl rfl ?_
      exact wp_call (k := 96) (ρ2 := 1) (L2 := [vr 89, vi x3, vi x1, vu, vu]) rfl rfl rfl (Nat.le_of_ble_eq_true rfl) (Nat.le_of_ble_eq_true rfl) (Nat.le_of_ble_eq_true rfl) (rcv_V rfl (congrArg Prod.fst (kf_89 X.1))) rfl H
    · replace H := H.2 c3
      refine wp_aload rfl rfl ?_
      refine wp_iload rfl rfl ?_
      refine wp_iload rfl rfl ?_
      exact wp_call (k := 94) (ρ2 := 2) (L2 := [vr 89, vi x3, vi x1, vu, vu, vu, vu, vu]) rfl rfl rfl (Nat.le_of_ble_eq_true rfl) (Nat.le_of_ble_eq_true rfl) (Nat.le_of_ble_eq_true rfl) (rcv_V rfl (congrArg Prod.fst (kf_89 X.1))) rfl H
/-- WarnLinesModel.warnsAt(I)I, from 30 -/
theorem S97_89_30 {X : Nat × (Int → Int)} {h : HP} {Q : bQ} (x1 : Int) (zx2 : aV) (x3 : Int) (s0 : Int) (s1 : Int) (H : ((s0 = 0 → ((R32 (x3 + 1)) ∧ Wp X 3 97 4 [vr 89, vi x1, vi ((i32 s1 ||| i32 0).toInt), vi (x3 + 1)] [] h Q)) ∧ (s0 ≠ 0 → ((R32 (x3 + 1)) ∧ Wp X 3 97 4 [vr 89, vi x1, vi ((i32 s1 ||| i32 ((i32 1 <<< (i32 x3 &&& 31)).toInt)).toInt), vi (x3 + 1)] [] h Q)))) : Wp X 3 97 30 [vr 89, vi x1, zx2, vi x3] [vi s0, vi s1] h Q := by
  refine wp_ifeq (tn := 51) rfl rfl (fun c1 => ?_) (fun c1 => ?_)
  · replace H := H.1 c1
    refine wp_iconst rfl ?_
    refine wp_ior rfl ?_
    refine wp_istore (L2 := [vr 89, vi x1, vi ((i32 s1 ||| i32 0).toInt), vi x3]) rfl (Nat.le_of_ble_eq_true rfl) rfl ?_
    have g2 := H.1
    replace H := H.2
    refine wp_iincR (L2 := [vr 89, vi x1, vi ((i32 s1 ||| i32 0).toInt), vi (x3 + 1)]) rfl rfl g2 rfl ?_
    refine wp_goto (tn := 4) rfl rfl ?_
    exact H
  · replace H := H.2 c1
    refine wp_goto (tn := 45) rfl rfl ?_
    refine wp_iconst rfl ?_
    refine wp_iload rfl rfl ?_
    refine wp_ishl rfl ?_
    refine wp_goto (tn := 52) rfl rfl ?_
    refine wp_ior rfl ?_
    refine wp_istore (L2 := [vr 89, vi x1, vi ((i32 s1 ||| i32 ((i32 1 <<< (i32 x3 &&& 31)).toInt)).toInt), vi x3]) rfl (Nat.le_of_ble_eq_true rfl) rfl ?_
    have g3 := H.1
    replace H := H.2
    refine wp_iincR (L2 := [vr 89, vi x1, vi ((i32 s1 ||| i32 ((i32 1 <<< (i32 x3 &&& 31)).toInt)).toInt), vi (x3 + 1)]) rfl rfl g3 rfl ?_
    refine wp_goto (tn := 4) rfl rfl ?_
    exact H
/-- WarnLinesModel.warnsAt(I)I, from 42 -/
theorem S97_89_42 {X : Nat × (Int → Int)} {h : HP} {Q : bQ} (x1 : Int) (zx2 : aV) (x3 : Int) (s0 : Int) (s1 : Int) (H : ((s0 = 0 → ((R32 (x3 + 1)) ∧ Wp X 3 97 4 [vr 89, vi x1, vi ((i32 s1 ||| i32 0).toInt), vi (x3 + 1)] [] h Q)) ∧ (s0 ≠ 0 → ((R32 (x3 + 1)) ∧ Wp X 3 97 4 [vr 89, vi x1, vi ((i32 s1 ||| i32 ((i32 1 <<< (i32 x3 &&& 31)).toInt)).toInt), vi (x3 + 1)] [] h Q)))) : Wp X 3 97 42 [vr 89, vi x1, zx2, vi x3] [vi s0, vi s1] h Q := by
  refine wp_ifeq (tn := 51) rfl rfl (fun c1 => ?_) (fun c1 => ?_)
  · replace H := H.1 c1
    refine wp_iconst rfl ?_
    refine wp_ior rfl ?_
    refine wp_istore (L2 := [vr 89, vi x1, vi ((i32 s1 ||| i32 0).toInt), vi x3]) rfl (Nat.le_of_ble_eq_true rfl) rfl ?_
    have g2 := H.1
    replace H := H.2
    refine wp_iincR (L2 := [vr 89, vi x1, vi ((i32 s1 ||| i32 0).toInt), vi (x3 + 1)]) rfl rfl g2 rfl ?_
    refine wp_goto (tn := 4) rfl rfl ?_
    exact H
  · replace H := H.2 c1
    refine wp_iconst rfl ?_
    refine wp_iload rfl rfl ?_
    refine wp_ishl rfl ?_
    refine wp_goto (tn := 52) rfl rfl ?_
    refine wp_ior rfl ?_
    refine wp_istore (L2 := [vr 89, vi x1, vi ((i32 s1 ||| i32 ((i32 1 <<< (i32 x3 &&& 31)).toInt)).toInt), vi x3]) rfl (Nat.le_of_ble_eq_true rfl) rfl ?_
    have g3 := H.1
    replace H := H.2
    refine wp_iincR (L2 := [vr 89, vi x1, vi ((i32 s1 ||| i32 ((i32 1 <<< (i32 x3 &&& 31)).toInt)).toInt), vi (x3 + 1)]) rfl rfl g3 rfl ?_
    refine wp_goto (tn := 4) rfl rfl ?_
    exact H
/-- WarnLinesModel.looks()V, from 0 -/
theorem S98_89_0 {X : Nat × (Int → Int)} {h : HP} {Q : bQ}  (H : Wp X 0 98 2 [vr 89, vi 0] [] h Q) : Wp X 0 98 0 [vr 89, vu] [] h Q := by
  refine wp_iconst rfl ?_
  refine wp_istore (L2 := [vr 89, vi 0]) rfl (Nat.le_of_ble_eq_true rfl) rfl ?_
  exact H
/-- WarnLinesModel.looks()V, from 2 -/
theorem S98_89_2 {X : Nat × (Int → Int)} {h : HP} {Q : bQ} (x1 : Int) (H : (((h 89 16) ≤ x1 → Q none h) ∧ (x1 < (h 89 16) → ((0 ≤ x1 ∧ x1 < 20) ∧ Wp X 0 98 2 [vr 89, vi (x1 + 1)] [] (upd2 h 109 x1 (h 102 x1)) Q)))) : Wp X 0 98 2 [vr 89, vi x1] [] h Q := by
  refine wp_iload rfl rfl ?_
  refine wp_aload rfl rfl ?_
  refine wp_getI (j := 16) rfl (congrArg Prod.fst (kf_89 X.1)) rfl ?_
  refine wp_icge (tn := 28) rfl rfl (fun c1 => ?_) (fun c1 => ?_)
  · replace H := H.1 c1
    exact wp_vret rfl rfl H
  · replace H := H.2 c1
    refine wp_aload rfl rfl ?_
    refine wp_getR (r := 108) rfl (congrArg Prod.fst (kf_89 X.1)) rfl ?_
    refine wp_iload rfl rfl ?_
    refine wp_aload rfl rfl ?_
    refine wp_getR (r := 101) rfl (congrArg Prod.fst (kf_89 X.1)) rfl ?_
    refine wp_iload rfl rfl ?_
    have g2 := H.1
    replace H := H.2
    refine wp_iaload rfl (kf_102 X.1) g2 ?_
    refine wp_iastore rfl (kf_109 X.1) ⟨g2.1, g2.2⟩ ?_
    refine wp_iincR (L2 := [vr 89, vi (x1 + 1)]) rfl rfl (by clear H; unfold R32; omega) rfl ?_
    refine wp_goto (tn := 2) rfl rfl ?_
    exact H
/-- WarnLinesModel.placeOf(I)I, from 0 -/
theorem S99_89_0 {X : Nat × (Int → Int)} {h : HP} {Q : bQ} (x1 : Int) (H : Wp X 0 99 2 [vr 89, vi x1, vi 0] [] h Q) : Wp X 0 99 0 [vr 89, vi x1, vu] [] h Q := by
  refine wp_iconst rfl ?_
  refine wp_istore (L2 := [vr 89, vi x1, vi 0]) rfl (Nat.le_of_ble_eq_true rfl) rfl ?_
  exact H
/-- WarnLinesModel.placeOf(I)I, from 2 -/
theorem S99_89_2 {X : Nat × (Int → Int)} {h : HP} {Q : bQ} (x1 : Int) (x2 : Int) (H : ((0 ≤ x2 ∧ x2 < 20) ∧ (((h 102 x2) = x1 → Q (some (vi x2)) h) ∧ ((h 102 x2) ≠ x1 → Wp X 0 99 2 [vr 89, vi x1, vi (x2 + 1)] [] h Q)))) : Wp X 0 99 2 [vr 89, vi x1, vi x2] [] h Q := by
  refine wp_aload rfl rfl ?_
  refine wp_getR (r := 101) rfl (congrArg Prod.fst (kf_89 X.1)) rfl ?_
  refine wp_iload rfl rfl ?_
  have g1 := H.1
  replace H := H.2
  refine wp_iaload rfl (kf_102 X.1) g1 ?_
  refine wp_iload rfl rfl ?_
  refine wp_iceq (tn := 18) rfl rfl (fun c2 => ?_) (fun c2 => ?_)
  · replace H := H.1 c2
    refine wp_iload rfl rfl ?_
    exact wp_iret rfl rfl H
  · replace H := H.2 c2
    refine wp_iincR (L2 := [vr 89, vi x1, vi (x2 + 1)]) rfl rfl (by clear H; unfold R32; omega) rfl ?_
    refine wp_goto (tn := 2) rfl rfl ?_
    exact H
/-- WarnLinesModel.warnsOf(II)I, from 0 -/
theorem S100_89_0 {X : Nat × (Int → Int)} {h : HP} {Q : bQ} (x1 : Int) (x2 : Int) (H : Wp X 3 92 0 [vr 89, vi x1, vu] [] h (fun v h' => Wp X 4 100 5 [vr 89, vi x1, vi x2] (psh v []) h' Q)) : Wp X 4 100 0 [vr 89, vi x1, vi x2] [] h Q := by
  refine wp_aload rfl rfl ?_
  refine wp_iload rfl rfl ?_
  exact wp_call (k := 92) (ρ2 := 3) (L2 := [vr 89, vi x1, vu]) rfl rfl rfl (Nat.le_of_ble_eq_true rfl) (Nat.le_of_ble_eq_true rfl) (Nat.le_of_ble_eq_true rfl) (rcv_V rfl (congrArg Prod.fst (kf_89 X.1))) rfl H
/-- WarnLinesModel.warnsOf(II)I, from 5 -/
theorem S100_89_5 {X : Nat × (Int → Int)} {h : HP} {Q : bQ} (zx1 : aV) (x2 : Int) (s0 : Int) (H : ((s0 ≠ (-1) → Q (some (vi (-3))) h) ∧ (s0 = (-1) → Wp X 3 78 0 [vr 89, vu, vu, vu, vu] [] h (fun v h' => Wp X 4 100 13 [vr 89, zx1, vi x2] (psh v []) h' Q)))) : Wp X 4 100 5 [vr 89, zx1, vi x2] [vi s0] h Q := by
  refine wp_iconst rfl ?_
  refine wp_icne (tn := 25) rfl rfl (fun c1 => ?_) (fun c1 => ?_)
  · replace H := H.1 c1
    refine wp_iconst rfl ?_
    exact wp_iret rfl rfl H
  · replace H := H.2 c1
    refine wp_aload rfl rfl ?_
    exact wp_call (k := 78) (ρ2 := 3) (L2 := [vr 89, vu, vu, vu, vu]) rfl rfl rfl (Nat.le_of_ble_eq_true rfl) (Nat.le_of_ble_eq_true rfl) (Nat.le_of_ble_eq_true rfl) (rcv_V rfl (congrArg Prod.fst (kf_89 X.1))) rfl H
/-- WarnLinesModel.warnsOf(II)I, from 13 -/
theorem S100_89_13 {X : Nat × (Int → Int)} {h : HP} {Q : bQ} (zx1 : aV) (x2 : Int) (s0 : Int) (H : ((s0 = 0 → Q (some (vi (-3))) h) ∧ (s0 ≠ 0 → ((0 ≤ x2 ∧ x2 < 20) ∧ (((h 101 x2) = 0 → Wp X 0 98 0 [vr 89, vu] [] h (fun v h' => Wp X 4 100 32 [vr 89, zx1, vi x2] (psh v []) h' Q)) ∧ ((h 101 x2) ≠ 0 → Q (some (vi (-3))) h)))))) : Wp X 4 100 13 [vr 89, zx1, vi x2] [vi s0] h Q := by
  refine wp_ifeq (tn := 25) rfl rfl (fun c1 => ?_) (fun c1 => ?_)
  · replace H := H.1 c1
    refine wp_iconst rfl ?_
    exact wp_iret rfl rfl H
  · replace H := H.2 c1
    refine wp_aload rfl rfl ?_
    refine wp_getR (r := 100) rfl (congrArg Prod.fst (kf_89 X.1)) rfl ?_
    refine wp_iload rfl rfl ?_
    have g2 := H.1
    replace H := H.2
    refine wp_baload rfl (kf_101 X.1) g2 ?_
    refine wp_ifeq (tn := 28) rfl rfl (fun c3 => ?_) (fun c3 => ?_)
    · replace H := H.1 c3
      refine wp_aload rfl rfl ?_
      exact wp_call (k := 98) (ρ2 := 0) (L2 := [vr 89, vu]) rfl rfl rfl (Nat.le_of_ble_eq_true rfl) (Nat.le_of_ble_eq_true rfl) (Nat.le_of_ble_eq_true rfl) (rcv_V rfl (congrArg Prod.fst (kf_89 X.1))) rfl H
    · replace H := H.2 c3
      refine wp_iconst rfl ?_
      exact wp_iret rfl rfl H
/-- WarnLinesModel.warnsOf(II)I, from 32 -/
theorem S100_89_32 {X : Nat × (Int → Int)} {h : HP} {Q : bQ} (zx1 : aV) (x2 : Int) (H : Wp X 0 99 0 [vr 89, vi x2, vu] [] h (fun v h' => Wp X 4 100 38 [vr 89, zx1, vi x2] (psh v [vr 89]) h' Q)) : Wp X 4 100 32 [vr 89, zx1, vi x2] [] h Q := by
  refine wp_aload rfl rfl ?_
  refine wp_aload rfl rfl ?_
  refine wp_iload rfl rfl ?_
  exact wp_call (k := 99) (ρ2 := 0) (L2 := [vr 89, vi x2, vu]) rfl rfl rfl (Nat.le_of_ble_eq_true rfl) (Nat.le_of_ble_eq_true rfl) (Nat.le_of_ble_eq_true rfl) (rcv_V rfl (congrArg Prod.fst (kf_89 X.1))) rfl H
/-- WarnLinesModel.warnsOf(II)I, from 38 -/
theorem S100_89_38 {X : Nat × (Int → Int)} {h : HP} {Q : bQ} (zx0 : aV) (zx1 : aV) (zx2 : aV) (s0 : Int) (H : Wp X 3 97 0 [vr 89, vi s0, vu, vu] [] h (fun v h' => Wp X 4 100 41 [zx0, zx1, zx2] (psh v []) h' Q)) : Wp X 4 100 38 [zx0, zx1, zx2] [vi s0, vr 89] h Q := by
  exact wp_call (k := 97) (ρ2 := 3) (L2 := [vr 89, vi s0, vu, vu]) rfl rfl rfl (Nat.le_of_ble_eq_true rfl) (Nat.le_of_ble_eq_true rfl) (Nat.le_of_ble_eq_true rfl) (rcv_V rfl (congrArg Prod.fst (kf_89 X.1))) rfl H
/-- WarnLinesModel.warnsOf(II)I, from 41 -/
theorem S100_89_41 {X : Nat × (Int → Int)} {h : HP} {Q : bQ} (zx0 : aV) (zx1 : aV) (zx2 : aV) (s0 : Int) (H : Q (some (vi s0)) h) : Wp X 4 100 41 [zx0, zx1, zx2] [vi s0] h Q := by
  exact wp_iret rfl rfl H
/-- WarnLinesModel.warns(II)I, from 0 -/
theorem S101_89_0 {X : Nat × (Int → Int)} {h : HP} {Q : bQ} (x1 : Int) (x2 : Int) (H : (((lcp x1 0) < 0 → Q (some (vi (-2))) h) ∧ (0 ≤ (lcp x1 0) → ((0 < (lcp x1 1) → Q (some (vi (-2))) h) ∧ ((lcp x1 1) ≤ 0 → ((R32 ((h 89 5) - 1)) ∧ (((lcp x2 0) < 0 → Q (some (vi (-2))) h) ∧ (0 ≤ (lcp x2 0) → ((0 < (lcp x2 ((h 89 5) - 1)) → Q (some (vi (-2))) h) ∧ ((lcp x2 ((h 89 5) - 1)) ≤ 0 → Wp X 4 100 0 [vr 89, vi x1, vi x2] [] h (fun v h' => Wp X 5 101 21 [vr 89, vi x1, vi x2] (psh v []) h' Q))))))))))) : Wp X 5 101 0 [vr 89, vi x1, vi x2] [] h Q := by
  refine wp_iload rfl rfl ?_
  refine wp_call (k := 50) (ρ2 := 1) (L2 := [vi x1]) rfl rfl rfl (Nat.le_of_ble_eq_true rfl) (Nat.le_of_ble_eq_true rfl) (Nat.le_of_ble_eq_true rfl) (rcv_S rfl) rfl ?_
  refine wp_iload rfl rfl ?_
  refine wp_i2l rfl ?_
  refine wp_sipush rfl ?_
  refine wp_sipush rfl ?_
  refine wp_call (k := 48) (ρ2 := 0) (L2 := [vl x1, vu, vl 0, vu, vl 1, vu]) rfl rfl rfl (Nat.le_of_ble_eq_true rfl) (Nat.le_of_ble_eq_true rfl) (Nat.le_of_ble_eq_true rfl) (rcv_S rfl) rfl ?_
  refine wp_lload rfl rfl ?_
  refine wp_lload rfl rfl ?_
  refine wp_lcmp rfl ?_
  refine wp_iflt (tn := 17) rfl rfl (fun c1 => ?_) (fun c1 => ?_)
  · replace H := H.1 c1
    refine wp_iconst rfl ?_
    refine wp_zret rfl rfl (by decide) ?_
    show Wp X _ 50 7 [vi x1] [vi 0] _ _
    refine wp_zret rfl rfl (by decide) ?_
    show Wp X _ 101 4 [vr 89, vi x1, vi x2] [vi 0] _ _
    refine wp_ifeqT (tn := 24) rfl rfl (by decide) ?_
    refine wp_iconst rfl ?_
    exact wp_iret rfl rfl H
  · replace H := H.2 c1
    refine wp_lload rfl rfl ?_
    refine wp_lload rfl rfl ?_
    refine wp_lcmp rfl ?_
    refine wp_ifgt (tn := 17) rfl rfl (fun c2 => ?_) (fun c2 => ?_)
    · replace H := H.1 c2
      refine wp_iconst rfl ?_
      refine wp_zret rfl rfl (by decide) ?_
      show Wp X _ 50 7 [vi x1] [vi 0] _ _
      refine wp_zret rfl rfl (by decide) ?_
      show Wp X _ 101 4 [vr 89, vi x1, vi x2] [vi 0] _ _
      refine wp_ifeqT (tn := 24) rfl rfl (by decide) ?_
      refine wp_iconst rfl ?_
      exact wp_iret rfl rfl H
    · replace H := H.2 c2
      refine wp_iconst rfl ?_
      refine wp_goto (tn := 18) rfl rfl ?_
      refine wp_zret rfl rfl (by decide) ?_
      show Wp X _ 50 7 [vi x1] [vi 1] _ _
      refine wp_zret rfl rfl (by decide) ?_
      show Wp X _ 101 4 [vr 89, vi x1, vi x2] [vi 1] _ _
      refine wp_ifeqF (tn := 24) rfl rfl (by decide) ?_
      refine wp_aload rfl rfl ?_
      refine wp_iload rfl rfl ?_
      refine wp_call (k := 62) (ρ2 := 1) (L2 := [vr 89, vi x2]) rfl rfl rfl (Nat.le_of_ble_eq_true rfl) (Nat.le_of_ble_eq_true rfl) (Nat.le_of_ble_eq_true rfl) (rcv_V rfl (congrArg Prod.fst (kf_89 X.1))) rfl ?_
      refine wp_iload rfl rfl ?_
      refine wp_i2l rfl ?_
      refine wp_sipush rfl ?_
      refine wp_aload rfl rfl ?_
      refine wp_getI (j := 5) rfl (congrArg Prod.fst (kf_89 X.1)) rfl ?_
      refine wp_iconst rfl ?_
      refine wp_isub rfl ?_
      have g3 := H.1
      replace H := H.2
      refine Wp.topI (y := ((h 89 5) - 1)) (w32_I g3) ?_
      refine wp_i2l rfl ?_
      refine wp_call (k := 48) (ρ2 := 0) (L2 := [vl x2, vu, vl 0, vu, vl ((h 89 5) - 1), vu]) rfl rfl rfl (Nat.le_of_ble_eq_true rfl) (Nat.le_of_ble_eq_true rfl) (Nat.le_of_ble_eq_true rfl) (rcv_S rfl) rfl ?_
      refine wp_lload rfl rfl ?_
      refine wp_lload rfl rfl ?_
      refine wp_lcmp rfl ?_
      refine wp_iflt (tn := 17) rfl rfl (fun c4 => ?_) (fun c4 => ?_)
      · replace H := H.1 c4
        refine wp_iconst rfl ?_
        refine wp_zret rfl rfl (by decide) ?_
        show Wp X _ 62 13 [vr 89, vi x2] [vi 0] _ _
        refine wp_zret rfl rfl (by decide) ?_
        show Wp X _ 101 12 [vr 89, vi x1, vi x2] [vi 0] _ _
        refine wp_ifeqT (tn := 24) rfl rfl (by decide) ?_
        refine wp_iconst rfl ?_
        exact wp_iret rfl rfl H
      · replace H := H.2 c4
        refine wp_lload rfl rfl ?_
        refine wp_lload rfl rfl ?_
        refine wp_lcmp rfl ?_
        refine wp_ifgt (tn := 17) rfl rfl (fun c5 => ?_) (fun c5 => ?_)
        · replace H := H.1 c5
          refine wp_iconst rfl ?_
          refine wp_zret rfl rfl (by decide) ?_
          show Wp X _ 62 13 [vr 89, vi x2] [vi 0] _ _
          refine wp_zret rfl rfl (by decide) ?_
          show Wp X _ 101 12 [vr 89, vi x1, vi x2] [vi 0] _ _
          refine wp_ifeqT (tn := 24) rfl rfl (by decide) ?_
          refine wp_iconst rfl ?_
          exact wp_iret rfl rfl H
        · replace H := H.2 c5
          refine wp_iconst rfl ?_
          refine wp_goto (tn := 18) rfl rfl ?_
          refine wp_zret rfl rfl (by decide) ?_
          show Wp X _ 62 13 [vr 89, vi x2] [vi 1] _ _
          refine wp_zret rfl rfl (by decide) ?_
          show Wp X _ 101 12 [vr 89, vi x1, vi x2] [vi 1] _ _
          refine wp_ifeqF (tn := 24) rfl rfl (by decide) ?_
          refine wp_aload rfl rfl ?_
          refine wp_iload rfl rfl ?_
          refine wp_iload rfl rfl ?_
          exact wp_call (k := 100) (ρ2 := 4) (L2 := [vr 89, vi x1, vi x2]) rfl rfl rfl (Nat.le_of_ble_eq_true rfl) (Nat.le_of_ble_eq_true rfl) (Nat.le_of_ble_eq_true rfl) (rcv_V rfl (congrArg Prod.fst (kf_89 X.1))) rfl H
/-- WarnLinesModel.warns(II)I, from 21 -/
theorem S101_89_21 {X : Nat × (Int → Int)} {h : HP} {Q : bQ} (zx0 : aV) (zx1 : aV) (zx2 : aV) (s0 : Int) (H : Q (some (vi s0)) h) : Wp X 5 101 21 [zx0, zx1, zx2] [vi s0] h Q := by
  refine wp_goto (tn := 26) rfl rfl ?_
  exact wp_iret rfl rfl H
/-- WarnLinesModel.warnings()I, from 0 -/
theorem S102_89_0 {X : Nat × (Int → Int)} {h : HP} {Q : bQ}  (H : Wp X 4 102 4 [vr 89, vi 0, vi 0] [] h Q) : Wp X 4 102 0 [vr 89, vu, vu] [] h Q := by
  refine wp_iconst rfl ?_
  refine wp_istore (L2 := [vr 89, vi 0, vu]) rfl (Nat.le_of_ble_eq_true rfl) rfl ?_
  refine wp_iconst rfl ?_
  refine wp_istore (L2 := [vr 89, vi 0, vi 0]) rfl (Nat.le_of_ble_eq_true rfl) rfl ?_
  exact H
/-- WarnLinesModel.warnings()I, from 4 -/
theorem S102_89_4 {X : Nat × (Int → Int)} {h : HP} {Q : bQ} (x1 : Int) (x2 : Int) (H : (((h 89 16) ≤ x2 → Q (some (vi x1)) h) ∧ (x2 < (h 89 16) → Wp X 3 97 0 [vr 89, vi x2, vu, vu] [] h (fun v h' => Wp X 4 102 18 [vr 89, vi x1, vi x2] (psh v [vi x1]) h' Q)))) : Wp X 4 102 4 [vr 89, vi x1, vi x2] [] h Q := by
  refine wp_iload rfl rfl ?_
  refine wp_aload rfl rfl ?_
  refine wp_getI (j := 16) rfl (congrArg Prod.fst (kf_89 X.1)) rfl ?_
  refine wp_icge (tn := 34) rfl rfl (fun c1 => ?_) (fun c1 => ?_)
  · replace H := H.1 c1
    refine wp_iload rfl rfl ?_
    exact wp_iret rfl rfl H
  · replace H := H.2 c1
    refine wp_iload rfl rfl ?_
    refine wp_aload rfl rfl ?_
    refine wp_iload rfl rfl ?_
    exact wp_call (k := 97) (ρ2 := 3) (L2 := [vr 89, vi x2, vu, vu]) rfl rfl rfl (Nat.le_of_ble_eq_true rfl) (Nat.le_of_ble_eq_true rfl) (Nat.le_of_ble_eq_true rfl) (rcv_V rfl (congrArg Prod.fst (kf_89 X.1))) rfl H
/-- WarnLinesModel.warnings()I, from 18 -/
theorem S102_89_18 {X : Nat × (Int → Int)} {h : HP} {Q : bQ} (zx1 : aV) (x2 : Int) (s0 : Int) (s1 : Int) (H : ((s0 = 0 → ((R32 (s1 + 0)) ∧ ((R32 (x2 + 1)) ∧ Wp X 4 102 4 [vr 89, vi (s1 + 0), vi (x2 + 1)] [] h Q))) ∧ (s0 ≠ 0 → ((R32 (s1 + 1)) ∧ ((R32 (x2 + 1)) ∧ Wp X 4 102 4 [vr 89, vi (s1 + 1), vi (x2 + 1)] [] h Q))))) : Wp X 4 102 18 [vr 89, zx1, vi x2] [vi s0, vi s1] h Q := by
  refine wp_ifeq (tn := 25) rfl rfl (fun c1 => ?_) (fun c1 => ?_)
  · replace H := H.1 c1
    refine wp_iconst rfl ?_
    refine wp_iadd rfl ?_
    have g2 := H.1
    replace H := H.2
    refine Wp.topI (y := (s1 + 0)) (w32_I g2) ?_
    refine wp_istore (L2 := [vr 89, vi (s1 + 0), vi x2]) rfl (Nat.le_of_ble_eq_true rfl) rfl ?_
    have g3 := H.1
    replace H := H.2
    refine wp_iincR (L2 := [vr 89, vi (s1 + 0), vi (x2 + 1)]) rfl rfl g3 rfl ?_
    refine wp_goto (tn := 4) rfl rfl ?_
    exact H
  · replace H := H.2 c1
    refine wp_iconst rfl ?_
    refine wp_goto (tn := 26) rfl rfl ?_
    refine wp_iadd rfl ?_
    have g4 := H.1
    replace H := H.2
    refine Wp.topI (y := (s1 + 1)) (w32_I g4) ?_
    refine wp_istore (L2 := [vr 89, vi (s1 + 1), vi x2]) rfl (Nat.le_of_ble_eq_true rfl) rfl ?_
    have g5 := H.1
    replace H := H.2
    refine wp_iincR (L2 := [vr 89, vi (s1 + 1), vi (x2 + 1)]) rfl rfl g5 rfl ?_
    refine wp_goto (tn := 4) rfl rfl ?_
    exact H
/-- WarnLinesModel.goesOn()Z, from 0 -/
theorem S103_89_0 {X : Nat × (Int → Int)} {h : HP} {Q : bQ}  (H : ((R32 ((h 89 16) - 2)) ∧ Wp X 1 103 7 [vr 89, vi ((h 89 16) - 2), vu, vu, vu] [] h Q)) : Wp X 1 103 0 [vr 89, vu, vu, vu, vu] [] h Q := by
  refine wp_aload rfl rfl ?_
  refine wp_getI (j := 16) rfl (congrArg Prod.fst (kf_89 X.1)) rfl ?_
  refine wp_iconst rfl ?_
  refine wp_isub rfl ?_
  have g1 := H.1
  replace H := H.2
  refine Wp.topI (y := ((h 89 16) - 2)) (w32_I g1) ?_
  refine wp_istore (L2 := [vr 89, vi ((h 89 16) - 2), vu, vu, vu]) rfl (Nat.le_of_ble_eq_true rfl) rfl ?_
  exact H
/-- WarnLinesModel.goesOn()Z, from 7 -/
theorem S103_89_7 {X : Nat × (Int → Int)} {h : HP} {Q : bQ} (x1 : Int) (H : ((x1 < 0 → Q (some (vi 0)) h) ∧ (0 ≤ x1 → ((0 ≤ x1 ∧ x1 < 20) ∧ ((0 ≤ (x1 + 1) ∧ (x1 + 1) < 20) ∧ (((h 110 x1) ≤ (h 110 (x1 + 1)) → ((R32 ((h 89 16) - 1)) ∧ Wp X 1 103 47 [vr 89, vi x1, vi ((h 89 16) - 1), vu, vu] [] h Q)) ∧ ((h 110 (x1 + 1)) < (h 110 x1) → Wp X 1 103 7 [vr 89, vi (x1 + (-1)), vu, vu, vu] [] h Q))))))) : Wp X 1 103 7 [vr 89, vi x1, vu, vu, vu] [] h Q := by
  refine wp_iload rfl rfl ?_
  refine wp_iflt (tn := 34) rfl rfl (fun c1 => ?_) (fun c1 => ?_)
  · replace H := H.1 c1
    refine wp_iload rfl rfl ?_
    refine wp_ifgeF (tn := 40) rfl rfl c1 ?_
    refine wp_iconst rfl ?_
    exact wp_zret rfl rfl (by decide) H
  · replace H := H.2 c1
    refine wp_aload rfl rfl ?_
    refine wp_getR (r := 109) rfl (congrArg Prod.fst (kf_89 X.1)) rfl ?_
    refine wp_iload rfl rfl ?_
    have g2 := H.1
    replace H := H.2
    refine wp_iaload rfl (kf_110 X.1) g2 ?_
    refine wp_aload rfl rfl ?_
    refine wp_getR (r := 109) rfl (congrArg Prod.fst (kf_89 X.1)) rfl ?_
    refine wp_iload rfl rfl ?_
    refine wp_iconst rfl ?_
    refine wp_iadd rfl ?_
    refine Wp.topI (y := (x1 + 1)) (w32_I (by clear H; unfold R32; omega)) ?_
    have g3 := H.1
    replace H := H.2
    refine wp_iaload rfl (kf_110 X.1) g3 ?_
    refine wp_icle (tn := 34) rfl rfl (fun c4 => ?_) (fun c4 => ?_)
    · replace H := H.1 c4
      refine wp_iload rfl rfl ?_
      refine wp_ifgeT (tn := 40) rfl rfl g2.1 ?_
      refine wp_aload rfl rfl ?_
      refine wp_getI (j := 16) rfl (congrArg Prod.fst (kf_89 X.1)) rfl ?_
      refine wp_iconst rfl ?_
      refine wp_isub rfl ?_
      have g5 := H.1
      replace H := H.2
      refine Wp.topI (y := ((h 89 16) - 1)) (w32_I g5) ?_
      refine wp_istore (L2 := [vr 89, vi x1, vi ((h 89 16) - 1), vu, vu]) rfl (Nat.le_of_ble_eq_true rfl) rfl ?_
      exact H
    · replace H := H.2 c4
      refine wp_iincR (L2 := [vr 89, vi (x1 + (-1)), vu, vu, vu]) rfl rfl (by clear H; unfold R32; omega) rfl ?_
      refine wp_goto (tn := 7) rfl rfl ?_
      exact H
/-- WarnLinesModel.goesOn()Z, from 47 -/
theorem S103_89_47 {X : Nat × (Int → Int)} {h : HP} {Q : bQ} (x1 : Int) (x2 : Int) (H : ((0 ≤ x2 ∧ x2 < 20) ∧ ((0 ≤ x1 ∧ x1 < 20) ∧ (((h 110 x1) ≤ (h 110 x2) → ((R32 ((h 89 16) - 1)) ∧ Wp X 1 103 86 [vr 89, vi x1, vi x2, vi (x1 + 1), vi ((h 89 16) - 1)] [] (upd2 (upd2 h 110 x1 (h 110 x2)) 110 x2 (h 110 x1)) Q)) ∧ ((h 110 x2) < (h 110 x1) → Wp X 1 103 47 [vr 89, vi x1, vi (x2 + (-1)), vu, vu] [] h Q))))) : Wp X 1 103 47 [vr 89, vi x1, vi x2, vu, vu] [] h Q := by
  refine wp_aload rfl rfl ?_
  refine wp_getR (r := 109) rfl (congrArg Prod.fst (kf_89 X.1)) rfl ?_
  refine wp_iload rfl rfl ?_
  have g1 := H.1
  replace H := H.2
  refine wp_iaload rfl (kf_110 X.1) g1 ?_
  refine wp_aload rfl rfl ?_
  refine wp_getR (r := 109) rfl (congrArg Prod.fst (kf_89 X.1)) rfl ?_
  refine wp_iload rfl rfl ?_
  have g2 := H.1
  replace H := H.2
  refine wp_iaload rfl (kf_110 X.1) g2 ?_
  refine wp_icge (tn := 68) rfl rfl (fun c3 => ?_) (fun c3 => ?_)
  · replace H := H.1 c3
    refine wp_aload rfl rfl ?_
    refine wp_iload rfl rfl ?_
    refine wp_iload rfl rfl ?_
    refine wp_call (k := 104) (ρ2 := 0) (L2 := [vr 89, vi x1, vi x2, vu]) rfl rfl rfl (Nat.le_of_ble_eq_true rfl) (Nat.le_of_ble_eq_true rfl) (Nat.le_of_ble_eq_true rfl) (rcv_V rfl (congrArg Prod.fst (kf_89 X.1))) rfl ?_
    refine wp_aload rfl rfl ?_
    refine wp_getR (r := 109) rfl (congrArg Prod.fst (kf_89 X.1)) rfl ?_
    refine wp_iload rfl rfl ?_
    refine wp_iaload rfl (kf_110 X.1) ⟨g2.1, g2.2⟩ ?_
    refine wp_istore (L2 := [vr 89, vi x1, vi x2, vi (h 110 x1)]) rfl (Nat.le_of_ble_eq_true rfl) rfl ?_
    refine wp_aload rfl rfl ?_
    refine wp_getR (r := 109) rfl (congrArg Prod.fst (kf_89 X.1)) rfl ?_
    refine wp_iload rfl rfl ?_
    refine wp_aload rfl rfl ?_
    refine wp_getR (r := 109) rfl (congrArg Prod.fst (kf_89 X.1)) rfl ?_
    refine wp_iload rfl rfl ?_
    refine wp_iaload rfl (kf_110 X.1) ⟨g1.1, g1.2⟩ ?_
    refine wp_iastore rfl (kf_110 X.1) ⟨g2.1, g2.2⟩ ?_
    refine wp_aload rfl rfl ?_
    refine wp_getR (r := 109) rfl (congrArg Prod.fst (kf_89 X.1)) rfl ?_
    refine wp_iload rfl rfl ?_
    refine wp_iload rfl rfl ?_
    refine wp_iastore rfl (kf_110 X.1) ⟨g1.1, g1.2⟩ ?_
    refine wp_vret rfl rfl ?_
    show Wp X _ 103 74 [vr 89, vi x1, vi x2, vu, vu] [] _ _
    refine wp_iload rfl rfl ?_
    refine wp_iconst rfl ?_
    refine wp_iadd rfl ?_
    refine Wp.topI (y := (x1 + 1)) (w32_I (by clear H; unfold R32; omega)) ?_
    refine wp_istore (L2 := [vr 89, vi x1, vi x2, vi (x1 + 1), vu]) rfl (Nat.le_of_ble_eq_true rfl) rfl ?_
    refine wp_aload rfl rfl ?_
    refine wp_getI (j := 16) rfl (congrArg Prod.fst (kf_89 X.1)) rfl ?_
    refine Wp.topI (y := (h 89 16)) (congrFun ((upd2_ne (by decide)).trans (upd2_ne (by decide))) _) ?_
    refine wp_iconst rfl ?_
    refine wp_isub rfl ?_
    have g4 := H.1
    replace H := H.2
    refine Wp.topI (y := ((h 89 16) - 1)) (w32_I g4) ?_
    refine wp_istore (L2 := [vr 89, vi x1, vi x2, vi (x1 + 1), vi ((h 89 16) - 1)]) rfl (Nat.le_of_ble_eq_true rfl) rfl ?_
    exact H
  · replace H := H.2 c3
    refine wp_iincR (L2 := [vr 89, vi x1, vi (x2 + (-1)), vu, vu]) rfl rfl (by clear H; unfold R32; omega) rfl ?_
    refine wp_goto (tn := 47) rfl rfl ?_
    exact H
/-- WarnLinesModel.goesOn()Z, from 86 -/
theorem S103_89_86 {X : Nat × (Int → Int)} {h : HP} {Q : bQ} (zx1 : aV) (zx2 : aV) (x3 : Int) (x4 : Int) (H : ((x4 ≤ x3 → Q (some (vi 1)) h) ∧ (x3 < x4 → ((0 ≤ x3 ∧ x3 < 20) ∧ ((0 ≤ x4 ∧ x4 < 20) ∧ Wp X 1 103 86 [vr 89, zx1, (clr1 zx2), vi (x3 + 1), vi (x4 + (-1))] [] (upd2 (upd2 h 110 x3 (h 110 x4)) 110 x4 (h 110 x3)) Q))))) : Wp X 1 103 86 [vr 89, zx1, zx2, vi x3, vi x4] [] h Q := by
  refine wp_iload rfl rfl ?_
  refine wp_iload rfl rfl ?_
  refine wp_icge (tn := 108) rfl rfl (fun c1 => ?_) (fun c1 => ?_)
  · replace H := H.1 c1
    refine wp_iconst rfl ?_
    exact wp_zret rfl rfl (by decide) H
  · replace H := H.2 c1
    refine wp_aload rfl rfl ?_
    refine wp_iload rfl rfl ?_
    refine wp_iload rfl rfl ?_
    refine wp_call (k := 104) (ρ2 := 0) (L2 := [vr 89, vi x3, vi x4, vu]) rfl rfl rfl (Nat.le_of_ble_eq_true rfl) (Nat.le_of_ble_eq_true rfl) (Nat.le_of_ble_eq_true rfl) (rcv_V rfl (congrArg Prod.fst (kf_89 X.1))) rfl ?_
    refine wp_aload rfl rfl ?_
    refine wp_getR (r := 109) rfl (congrArg Prod.fst (kf_89 X.1)) rfl ?_
    refine wp_iload rfl rfl ?_
    have g2 := H.1
    replace H := H.2
    refine wp_iaload rfl (kf_110 X.1) g2 ?_
    refine wp_istore (L2 := [vr 89, vi x3, vi x4, vi (h 110 x3)]) rfl (Nat.le_of_ble_eq_true rfl) rfl ?_
    refine wp_aload rfl rfl ?_
    refine wp_getR (r := 109) rfl (congrArg Prod.fst (kf_89 X.1)) rfl ?_
    refine wp_iload rfl rfl ?_
    refine wp_aload rfl rfl ?_
    refine wp_getR (r := 109) rfl (congrArg Prod.fst (kf_89 X.1)) rfl ?_
    refine wp_iload rfl rfl ?_
    have g3 := H.1
    replace H := H.2
    refine wp_iaload rfl (kf_110 X.1) g3 ?_
    refine wp_iastore rfl (kf_110 X.1) ⟨g2.1, g2.2⟩ ?_
    refine wp_aload rfl rfl ?_
    refine wp_getR (r := 109) rfl (congrArg Prod.fst (kf_89 X.1)) rfl ?_
    refine wp_iload rfl rfl ?_
    refine wp_iload rfl rfl ?_
    refine wp_iastore rfl (kf_110 X.1) ⟨g3.1, g3.2⟩ ?_
    refine wp_vret rfl rfl ?_
    show Wp X _ 103 99 [vr 89, zx1, zx2, vi x3, vi x4] [] _ _
    refine wp_iincR (L2 := [vr 89, zx1, (clr1 zx2), vi (x3 + 1), vi x4]) rfl rfl (by clear H; unfold R32; omega) rfl ?_
    refine wp_iincR (L2 := [vr 89, zx1, (clr1 zx2), vi (x3 + 1), vi (x4 + (-1))]) rfl rfl (by clear H; unfold R32; omega) rfl ?_
    refine wp_goto (tn := 86) rfl rfl ?_
    exact H
/-- WarnLinesModel.chanceNow(I)I, from 0 -/
theorem S105_89_0 {X : Nat × (Int → Int)} {h : HP} {Q : bQ} (x1 : Int) (H : (((h 89 16) ≤ 7 → Wp X 5 105 14 [vr 89, vi x1, vi 0, vu, vu, vu] [] h Q) ∧ (7 < (h 89 16) → Q (some (vi (-4))) h))) : Wp X 5 105 0 [vr 89, vi x1, vu, vu, vu, vu] [] h Q := by
  refine wp_aload rfl rfl ?_
  refine wp_getI (j := 16) rfl (congrArg Prod.fst (kf_89 X.1)) rfl ?_
  refine wp_iconst rfl ?_
  refine wp_icle (tn := 12) rfl rfl (fun c1 => ?_) (fun c1 => ?_)
  · replace H := H.1 c1
    refine wp_iconst rfl ?_
    refine wp_istore (L2 := [vr 89, vi x1, vi 0, vu, vu, vu]) rfl (Nat.le_of_ble_eq_true rfl) rfl ?_
    exact H
  · replace H := H.2 c1
    refine wp_iconst rfl ?_
    exact wp_iret rfl rfl H
/-- WarnLinesModel.chanceNow(I)I, from 14 -/
theorem S105_89_14 {X : Nat × (Int → Int)} {h : HP} {Q : bQ} (x1 : Int) (x2 : Int) (H : (((h 89 16) ≤ x2 → Wp X 5 105 42 [vr 89, vi x1, vi 0, vi 0, vi 1, vu] [] h Q) ∧ (x2 < (h 89 16) → ((0 ≤ x2 ∧ x2 < 20) ∧ Wp X 5 105 14 [vr 89, vi x1, vi (x2 + 1), vu, vu, vu] [] (upd2 h 110 x2 x2) Q)))) : Wp X 5 105 14 [vr 89, vi x1, vi x2, vu, vu, vu] [] h Q := by
  refine wp_iload rfl rfl ?_
  refine wp_aload rfl rfl ?_
  refine wp_getI (j := 16) rfl (congrArg Prod.fst (kf_89 X.1)) rfl ?_
  refine wp_icge (tn := 35) rfl rfl (fun c1 => ?_) (fun c1 => ?_)
  · replace H := H.1 c1
    refine wp_iconst rfl ?_
    refine wp_istore (L2 := [vr 89, vi x1, vi 0, vu, vu, vu]) rfl (Nat.le_of_ble_eq_true rfl) rfl ?_
    refine wp_iconst rfl ?_
    refine wp_istore (L2 := [vr 89, vi x1, vi 0, vi 0, vu, vu]) rfl (Nat.le_of_ble_eq_true rfl) rfl ?_
    refine wp_iconst rfl ?_
    refine wp_istore (L2 := [vr 89, vi x1, vi 0, vi 0, vi 1, vu]) rfl (Nat.le_of_ble_eq_true rfl) rfl ?_
    exact H
  · replace H := H.2 c1
    refine wp_aload rfl rfl ?_
    refine wp_getR (r := 109) rfl (congrArg Prod.fst (kf_89 X.1)) rfl ?_
    refine wp_iload rfl rfl ?_
    refine wp_iload rfl rfl ?_
    have g2 := H.1
    replace H := H.2
    refine wp_iastore rfl (kf_110 X.1) g2 ?_
    refine wp_iincR (L2 := [vr 89, vi x1, vi (x2 + 1), vu, vu, vu]) rfl rfl (by clear H; unfold R32; omega) rfl ?_
    refine wp_goto (tn := 14) rfl rfl ?_
    exact H
/-- WarnLinesModel.chanceNow(I)I, from 42 -/
theorem S105_89_42 {X : Nat × (Int → Int)} {h : HP} {Q : bQ} (x1 : Int) (x2 : Int) (x3 : Int) (x4 : Int) (zx5 : aV) (H : ((x4 = 0 → ((R64 (1000000 * x3)) ∧ (x2 ≠ 0 ∧ ((R64 (Int.tdiv (1000000 * x3) x2)) ∧ ((R32 (Int.tdiv (1000000 * x3) x2)) ∧ Q (some (vi (Int.tdiv (1000000 * x3) x2))) h))))) ∧ (x4 ≠ 0 → Wp X 5 105 50 [vr 89, vi x1, vi x2, vi x3, vi x4, vi 0] [] h Q))) : Wp X 5 105 42 [vr 89, vi x1, vi x2, vi x3, vi x4, zx5] [] h Q := by
  refine wp_iload rfl rfl ?_
  refine wp_ifeq (tn := 112) rfl rfl (fun c1 => ?_) (fun c1 => ?_)
  · replace H := H.1 c1
    refine wp_sipush rfl ?_
    refine wp_iload rfl rfl ?_
    refine wp_i2l rfl ?_
    refine wp_lmul rfl ?_
    have g2 := H.1
    replace H := H.2
    refine Wp.topL (y := (1000000 * x3)) (w64_I g2) ?_
    refine wp_iload rfl rfl ?_
    refine wp_i2l rfl ?_
    have g3 := H.1
    replace H := H.2
    refine wp_ldiv rfl g3 ?_
    have g4 := H.1
    replace H := H.2
    refine Wp.topL (y := (Int.tdiv (1000000 * x3) x2)) (w64_I g4) ?_
    refine wp_l2i rfl ?_
    have g5 := H.1
    replace H := H.2
    refine Wp.topI (y := (Int.tdiv (1000000 * x3) x2)) (w32_I g5) ?_
    exact wp_iret rfl rfl H
  · replace H := H.2 c1
    refine wp_iconst rfl ?_
    refine wp_istore (L2 := [vr 89, vi x1, vi x2, vi x3, vi x4, vi 0]) rfl (Nat.le_of_ble_eq_true rfl) rfl ?_
    exact H
/-- WarnLinesModel.chanceNow(I)I, from 50 -/
theorem S105_89_50 {X : Nat × (Int → Int)} {h : HP} {Q : bQ} (x1 : Int) (x2 : Int) (x3 : Int) (zx4 : aV) (x5 : Int) (H : (((h 89 16) ≤ x5 → ((R32 (x2 + 1)) ∧ Wp X 4 102 0 [vr 89, vu, vu] [] h (fun v h' => Wp X 5 105 92 [vr 89, vi x1, vi (x2 + 1), vi x3, zx4, vi x5] (psh v [vi x3]) h' Q))) ∧ (x5 < (h 89 16) → ((0 ≤ x5 ∧ x5 < 20) ∧ ((0 ≤ (h 110 x5) ∧ (h 110 x5) < 20) ∧ Wp X 5 105 50 [vr 89, vi x1, vi x2, vi x3, (clr1 zx4), vi (x5 + 1)] [] (upd2 h 109 x5 (h 102 (h 110 x5))) Q))))) : Wp X 5 105 50 [vr 89, vi x1, vi x2, vi x3, zx4, vi x5] [] h Q := by
  refine wp_iload rfl rfl ?_
  refine wp_aload rfl rfl ?_
  refine wp_getI (j := 16) rfl (congrArg Prod.fst (kf_89 X.1)) rfl ?_
  refine wp_icge (tn := 84) rfl rfl (fun c1 => ?_) (fun c1 => ?_)
  · replace H := H.1 c1
    have g2 := H.1
    replace H := H.2
    refine wp_iincR (L2 := [vr 89, vi x1, vi (x2 + 1), vi x3, zx4, vi x5]) rfl rfl g2 rfl ?_
    refine wp_iload rfl rfl ?_
    refine wp_aload rfl rfl ?_
    exact wp_call (k := 102) (ρ2 := 4) (L2 := [vr 89, vu, vu]) rfl rfl rfl (Nat.le_of_ble_eq_true rfl) (Nat.le_of_ble_eq_true rfl) (Nat.le_of_ble_eq_true rfl) (rcv_V rfl (congrArg Prod.fst (kf_89 X.1))) rfl H
  · replace H := H.2 c1
    refine wp_aload rfl rfl ?_
    refine wp_getR (r := 108) rfl (congrArg Prod.fst (kf_89 X.1)) rfl ?_
    refine wp_iload rfl rfl ?_
    refine wp_aload rfl rfl ?_
    refine wp_getR (r := 101) rfl (congrArg Prod.fst (kf_89 X.1)) rfl ?_
    refine wp_aload rfl rfl ?_
    refine wp_getR (r := 109) rfl (congrArg Prod.fst (kf_89 X.1)) rfl ?_
    refine wp_iload rfl rfl ?_
    have g3 := H.1
    replace H := H.2
    refine wp_iaload rfl (kf_110 X.1) g3 ?_
    have g4 := H.1
    replace H := H.2
    refine wp_iaload rfl (kf_102 X.1) g4 ?_
    refine wp_iastore rfl (kf_109 X.1) ⟨g3.1, g3.2⟩ ?_
    refine wp_iincR (L2 := [vr 89, vi x1, vi x2, vi x3, (clr1 zx4), vi (x5 + 1)]) rfl rfl (by clear H; unfold R32; omega) rfl ?_
    refine wp_goto (tn := 50) rfl rfl ?_
    exact H
/-- WarnLinesModel.chanceNow(I)I, from 92 -/
theorem S105_89_92 {X : Nat × (Int → Int)} {h : HP} {Q : bQ} (x1 : Int) (x2 : Int) (zx3 : aV) (zx4 : aV) (zx5 : aV) (s0 : Int) (s1 : Int) (H : ((s0 < x1 → ((R32 (s1 + 0)) ∧ Wp X 1 103 0 [vr 89, vu, vu, vu, vu] [] h (fun v h' => Wp X 5 105 107 [vr 89, vi x1, vi x2, vi (s1 + 0), zx4, zx5] (psh v []) h' Q))) ∧ (x1 ≤ s0 → ((R32 (s1 + 1)) ∧ Wp X 1 103 0 [vr 89, vu, vu, vu, vu] [] h (fun v h' => Wp X 5 105 107 [vr 89, vi x1, vi x2, vi (s1 + 1), zx4, zx5] (psh v []) h' Q))))) : Wp X 5 105 92 [vr 89, vi x1, vi x2, zx3, zx4, zx5] [vi s0, vi s1] h Q := by
  refine wp_iload rfl rfl ?_
  refine wp_iclt (tn := 100) rfl rfl (fun c1 => ?_) (fun c1 => ?_)
  · replace H := H.1 c1
    refine wp_iconst rfl ?_
    refine wp_iadd rfl ?_
    have g2 := H.1
    replace H := H.2
    refine Wp.topI (y := (s1 + 0)) (w32_I g2) ?_
    refine wp_istore (L2 := [vr 89, vi x1, vi x2, vi (s1 + 0), zx4, zx5]) rfl (Nat.le_of_ble_eq_true rfl) rfl ?_
    refine wp_aload rfl rfl ?_
    exact wp_call (k := 103) (ρ2 := 1) (L2 := [vr 89, vu, vu, vu, vu]) rfl rfl rfl (Nat.le_of_ble_eq_true rfl) (Nat.le_of_ble_eq_true rfl) (Nat.le_of_ble_eq_true rfl) (rcv_V rfl (congrArg Prod.fst (kf_89 X.1))) rfl H
  · replace H := H.2 c1
    refine wp_iconst rfl ?_
    refine wp_goto (tn := 101) rfl rfl ?_
    refine wp_iadd rfl ?_
    have g3 := H.1
    replace H := H.2
    refine Wp.topI (y := (s1 + 1)) (w32_I g3) ?_
    refine wp_istore (L2 := [vr 89, vi x1, vi x2, vi (s1 + 1), zx4, zx5]) rfl (Nat.le_of_ble_eq_true rfl) rfl ?_
    refine wp_aload rfl rfl ?_
    exact wp_call (k := 103) (ρ2 := 1) (L2 := [vr 89, vu, vu, vu, vu]) rfl rfl rfl (Nat.le_of_ble_eq_true rfl) (Nat.le_of_ble_eq_true rfl) (Nat.le_of_ble_eq_true rfl) (rcv_V rfl (congrArg Prod.fst (kf_89 X.1))) rfl H
/-- WarnLinesModel.chanceNow(I)I, from 107 -/
theorem S105_89_107 {X : Nat × (Int → Int)} {h : HP} {Q : bQ} (x1 : Int) (x2 : Int) (x3 : Int) (zx4 : aV) (zx5 : aV) (s0 : Int) (H : Wp X 5 105 42 [vr 89, vi x1, vi x2, vi x3, vi s0, zx5] [] h Q) : Wp X 5 105 107 [vr 89, vi x1, vi x2, vi x3, zx4, zx5] [vi s0] h Q := by
  refine wp_istore (L2 := [vr 89, vi x1, vi x2, vi x3, vi s0, zx5]) rfl (Nat.le_of_ble_eq_true rfl) rfl ?_
  refine wp_goto (tn := 42) rfl rfl ?_
  exact H
/-- WarnLinesModel.warnedOf(II)I, from 0 -/
theorem S106_89_0 {X : Nat × (Int → Int)} {h : HP} {Q : bQ} (x1 : Int) (x2 : Int) (H : Wp X 3 92 0 [vr 89, vi x1, vu] [] h (fun v h' => Wp X 6 106 5 [vr 89, vi x1, vi x2, vu] (psh v []) h' Q)) : Wp X 6 106 0 [vr 89, vi x1, vi x2, vu] [] h Q := by
  refine wp_aload rfl rfl ?_
  refine wp_iload rfl rfl ?_
  exact wp_call (k := 92) (ρ2 := 3) (L2 := [vr 89, vi x1, vu]) rfl rfl rfl (Nat.le_of_ble_eq_true rfl) (Nat.le_of_ble_eq_true rfl) (Nat.le_of_ble_eq_true rfl) (rcv_V rfl (congrArg Prod.fst (kf_89 X.1))) rfl H
/-- WarnLinesModel.warnedOf(II)I, from 5 -/
theorem S106_89_5 {X : Nat × (Int → Int)} {h : HP} {Q : bQ} (zx1 : aV) (x2 : Int) (s0 : Int) (H : ((s0 ≠ (-1) → Q (some (vi (-3))) h) ∧ (s0 = (-1) → Wp X 3 78 0 [vr 89, vu, vu, vu, vu] [] h (fun v h' => Wp X 6 106 13 [vr 89, zx1, vi x2, vu] (psh v []) h' Q)))) : Wp X 6 106 5 [vr 89, zx1, vi x2, vu] [vi s0] h Q := by
  refine wp_iconst rfl ?_
  refine wp_icne (tn := 16) rfl rfl (fun c1 => ?_) (fun c1 => ?_)
  · replace H := H.1 c1
    refine wp_iconst rfl ?_
    exact wp_iret rfl rfl H
  · replace H := H.2 c1
    refine wp_aload rfl rfl ?_
    exact wp_call (k := 78) (ρ2 := 3) (L2 := [vr 89, vu, vu, vu, vu]) rfl rfl rfl (Nat.le_of_ble_eq_true rfl) (Nat.le_of_ble_eq_true rfl) (Nat.le_of_ble_eq_true rfl) (rcv_V rfl (congrArg Prod.fst (kf_89 X.1))) rfl H
/-- WarnLinesModel.warnedOf(II)I, from 13 -/
theorem S106_89_13 {X : Nat × (Int → Int)} {h : HP} {Q : bQ} (zx1 : aV) (x2 : Int) (s0 : Int) (H : ((s0 ≠ 0 → Wp X 0 98 0 [vr 89, vu] [] h (fun v h' => Wp X 6 106 23 [vr 89, zx1, vi x2, vu] (psh v []) h' Q)) ∧ (s0 = 0 → Q (some (vi (-3))) h))) : Wp X 6 106 13 [vr 89, zx1, vi x2, vu] [vi s0] h Q := by
  refine wp_ifne (tn := 19) rfl rfl (fun c1 => ?_) (fun c1 => ?_)
  · replace H := H.1 c1
    refine wp_aload rfl rfl ?_
    exact wp_call (k := 98) (ρ2 := 0) (L2 := [vr 89, vu]) rfl rfl rfl (Nat.le_of_ble_eq_true rfl) (Nat.le_of_ble_eq_true rfl) (Nat.le_of_ble_eq_true rfl) (rcv_V rfl (congrArg Prod.fst (kf_89 X.1))) rfl H
  · replace H := H.2 c1
    refine wp_iconst rfl ?_
    exact wp_iret rfl rfl H
/-- WarnLinesModel.warnedOf(II)I, from 23 -/
theorem S106_89_23 {X : Nat × (Int → Int)} {h : HP} {Q : bQ} (zx1 : aV) (x2 : Int) (H : ((x2 ≠ 0 → Wp X 4 102 0 [vr 89, vu, vu] [] h (fun v h' => Wp X 6 106 64 [vr 89, zx1, vi x2, vu] (psh v []) h' Q)) ∧ (x2 = 0 → Wp X 6 106 29 [vr 89, zx1, vi x2, vi 0] [] h Q))) : Wp X 6 106 23 [vr 89, zx1, vi x2, vu] [] h Q := by
  refine wp_iload rfl rfl ?_
  refine wp_ifne (tn := 60) rfl rfl (fun c1 => ?_) (fun c1 => ?_)
  · replace H := H.1 c1
    refine wp_aload rfl rfl ?_
    exact wp_call (k := 102) (ρ2 := 4) (L2 := [vr 89, vu, vu]) rfl rfl rfl (Nat.le_of_ble_eq_true rfl) (Nat.le_of_ble_eq_true rfl) (Nat.le_of_ble_eq_true rfl) (rcv_V rfl (congrArg Prod.fst (kf_89 X.1))) rfl H
  · replace H := H.2 c1
    refine wp_iconst rfl ?_
    refine wp_istore (L2 := [vr 89, zx1, vi x2, vi 0]) rfl (Nat.le_of_ble_eq_true rfl) rfl ?_
    exact H
/-- WarnLinesModel.warnedOf(II)I, from 29 -/
theorem S106_89_29 {X : Nat × (Int → Int)} {h : HP} {Q : bQ} (zx1 : aV) (zx2 : aV) (x3 : Int) (H : (((h 89 16) ≤ x3 → Q (some (vi (-1))) h) ∧ (x3 < (h 89 16) → Wp X 3 97 0 [vr 89, vi x3, vu, vu] [] h (fun v h' => Wp X 6 106 42 [vr 89, zx1, zx2, vi x3] (psh v []) h' Q)))) : Wp X 6 106 29 [vr 89, zx1, zx2, vi x3] [] h Q := by
  refine wp_iload rfl rfl ?_
  refine wp_aload rfl rfl ?_
  refine wp_getI (j := 16) rfl (congrArg Prod.fst (kf_89 X.1)) rfl ?_
  refine wp_icge (tn := 58) rfl rfl (fun c1 => ?_) (fun c1 => ?_)
  · replace H := H.1 c1
    refine wp_iconst rfl ?_
    exact wp_iret rfl rfl H
  · replace H := H.2 c1
    refine wp_aload rfl rfl ?_
    refine wp_iload rfl rfl ?_
    exact wp_call (k := 97) (ρ2 := 3) (L2 := [vr 89, vi x3, vu, vu]) rfl rfl rfl (Nat.le_of_ble_eq_true rfl) (Nat.le_of_ble_eq_true rfl) (Nat.le_of_ble_eq_true rfl) (rcv_V rfl (congrArg Prod.fst (kf_89 X.1))) rfl H
/-- WarnLinesModel.warnedOf(II)I, from 42 -/
theorem S106_89_42 {X : Nat × (Int → Int)} {h : HP} {Q : bQ} (zx1 : aV) (zx2 : aV) (x3 : Int) (s0 : Int) (H : ((s0 = 0 → ((R32 (x3 + 1)) ∧ Wp X 6 106 29 [vr 89, zx1, (clr1 zx2), vi (x3 + 1)] [] h Q)) ∧ (s0 ≠ 0 → ((0 ≤ x3 ∧ x3 < 20) ∧ Q (some (vi (h 102 x3))) h)))) : Wp X 6 106 42 [vr 89, zx1, zx2, vi x3] [vi s0] h Q := by
  refine wp_ifeq (tn := 52) rfl rfl (fun c1 => ?_) (fun c1 => ?_)
  · replace H := H.1 c1
    have g2 := H.1
    replace H := H.2
    refine wp_iincR (L2 := [vr 89, zx1, (clr1 zx2), vi (x3 + 1)]) rfl rfl g2 rfl ?_
    refine wp_goto (tn := 29) rfl rfl ?_
    exact H
  · replace H := H.2 c1
    refine wp_aload rfl rfl ?_
    refine wp_getR (r := 101) rfl (congrArg Prod.fst (kf_89 X.1)) rfl ?_
    refine wp_iload rfl rfl ?_
    have g3 := H.1
    replace H := H.2
    refine wp_iaload rfl (kf_102 X.1) g3 ?_
    exact wp_iret rfl rfl H
/-- WarnLinesModel.warnedOf(II)I, from 64 -/
theorem S106_89_64 {X : Nat × (Int → Int)} {h : HP} {Q : bQ} (zx1 : aV) (x2 : Int) (s0 : Int) (H : ((x2 ≠ 1 → Wp X 5 105 0 [vr 89, vi s0, vu, vu, vu, vu] [] h (fun v h' => Wp X 6 106 79 [vr 89, zx1, vi x2, vi s0] (psh v []) h' Q)) ∧ (x2 = 1 → Wp X 6 106 79 [vr 89, zx1, vi x2, vi s0] [vi s0] h Q))) : Wp X 6 106 64 [vr 89, zx1, vi x2, vu] [vi s0] h Q := by
  refine wp_istore (L2 := [vr 89, zx1, vi x2, vi s0]) rfl (Nat.le_of_ble_eq_true rfl) rfl ?_
  refine wp_iload rfl rfl ?_
  refine wp_iconst rfl ?_
  refine wp_icne (tn := 74) rfl rfl (fun c1 => ?_) (fun c1 => ?_)
  · replace H := H.1 c1
    refine wp_aload rfl rfl ?_
    refine wp_iload rfl rfl ?_
    exact wp_call (k := 105) (ρ2 := 5) (L2 := [vr 89, vi s0, vu, vu, vu, vu]) rfl rfl rfl (Nat.le_of_ble_eq_true rfl) (Nat.le_of_ble_eq_true rfl) (Nat.le_of_ble_eq_true rfl) (rcv_V rfl (congrArg Prod.fst (kf_89 X.1))) rfl H
  · replace H := H.2 c1
    refine wp_iload rfl rfl ?_
    refine wp_goto (tn := 79) rfl rfl ?_
    exact H
/-- WarnLinesModel.warnedOf(II)I, from 79 -/
theorem S106_89_79 {X : Nat × (Int → Int)} {h : HP} {Q : bQ} (zx0 : aV) (zx1 : aV) (zx2 : aV) (zx3 : aV) (s0 : Int) (H : Q (some (vi s0)) h) : Wp X 6 106 79 [zx0, zx1, zx2, zx3] [vi s0] h Q := by
  exact wp_iret rfl rfl H
/-- WarnLinesModel.warned(II)I, from 0 -/
theorem S107_89_0 {X : Nat × (Int → Int)} {h : HP} {Q : bQ} (x1 : Int) (x2 : Int) (H : (((lcp x1 0) < 0 → Q (some (vi (-2))) h) ∧ (0 ≤ (lcp x1 0) → ((0 < (lcp x1 1) → Q (some (vi (-2))) h) ∧ ((lcp x1 1) ≤ 0 → (((lcp x2 0) < 0 → Q (some (vi (-2))) h) ∧ (0 ≤ (lcp x2 0) → ((0 < (lcp x2 2) → Q (some (vi (-2))) h) ∧ ((lcp x2 2) ≤ 0 → Wp X 6 106 0 [vr 89, vi x1, vi x2, vu] [] h (fun v h' => Wp X 7 107 25 [vr 89, vi x1, vi x2] (psh v []) h' Q)))))))))) : Wp X 7 107 0 [vr 89, vi x1, vi x2] [] h Q := by
  refine wp_iload rfl rfl ?_
  refine wp_call (k := 50) (ρ2 := 1) (L2 := [vi x1]) rfl rfl rfl (Nat.le_of_ble_eq_true rfl) (Nat.le_of_ble_eq_true rfl) (Nat.le_of_ble_eq_true rfl) (rcv_S rfl) rfl ?_
  refine wp_iload rfl rfl ?_
  refine wp_i2l rfl ?_
  refine wp_sipush rfl ?_
  refine wp_sipush rfl ?_
  refine wp_call (k := 48) (ρ2 := 0) (L2 := [vl x1, vu, vl 0, vu, vl 1, vu]) rfl rfl rfl (Nat.le_of_ble_eq_true rfl) (Nat.le_of_ble_eq_true rfl) (Nat.le_of_ble_eq_true rfl) (rcv_S rfl) rfl ?_
  refine wp_lload rfl rfl ?_
  refine wp_lload rfl rfl ?_
  refine wp_lcmp rfl ?_
  refine wp_iflt (tn := 17) rfl rfl (fun c1 => ?_) (fun c1 => ?_)
  · replace H := H.1 c1
    refine wp_iconst rfl ?_
    refine wp_zret rfl rfl (by decide) ?_
    show Wp X _ 50 7 [vi x1] [vi 0] _ _
    refine wp_zret rfl rfl (by decide) ?_
    show Wp X _ 107 4 [vr 89, vi x1, vi x2] [vi 0] _ _
    refine wp_ifeqT (tn := 28) rfl rfl (by decide) ?_
    refine wp_iconst rfl ?_
    exact wp_iret rfl rfl H
  · replace H := H.2 c1
    refine wp_lload rfl rfl ?_
    refine wp_lload rfl rfl ?_
    refine wp_lcmp rfl ?_
    refine wp_ifgt (tn := 17) rfl rfl (fun c2 => ?_) (fun c2 => ?_)
    · replace H := H.1 c2
      refine wp_iconst rfl ?_
      refine wp_zret rfl rfl (by decide) ?_
      show Wp X _ 50 7 [vi x1] [vi 0] _ _
      refine wp_zret rfl rfl (by decide) ?_
      show Wp X _ 107 4 [vr 89, vi x1, vi x2] [vi 0] _ _
      refine wp_ifeqT (tn := 28) rfl rfl (by decide) ?_
      refine wp_iconst rfl ?_
      exact wp_iret rfl rfl H
    · replace H := H.2 c2
      refine wp_iconst rfl ?_
      refine wp_goto (tn := 18) rfl rfl ?_
      refine wp_zret rfl rfl (by decide) ?_
      show Wp X _ 50 7 [vi x1] [vi 1] _ _
      refine wp_zret rfl rfl (by decide) ?_
      show Wp X _ 107 4 [vr 89, vi x1, vi x2] [vi 1] _ _
      refine wp_ifeqF (tn := 28) rfl rfl (by decide) ?_
      refine wp_iload rfl rfl ?_
      refine wp_i2l rfl ?_
      refine wp_sipush rfl ?_
      refine wp_sipush rfl ?_
      refine wp_call (k := 48) (ρ2 := 0) (L2 := [vl x2, vu, vl 0, vu, vl 2, vu]) rfl rfl rfl (Nat.le_of_ble_eq_true rfl) (Nat.le_of_ble_eq_true rfl) (Nat.le_of_ble_eq_true rfl) (rcv_S rfl) rfl ?_
      refine wp_lload rfl rfl ?_
      refine wp_lload rfl rfl ?_
      refine wp_lcmp rfl ?_
      refine wp_iflt (tn := 17) rfl rfl (fun c3 => ?_) (fun c3 => ?_)
      · replace H := H.1 c3
        refine wp_iconst rfl ?_
        refine wp_zret rfl rfl (by decide) ?_
        show Wp X _ 107 16 [vr 89, vi x1, vi x2] [vi 0] _ _
        refine wp_ifeqT (tn := 28) rfl rfl (by decide) ?_
        refine wp_iconst rfl ?_
        exact wp_iret rfl rfl H
      · replace H := H.2 c3
        refine wp_lload rfl rfl ?_
        refine wp_lload rfl rfl ?_
        refine wp_lcmp rfl ?_
        refine wp_ifgt (tn := 17) rfl rfl (fun c4 => ?_) (fun c4 => ?_)
        · replace H := H.1 c4
          refine wp_iconst rfl ?_
          refine wp_zret rfl rfl (by decide) ?_
          show Wp X _ 107 16 [vr 89, vi x1, vi x2] [vi 0] _ _
          refine wp_ifeqT (tn := 28) rfl rfl (by decide) ?_
          refine wp_iconst rfl ?_
          exact wp_iret rfl rfl H
        · replace H := H.2 c4
          refine wp_iconst rfl ?_
          refine wp_goto (tn := 18) rfl rfl ?_
          refine wp_zret rfl rfl (by decide) ?_
          show Wp X _ 107 16 [vr 89, vi x1, vi x2] [vi 1] _ _
          refine wp_ifeqF (tn := 28) rfl rfl (by decide) ?_
          refine wp_aload rfl rfl ?_
          refine wp_iload rfl rfl ?_
          refine wp_iload rfl rfl ?_
          exact wp_call (k := 106) (ρ2 := 6) (L2 := [vr 89, vi x1, vi x2, vu]) rfl rfl rfl (Nat.le_of_ble_eq_true rfl) (Nat.le_of_ble_eq_true rfl) (Nat.le_of_ble_eq_true rfl) (rcv_V rfl (congrArg Prod.fst (kf_89 X.1))) rfl H
/-- WarnLinesModel.warned(II)I, from 25 -/
theorem S107_89_25 {X : Nat × (Int → Int)} {h : HP} {Q : bQ} (zx0 : aV) (zx1 : aV) (zx2 : aV) (s0 : Int) (H : Q (some (vi s0)) h) : Wp X 7 107 25 [zx0, zx1, zx2] [vi s0] h Q := by
  refine wp_goto (tn := 30) rfl rfl ?_
  exact wp_iret rfl rfl H
/-- WarnLinesModel.odds(I)I, from 0 -/
theorem S108_89_0 {X : Nat × (Int → Int)} {h : HP} {Q : bQ} (x1 : Int) (H : (((lcp x1 0) < 0 → Q (some (vi (-2))) h) ∧ (0 ≤ (lcp x1 0) → ((0 < (lcp x1 3) → Q (some (vi (-2))) h) ∧ ((lcp x1 3) ≤ 0 → ((0 ≤ x1 ∧ x1 < 4) ∧ ((0 ≤ (h 90 x1) → ((8 ≤ (h 91 x1) → Wp X 2 108 50 [vr 89, vi x1, vl 0, vu, vi 1, vi 0] [] h Q) ∧ ((h 91 x1) < 8 → Q (some (vi (-12))) (upd2 h 89 4 2)))) ∧ ((h 90 x1) < 0 → Q (some (vi (-11))) (upd2 h 89 4 1))))))))) : Wp X 2 108 0 [vr 89, vi x1, vu, vu, vu, vu] [] h Q := by
  refine wp_iload rfl rfl ?_
  refine wp_call (k := 52) (ρ2 := 1) (L2 := [vi x1]) rfl rfl rfl (Nat.le_of_ble_eq_true rfl) (Nat.le_of_ble_eq_true rfl) (Nat.le_of_ble_eq_true rfl) (rcv_S rfl) rfl ?_
  refine wp_iload rfl rfl ?_
  refine wp_i2l rfl ?_
  refine wp_sipush rfl ?_
  refine wp_sipush rfl ?_
  refine wp_call (k := 48) (ρ2 := 0) (L2 := [vl x1, vu, vl 0, vu, vl 3, vu]) rfl rfl rfl (Nat.le_of_ble_eq_true rfl) (Nat.le_of_ble_eq_true rfl) (Nat.le_of_ble_eq_true rfl) (rcv_S rfl) rfl ?_
  refine wp_lload rfl rfl ?_
  refine wp_lload rfl rfl ?_
  refine wp_lcmp rfl ?_
  refine wp_iflt (tn := 17) rfl rfl (fun c1 => ?_) (fun c1 => ?_)
  · replace H := H.1 c1
    refine wp_iconst rfl ?_
    refine wp_zret rfl rfl (by decide) ?_
    show Wp X _ 52 9 [vi x1] [vi 0] _ _
    refine wp_zret rfl rfl (by decide) ?_
    show Wp X _ 108 4 [vr 89, vi x1, vu, vu, vu, vu] [vi 0] _ _
    refine wp_ifneF (tn := 10) rfl rfl (by decide) ?_
    refine wp_iconst rfl ?_
    exact wp_iret rfl rfl H
  · replace H := H.2 c1
    refine wp_lload rfl rfl ?_
    refine wp_lload rfl rfl ?_
    refine wp_lcmp rfl ?_
    refine wp_ifgt (tn := 17) rfl rfl (fun c2 => ?_) (fun c2 => ?_)
    · replace H := H.1 c2
      refine wp_iconst rfl ?_
      refine wp_zret rfl rfl (by decide) ?_
      show Wp X _ 52 9 [vi x1] [vi 0] _ _
      refine wp_zret rfl rfl (by decide) ?_
      show Wp X _ 108 4 [vr 89, vi x1, vu, vu, vu, vu] [vi 0] _ _
      refine wp_ifneF (tn := 10) rfl rfl (by decide) ?_
      refine wp_iconst rfl ?_
      exact wp_iret rfl rfl H
    · replace H := H.2 c2
      refine wp_iconst rfl ?_
      refine wp_goto (tn := 18) rfl rfl ?_
      refine wp_zret rfl rfl (by decide) ?_
      show Wp X _ 52 9 [vi x1] [vi 1] _ _
      refine wp_zret rfl rfl (by decide) ?_
      show Wp X _ 108 4 [vr 89, vi x1, vu, vu, vu, vu] [vi 1] _ _
      refine wp_ifneT (tn := 10) rfl rfl (by decide) ?_
      refine wp_aload rfl rfl ?_
      refine wp_getR (r := 89) rfl (congrArg Prod.fst (kf_89 X.1)) rfl ?_
      refine wp_iload rfl rfl ?_
      have g3 := H.1
      replace H := H.2
      refine wp_iaload rfl (kf_90 X.1) g3 ?_
      refine wp_ifge (tn := 25) rfl rfl (fun c4 => ?_) (fun c4 => ?_)
      · replace H := H.1 c4
        refine wp_aload rfl rfl ?_
        refine wp_getR (r := 90) rfl (congrArg Prod.fst (kf_89 X.1)) rfl ?_
        refine wp_iload rfl rfl ?_
        refine wp_iaload rfl (kf_91 X.1) ⟨g3.1, g3.2⟩ ?_
        refine wp_iconst rfl ?_
        refine wp_icge (tn := 42) rfl rfl (fun c5 => ?_) (fun c5 => ?_)
        · replace H := H.1 c5
          refine wp_sipush rfl ?_
          refine wp_lstore (L2 := [vr 89, vi x1, vl 0, vu, vu, vu]) rfl (Nat.le_of_ble_eq_true rfl) rfl ?_
          refine wp_iconst rfl ?_
          refine wp_istore (L2 := [vr 89, vi x1, vl 0, vu, vi 1, vu]) rfl (Nat.le_of_ble_eq_true rfl) rfl ?_
          refine wp_iconst rfl ?_
          refine wp_istore (L2 := [vr 89, vi x1, vl 0, vu, vi 1, vi 0]) rfl (Nat.le_of_ble_eq_true rfl) rfl ?_
          exact H
        · replace H := H.2 c5
          refine wp_aload rfl rfl ?_
          refine wp_iconst rfl ?_
          refine wp_call (k := 51) (ρ2 := 0) (L2 := [vr 89, vi 2]) rfl rfl rfl (Nat.le_of_ble_eq_true rfl) (Nat.le_of_ble_eq_true rfl) (Nat.le_of_ble_eq_true rfl) (rcv_V rfl (congrArg Prod.fst (kf_89 X.1))) rfl ?_
          refine wp_aload rfl rfl ?_
          refine wp_iload rfl rfl ?_
          refine wp_putI (j := 4) rfl (congrArg Prod.fst (kf_89 X.1)) rfl rfl rfl ?_
          refine wp_iconst rfl ?_
          refine wp_iload rfl rfl ?_
          refine wp_isub rfl ?_
          refine Wp.topI (y := (-12)) (by decide) ?_
          refine wp_iret rfl rfl ?_
          show Wp X _ 108 41 [vr 89, vi x1, vu, vu, vu, vu] [vi (-12)] _ _
          exact wp_iret rfl rfl H
      · replace H := H.2 c4
        refine wp_aload rfl rfl ?_
        refine wp_iconst rfl ?_
        refine wp_call (k := 51) (ρ2 := 0) (L2 := [vr 89, vi 1]) rfl rfl rfl (Nat.le_of_ble_eq_true rfl) (Nat.le_of_ble_eq_true rfl) (Nat.le_of_ble_eq_true rfl) (rcv_V rfl (congrArg Prod.fst (kf_89 X.1))) rfl ?_
        refine wp_aload rfl rfl ?_
        refine wp_iload rfl rfl ?_
        refine wp_putI (j := 4) rfl (congrArg Prod.fst (kf_89 X.1)) rfl rfl rfl ?_
        refine wp_iconst rfl ?_
        refine wp_iload rfl rfl ?_
        refine wp_isub rfl ?_
        refine Wp.topI (y := (-11)) (by decide) ?_
        refine wp_iret rfl rfl ?_
        show Wp X _ 108 24 [vr 89, vi x1, vu, vu, vu, vu] [vi (-11)] _ _
        exact wp_iret rfl rfl H
/-- WarnLinesModel.odds(I)I, from 50 -/
theorem S108_89_50 {X : Nat × (Int → Int)} {h : HP} {Q : bQ} (x1 : Int) (x2 : Int) (x4 : Int) (x5 : Int) (H : ((8 ≤ x5 → ((x4 = 0 → Q (some (vi (-3))) h) ∧ (x4 ≠ 0 → (((lcp x2 64) = 0 → Wp X 2 108 125 [vr 89, vi x1, vl x2, vu, vi x4, vi 0] [] h Q) ∧ ((lcp x2 64) ≠ 0 → Q (some (vi (-3))) h))))) ∧ (x5 < 8 → ((x4 = 0 → ((R32 (60 * x1)) ∧ ((R32 ((60 * x1) + x5)) ∧ ((0 ≤ ((60 * x1) + x5) ∧ ((60 * x1) + x5) < 240) ∧ ((R64 (x2 + (h 92 ((60 * x1) + x5)))) ∧ ((R32 (x5 + 1)) ∧ Wp X 2 108 50 [vr 89, vi x1, vl (x2 + (h 92 ((60 * x1) + x5))), vu, vi 0, vi (x5 + 1)] [] h Q)))))) ∧ (x4 ≠ 0 → ((R32 (60 * x1)) ∧ ((R32 ((60 * x1) + x5)) ∧ ((0 ≤ ((60 * x1) + x5) ∧ ((60 * x1) + x5) < 240) ∧ (((h 92 ((60 * x1) + x5)) < 0 → ((R64 (x2 + (h 92 ((60 * x1) + x5)))) ∧ ((R32 (x5 + 1)) ∧ Wp X 2 108 50 [vr 89, vi x1, vl (x2 + (h 92 ((60 * x1) + x5))), vu, vi 0, vi (x5 + 1)] [] h Q))) ∧ (0 ≤ (h 92 ((60 * x1) + x5)) → ((R64 (x2 + (h 92 ((60 * x1) + x5)))) ∧ ((R32 (x5 + 1)) ∧ Wp X 2 108 50 [vr 89, vi x1, vl (x2 + (h 92 ((60 * x1) + x5))), vu, vi 1, vi (x5 + 1)] [] h Q)))))))))))) : Wp X 2 108 50 [vr 89, vi x1, vl x2, vu, vi x4, vi x5] [] h Q := by
  refine wp_iload rfl rfl ?_
  refine wp_iconst rfl ?_
  refine wp_icge (tn := 106) rfl rfl (fun c1 => ?_) (fun c1 => ?_)
  · replace H := H.1 c1
    refine wp_iload rfl rfl ?_
    refine wp_ifeq (tn := 119) rfl rfl (fun c2 => ?_) (fun c2 => ?_)
    · replace H := H.1 c2
      refine wp_iconst rfl ?_
      exact wp_iret rfl rfl H
    · replace H := H.2 c2
      refine wp_lload rfl rfl ?_
      refine wp_sipush rfl ?_
      refine wp_lcmp rfl ?_
      refine wp_ifeq (tn := 122) rfl rfl (fun c3 => ?_) (fun c3 => ?_)
      · replace H := H.1 c3
        refine wp_iconst rfl ?_
        refine wp_istore (L2 := [vr 89, vi x1, vl x2, vu, vi x4, vi 0]) rfl (Nat.le_of_ble_eq_true rfl) rfl ?_
        exact H
      · replace H := H.2 c3
        refine wp_iconst rfl ?_
        exact wp_iret rfl rfl H
  · replace H := H.2 c1
    refine wp_iload rfl rfl ?_
    refine wp_ifeq (tn := 81) rfl rfl (fun c4 => ?_) (fun c4 => ?_)
    · replace H := H.1 c4
      refine wp_iconst rfl ?_
      refine wp_istore (L2 := [vr 89, vi x1, vl x2, vu, vi 0, vi x5]) rfl (Nat.le_of_ble_eq_true rfl) rfl ?_
      refine wp_lload rfl rfl ?_
      refine wp_aload rfl rfl ?_
      refine wp_getR (r := 91) rfl (congrArg Prod.fst (kf_89 X.1)) rfl ?_
      refine wp_iconst rfl ?_
      refine wp_iload rfl rfl ?_
      refine wp_imul rfl ?_
      have g5 := H.1
      replace H := H.2
      refine Wp.topI (y := (60 * x1)) (w32_I g5) ?_
      refine wp_iload rfl rfl ?_
      refine wp_iadd rfl ?_
      have g6 := H.1
      replace H := H.2
      refine Wp.topI (y := ((60 * x1) + x5)) (w32_I g6) ?_
      have g7 := H.1
      replace H := H.2
      refine wp_iaload rfl (kf_92 X.1) g7 ?_
      refine wp_i2l rfl ?_
      refine wp_ladd rfl ?_
      have g8 := H.1
      replace H := H.2
      refine Wp.topL (y := (x2 + (h 92 ((60 * x1) + x5)))) (w64_I g8) ?_
      refine wp_lstore (L2 := [vr 89, vi x1, vl (x2 + (h 92 ((60 * x1) + x5))), vu, vi 0, vi x5]) rfl (Nat.le_of_ble_eq_true rfl) rfl ?_
      have g9 := H.1
      replace H := H.2
      refine wp_iincR (L2 := [vr 89, vi x1, vl (x2 + (h 92 ((60 * x1) + x5))), vu, vi 0, vi (x5 + 1)]) rfl rfl g9 rfl ?_
      refine wp_goto (tn := 50) rfl rfl ?_
      exact H
    · replace H := H.2 c4
      refine wp_aload rfl rfl ?_
      refine wp_getR (r := 91) rfl (congrArg Prod.fst (kf_89 X.1)) rfl ?_
      refine wp_iconst rfl ?_
      refine wp_iload rfl rfl ?_
      refine wp_imul rfl ?_
      have g10 := H.1
      replace H := H.2
      refine Wp.topI (y := (60 * x1)) (w32_I g10) ?_
      refine wp_iload rfl rfl ?_
      refine wp_iadd rfl ?_
      have g11 := H.1
      replace H := H.2
      refine Wp.topI (y := ((60 * x1) + x5)) (w32_I g11) ?_
      have g12 := H.1
      replace H := H.2
      refine wp_iaload rfl (kf_92 X.1) g12 ?_
      refine wp_iflt (tn := 81) rfl rfl (fun c13 => ?_) (fun c13 => ?_)
      · replace H := H.1 c13
        refine wp_iconst rfl ?_
        refine wp_istore (L2 := [vr 89, vi x1, vl x2, vu, vi 0, vi x5]) rfl (Nat.le_of_ble_eq_true rfl) rfl ?_
        refine wp_lload rfl rfl ?_
        refine wp_aload rfl rfl ?_
        refine wp_getR (r := 91) rfl (congrArg Prod.fst (kf_89 X.1)) rfl ?_
        refine wp_iconst rfl ?_
        refine wp_iload rfl rfl ?_
        refine wp_imul rfl ?_
        refine Wp.topI (y := (60 * x1)) (w32_I g10) ?_
        refine wp_iload rfl rfl ?_
        refine wp_iadd rfl ?_
        refine Wp.topI (y := ((60 * x1) + x5)) (w32_I (by clear H; unfold R32; omega)) ?_
        refine wp_iaload rfl (kf_92 X.1) ⟨g12.1, g12.2⟩ ?_
        refine wp_i2l rfl ?_
        refine wp_ladd rfl ?_
        have g14 := H.1
        replace H := H.2
        refine Wp.topL (y := (x2 + (h 92 ((60 * x1) + x5)))) (w64_I g14) ?_
        refine wp_lstore (L2 := [vr 89, vi x1, vl (x2 + (h 92 ((60 * x1) + x5))), vu, vi 0, vi x5]) rfl (Nat.le_of_ble_eq_true rfl) rfl ?_
        have g15 := H.1
        replace H := H.2
        refine wp_iincR (L2 := [vr 89, vi x1, vl (x2 + (h 92 ((60 * x1) + x5))), vu, vi 0, vi (x5 + 1)]) rfl rfl g15 rfl ?_
        refine wp_goto (tn := 50) rfl rfl ?_
        exact H
      · replace H := H.2 c13
        refine wp_iconst rfl ?_
        refine wp_goto (tn := 82) rfl rfl ?_
        refine wp_istore (L2 := [vr 89, vi x1, vl x2, vu, vi 1, vi x5]) rfl (Nat.le_of_ble_eq_true rfl) rfl ?_
        refine wp_lload rfl rfl ?_
        refine wp_aload rfl rfl ?_
        refine wp_getR (r := 91) rfl (congrArg Prod.fst (kf_89 X.1)) rfl ?_
        refine wp_iconst rfl ?_
        refine wp_iload rfl rfl ?_
        refine wp_imul rfl ?_
        refine Wp.topI (y := (60 * x1)) (w32_I g10) ?_
        refine wp_iload rfl rfl ?_
        refine wp_iadd rfl ?_
        refine Wp.topI (y := ((60 * x1) + x5)) (w32_I (by clear H; unfold R32; omega)) ?_
        refine wp_iaload rfl (kf_92 X.1) ⟨g12.1, g12.2⟩ ?_
        refine wp_i2l rfl ?_
        refine wp_ladd rfl ?_
        have g16 := H.1
        replace H := H.2
        refine Wp.topL (y := (x2 + (h 92 ((60 * x1) + x5)))) (w64_I g16) ?_
        refine wp_lstore (L2 := [vr 89, vi x1, vl (x2 + (h 92 ((60 * x1) + x5))), vu, vi 1, vi x5]) rfl (Nat.le_of_ble_eq_true rfl) rfl ?_
        have g17 := H.1
        replace H := H.2
        refine wp_iincR (L2 := [vr 89, vi x1, vl (x2 + (h 92 ((60 * x1) + x5))), vu, vi 1, vi (x5 + 1)]) rfl rfl g17 rfl ?_
        refine wp_goto (tn := 50) rfl rfl ?_
        exact H
/-- WarnLinesModel.odds(I)I, from 125 -/
theorem S108_89_125 {X : Nat × (Int → Int)} {h : HP} {Q : bQ} (x1 : Int) (zx2 : aV) (zx4 : aV) (x5 : Int) (H : ((8 ≤ x5 → Q (some (vi 1)) h) ∧ (x5 < 8 → ((R32 (60 * x1)) ∧ ((R32 ((60 * x1) + x5)) ∧ ((0 ≤ ((60 * x1) + x5) ∧ ((60 * x1) + x5) < 240) ∧ ((0 ≤ x5 ∧ x5 < 8) ∧ Wp X 2 108 125 [vr 89, vi x1, zx2, vu, (clr1 zx4), vi (x5 + 1)] [] (upd2 h 111 x5 (h 92 ((60 * x1) + x5))) Q))))))) : Wp X 2 108 125 [vr 89, vi x1, zx2, vu, zx4, vi x5] [] h Q := by
  refine wp_iload rfl rfl ?_
  refine wp_iconst rfl ?_
  refine wp_icge (tn := 157) rfl rfl (fun c1 => ?_) (fun c1 => ?_)
  · replace H := H.1 c1
    refine wp_iconst rfl ?_
    exact wp_iret rfl rfl H
  · replace H := H.2 c1
    refine wp_aload rfl rfl ?_
    refine wp_getR (r := 110) rfl (congrArg Prod.fst (kf_89 X.1)) rfl ?_
    refine wp_iload rfl rfl ?_
    refine wp_aload rfl rfl ?_
    refine wp_getR (r := 91) rfl (congrArg Prod.fst (kf_89 X.1)) rfl ?_
    refine wp_iconst rfl ?_
    refine wp_iload rfl rfl ?_
    refine wp_imul rfl ?_
    have g2 := H.1
    replace H := H.2
    refine Wp.topI (y := (60 * x1)) (w32_I g2) ?_
    refine wp_iload rfl rfl ?_
    refine wp_iadd rfl ?_
    have g3 := H.1
    replace H := H.2
    refine Wp.topI (y := ((60 * x1) + x5)) (w32_I g3) ?_
    have g4 := H.1
    replace H := H.2
    refine wp_iaload rfl (kf_92 X.1) g4 ?_
    have g5 := H.1
    replace H := H.2
    refine wp_iastore rfl (kf_111 X.1) g5 ?_
    refine wp_iincR (L2 := [vr 89, vi x1, zx2, vu, (clr1 zx4), vi (x5 + 1)]) rfl rfl (by clear H; unfold R32; omega) rfl ?_
    refine wp_goto (tn := 125) rfl rfl ?_
    exact H
/-- WarnLinesModel.oddsOf(I)I, from 0 -/
theorem S109_89_0 {X : Nat × (Int → Int)} {h : HP} {Q : bQ} (x1 : Int) (H : (((lcp x1 0) < 0 → Q (some (vi (-2))) h) ∧ (0 ≤ (lcp x1 0) → ((0 < (lcp x1 7) → Q (some (vi (-2))) h) ∧ ((lcp x1 7) ≤ 0 → ((0 ≤ x1 ∧ x1 < 8) ∧ Q (some (vi (h 111 x1))) h)))))) : Wp X 1 109 0 [vr 89, vi x1] [] h Q := by
  refine wp_iload rfl rfl ?_
  refine wp_i2l rfl ?_
  refine wp_sipush rfl ?_
  refine wp_sipush rfl ?_
  refine wp_call (k := 48) (ρ2 := 0) (L2 := [vl x1, vu, vl 0, vu, vl 7, vu]) rfl rfl rfl (Nat.le_of_ble_eq_true rfl) (Nat.le_of_ble_eq_true rfl) (Nat.le_of_ble_eq_true rfl) (rcv_S rfl) rfl ?_
  refine wp_lload rfl rfl ?_
  refine wp_lload rfl rfl ?_
  refine wp_lcmp rfl ?_
  refine wp_iflt (tn := 17) rfl rfl (fun c1 => ?_) (fun c1 => ?_)
  · replace H := H.1 c1
    refine wp_iconst rfl ?_
    refine wp_zret rfl rfl (by decide) ?_
    show Wp X _ 109 9 [vr 89, vi x1] [vi 0] _ _
    refine wp_ifeqT (tn := 21) rfl rfl (by decide) ?_
    refine wp_iconst rfl ?_
    exact wp_iret rfl rfl H
  · replace H := H.2 c1
    refine wp_lload rfl rfl ?_
    refine wp_lload rfl rfl ?_
    refine wp_lcmp rfl ?_
    refine wp_ifgt (tn := 17) rfl rfl (fun c2 => ?_) (fun c2 => ?_)
    · replace H := H.1 c2
      refine wp_iconst rfl ?_
      refine wp_zret rfl rfl (by decide) ?_
      show Wp X _ 109 9 [vr 89, vi x1] [vi 0] _ _
      refine wp_ifeqT (tn := 21) rfl rfl (by decide) ?_
      refine wp_iconst rfl ?_
      exact wp_iret rfl rfl H
    · replace H := H.2 c2
      refine wp_iconst rfl ?_
      refine wp_goto (tn := 18) rfl rfl ?_
      refine wp_zret rfl rfl (by decide) ?_
      show Wp X _ 109 9 [vr 89, vi x1] [vi 1] _ _
      refine wp_ifeqF (tn := 21) rfl rfl (by decide) ?_
      refine wp_aload rfl rfl ?_
      refine wp_getR (r := 110) rfl (congrArg Prod.fst (kf_89 X.1)) rfl ?_
      refine wp_iload rfl rfl ?_
      have g3 := H.1
      replace H := H.2
      refine wp_iaload rfl (kf_111 X.1) g3 ?_
      refine wp_goto (tn := 23) rfl rfl ?_
      exact wp_iret rfl rfl H
/-- WarnLinesModel.upTo(I)J, from 0 -/
theorem S115_89_0 {X : Nat × (Int → Int)} {h : HP} {Q : bQ} (x1 : Int) (H : Wp X 1 115 5 [vr 89, vi x1, vl 0, vu, vi 1] [] h Q) : Wp X 1 115 0 [vr 89, vi x1, vu, vu, vu] [] h Q := by
  refine wp_sipush rfl ?_
  refine wp_lstore (L2 := [vr 89, vi x1, vl 0, vu, vu]) rfl (Nat.le_of_ble_eq_true rfl) rfl ?_
  refine wp_iconst rfl ?_
  refine wp_istore (L2 := [vr 89, vi x1, vl 0, vu, vi 1]) rfl (Nat.le_of_ble_eq_true rfl) rfl ?_
  exact H
/-- WarnLinesModel.upTo(I)J, from 5 -/
theorem S115_89_5 {X : Nat × (Int → Int)} {h : HP} {Q : bQ} (x1 : Int) (x2 : Int) (x4 : Int) (H : ((x1 < x4 → Q (some (vl x2)) h) ∧ (x4 ≤ x1 → ((0 ≤ x4 ∧ x4 < 10) ∧ ((R32 (x1 - x4)) ∧ ((R32 (6 * (x1 - x4))) ∧ ((R64 ((h 115 x4) * ((i64 1 <<< ((i32 (6 * (x1 - x4))).toInt64 &&& 63)).toInt))) ∧ ((R64 (x2 + ((h 115 x4) * ((i64 1 <<< ((i32 (6 * (x1 - x4))).toInt64 &&& 63)).toInt)))) ∧ Wp X 1 115 5 [vr 89, vi x1, vl (x2 + ((h 115 x4) * ((i64 1 <<< ((i32 (6 * (x1 - x4))).toInt64 &&& 63)).toInt))), vu, vi (x4 + 1)] [] h Q)))))))) : Wp X 1 115 5 [vr 89, vi x1, vl x2, vu, vi x4] [] h Q := by
  refine wp_iload rfl rfl ?_
  refine wp_iload rfl rfl ?_
  refine wp_icgt (tn := 35) rfl rfl (fun c1 => ?_) (fun c1 => ?_)
  · replace H := H.1 c1
    refine wp_lload rfl rfl ?_
    exact wp_lret rfl rfl H
  · replace H := H.2 c1
    refine wp_lload rfl rfl ?_
    refine wp_aload rfl rfl ?_
    refine wp_getR (r := 114) rfl (congrArg Prod.fst (kf_89 X.1)) rfl ?_
    refine wp_iload rfl rfl ?_
    have g2 := H.1
    replace H := H.2
    refine wp_laload rfl (kf_115 X.1) g2 ?_
    refine wp_iload rfl rfl ?_
    refine wp_iload rfl rfl ?_
    refine wp_isub rfl ?_
    have g3 := H.1
    replace H := H.2
    refine Wp.topI (y := (x1 - x4)) (w32_I g3) ?_
    refine wp_call (k := 113) (ρ2 := 0) (L2 := [vi (x1 - x4)]) rfl rfl rfl (Nat.le_of_ble_eq_true rfl) (Nat.le_of_ble_eq_true rfl) (Nat.le_of_ble_eq_true rfl) (rcv_S rfl) rfl ?_
    refine wp_sipush rfl ?_
    refine wp_iconst rfl ?_
    refine wp_iload rfl rfl ?_
    refine wp_imul rfl ?_
    have g4 := H.1
    replace H := H.2
    refine Wp.topI (y := (6 * (x1 - x4))) (w32_I g4) ?_
    refine wp_lshl rfl ?_
    refine wp_lret rfl rfl ?_
    show Wp X _ 115 26 [vr 89, vi x1, vl x2, vu, vi x4] [vl ((i64 1 <<< ((i32 (6 * (x1 - x4))).toInt64 &&& 63)).toInt), vl (h 115 x4), vl x2] _ _
    refine wp_lmul rfl ?_
    have g5 := H.1
    replace H := H.2
    refine Wp.topL (y := ((h 115 x4) * ((i64 1 <<< ((i32 (6 * (x1 - x4))).toInt64 &&& 63)).toInt))) (w64_I g5) ?_
    refine wp_ladd rfl ?_
    have g6 := H.1
    replace H := H.2
    refine Wp.topL (y := (x2 + ((h 115 x4) * ((i64 1 <<< ((i32 (6 * (x1 - x4))).toInt64 &&& 63)).toInt)))) (w64_I g6) ?_
    refine wp_lstore (L2 := [vr 89, vi x1, vl (x2 + ((h 115 x4) * ((i64 1 <<< ((i32 (6 * (x1 - x4))).toInt64 &&& 63)).toInt))), vu, vi x4]) rfl (Nat.le_of_ble_eq_true rfl) rfl ?_
    refine wp_iincR (L2 := [vr 89, vi x1, vl (x2 + ((h 115 x4) * ((i64 1 <<< ((i32 (6 * (x1 - x4))).toInt64 &&& 63)).toInt))), vu, vi (x4 + 1)]) rfl rfl (by clear H; unfold R32; omega) rfl ?_
    refine wp_goto (tn := 5) rfl rfl ?_
    exact H
/-- WarnLinesModel.isOfZones(I)Z, from 0 -/
theorem S116_89_0 {X : Nat × (Int → Int)} {h : HP} {Q : bQ} (x1 : Int) (H : Wp X 3 92 0 [vr 89, vi x1, vu] [] h (fun v h' => Wp X 4 116 5 [vr 89, vi x1, vu, vu] (psh v []) h' Q)) : Wp X 4 116 0 [vr 89, vi x1, vu, vu] [] h Q := by
  refine wp_aload rfl rfl ?_
  refine wp_iload rfl rfl ?_
  exact wp_call (k := 92) (ρ2 := 3) (L2 := [vr 89, vi x1, vu]) rfl rfl rfl (Nat.le_of_ble_eq_true rfl) (Nat.le_of_ble_eq_true rfl) (Nat.le_of_ble_eq_true rfl) (rcv_V rfl (congrArg Prod.fst (kf_89 X.1))) rfl H
/-- WarnLinesModel.isOfZones(I)Z, from 5 -/
theorem S116_89_5 {X : Nat × (Int → Int)} {h : HP} {Q : bQ} (zx1 : aV) (s0 : Int) (H : ((s0 ≠ (-1) → Wp X 4 116 17 [vr 89, (clr1 zx1), vi 0, vi 0] [] h Q) ∧ (s0 = (-1) → Wp X 4 116 17 [vr 89, (clr1 zx1), vi 1, vi 0] [] h Q))) : Wp X 4 116 5 [vr 89, zx1, vu, vu] [vi s0] h Q := by
  refine wp_iconst rfl ?_
  refine wp_icne (tn := 13) rfl rfl (fun c1 => ?_) (fun c1 => ?_)
  · replace H := H.1 c1
    refine wp_iconst rfl ?_
    refine wp_istore (L2 := [vr 89, (clr1 zx1), vi 0, vu]) rfl (Nat.le_of_ble_eq_true rfl) rfl ?_
    refine wp_iconst rfl ?_
    refine wp_istore (L2 := [vr 89, (clr1 zx1), vi 0, vi 0]) rfl (Nat.le_of_ble_eq_true rfl) rfl ?_
    exact H
  · replace H := H.2 c1
    refine wp_iconst rfl ?_
    refine wp_goto (tn := 14) rfl rfl ?_
    refine wp_istore (L2 := [vr 89, (clr1 zx1), vi 1, vu]) rfl (Nat.le_of_ble_eq_true rfl) rfl ?_
    refine wp_iconst rfl ?_
    refine wp_istore (L2 := [vr 89, (clr1 zx1), vi 1, vi 0]) rfl (Nat.le_of_ble_eq_true rfl) rfl ?_
    exact H
/-- WarnLinesModel.isOfZones(I)Z, from 17 -/
theorem S116_89_17 {X : Nat × (Int → Int)} {h : HP} {Q : bQ} (zx1 : aV) (x2 : Int) (x3 : Int) (H : (((h 89 24) ≤ x3 → ((x2 = 0 ∨ x2 = 1) ∧ Q (some (vi x2)) h)) ∧ (x3 < (h 89 24) → ((x2 = 0 → ((R32 (x3 + 1)) ∧ Wp X 4 116 17 [vr 89, (clr1 zx1), vi 0, vi (x3 + 1)] [] h Q)) ∧ (x2 ≠ 0 → ((0 ≤ x3 ∧ x3 < 8) ∧ (((h 105 x3) ≠ 122 → Wp X 4 116 17 [vr 89, (clr1 zx1), vi 0, vi (x3 + 1)] [] h Q) ∧ ((h 105 x3) = 122 → Wp X 4 116 17 [vr 89, (clr1 zx1), vi 1, vi (x3 + 1)] [] h Q)))))))) : Wp X 4 116 17 [vr 89, zx1, vi x2, vi x3] [] h Q := by
  refine wp_iload rfl rfl ?_
  refine wp_aload rfl rfl ?_
  refine wp_getI (j := 24) rfl (congrArg Prod.fst (kf_89 X.1)) rfl ?_
  refine wp_icge (tn := 52) rfl rfl (fun c1 => ?_) (fun c1 => ?_)
  · replace H := H.1 c1
    refine wp_iload rfl rfl ?_
    have g2 := H.1
    replace H := H.2
    exact wp_zret rfl rfl g2 H
  · replace H := H.2 c1
    refine wp_iload rfl rfl ?_
    refine wp_ifeq (tn := 44) rfl rfl (fun c3 => ?_) (fun c3 => ?_)
    · replace H := H.1 c3
      refine wp_iconst rfl ?_
      refine wp_istore (L2 := [vr 89, (clr1 zx1), vi 0, vi x3]) rfl (Nat.le_of_ble_eq_true rfl) rfl ?_
      have g4 := H.1
      replace H := H.2
      refine wp_iincR (L2 := [vr 89, (clr1 zx1), vi 0, vi (x3 + 1)]) rfl rfl g4 rfl ?_
      refine wp_goto (tn := 17) rfl rfl ?_
      exact H
    · replace H := H.2 c3
      refine wp_aload rfl rfl ?_
      refine wp_getR (r := 104) rfl (congrArg Prod.fst (kf_89 X.1)) rfl ?_
      refine wp_iload rfl rfl ?_
      have g5 := H.1
      replace H := H.2
      refine wp_iaload rfl (kf_105 X.1) g5 ?_
      refine wp_iconst rfl ?_
      refine wp_icne (tn := 44) rfl rfl (fun c6 => ?_) (fun c6 => ?_)
      · replace H := H.1 c6
        refine wp_iconst rfl ?_
        refine wp_istore (L2 := [vr 89, (clr1 zx1), vi 0, vi x3]) rfl (Nat.le_of_ble_eq_true rfl) rfl ?_
        refine wp_iincR (L2 := [vr 89, (clr1 zx1), vi 0, vi (x3 + 1)]) rfl rfl (by clear H; unfold R32; omega) rfl ?_
        refine wp_goto (tn := 17) rfl rfl ?_
        exact H
      · replace H := H.2 c6
        refine wp_iconst rfl ?_
        refine wp_goto (tn := 45) rfl rfl ?_
        refine wp_istore (L2 := [vr 89, (clr1 zx1), vi 1, vi x3]) rfl (Nat.le_of_ble_eq_true rfl) rfl ?_
        refine wp_iincR (L2 := [vr 89, (clr1 zx1), vi 1, vi (x3 + 1)]) rfl rfl (by clear H; unfold R32; omega) rfl ?_
        refine wp_goto (tn := 17) rfl rfl ?_
        exact H
/-- WarnLinesModel.soonOf(IIIZI)J, from 0 -/
theorem S118_89_0 {X : Nat × (Int → Int)} {h : HP} {Q : bQ} (x1 : Int) (x2 : Int) (x3 : Int) (x4 : Int) (x5 : Int) (H : Wp X 4 116 0 [vr 89, vi x1, vu, vu] [] h (fun v h' => Wp X 5 118 5 [vr 89, vi x1, vi x2, vi x3, vi x4, vi x5] (psh v []) h' Q)) : Wp X 5 118 0 [vr 89, vi x1, vi x2, vi x3, vi x4, vi x5] [] h Q := by
  refine wp_aload rfl rfl ?_
  refine wp_iload rfl rfl ?_
  exact wp_call (k := 116) (ρ2 := 4) (L2 := [vr 89, vi x1, vu, vu]) rfl rfl rfl (Nat.le_of_ble_eq_true rfl) (Nat.le_of_ble_eq_true rfl) (Nat.le_of_ble_eq_true rfl) (rcv_V rfl (congrArg Prod.fst (kf_89 X.1))) rfl H
/-- WarnLinesModel.soonOf(IIIZI)J, from 5 -/
theorem S118_89_5 {X : Nat × (Int → Int)} {h : HP} {Q : bQ} (zx1 : aV) (x2 : Int) (x3 : Int) (x4 : Int) (x5 : Int) (s0 : Int) (H : ((s0 ≠ 0 → Wp X 2 114 0 [vr 89, vi x2, vi x3, vu, vu, vu, vu, vu] [] h (fun v h' => Wp X 5 118 20 [vr 89, zx1, vi x2, vi x3, vi x4, vi x5] (psh v []) h' Q)) ∧ (s0 = 0 → Q (some (vl (-9223372036854775805))) h))) : Wp X 5 118 5 [vr 89, zx1, vi x2, vi x3, vi x4, vi x5] [vi s0] h Q := by
  refine wp_ifne (tn := 14) rfl rfl (fun c1 => ?_) (fun c1 => ?_)
  · replace H := H.1 c1
    refine wp_aload rfl rfl ?_
    refine wp_iload rfl rfl ?_
    refine wp_iload rfl rfl ?_
    exact wp_call (k := 114) (ρ2 := 2) (L2 := [vr 89, vi x2, vi x3, vu, vu, vu, vu, vu]) rfl rfl rfl (Nat.le_of_ble_eq_true rfl) (Nat.le_of_ble_eq_true rfl) (Nat.le_of_ble_eq_true rfl) (rcv_V rfl (congrArg Prod.fst (kf_89 X.1))) rfl H
  · replace H := H.2 c1
    refine wp_iconst rfl ?_
    refine wp_call (k := 49) (ρ2 := 0) (L2 := [vi (-3)]) rfl rfl rfl (Nat.le_of_ble_eq_true rfl) (Nat.le_of_ble_eq_true rfl) (Nat.le_of_ble_eq_true rfl) (rcv_S rfl) rfl ?_
    refine wp_sipush rfl ?_
    refine wp_iload rfl rfl ?_
    refine wp_i2l rfl ?_
    refine wp_lsub rfl ?_
    refine Wp.topL (y := (-9223372036854775805)) (by decide) ?_
    refine wp_lret rfl rfl ?_
    show Wp X _ 118 13 [vr 89, zx1, vi x2, vi x3, vi x4, vi x5] [vl (-9223372036854775805)] _ _
    exact wp_lret rfl rfl H
/-- WarnLinesModel.soonOf(IIIZI)J, from 20 -/
theorem S118_89_20 {X : Nat × (Int → Int)} {h : HP} {Q : bQ} (zx1 : aV) (x2 : Int) (zx3 : aV) (x4 : Int) (x5 : Int) (H : ((x4 = 0 → Wp X 1 115 0 [vr 89, vi x2, vu, vu, vu] [] h (fun v h' => Wp X 5 118 39 [vr 89, zx1, vi x2, zx3, vi x4, vi x5] (psh v []) h' Q)) ∧ (x4 ≠ 0 → ((0 ≤ x2 ∧ x2 < 10) ∧ Wp X 5 118 39 [vr 89, zx1, vi x2, zx3, vi x4, vi x5] [vl (h 115 x2)] h Q)))) : Wp X 5 118 20 [vr 89, zx1, vi x2, zx3, vi x4, vi x5] [] h Q := by
  refine wp_iload rfl rfl ?_
  refine wp_ifeq (tn := 34) rfl rfl (fun c1 => ?_) (fun c1 => ?_)
  · replace H := H.1 c1
    refine wp_aload rfl rfl ?_
    refine wp_iload rfl rfl ?_
    exact wp_call (k := 115) (ρ2 := 1) (L2 := [vr 89, vi x2, vu, vu, vu]) rfl rfl rfl (Nat.le_of_ble_eq_true rfl) (Nat.le_of_ble_eq_true rfl) (Nat.le_of_ble_eq_true rfl) (rcv_V rfl (congrArg Prod.fst (kf_89 X.1))) rfl H
  · replace H := H.2 c1
    refine wp_aload rfl rfl ?_
    refine wp_getR (r := 114) rfl (congrArg Prod.fst (kf_89 X.1)) rfl ?_
    refine wp_iload rfl rfl ?_
    have g2 := H.1
    replace H := H.2
    refine wp_laload rfl (kf_115 X.1) g2 ?_
    refine wp_goto (tn := 39) rfl rfl ?_
    exact H
/-- WarnLinesModel.soonOf(IIIZI)J, from 39 -/
theorem S118_89_39 {X : Nat × (Int → Int)} {h : HP} {Q : bQ} (zx0 : aV) (zx1 : aV) (x2 : Int) (zx3 : aV) (zx4 : aV) (x5 : Int) (s0 : Int) (H : ((R32 (6 * x2)) ∧ Wp X 1 61 0 [vl s0, vu, vl ((i64 1 <<< ((i32 (6 * x2)).toInt64 &&& 63)).toInt), vu, vi x5] [] h (fun v h' => Wp X 5 118 48 [zx0, zx1, vi x2, zx3, zx4, vi x5] (psh v []) h' Q))) : Wp X 5 118 39 [zx0, zx1, vi x2, zx3, zx4, vi x5] [vl s0] h Q := by
  refine wp_iload rfl rfl ?_
  refine wp_call (k := 113) (ρ2 := 0) (L2 := [vi x2]) rfl rfl rfl (Nat.le_of_ble_eq_true rfl) (Nat.le_of_ble_eq_true rfl) (Nat.le_of_ble_eq_true rfl) (rcv_S rfl) rfl ?_
  refine wp_sipush rfl ?_
  refine wp_iconst rfl ?_
  refine wp_iload rfl rfl ?_
  refine wp_imul rfl ?_
  have g1 := H.1
  replace H := H.2
  refine Wp.topI (y := (6 * x2)) (w32_I g1) ?_
  refine wp_lshl rfl ?_
  refine wp_lret rfl rfl ?_
  show Wp X _ 118 43 [zx0, zx1, vi x2, zx3, zx4, vi x5] [vl ((i64 1 <<< ((i32 (6 * x2)).toInt64 &&& 63)).toInt), vl s0] _ _
  refine wp_iload rfl rfl ?_
  exact wp_call (k := 61) (ρ2 := 1) (L2 := [vl s0, vu, vl ((i64 1 <<< ((i32 (6 * x2)).toInt64 &&& 63)).toInt), vu, vi x5]) rfl rfl rfl (Nat.le_of_ble_eq_true rfl) (Nat.le_of_ble_eq_true rfl) (Nat.le_of_ble_eq_true rfl) (rcv_S rfl) rfl H
/-- WarnLinesModel.soonOf(IIIZI)J, from 48 -/
theorem S118_89_48 {X : Nat × (Int → Int)} {h : HP} {Q : bQ} (zx0 : aV) (zx1 : aV) (zx2 : aV) (zx3 : aV) (zx4 : aV) (zx5 : aV) (s0 : Int) (H : Q (some (vl s0)) h) : Wp X 5 118 48 [zx0, zx1, zx2, zx3, zx4, zx5] [vl s0] h Q := by
  exact wp_lret rfl rfl H
/-- WarnLinesModel.soon(IIIZI)J, from 0 -/
theorem S119_89_0 {X : Nat × (Int → Int)} {h : HP} {Q : bQ} (x1 : Int) (x2 : Int) (x3 : Int) (x4 : Int) (x5 : Int) (H : (((lcp x1 0) < 0 → Q (some (vl (-9223372036854775806))) h) ∧ (0 ≤ (lcp x1 0) → ((0 < (lcp x1 1) → Q (some (vl (-9223372036854775806))) h) ∧ ((lcp x1 1) ≤ 0 → (((lcp x2 1) < 0 → Q (some (vl (-9223372036854775806))) h) ∧ (0 ≤ (lcp x2 1) → ((0 < (lcp x2 9) → Q (some (vl (-9223372036854775806))) h) ∧ ((lcp x2 9) ≤ 0 → (((lcp x3 (-7)) < 0 → Q (some (vl (-9223372036854775806))) h) ∧ (0 ≤ (lcp x3 (-7)) → ((0 < (lcp x3 7) → Q (some (vl (-9223372036854775806))) h) ∧ ((lcp x3 7) ≤ 0 → (((lcp x5 0) < 0 → Q (some (vl (-9223372036854775806))) h) ∧ (0 ≤ (lcp x5 0) → ((0 < (lcp x5 1) → Q (some (vl (-9223372036854775806))) h) ∧ ((lcp x5 1) ≤ 0 → Wp X 5 118 0 [vr 89, vi x1, vi x2, vi x3, vi x4, vi x5] [] h (fun v h' => Wp X 6 119 34 [vr 89, vi x1, vi x2, vi x3, vi x4, vi x5] (psh v []) h' Q)))))))))))))))))) : Wp X 6 119 0 [vr 89, vi x1, vi x2, vi x3, vi x4, vi x5] [] h Q := by
  refine wp_iload rfl rfl ?_
  refine wp_call (k := 50) (ρ2 := 1) (L2 := [vi x1]) rfl rfl rfl (Nat.le_of_ble_eq_true rfl) (Nat.le_of_ble_eq_true rfl) (Nat.le_of_ble_eq_true rfl) (rcv_S rfl) rfl ?_
  refine wp_iload rfl rfl ?_
  refine wp_i2l rfl ?_
  refine wp_sipush rfl ?_
  refine wp_sipush rfl ?_
  refine wp_call (k := 48) (ρ2 := 0) (L2 := [vl x1, vu, vl 0, vu, vl 1, vu]) rfl rfl rfl (Nat.le_of_ble_eq_true rfl) (Nat.le_of_ble_eq_true rfl) (Nat.le_of_ble_eq_true rfl) (rcv_S rfl) rfl ?_
  refine wp_lload rfl rfl ?_
  refine wp_lload rfl rfl ?_
  refine wp_lcmp rfl ?_
  refine wp_iflt (tn := 17) rfl rfl (fun c1 => ?_) (fun c1 => ?_)
  · replace H := H.1 c1
    refine wp_iconst rfl ?_
    refine wp_zret rfl rfl (by decide) ?_
    show Wp X _ 50 7 [vi x1] [vi 0] _ _
    refine wp_zret rfl rfl (by decide) ?_
    show Wp X _ 119 4 [vr 89, vi x1, vi x2, vi x3, vi x4, vi x5] [vi 0] _ _
    refine wp_ifeqT (tn := 37) rfl rfl (by decide) ?_
    refine wp_iconst rfl ?_
    refine wp_call (k := 49) (ρ2 := 0) (L2 := [vi (-2)]) rfl rfl rfl (Nat.le_of_ble_eq_true rfl) (Nat.le_of_ble_eq_true rfl) (Nat.le_of_ble_eq_true rfl) (rcv_S rfl) rfl ?_
    refine wp_sipush rfl ?_
    refine wp_iload rfl rfl ?_
    refine wp_i2l rfl ?_
    refine wp_lsub rfl ?_
    refine Wp.topL (y := (-9223372036854775806)) (by decide) ?_
    refine wp_lret rfl rfl ?_
    show Wp X _ 119 42 [vr 89, vi x1, vi x2, vi x3, vi x4, vi x5] [vl (-9223372036854775806)] _ _
    exact wp_lret rfl rfl H
  · replace H := H.2 c1
    refine wp_lload rfl rfl ?_
    refine wp_lload rfl rfl ?_
    refine wp_lcmp rfl ?_
    refine wp_ifgt (tn := 17) rfl rfl (fun c2 => ?_) (fun c2 => ?_)
    · replace H := H.1 c2
      refine wp_iconst rfl ?_
      refine wp_zret rfl rfl (by decide) ?_
      show Wp X _ 50 7 [vi x1] [vi 0] _ _
      refine wp_zret rfl rfl (by decide) ?_
      show Wp X _ 119 4 [vr 89, vi x1, vi x2, vi x3, vi x4, vi x5] [vi 0] _ _
      refine wp_ifeqT (tn := 37) rfl rfl (by decide) ?_
      refine wp_iconst rfl ?_
      refine wp_call (k := 49) (ρ2 := 0) (L2 := [vi (-2)]) rfl rfl rfl (Nat.le_of_ble_eq_true rfl) (Nat.le_of_ble_eq_true rfl) (Nat.le_of_ble_eq_true rfl) (rcv_S rfl) rfl ?_
      refine wp_sipush rfl ?_
      refine wp_iload rfl rfl ?_
      refine wp_i2l rfl ?_
      refine wp_lsub rfl ?_
      refine Wp.topL (y := (-9223372036854775806)) (by decide) ?_
      refine wp_lret rfl rfl ?_
      show Wp X _ 119 42 [vr 89, vi x1, vi x2, vi x3, vi x4, vi x5] [vl (-9223372036854775806)] _ _
      exact wp_lret rfl rfl H
    · replace H := H.2 c2
      refine wp_iconst rfl ?_
      refine wp_goto (tn := 18) rfl rfl ?_
      refine wp_zret rfl rfl (by decide) ?_
      show Wp X _ 50 7 [vi x1] [vi 1] _ _
      refine wp_zret rfl rfl (by decide) ?_
      show Wp X _ 119 4 [vr 89, vi x1, vi x2, vi x3, vi x4, vi x5] [vi 1] _ _
      refine wp_ifeqF (tn := 37) rfl rfl (by decide) ?_
      refine wp_iload rfl rfl ?_
      refine wp_iload rfl rfl ?_
      refine wp_call (k := 117) (ρ2 := 1) (L2 := [vi x2, vi x3]) rfl rfl rfl (Nat.le_of_ble_eq_true rfl) (Nat.le_of_ble_eq_true rfl) (Nat.le_of_ble_eq_true rfl) (rcv_S rfl) rfl ?_
      refine wp_iload rfl rfl ?_
      refine wp_i2l rfl ?_
      refine wp_sipush rfl ?_
      refine wp_sipush rfl ?_
      refine wp_call (k := 48) (ρ2 := 0) (L2 := [vl x2, vu, vl 1, vu, vl 9, vu]) rfl rfl rfl (Nat.le_of_ble_eq_true rfl) (Nat.le_of_ble_eq_true rfl) (Nat.le_of_ble_eq_true rfl) (rcv_S rfl) rfl ?_
      refine wp_lload rfl rfl ?_
      refine wp_lload rfl rfl ?_
      refine wp_lcmp rfl ?_
      refine wp_iflt (tn := 17) rfl rfl (fun c3 => ?_) (fun c3 => ?_)
      · replace H := H.1 c3
        refine wp_iconst rfl ?_
        refine wp_zret rfl rfl (by decide) ?_
        show Wp X _ 117 9 [vi x2, vi x3] [vi 0] _ _
        refine wp_ifeqT (tn := 30) rfl rfl (by decide) ?_
        refine wp_iconst rfl ?_
        refine wp_zret rfl rfl (by decide) ?_
        show Wp X _ 119 12 [vr 89, vi x1, vi x2, vi x3, vi x4, vi x5] [vi 0] _ _
        refine wp_ifeqT (tn := 37) rfl rfl (by decide) ?_
        refine wp_iconst rfl ?_
        refine wp_call (k := 49) (ρ2 := 0) (L2 := [vi (-2)]) rfl rfl rfl (Nat.le_of_ble_eq_true rfl) (Nat.le_of_ble_eq_true rfl) (Nat.le_of_ble_eq_true rfl) (rcv_S rfl) rfl ?_
        refine wp_sipush rfl ?_
        refine wp_iload rfl rfl ?_
        refine wp_i2l rfl ?_
        refine wp_lsub rfl ?_
        refine Wp.topL (y := (-9223372036854775806)) (by decide) ?_
        refine wp_lret rfl rfl ?_
        show Wp X _ 119 42 [vr 89, vi x1, vi x2, vi x3, vi x4, vi x5] [vl (-9223372036854775806)] _ _
        exact wp_lret rfl rfl H
      · replace H := H.2 c3
        refine wp_lload rfl rfl ?_
        refine wp_lload rfl rfl ?_
        refine wp_lcmp rfl ?_
        refine wp_ifgt (tn := 17) rfl rfl (fun c4 => ?_) (fun c4 => ?_)
        · replace H := H.1 c4
          refine wp_iconst rfl ?_
          refine wp_zret rfl rfl (by decide) ?_
          show Wp X _ 117 9 [vi x2, vi x3] [vi 0] _ _
          refine wp_ifeqT (tn := 30) rfl rfl (by decide) ?_
          refine wp_iconst rfl ?_
          refine wp_zret rfl rfl (by decide) ?_
          show Wp X _ 119 12 [vr 89, vi x1, vi x2, vi x3, vi x4, vi x5] [vi 0] _ _
          refine wp_ifeqT (tn := 37) rfl rfl (by decide) ?_
          refine wp_iconst rfl ?_
          refine wp_call (k := 49) (ρ2 := 0) (L2 := [vi (-2)]) rfl rfl rfl (Nat.le_of_ble_eq_true rfl) (Nat.le_of_ble_eq_true rfl) (Nat.le_of_ble_eq_true rfl) (rcv_S rfl) rfl ?_
          refine wp_sipush rfl ?_
          refine wp_iload rfl rfl ?_
          refine wp_i2l rfl ?_
          refine wp_lsub rfl ?_
          refine Wp.topL (y := (-9223372036854775806)) (by decide) ?_
          refine wp_lret rfl rfl ?_
          show Wp X _ 119 42 [vr 89, vi x1, vi x2, vi x3, vi x4, vi x5] [vl (-9223372036854775806)] _ _
          exact wp_lret rfl rfl H
        · replace H := H.2 c4
          refine wp_iconst rfl ?_
          refine wp_goto (tn := 18) rfl rfl ?_
          refine wp_zret rfl rfl (by decide) ?_
          show Wp X _ 117 9 [vi x2, vi x3] [vi 1] _ _
          refine wp_ifeqF (tn := 30) rfl rfl (by decide) ?_
          refine wp_iload rfl rfl ?_
          refine wp_i2l rfl ?_
          refine wp_sipush rfl ?_
          refine wp_sipush rfl ?_
          refine wp_call (k := 48) (ρ2 := 0) (L2 := [vl x3, vu, vl (-7), vu, vl 7, vu]) rfl rfl rfl (Nat.le_of_ble_eq_true rfl) (Nat.le_of_ble_eq_true rfl) (Nat.le_of_ble_eq_true rfl) (rcv_S rfl) rfl ?_
          refine wp_lload rfl rfl ?_
          refine wp_lload rfl rfl ?_
          refine wp_lcmp rfl ?_
          refine wp_iflt (tn := 17) rfl rfl (fun c5 => ?_) (fun c5 => ?_)
          · replace H := H.1 c5
            refine wp_iconst rfl ?_
            refine wp_zret rfl rfl (by decide) ?_
            show Wp X _ 117 23 [vi x2, vi x3] [vi 0] _ _
            refine wp_ifeqT (tn := 30) rfl rfl (by decide) ?_
            refine wp_iconst rfl ?_
            refine wp_zret rfl rfl (by decide) ?_
            show Wp X _ 119 12 [vr 89, vi x1, vi x2, vi x3, vi x4, vi x5] [vi 0] _ _
            refine wp_ifeqT (tn := 37) rfl rfl (by decide) ?_
            refine wp_iconst rfl ?_
            refine wp_call (k := 49) (ρ2 := 0) (L2 := [vi (-2)]) rfl rfl rfl (Nat.le_of_ble_eq_true rfl) (Nat.le_of_ble_eq_true rfl) (Nat.le_of_ble_eq_true rfl) (rcv_S rfl) rfl ?_
            refine wp_sipush rfl ?_
            refine wp_iload rfl rfl ?_
            refine wp_i2l rfl ?_
            refine wp_lsub rfl ?_
            refine Wp.topL (y := (-9223372036854775806)) (by decide) ?_
            refine wp_lret rfl rfl ?_
            show Wp X _ 119 42 [vr 89, vi x1, vi x2, vi x3, vi x4, vi x5] [vl (-9223372036854775806)] _ _
            exact wp_lret rfl rfl H
          · replace H := H.2 c5
            refine wp_lload rfl rfl ?_
            refine wp_lload rfl rfl ?_
            refine wp_lcmp rfl ?_
            refine wp_ifgt (tn := 17) rfl rfl (fun c6 => ?_) (fun c6 => ?_)
            · replace H := H.1 c6
              refine wp_iconst rfl ?_
              refine wp_zret rfl rfl (by decide) ?_
              show Wp X _ 117 23 [vi x2, vi x3] [vi 0] _ _
              refine wp_ifeqT (tn := 30) rfl rfl (by decide) ?_
              refine wp_iconst rfl ?_
              refine wp_zret rfl rfl (by decide) ?_
              show Wp X _ 119 12 [vr 89, vi x1, vi x2, vi x3, vi x4, vi x5] [vi 0] _ _
              refine wp_ifeqT (tn := 37) rfl rfl (by decide) ?_
              refine wp_iconst rfl ?_
              refine wp_call (k := 49) (ρ2 := 0) (L2 := [vi (-2)]) rfl rfl rfl (Nat.le_of_ble_eq_true rfl) (Nat.le_of_ble_eq_true rfl) (Nat.le_of_ble_eq_true rfl) (rcv_S rfl) rfl ?_
              refine wp_sipush rfl ?_
              refine wp_iload rfl rfl ?_
              refine wp_i2l rfl ?_
              refine wp_lsub rfl ?_
              refine Wp.topL (y := (-9223372036854775806)) (by decide) ?_
              refine wp_lret rfl rfl ?_
              show Wp X _ 119 42 [vr 89, vi x1, vi x2, vi x3, vi x4, vi x5] [vl (-9223372036854775806)] _ _
              exact wp_lret rfl rfl H
            · replace H := H.2 c6
              refine wp_iconst rfl ?_
              refine wp_goto (tn := 18) rfl rfl ?_
              refine wp_zret rfl rfl (by decide) ?_
              show Wp X _ 117 23 [vi x2, vi x3] [vi 1] _ _
              refine wp_ifeqF (tn := 30) rfl rfl (by decide) ?_
              refine wp_iconst rfl ?_
              refine wp_goto (tn := 31) rfl rfl ?_
              refine wp_zret rfl rfl (by decide) ?_
              show Wp X _ 119 12 [vr 89, vi x1, vi x2, vi x3, vi x4, vi x5] [vi 1] _ _
              refine wp_ifeqF (tn := 37) rfl rfl (by decide) ?_
              refine wp_iload rfl rfl ?_
              refine wp_call (k := 50) (ρ2 := 1) (L2 := [vi x5]) rfl rfl rfl (Nat.le_of_ble_eq_true rfl) (Nat.le_of_ble_eq_true rfl) (Nat.le_of_ble_eq_true rfl) (rcv_S rfl) rfl ?_
              refine wp_iload rfl rfl ?_
              refine wp_i2l rfl ?_
              refine wp_sipush rfl ?_
              refine wp_sipush rfl ?_
              refine wp_call (k := 48) (ρ2 := 0) (L2 := [vl x5, vu, vl 0, vu, vl 1, vu]) rfl rfl rfl (Nat.le_of_ble_eq_true rfl) (Nat.le_of_ble_eq_true rfl) (Nat.le_of_ble_eq_true rfl) (rcv_S rfl) rfl ?_
              refine wp_lload rfl rfl ?_
              refine wp_lload rfl rfl ?_
              refine wp_lcmp rfl ?_
              refine wp_iflt (tn := 17) rfl rfl (fun c7 => ?_) (fun c7 => ?_)
              · replace H := H.1 c7
                refine wp_iconst rfl ?_
                refine wp_zret rfl rfl (by decide) ?_
                show Wp X _ 50 7 [vi x5] [vi 0] _ _
                refine wp_zret rfl rfl (by decide) ?_
                show Wp X _ 119 20 [vr 89, vi x1, vi x2, vi x3, vi x4, vi x5] [vi 0] _ _
                refine wp_ifeqT (tn := 37) rfl rfl (by decide) ?_
                refine wp_iconst rfl ?_
                refine wp_call (k := 49) (ρ2 := 0) (L2 := [vi (-2)]) rfl rfl rfl (Nat.le_of_ble_eq_true rfl) (Nat.le_of_ble_eq_true rfl) (Nat.le_of_ble_eq_true rfl) (rcv_S rfl) rfl ?_
                refine wp_sipush rfl ?_
                refine wp_iload rfl rfl ?_
                refine wp_i2l rfl ?_
                refine wp_lsub rfl ?_
                refine Wp.topL (y := (-9223372036854775806)) (by decide) ?_
                refine wp_lret rfl rfl ?_
                show Wp X _ 119 42 [vr 89, vi x1, vi x2, vi x3, vi x4, vi x5] [vl (-9223372036854775806)] _ _
                exact wp_lret rfl rfl H
              · replace H := H.2 c7
                refine wp_lload rfl rfl ?_
                refine wp_lload rfl rfl ?_
                refine wp_lcmp rfl ?_
                refine wp_ifgt (tn := 17) rfl rfl (fun c8 => ?_) (fun c8 => ?_)
                · replace H := H.1 c8
                  refine wp_iconst rfl ?_
                  refine wp_zret rfl rfl (by decide) ?_
                  show Wp X _ 50 7 [vi x5] [vi 0] _ _
                  refine wp_zret rfl rfl (by decide) ?_
                  show Wp X _ 119 20 [vr 89, vi x1, vi x2, vi x3, vi x4, vi x5] [vi 0] _ _
                  refine wp_ifeqT (tn := 37) rfl rfl (by decide) ?_
                  refine wp_iconst rfl ?_
                  refine wp_call (k := 49) (ρ2 := 0) (L2 := [vi (-2)]) rfl rfl rfl (Nat.le_of_ble_eq_true rfl) (Nat.le_of_ble_eq_true rfl) (Nat.le_of_ble_eq_true rfl) (rcv_S rfl) rfl ?_
                  refine wp_sipush rfl ?_
                  refine wp_iload rfl rfl ?_
                  refine wp_i2l rfl ?_
                  refine wp_lsub rfl ?_
                  refine Wp.topL (y := (-9223372036854775806)) (by decide) ?_
                  refine wp_lret rfl rfl ?_
                  show Wp X _ 119 42 [vr 89, vi x1, vi x2, vi x3, vi x4, vi x5] [vl (-9223372036854775806)] _ _
                  exact wp_lret rfl rfl H
                · replace H := H.2 c8
                  refine wp_iconst rfl ?_
                  refine wp_goto (tn := 18) rfl rfl ?_
                  refine wp_zret rfl rfl (by decide) ?_
                  show Wp X _ 50 7 [vi x5] [vi 1] _ _
                  refine wp_zret rfl rfl (by decide) ?_
                  show Wp X _ 119 20 [vr 89, vi x1, vi x2, vi x3, vi x4, vi x5] [vi 1] _ _
                  refine wp_ifeqF (tn := 37) rfl rfl (by decide) ?_
                  refine wp_aload rfl rfl ?_
                  refine wp_iload rfl rfl ?_
                  refine wp_iload rfl rfl ?_
                  refine wp_iload rfl rfl ?_
                  refine wp_iload rfl rfl ?_
                  refine wp_iload rfl rfl ?_
                  exact wp_call (k := 118) (ρ2 := 5) (L2 := [vr 89, vi x1, vi x2, vi x3, vi x4, vi x5]) rfl rfl rfl (Nat.le_of_ble_eq_true rfl) (Nat.le_of_ble_eq_true rfl) (Nat.le_of_ble_eq_true rfl) (rcv_V rfl (congrArg Prod.fst (kf_89 X.1))) rfl H
/-- WarnLinesModel.soon(IIIZI)J, from 34 -/
theorem S119_89_34 {X : Nat × (Int → Int)} {h : HP} {Q : bQ} (zx0 : aV) (zx1 : aV) (zx2 : aV) (zx3 : aV) (zx4 : aV) (zx5 : aV) (s0 : Int) (H : Q (some (vl s0)) h) : Wp X 6 119 34 [zx0, zx1, zx2, zx3, zx4, zx5] [vl s0] h Q := by
  refine wp_goto (tn := 42) rfl rfl ?_
  exact wp_lret rfl rfl H
