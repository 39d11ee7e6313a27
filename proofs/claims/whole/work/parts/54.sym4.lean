-- ===== the methods run symbolically, 4 (by program: wip/whole/gen_sym.py) =====
/-- WarnLinesModel.read(III)I, from 0 -/
theorem S67_89_0 {X : Nat × (Int → Int)} {h : HP} {Q : bQ} (x1 : Int) (x2 : Int) (x3 : Int) (H : (((lcp x1 0) < 0 → Q (some (vi (-2))) h) ∧ (0 ≤ (lcp x1 0) → ((0 < (lcp x1 3) → Q (some (vi (-2))) h) ∧ ((lcp x1 3) ≤ 0 → ((R32 ((h 89 5) - 1)) ∧ (((lcp x2 0) < 0 → Q (some (vi (-2))) h) ∧ (0 ≤ (lcp x2 0) → ((0 < (lcp x2 ((h 89 5) - 1)) → Q (some (vi (-2))) h) ∧ ((lcp x2 ((h 89 5) - 1)) ≤ 0 → (((lcp x3 0) < 0 → Q (some (vi (-2))) h) ∧ (0 ≤ (lcp x3 0) → ((0 < (lcp x3 999) → Q (some (vi (-2))) h) ∧ ((lcp x3 999) ≤ 0 → (((h 89 6) ≤ 0 → ((0 ≤ x1 ∧ x1 < 4) ∧ ((0 ≤ (h 90 x1) → Wp X 3 67 51 [vr 89, vi x1, vi x2, vi x3, vi 0] [] h Q) ∧ ((h 90 x1) < 0 → Q (some (vi (-11))) (upd2 h 89 4 1))))) ∧ (0 < (h 89 6) → ((R32 ((h 89 6) - 1)) ∧ ((0 ≤ ((h 89 6) - 1) ∧ ((h 89 6) - 1) < 100) ∧ (((h 96 ((h 89 6) - 1)) ≤ x3 → ((0 ≤ x1 ∧ x1 < 4) ∧ ((0 ≤ (h 90 x1) → Wp X 3 67 51 [vr 89, vi x1, vi x2, vi x3, vi 0] [] h Q) ∧ ((h 90 x1) < 0 → Q (some (vi (-11))) (upd2 h 89 4 1))))) ∧ (x3 < (h 96 ((h 89 6) - 1)) → Q (some (vi (-2))) h)))))))))))))))))))) : Wp X 3 67 0 [vr 89, vi x1, vi x2, vi x3, vu] [] h Q := by
  refine wp_iload rfl rfl ?_
  refine wp_call (k := 52) (ρ2 := 1) (L2 := [vi x1]) rfl rfl rfl (Nat.le_of_ble_eq_true rfl) (Nat.le_of_ble_eq_true rfl) (Nat.le_of_ble_eq_true rfl) (rcv_S rfl) rfl ?_
  refine wp_iload rfl rfl ?_
  refine wp_i2l rfl ?_
  refine wp_sipush rfl ?_
  refine wp_sipush rfl ?_
  refine wp_call (k := 48) (ρ2 := 0) (L2 := [vl x1, vu, vl 0, vu, vl 3, vu]) rfl rfl rfl (Nat.le_of_ble_eq_true rfl) (Nat.le_of_ble_eq_true rfl) (Nat.le_of_ble_eq_true rfl) (rcv_S rfl) rfl ?_
  refine wp_lload rfl rfl ?_
  refine wp_lload rfl rfl ?_
  refine wp_lcmp rfl ?_
  refine wp_iflt (tn := 17) rfl rfl (fun c1 => ?_) (fun c1 => ?_)
  · replace H := H.1 c1
    refine wp_iconst rfl ?_
    refine wp_zret rfl rfl (by decide) ?_
    show Wp X _ 52 9 [vi x1] [vi 0] _ _
    refine wp_zret rfl rfl (by decide) ?_
    show Wp X _ 67 4 [vr 89, vi x1, vi x2, vi x3, vu] [vi 0] _ _
    refine wp_ifeqT (tn := 30) rfl rfl (by decide) ?_
    refine wp_iconst rfl ?_
    exact wp_iret rfl rfl H
  · replace H := H.2 c1
    refine wp_lload rfl rfl ?_
    refine wp_lload rfl rfl ?_
    refine wp_lcmp rfl ?_
    refine wp_ifgt (tn := 17) rfl rfl (fun c2 => ?_) (fun c2 => ?_)
    · replace H := H.1 c2
      refine wp_iconst rfl ?_
      refine wp_zret rfl rfl (by decide) ?_
      show Wp X _ 52 9 [vi x1] [vi 0] _ _
      refine wp_zret rfl rfl (by decide) ?_
      show Wp X _ 67 4 [vr 89, vi x1, vi x2, vi x3, vu] [vi 0] _ _
      refine wp_ifeqT (tn := 30) rfl rfl (by decide) ?_
      refine wp_iconst rfl ?_
      exact wp_iret rfl rfl H
    · replace H := H.2 c2
      refine wp_iconst rfl ?_
      refine wp_goto (tn := 18) rfl rfl ?_
      refine wp_zret rfl rfl (by decide) ?_
      show Wp X _ 52 9 [vi x1] [vi 1] _ _
      refine wp_zret rfl rfl (by decide) ?_
      show Wp X _ 67 4 [vr 89, vi x1, vi x2, vi x3, vu] [vi 1] _ _
      refine wp_ifeqF (tn := 30) rfl rfl (by decide) ?_
      refine wp_aload rfl rfl ?_
      refine wp_iload rfl rfl ?_
      refine wp_call (k := 62) (ρ2 := 1) (L2 := [vr 89, vi x2]) rfl rfl rfl (Nat.le_of_ble_eq_true rfl) (Nat.le_of_ble_eq_true rfl) (Nat.le_of_ble_eq_true rfl) (rcv_V rfl (congrArg Prod.fst (kf_89 X.1))) rfl ?_
      refine wp_iload rfl rfl ?_
      refine wp_i2l rfl ?_
      refine wp_sipush rfl ?_
      refine wp_aload rfl rfl ?_
      refine wp_getI (j := 5) rfl (congrArg Prod.fst (kf_89 X.1)) rfl ?_
      refine wp_iconst rfl ?_
      refine wp_isub rfl ?_
      have g3 := H.1
      replace H := H.2
      refine Wp.topI (y := ((h 89 5) - 1)) (w32_I g3) ?_
      refine wp_i2l rfl ?_
      refine wp_call (k := 48) (ρ2 := 0) (L2 := [vl x2, vu, vl 0, vu, vl ((h 89 5) - 1), vu]) rfl rfl rfl (Nat.le_of_ble_eq_true rfl) (Nat.le_of_ble_eq_true rfl) (Nat.le_of_ble_eq_true rfl) (rcv_S rfl) rfl ?_
      refine wp_lload rfl rfl ?_
      refine wp_lload rfl rfl ?_
      refine wp_lcmp rfl ?_
      refine wp_iflt (tn := 17) rfl rfl (fun c4 => ?_) (fun c4 => ?_)
      · replace H := H.1 c4
        refine wp_iconst rfl ?_
        refine wp_zret rfl rfl (by decide) ?_
        show Wp X _ 62 13 [vr 89, vi x2] [vi 0] _ _
        refine wp_zret rfl rfl (by decide) ?_
        show Wp X _ 67 12 [vr 89, vi x1, vi x2, vi x3, vu] [vi 0] _ _
        refine wp_ifeqT (tn := 30) rfl rfl (by decide) ?_
        refine wp_iconst rfl ?_
        exact wp_iret rfl rfl H
      · replace H := H.2 c4
        refine wp_lload rfl rfl ?_
        refine wp_lload rfl rfl ?_
        refine wp_lcmp rfl ?_
        refine wp_ifgt (tn := 17) rfl rfl (fun c5 => ?_) (fun c5 => ?_)
        · replace H := H.1 c5
          refine wp_iconst rfl ?_
          refine wp_zret rfl rfl (by decide) ?_
          show Wp X _ 62 13 [vr 89, vi x2] [vi 0] _ _
          refine wp_zret rfl rfl (by decide) ?_
          show Wp X _ 67 12 [vr 89, vi x1, vi x2, vi x3, vu] [vi 0] _ _
          refine wp_ifeqT (tn := 30) rfl rfl (by decide) ?_
          refine wp_iconst rfl ?_
          exact wp_iret rfl rfl H
        · replace H := H.2 c5
          refine wp_iconst rfl ?_
          refine wp_goto (tn := 18) rfl rfl ?_
          refine wp_zret rfl rfl (by decide) ?_
          show Wp X _ 62 13 [vr 89, vi x2] [vi 1] _ _
          refine wp_zret rfl rfl (by decide) ?_
          show Wp X _ 67 12 [vr 89, vi x1, vi x2, vi x3, vu] [vi 1] _ _
          refine wp_ifeqF (tn := 30) rfl rfl (by decide) ?_
          refine wp_iload rfl rfl ?_
          refine wp_call (k := 63) (ρ2 := 1) (L2 := [vi x3]) rfl rfl rfl (Nat.le_of_ble_eq_true rfl) (Nat.le_of_ble_eq_true rfl) (Nat.le_of_ble_eq_true rfl) (rcv_S rfl) rfl ?_
          refine wp_iload rfl rfl ?_
          refine wp_i2l rfl ?_
          refine wp_sipush rfl ?_
          refine wp_sipush rfl ?_
          refine wp_call (k := 48) (ρ2 := 0) (L2 := [vl x3, vu, vl 0, vu, vl 999, vu]) rfl rfl rfl (Nat.le_of_ble_eq_true rfl) (Nat.le_of_ble_eq_true rfl) (Nat.le_of_ble_eq_true rfl) (rcv_S rfl) rfl ?_
          refine wp_lload rfl rfl ?_
          refine wp_lload rfl rfl ?_
          refine wp_lcmp rfl ?_
          refine wp_iflt (tn := 17) rfl rfl (fun c6 => ?_) (fun c6 => ?_)
          · replace H := H.1 c6
            refine wp_iconst rfl ?_
            refine wp_zret rfl rfl (by decide) ?_
            show Wp X _ 63 9 [vi x3] [vi 0] _ _
            refine wp_zret rfl rfl (by decide) ?_
            show Wp X _ 67 19 [vr 89, vi x1, vi x2, vi x3, vu] [vi 0] _ _
            refine wp_ifeqT (tn := 30) rfl rfl (by decide) ?_
            refine wp_iconst rfl ?_
            exact wp_iret rfl rfl H
          · replace H := H.2 c6
            refine wp_lload rfl rfl ?_
            refine wp_lload rfl rfl ?_
            refine wp_lcmp rfl ?_
            refine wp_ifgt (tn := 17) rfl rfl (fun c7 => ?_) (fun c7 => ?_)
            · replace H := H.1 c7
              refine wp_iconst rfl ?_
              refine wp_zret rfl rfl (by decide) ?_
              show Wp X _ 63 9 [vi x3] [vi 0] _ _
              refine wp_zret rfl rfl (by decide) ?_
              show Wp X _ 67 19 [vr 89, vi x1, vi x2, vi x3, vu] [vi 0] _ _
              refine wp_ifeqT (tn := 30) rfl rfl (by decide) ?_
              refine wp_iconst rfl ?_
              exact wp_iret rfl rfl H
            · replace H := H.2 c7
              refine wp_iconst rfl ?_
              refine wp_goto (tn := 18) rfl rfl ?_
              refine wp_zret rfl rfl (by decide) ?_
              show Wp X _ 63 9 [vi x3] [vi 1] _ _
              refine wp_zret rfl rfl (by decide) ?_
              show Wp X _ 67 19 [vr 89, vi x1, vi x2, vi x3, vu] [vi 1] _ _
              refine wp_ifeqF (tn := 30) rfl rfl (by decide) ?_
              refine wp_aload rfl rfl ?_
              refine wp_iload rfl rfl ?_
              refine wp_call (k := 64) (ρ2 := 0) (L2 := [vr 89, vi x3]) rfl rfl rfl (Nat.le_of_ble_eq_true rfl) (Nat.le_of_ble_eq_true rfl) (Nat.le_of_ble_eq_true rfl) (rcv_V rfl (congrArg Prod.fst (kf_89 X.1))) rfl ?_
              refine wp_aload rfl rfl ?_
              refine wp_getI (j := 6) rfl (congrArg Prod.fst (kf_89 X.1)) rfl ?_
              refine wp_ifle (tn := 26) rfl rfl (fun c8 => ?_) (fun c8 => ?_)
              · replace H := H.1 c8
                refine wp_iconst rfl ?_
                refine wp_zret rfl rfl (by decide) ?_
                show Wp X _ 67 27 [vr 89, vi x1, vi x2, vi x3, vu] [vi 0] _ _
                refine wp_ifeqT (tn := 33) rfl rfl (by decide) ?_
                refine wp_aload rfl rfl ?_
                refine wp_getR (r := 89) rfl (congrArg Prod.fst (kf_89 X.1)) rfl ?_
                refine wp_iload rfl rfl ?_
                have g9 := H.1
                replace H := H.2
                refine wp_iaload rfl (kf_90 X.1) g9 ?_
                refine wp_ifge (tn := 48) rfl rfl (fun c10 => ?_) (fun c10 => ?_)
                · replace H := H.1 c10
                  refine wp_iconst rfl ?_
                  refine wp_istore (L2 := [vr 89, vi x1, vi x2, vi x3, vi 0]) rfl (Nat.le_of_ble_eq_true rfl) rfl ?_
                  exact H
                · replace H := H.2 c10
                  refine wp_aload rfl rfl ?_
                  refine wp_iconst rfl ?_
                  refine wp_call (k := 51) (ρ2 := 0) (L2 := [vr 89, vi 1]) rfl rfl rfl (Nat.le_of_ble_eq_true rfl) (Nat.le_of_ble_eq_true rfl) (Nat.le_of_ble_eq_true rfl) (rcv_V rfl (congrArg Prod.fst (kf_89 X.1))) rfl ?_
                  refine wp_aload rfl rfl ?_
                  refine wp_iload rfl rfl ?_
                  refine wp_putI (j := 4) rfl (congrArg Prod.fst (kf_89 X.1)) rfl rfl rfl ?_
                  refine wp_iconst rfl ?_
                  refine wp_iload rfl rfl ?_
                  refine wp_isub rfl ?_
                  refine Wp.topI (y := (-11)) (by decide) ?_
                  refine wp_iret rfl rfl ?_
                  show Wp X _ 67 47 [vr 89, vi x1, vi x2, vi x3, vu] [vi (-11)] _ _
                  exact wp_iret rfl rfl H
              · replace H := H.2 c8
                refine wp_iload rfl rfl ?_
                refine wp_aload rfl rfl ?_
                refine wp_getR (r := 95) rfl (congrArg Prod.fst (kf_89 X.1)) rfl ?_
                refine wp_aload rfl rfl ?_
                refine wp_getI (j := 6) rfl (congrArg Prod.fst (kf_89 X.1)) rfl ?_
                refine wp_iconst rfl ?_
                refine wp_isub rfl ?_
                have g11 := H.1
                replace H := H.2
                refine Wp.topI (y := ((h 89 6) - 1)) (w32_I g11) ?_
                have g12 := H.1
                replace H := H.2
                refine wp_iaload rfl (kf_96 X.1) g12 ?_
                refine wp_icge (tn := 26) rfl rfl (fun c13 => ?_) (fun c13 => ?_)
                · replace H := H.1 c13
                  refine wp_iconst rfl ?_
                  refine wp_zret rfl rfl (by decide) ?_
                  show Wp X _ 67 27 [vr 89, vi x1, vi x2, vi x3, vu] [vi 0] _ _
                  refine wp_ifeqT (tn := 33) rfl rfl (by decide) ?_
                  refine wp_aload rfl rfl ?_
                  refine wp_getR (r := 89) rfl (congrArg Prod.fst (kf_89 X.1)) rfl ?_
                  refine wp_iload rfl rfl ?_
                  have g14 := H.1
                  replace H := H.2
                  refine wp_iaload rfl (kf_90 X.1) g14 ?_
                  refine wp_ifge (tn := 48) rfl rfl (fun c15 => ?_) (fun c15 => ?_)
                  · replace H := H.1 c15
                    refine wp_iconst rfl ?_
                    refine wp_istore (L2 := [vr 89, vi x1, vi x2, vi x3, vi 0]) rfl (Nat.le_of_ble_eq_true rfl) rfl ?_
                    exact H
                  · replace H := H.2 c15
                    refine wp_aload rfl rfl ?_
                    refine wp_iconst rfl ?_
                    refine wp_call (k := 51) (ρ2 := 0) (L2 := [vr 89, vi 1]) rfl rfl rfl (Nat.le_of_ble_eq_true rfl) (Nat.le_of_ble_eq_true rfl) (Nat.le_of_ble_eq_true rfl) (rcv_V rfl (congrArg Prod.fst (kf_89 X.1))) rfl ?_
                    refine wp_aload rfl rfl ?_
                    refine wp_iload rfl rfl ?_
                    refine wp_putI (j := 4) rfl (congrArg Prod.fst (kf_89 X.1)) rfl rfl rfl ?_
                    refine wp_iconst rfl ?_
                    refine wp_iload rfl rfl ?_
                    refine wp_isub rfl ?_
                    refine Wp.topI (y := (-11)) (by decide) ?_
                    refine wp_iret rfl rfl ?_
                    show Wp X _ 67 47 [vr 89, vi x1, vi x2, vi x3, vu] [vi (-11)] _ _
                    exact wp_iret rfl rfl H
                · replace H := H.2 c13
                  refine wp_iconst rfl ?_
                  refine wp_goto (tn := 27) rfl rfl ?_
                  refine wp_zret rfl rfl (by decide) ?_
                  show Wp X _ 67 27 [vr 89, vi x1, vi x2, vi x3, vu] [vi 1] _ _
                  refine wp_ifeqF (tn := 33) rfl rfl (by decide) ?_
                  refine wp_iconst rfl ?_
                  exact wp_iret rfl rfl H
/-- WarnLinesModel.read(III)I, from 51 -/
theorem S67_89_51 {X : Nat × (Int → Int)} {h : HP} {Q : bQ} (x1 : Int) (x2 : Int) (x3 : Int) (x4 : Int) (H : ((0 ≤ x1 ∧ x1 < 4) ∧ (((h 91 x1) ≤ x4 → Q (some (vi x4)) h) ∧ (x4 < (h 91 x1) → ((R32 ((60 * x1) + x4)) ∧ ((0 ≤ ((60 * x1) + x4) ∧ ((60 * x1) + x4) < 240) ∧ Wp X 2 66 0 [vr 89, vi x2, vi x4, vi (h 92 ((60 * x1) + x4)), vi x3] [] h (fun v h' => Wp X 3 67 82 [vr 89, vi x1, vi x2, vi x3, vi x4] (psh v []) h' Q))))))) : Wp X 3 67 51 [vr 89, vi x1, vi x2, vi x3, vi x4] [] h Q := by
  refine wp_iload rfl rfl ?_
  refine wp_aload rfl rfl ?_
  refine wp_getR (r := 90) rfl (congrArg Prod.fst (kf_89 X.1)) rfl ?_
  refine wp_iload rfl rfl ?_
  have g1 := H.1
  replace H := H.2
  refine wp_iaload rfl (kf_91 X.1) g1 ?_
  refine wp_icge (tn := 91) rfl rfl (fun c2 => ?_) (fun c2 => ?_)
  · replace H := H.1 c2
    refine wp_iload rfl rfl ?_
    exact wp_iret rfl rfl H
  · replace H := H.2 c2
    refine wp_aload rfl rfl ?_
    refine wp_iload rfl rfl ?_
    refine wp_iload rfl rfl ?_
    refine wp_aload rfl rfl ?_
    refine wp_getR (r := 91) rfl (congrArg Prod.fst (kf_89 X.1)) rfl ?_
    refine wp_iconst rfl ?_
    refine wp_iload rfl rfl ?_
    refine wp_imul rfl ?_
    refine Wp.topI (y := (60 * x1)) (w32_I (by clear H; unfold R32; omega)) ?_
    refine wp_iload rfl rfl ?_
    refine wp_iadd rfl ?_
    have g3 := H.1
    replace H := H.2
    refine Wp.topI (y := ((60 * x1) + x4)) (w32_I g3) ?_
    have g4 := H.1
    replace H := H.2
    refine wp_iaload rfl (kf_92 X.1) g4 ?_
    refine wp_iload rfl rfl ?_
    exact wp_call (k := 66) (ρ2 := 2) (L2 := [vr 89, vi x2, vi x4, vi (h 92 ((60 * x1) + x4)), vi x3]) rfl rfl rfl (Nat.le_of_ble_eq_true rfl) (Nat.le_of_ble_eq_true rfl) (Nat.le_of_ble_eq_true rfl) (rcv_V rfl (congrArg Prod.fst (kf_89 X.1))) rfl H
/-- WarnLinesModel.read(III)I, from 82 -/
theorem S67_89_82 {X : Nat × (Int → Int)} {h : HP} {Q : bQ} (x1 : Int) (x2 : Int) (x3 : Int) (x4 : Int) (s0 : Int) (H : ((s0 < 0 → Q (some (vi x4)) h) ∧ (0 ≤ s0 → ((R32 (x4 + 1)) ∧ Wp X 3 67 51 [vr 89, vi x1, vi x2, vi x3, vi (x4 + 1)] [] h Q)))) : Wp X 3 67 82 [vr 89, vi x1, vi x2, vi x3, vi x4] [vi s0] h Q := by
  refine wp_iflt (tn := 91) rfl rfl (fun c1 => ?_) (fun c1 => ?_)
  · replace H := H.1 c1
    refine wp_iload rfl rfl ?_
    exact wp_iret rfl rfl H
  · replace H := H.2 c1
    have g2 := H.1
    replace H := H.2
    refine wp_iincR (L2 := [vr 89, vi x1, vi x2, vi x3, vi (x4 + 1)]) rfl rfl g2 rfl ?_
    refine wp_goto (tn := 51) rfl rfl ?_
    exact H
/-- WarnLinesModel.set(II)I, from 0 -/
theorem S69_89_0 {X : Nat × (Int → Int)} {h : HP} {Q : bQ} (x1 : Int) (x2 : Int) (H : (((lcp x1 0) < 0 → Q (some (vi (-5))) h) ∧ (0 ≤ (lcp x1 0) → ((0 < (lcp x1 9) → Q (some (vi (-5))) h) ∧ ((lcp x1 9) ≤ 0 → ((x1 ≠ 7 → ((x1 = 2 → (((lcp x2 0) < 0 → Q (some (vi (-5))) h) ∧ (0 ≤ (lcp x2 0) → ((0 < (lcp x2 999) → Q (some (vi (-5))) h) ∧ ((lcp x2 999) ≤ 0 → Q (some (vi (h 97 x1))) (upd2 h 97 x1 x2)))))) ∧ (x1 ≠ 2 → ((x1 = 3 → (((lcp x2 0) < 0 → Q (some (vi (-5))) h) ∧ (0 ≤ (lcp x2 0) → ((0 < (lcp x2 999) → Q (some (vi (-5))) h) ∧ ((lcp x2 999) ≤ 0 → Q (some (vi (h 97 x1))) (upd2 h 97 x1 x2)))))) ∧ (x1 ≠ 3 → ((x1 = 4 → (((lcp x2 0) < 0 → Q (some (vi (-5))) h) ∧ (0 ≤ (lcp x2 0) → ((0 < (lcp x2 99) → Q (some (vi (-5))) h) ∧ ((lcp x2 99) ≤ 0 → Q (some (vi (h 97 x1))) (upd2 h 97 x1 x2)))))) ∧ (x1 ≠ 4 → ((x1 = 5 → (((lcp x2 0) < 0 → Q (some (vi (-5))) h) ∧ (0 ≤ (lcp x2 0) → ((0 < (lcp x2 9999) → Q (some (vi (-5))) h) ∧ ((lcp x2 9999) ≤ 0 → Q (some (vi (h 97 x1))) (upd2 h 97 x1 x2)))))) ∧ (x1 ≠ 5 → ((x1 = 6 → (((lcp x2 0) < 0 → Q (some (vi (-5))) h) ∧ (0 ≤ (lcp x2 0) → ((0 < (lcp x2 19) → Q (some (vi (-5))) h) ∧ ((lcp x2 19) ≤ 0 → Q (some (vi (h 97 x1))) (upd2 h 97 x1 x2)))))) ∧ (x1 ≠ 6 → ((x1 = 7 → (((lcp x2 0) < 0 → Q (some (vi (-5))) h) ∧ (0 ≤ (lcp x2 0) → ((0 < (lcp x2 8) → Q (some (vi (-5))) h) ∧ ((lcp x2 8) ≤ 0 → Q (some (vi (h 97 x1))) (upd2 h 97 x1 x2)))))) ∧ (x1 ≠ 7 → ((x1 = 8 → (((lcp x2 0) < 0 → Q (some (vi (-5))) h) ∧ (0 ≤ (lcp x2 0) → ((0 < (lcp x2 99) → Q (some (vi (-5))) h) ∧ ((lcp x2 99) ≤ 0 → Q (some (vi (h 97 x1))) (upd2 h 97 x1 x2)))))) ∧ (x1 ≠ 8 → ((x1 = 9 → (((lcp x2 0) < 0 → Q (some (vi (-5))) h) ∧ (0 ≤ (lcp x2 0) → ((0 < (lcp x2 99) → Q (some (vi (-5))) h) ∧ ((lcp x2 99) ≤ 0 → Q (some (vi (h 97 x1))) (upd2 h 97 x1 x2)))))) ∧ (x1 ≠ 9 → (((lcp x2 0) < 0 → Q (some (vi (-5))) h) ∧ (0 ≤ (lcp x2 0) → ((0 < (lcp x2 19) → Q (some (vi (-5))) h) ∧ ((lcp x2 19) ≤ 0 → ((0 ≤ x1 ∧ x1 < 10) ∧ Q (some (vi (h 97 x1))) (upd2 h 97 x1 x2))))))))))))))))))))))) ∧ (x1 = 7 → ((x1 = 2 → (((lcp x2 1) < 0 → Q (some (vi (-5))) h) ∧ (0 ≤ (lcp x2 1) → ((0 < (lcp x2 999) → Q (some (vi (-5))) h) ∧ ((lcp x2 999) ≤ 0 → Q (some (vi (h 97 x1))) (upd2 h 97 x1 x2)))))) ∧ (x1 ≠ 2 → ((x1 = 3 → (((lcp x2 1) < 0 → Q (some (vi (-5))) h) ∧ (0 ≤ (lcp x2 1) → ((0 < (lcp x2 999) → Q (some (vi (-5))) h) ∧ ((lcp x2 999) ≤ 0 → Q (some (vi (h 97 x1))) (upd2 h 97 x1 x2)))))) ∧ (x1 ≠ 3 → ((x1 = 4 → (((lcp x2 1) < 0 → Q (some (vi (-5))) h) ∧ (0 ≤ (lcp x2 1) → ((0 < (lcp x2 99) → Q (some (vi (-5))) h) ∧ ((lcp x2 99) ≤ 0 → Q (some (vi (h 97 x1))) (upd2 h 97 x1 x2)))))) ∧ (x1 ≠ 4 → ((x1 = 5 → (((lcp x2 1) < 0 → Q (some (vi (-5))) h) ∧ (0 ≤ (lcp x2 1) → ((0 < (lcp x2 9999) → Q (some (vi (-5))) h) ∧ ((lcp x2 9999) ≤ 0 → Q (some (vi (h 97 x1))) (upd2 h 97 x1 x2)))))) ∧ (x1 ≠ 5 → ((x1 = 6 → (((lcp x2 1) < 0 → Q (some (vi (-5))) h) ∧ (0 ≤ (lcp x2 1) → ((0 < (lcp x2 19) → Q (some (vi (-5))) h) ∧ ((lcp x2 19) ≤ 0 → Q (some (vi (h 97 x1))) (upd2 h 97 x1 x2)))))) ∧ (x1 ≠ 6 → ((x1 = 7 → (((lcp x2 1) < 0 → Q (some (vi (-5))) h) ∧ (0 ≤ (lcp x2 1) → ((0 < (lcp x2 8) → Q (some (vi (-5))) h) ∧ ((lcp x2 8) ≤ 0 → Q (some (vi (h 97 x1))) (upd2 h 97 x1 x2)))))) ∧ (x1 ≠ 7 → ((x1 = 8 → (((lcp x2 1) < 0 → Q (some (vi (-5))) h) ∧ (0 ≤ (lcp x2 1) → ((0 < (lcp x2 99) → Q (some (vi (-5))) h) ∧ ((lcp x2 99) ≤ 0 → Q (some (vi (h 97 x1))) (upd2 h 97 x1 x2)))))) ∧ (x1 ≠ 8 → ((x1 = 9 → (((lcp x2 1) < 0 → Q (some (vi (-5))) h) ∧ (0 ≤ (lcp x2 1) → ((0 < (lcp x2 99) → Q (some (vi (-5))) h) ∧ ((lcp x2 99) ≤ 0 → Q (some (vi (h 97 x1))) (upd2 h 97 x1 x2)))))) ∧ (x1 ≠ 9 → (((lcp x2 1) < 0 → Q (some (vi (-5))) h) ∧ (0 ≤ (lcp x2 1) → ((0 < (lcp x2 19) → Q (some (vi (-5))) h) ∧ ((lcp x2 19) ≤ 0 → Q (some (vi (h 97 x1))) (upd2 h 97 x1 x2)))))))))))))))))))))))))))) : Wp X 1 69 0 [vr 89, vi x1, vi x2, vu] [] h Q := by
  refine wp_iload rfl rfl ?_
  refine wp_i2l rfl ?_
  refine wp_sipush rfl ?_
  refine wp_sipush rfl ?_
  refine wp_call (k := 48) (ρ2 := 0) (L2 := [vl x1, vu, vl 0, vu, vl 9, vu]) rfl rfl rfl (Nat.le_of_ble_eq_true rfl) (Nat.le_of_ble_eq_true rfl) (Nat.le_of_ble_eq_true rfl) (rcv_S rfl) rfl ?_
  refine wp_lload rfl rfl ?_
  refine wp_lload rfl rfl ?_
  refine wp_lcmp rfl ?_
  refine wp_iflt (tn := 17) rfl rfl (fun c1 => ?_) (fun c1 => ?_)
  · replace H := H.1 c1
    refine wp_iconst rfl ?_
    refine wp_zret rfl rfl (by decide) ?_
    show Wp X _ 69 9 [vr 89, vi x1, vi x2, vu] [vi 0] _ _
    refine wp_ifeqT (tn := 36) rfl rfl (by decide) ?_
    refine wp_iconst rfl ?_
    exact wp_iret rfl rfl H
  · replace H := H.2 c1
    refine wp_lload rfl rfl ?_
    refine wp_lload rfl rfl ?_
    refine wp_lcmp rfl ?_
    refine wp_ifgt (tn := 17) rfl rfl (fun c2 => ?_) (fun c2 => ?_)
    · replace H := H.1 c2
      refine wp_iconst rfl ?_
      refine wp_zret rfl rfl (by decide) ?_
      show Wp X _ 69 9 [vr 89, vi x1, vi x2, vu] [vi 0] _ _
      refine wp_ifeqT (tn := 36) rfl rfl (by decide) ?_
      refine wp_iconst rfl ?_
      exact wp_iret rfl rfl H
    · replace H := H.2 c2
      refine wp_iconst rfl ?_
      refine wp_goto (tn := 18) rfl rfl ?_
      refine wp_zret rfl rfl (by decide) ?_
      show Wp X _ 69 9 [vr 89, vi x1, vi x2, vu] [vi 1] _ _
      refine wp_ifeqF (tn := 36) rfl rfl (by decide) ?_
      refine wp_iload rfl rfl ?_
      refine wp_i2l rfl ?_
      refine wp_iload rfl rfl ?_
      refine wp_iconst rfl ?_
      refine wp_icne (tn := 24) rfl rfl (fun c3 => ?_) (fun c3 => ?_)
      · replace H := H.1 c3
        refine wp_sipush rfl ?_
        refine wp_iload rfl rfl ?_
        refine wp_call (k := 68) (ρ2 := 0) (L2 := [vi x1]) rfl rfl rfl (Nat.le_of_ble_eq_true rfl) (Nat.le_of_ble_eq_true rfl) (Nat.le_of_ble_eq_true rfl) (rcv_S rfl) rfl ?_
        refine wp_iload rfl rfl ?_
        by_cases c4 : x1 = 2
        · replace H := H.1 c4
          refine wp_tabIn (tn := 48) rfl (by rw [c4]; decide) (by rw [c4]; rfl) ?_
          refine wp_iconst rfl ?_
          refine wp_iret rfl rfl ?_
          show Wp X _ 69 29 [vr 89, vi x1, vi x2, vu] [vi 999, vl 0, vl x2] _ _
          refine wp_i2l rfl ?_
          refine wp_call (k := 48) (ρ2 := 0) (L2 := [vl x2, vu, vl 0, vu, vl 999, vu]) rfl rfl rfl (Nat.le_of_ble_eq_true rfl) (Nat.le_of_ble_eq_true rfl) (Nat.le_of_ble_eq_true rfl) (rcv_S rfl) rfl ?_
          refine wp_lload rfl rfl ?_
          refine wp_lload rfl rfl ?_
          refine wp_lcmp rfl ?_
          refine wp_iflt (tn := 17) rfl rfl (fun c5 => ?_) (fun c5 => ?_)
          · replace H := H.1 c5
            refine wp_iconst rfl ?_
            refine wp_zret rfl rfl (by decide) ?_
            show Wp X _ 69 33 [vr 89, vi x1, vi x2, vu] [vi 0] _ _
            refine wp_ifneF (tn := 39) rfl rfl (by decide) ?_
            refine wp_iconst rfl ?_
            exact wp_iret rfl rfl H
          · replace H := H.2 c5
            refine wp_lload rfl rfl ?_
            refine wp_lload rfl rfl ?_
            refine wp_lcmp rfl ?_
            refine wp_ifgt (tn := 17) rfl rfl (fun c6 => ?_) (fun c6 => ?_)
            · replace H := H.1 c6
              refine wp_iconst rfl ?_
              refine wp_zret rfl rfl (by decide) ?_
              show Wp X _ 69 33 [vr 89, vi x1, vi x2, vu] [vi 0] _ _
              refine wp_ifneF (tn := 39) rfl rfl (by decide) ?_
              refine wp_iconst rfl ?_
              exact wp_iret rfl rfl H
            · replace H := H.2 c6
              refine wp_iconst rfl ?_
              refine wp_goto (tn := 18) rfl rfl ?_
              refine wp_zret rfl rfl (by decide) ?_
              show Wp X _ 69 33 [vr 89, vi x1, vi x2, vu] [vi 1] _ _
              refine wp_ifneT (tn := 39) rfl rfl (by decide) ?_
              refine wp_aload rfl rfl ?_
              refine wp_getR (r := 96) rfl (congrArg Prod.fst (kf_89 X.1)) rfl ?_
              refine wp_iload rfl rfl ?_
              refine wp_iaload rfl (kf_97 X.1) ⟨(by clear H; omega), (by clear H; omega)⟩ ?_
              refine wp_istore (L2 := [vr 89, vi x1, vi x2, vi (h 97 x1)]) rfl (Nat.le_of_ble_eq_true rfl) rfl ?_
              refine wp_aload rfl rfl ?_
              refine wp_getR (r := 96) rfl (congrArg Prod.fst (kf_89 X.1)) rfl ?_
              refine wp_iload rfl rfl ?_
              refine wp_iload rfl rfl ?_
              refine wp_iastore rfl (kf_97 X.1) ⟨(by clear H; omega), (by clear H; omega)⟩ ?_
              refine wp_iload rfl rfl ?_
              exact wp_iret rfl rfl H
        replace H := H.2 c4
        by_cases c7 : x1 = 3
        · replace H := H.1 c7
          refine wp_tabIn (tn := 48) rfl (by rw [c7]; decide) (by rw [c7]; rfl) ?_
          refine wp_iconst rfl ?_
          refine wp_iret rfl rfl ?_
          show Wp X _ 69 29 [vr 89, vi x1, vi x2, vu] [vi 999, vl 0, vl x2] _ _
          refine wp_i2l rfl ?_
          refine wp_call (k := 48) (ρ2 := 0) (L2 := [vl x2, vu, vl 0, vu, vl 999, vu]) rfl rfl rfl (Nat.le_of_ble_eq_true rfl) (Nat.le_of_ble_eq_true rfl) (Nat.le_of_ble_eq_true rfl) (rcv_S rfl) rfl ?_
          refine wp_lload rfl rfl ?_
          refine wp_lload rfl rfl ?_
          refine wp_lcmp rfl ?_
          refine wp_iflt (tn := 17) rfl rfl (fun c8 => ?_) (fun c8 => ?_)
          · replace H := H.1 c8
            refine wp_iconst rfl ?_
            refine wp_zret rfl rfl (by decide) ?_
            show Wp X _ 69 33 [vr 89, vi x1, vi x2, vu] [vi 0] _ _
            refine wp_ifneF (tn := 39) rfl rfl (by decide) ?_
            refine wp_iconst rfl ?_
            exact wp_iret rfl rfl H
          · replace H := H.2 c8
            refine wp_lload rfl rfl ?_
            refine wp_lload rfl rfl ?_
            refine wp_lcmp rfl ?_
            refine wp_ifgt (tn := 17) rfl rfl (fun c9 => ?_) (fun c9 => ?_)
            · replace H := H.1 c9
              refine wp_iconst rfl ?_
              refine wp_zret rfl rfl (by decide) ?_
              show Wp X _ 69 33 [vr 89, vi x1, vi x2, vu] [vi 0] _ _
              refine wp_ifneF (tn := 39) rfl rfl (by decide) ?_
              refine wp_iconst rfl ?_
              exact wp_iret rfl rfl H
            · replace H := H.2 c9
              refine wp_iconst rfl ?_
              refine wp_goto (tn := 18) rfl rfl ?_
              refine wp_zret rfl rfl (by decide) ?_
              show Wp X _ 69 33 [vr 89, vi x1, vi x2, vu] [vi 1] _ _
              refine wp_ifneT (tn := 39) rfl rfl (by decide) ?_
              refine wp_aload rfl rfl ?_
              refine wp_getR (r := 96) rfl (congrArg Prod.fst (kf_89 X.1)) rfl ?_
              refine wp_iload rfl rfl ?_
              refine wp_iaload rfl (kf_97 X.1) ⟨(by clear H; omega), (by clear H; omega)⟩ ?_
              refine wp_istore (L2 := [vr 89, vi x1, vi x2, vi (h 97 x1)]) rfl (Nat.le_of_ble_eq_true rfl) rfl ?_
              refine wp_aload rfl rfl ?_
              refine wp_getR (r := 96) rfl (congrArg Prod.fst (kf_89 X.1)) rfl ?_
              refine wp_iload rfl rfl ?_
              refine wp_iload rfl rfl ?_
              refine wp_iastore rfl (kf_97 X.1) ⟨(by clear H; omega), (by clear H; omega)⟩ ?_
              refine wp_iload rfl rfl ?_
              exact wp_iret rfl rfl H
        replace H := H.2 c7
        by_cases c10 : x1 = 4
        · replace H := H.1 c10
          refine wp_tabIn (tn := 52) rfl (by rw [c10]; decide) (by rw [c10]; rfl) ?_
          refine wp_iconst rfl ?_
          refine wp_iret rfl rfl ?_
          show Wp X _ 69 29 [vr 89, vi x1, vi x2, vu] [vi 99, vl 0, vl x2] _ _
          refine wp_i2l rfl ?_
          refine wp_call (k := 48) (ρ2 := 0) (L2 := [vl x2, vu, vl 0, vu, vl 99, vu]) rfl rfl rfl (Nat.le_of_ble_eq_true rfl) (Nat.le_of_ble_eq_true rfl) (Nat.le_of_ble_eq_true rfl) (rcv_S rfl) rfl ?_
          refine wp_lload rfl rfl ?_
          refine wp_lload rfl rfl ?_
          refine wp_lcmp rfl ?_
          refine wp_iflt (tn := 17) rfl rfl (fun c11 => ?_) (fun c11 => ?_)
          · replace H := H.1 c11
            refine wp_iconst rfl ?_
            refine wp_zret rfl rfl (by decide) ?_
            show Wp X _ 69 33 [vr 89, vi x1, vi x2, vu] [vi 0] _ _
            refine wp_ifneF (tn := 39) rfl rfl (by decide) ?_
            refine wp_iconst rfl ?_
            exact wp_iret rfl rfl H
          · replace H := H.2 c11
            refine wp_lload rfl rfl ?_
            refine wp_lload rfl rfl ?_
            refine wp_lcmp rfl ?_
            refine wp_ifgt (tn := 17) rfl rfl (fun c12 => ?_) (fun c12 => ?_)
            · replace H := H.1 c12
              refine wp_iconst rfl ?_
              refine wp_zret rfl rfl (by decide) ?_
              show Wp X _ 69 33 [vr 89, vi x1, vi x2, vu] [vi 0] _ _
              refine wp_ifneF (tn := 39) rfl rfl (by decide) ?_
              refine wp_iconst rfl ?_
              exact wp_iret rfl rfl H
            · replace H := H.2 c12
              refine wp_iconst rfl ?_
              refine wp_goto (tn := 18) rfl rfl ?_
              refine wp_zret rfl rfl (by decide) ?_
              show Wp X _ 69 33 [vr 89, vi x1, vi x2, vu] [vi 1] _ _
              refine wp_ifneT (tn := 39) rfl rfl (by decide) ?_
              refine wp_aload rfl rfl ?_
              refine wp_getR (r := 96) rfl (congrArg Prod.fst (kf_89 X.1)) rfl ?_
              refine wp_iload rfl rfl ?_
              refine wp_iaload rfl (kf_97 X.1) ⟨(by clear H; omega), (by clear H; omega)⟩ ?_
              refine wp_istore (L2 := [vr 89, vi x1, vi x2, vi (h 97 x1)]) rfl (Nat.le_of_ble_eq_true rfl) rfl ?_
              refine wp_aload rfl rfl ?_
              refine wp_getR (r := 96) rfl (congrArg Prod.fst (kf_89 X.1)) rfl ?_
              refine wp_iload rfl rfl ?_
              refine wp_iload rfl rfl ?_
              refine wp_iastore rfl (kf_97 X.1) ⟨(by clear H; omega), (by clear H; omega)⟩ ?_
              refine wp_iload rfl rfl ?_
              exact wp_iret rfl rfl H
        replace H := H.2 c10
        by_cases c13 : x1 = 5
        · replace H := H.1 c13
          refine wp_tabIn (tn := 55) rfl (by rw [c13]; decide) (by rw [c13]; rfl) ?_
          refine wp_iconst rfl ?_
          refine wp_iret rfl rfl ?_
          show Wp X _ 69 29 [vr 89, vi x1, vi x2, vu] [vi 9999, vl 0, vl x2] _ _
          refine wp_i2l rfl ?_
          refine wp_call (k := 48) (ρ2 := 0) (L2 := [vl x2, vu, vl 0, vu, vl 9999, vu]) rfl rfl rfl (Nat.le_of_ble_eq_true rfl) (Nat.le_of_ble_eq_true rfl) (Nat.le_of_ble_eq_true rfl) (rcv_S rfl) rfl ?_
          refine wp_lload rfl rfl ?_
          refine wp_lload rfl rfl ?_
          refine wp_lcmp rfl ?_
          refine wp_iflt (tn := 17) rfl rfl (fun c14 => ?_) (fun c14 => ?_)
          · replace H := H.1 c14
            refine wp_iconst rfl ?_
            refine wp_zret rfl rfl (by decide) ?_
            show Wp X _ 69 33 [vr 89, vi x1, vi x2, vu] [vi 0] _ _
            refine wp_ifneF (tn := 39) rfl rfl (by decide) ?_
            refine wp_iconst rfl ?_
            exact wp_iret rfl rfl H
          · replace H := H.2 c14
            refine wp_lload rfl rfl ?_
            refine wp_lload rfl rfl ?_
            refine wp_lcmp rfl ?_
            refine wp_ifgt (tn := 17) rfl rfl (fun c15 => ?_) (fun c15 => ?_)
            · replace H := H.1 c15
              refine wp_iconst rfl ?_
              refine wp_zret rfl rfl (by decide) ?_
              show Wp X _ 69 33 [vr 89, vi x1, vi x2, vu] [vi 0] _ _
              refine wp_ifneF (tn := 39) rfl rfl (by decide) ?_
              refine wp_iconst rfl ?_
              exact wp_iret rfl rfl H
            · replace H := H.2 c15
              refine wp_iconst rfl ?_
              refine wp_goto (tn := 18) rfl rfl ?_
              refine wp_zret rfl rfl (by decide) ?_
              show Wp X _ 69 33 [vr 89, vi x1, vi x2, vu] [vi 1] _ _
              refine wp_ifneT (tn := 39) rfl rfl (by decide) ?_
              refine wp_aload rfl rfl ?_
              refine wp_getR (r := 96) rfl (congrArg Prod.fst (kf_89 X.1)) rfl ?_
              refine wp_iload rfl rfl ?_
              refine wp_iaload rfl (kf_97 X.1) ⟨(by clear H; omega), (by clear H; omega)⟩ ?_
              refine wp_istore (L2 := [vr 89, vi x1, vi x2, vi (h 97 x1)]) rfl (Nat.le_of_ble_eq_true rfl) rfl ?_
              refine wp_aload rfl rfl ?_
              refine wp_getR (r := 96) rfl (congrArg Prod.fst (kf_89 X.1)) rfl ?_
              refine wp_iload rfl rfl ?_
              refine wp_iload rfl rfl ?_
              refine wp_iastore rfl (kf_97 X.1) ⟨(by clear H; omega), (by clear H; omega)⟩ ?_
              refine wp_iload rfl rfl ?_
              exact wp_iret rfl rfl H
        replace H := H.2 c13
        by_cases c16 : x1 = 6
        · replace H := H.1 c16
          refine wp_tabIn (tn := 62) rfl (by rw [c16]; decide) (by rw [c16]; rfl) ?_
          refine wp_iconst rfl ?_
          refine wp_iret rfl rfl ?_
          show Wp X _ 69 29 [vr 89, vi x1, vi x2, vu] [vi 19, vl 0, vl x2] _ _
          refine wp_i2l rfl ?_
          refine wp_call (k := 48) (ρ2 := 0) (L2 := [vl x2, vu, vl 0, vu, vl 19, vu]) rfl rfl rfl (Nat.le_of_ble_eq_true rfl) (Nat.le_of_ble_eq_true rfl) (Nat.le_of_ble_eq_true rfl) (rcv_S rfl) rfl ?_
          refine wp_lload rfl rfl ?_
          refine wp_lload rfl rfl ?_
          refine wp_lcmp rfl ?_
          refine wp_iflt (tn := 17) rfl rfl (fun c17 => ?_) (fun c17 => ?_)
          · replace H := H.1 c17
            refine wp_iconst rfl ?_
            refine wp_zret rfl rfl (by decide) ?_
            show Wp X _ 69 33 [vr 89, vi x1, vi x2, vu] [vi 0] _ _
            refine wp_ifneF (tn := 39) rfl rfl (by decide) ?_
            refine wp_iconst rfl ?_
            exact wp_iret rfl rfl H
          · replace H := H.2 c17
            refine wp_lload rfl rfl ?_
            refine wp_lload rfl rfl ?_
            refine wp_lcmp rfl ?_
            refine wp_ifgt (tn := 17) rfl rfl (fun c18 => ?_) (fun c18 => ?_)
            · replace H := H.1 c18
              refine wp_iconst rfl ?_
              refine wp_zret rfl rfl (by decide) ?_
              show Wp X _ 69 33 [vr 89, vi x1, vi x2, vu] [vi 0] _ _
              refine wp_ifneF (tn := 39) rfl rfl (by decide) ?_
              refine wp_iconst rfl ?_
              exact wp_iret rfl rfl H
            · replace H := H.2 c18
              refine wp_iconst rfl ?_
              refine wp_goto (tn := 18) rfl rfl ?_
              refine wp_zret rfl rfl (by decide) ?_
              show Wp X _ 69 33 [vr 89, vi x1, vi x2, vu] [vi 1] _ _
              refine wp_ifneT (tn := 39) rfl rfl (by decide) ?_
              refine wp_aload rfl rfl ?_
              refine wp_getR (r := 96) rfl (congrArg Prod.fst (kf_89 X.1)) rfl ?_
              refine wp_iload rfl rfl ?_
              refine wp_iaload rfl (kf_97 X.1) ⟨(by clear H; omega), (by clear H; omega)⟩ ?_
              refine wp_istore (L2 := [vr 89, vi x1, vi x2, vi (h 97 x1)]) rfl (Nat.le_of_ble_eq_true rfl) rfl ?_
              refine wp_aload rfl rfl ?_
              refine wp_getR (r := 96) rfl (congrArg Prod.fst (kf_89 X.1)) rfl ?_
              refine wp_iload rfl rfl ?_
              refine wp_iload rfl rfl ?_
              refine wp_iastore rfl (kf_97 X.1) ⟨(by clear H; omega), (by clear H; omega)⟩ ?_
              refine wp_iload rfl rfl ?_
              exact wp_iret rfl rfl H
        replace H := H.2 c16
        by_cases c19 : x1 = 7
        · replace H := H.1 c19
          refine wp_tabIn (tn := 59) rfl (by rw [c19]; decide) (by rw [c19]; rfl) ?_
          refine wp_iconst rfl ?_
          refine wp_iret rfl rfl ?_
          show Wp X _ 69 29 [vr 89, vi x1, vi x2, vu] [vi 8, vl 0, vl x2] _ _
          refine wp_i2l rfl ?_
          refine wp_call (k := 48) (ρ2 := 0) (L2 := [vl x2, vu, vl 0, vu, vl 8, vu]) rfl rfl rfl (Nat.le_of_ble_eq_true rfl) (Nat.le_of_ble_eq_true rfl) (Nat.le_of_ble_eq_true rfl) (rcv_S rfl) rfl ?_
          refine wp_lload rfl rfl ?_
          refine wp_lload rfl rfl ?_
          refine wp_lcmp rfl ?_
          refine wp_iflt (tn := 17) rfl rfl (fun c20 => ?_) (fun c20 => ?_)
          · replace H := H.1 c20
            refine wp_iconst rfl ?_
            refine wp_zret rfl rfl (by decide) ?_
            show Wp X _ 69 33 [vr 89, vi x1, vi x2, vu] [vi 0] _ _
            refine wp_ifneF (tn := 39) rfl rfl (by decide) ?_
            refine wp_iconst rfl ?_
            exact wp_iret rfl rfl H
          · replace H := H.2 c20
            refine wp_lload rfl rfl ?_
            refine wp_lload rfl rfl ?_
            refine wp_lcmp rfl ?_
            refine wp_ifgt (tn := 17) rfl rfl (fun c21 => ?_) (fun c21 => ?_)
            · replace H := H.1 c21
              refine wp_iconst rfl ?_
              refine wp_zret rfl rfl (by decide) ?_
              show Wp X _ 69 33 [vr 89, vi x1, vi x2, vu] [vi 0] _ _
              refine wp_ifneF (tn := 39) rfl rfl (by decide) ?_
              refine wp_iconst rfl ?_
              exact wp_iret rfl rfl H
            · replace H := H.2 c21
              refine wp_iconst rfl ?_
              refine wp_goto (tn := 18) rfl rfl ?_
              refine wp_zret rfl rfl (by decide) ?_
              show Wp X _ 69 33 [vr 89, vi x1, vi x2, vu] [vi 1] _ _
              refine wp_ifneT (tn := 39) rfl rfl (by decide) ?_
              refine wp_aload rfl rfl ?_
              refine wp_getR (r := 96) rfl (congrArg Prod.fst (kf_89 X.1)) rfl ?_
              refine wp_iload rfl rfl ?_
              refine wp_iaload rfl (kf_97 X.1) ⟨(by clear H; omega), (by clear H; omega)⟩ ?_
              refine wp_istore (L2 := [vr 89, vi x1, vi x2, vi (h 97 x1)]) rfl (Nat.le_of_ble_eq_true rfl) rfl ?_
              refine wp_aload rfl rfl ?_
              refine wp_getR (r := 96) rfl (congrArg Prod.fst (kf_89 X.1)) rfl ?_
              refine wp_iload rfl rfl ?_
              refine wp_iload rfl rfl ?_
              refine wp_iastore rfl (kf_97 X.1) ⟨(by clear H; omega), (by clear H; omega)⟩ ?_
              refine wp_iload rfl rfl ?_
              exact wp_iret rfl rfl H
        replace H := H.2 c19
        by_cases c22 : x1 = 8
        · replace H := H.1 c22
          refine wp_tabIn (tn := 52) rfl (by rw [c22]; decide) (by rw [c22]; rfl) ?_
          refine wp_iconst rfl ?_
          refine wp_iret rfl rfl ?_
          show Wp X _ 69 29 [vr 89, vi x1, vi x2, vu] [vi 99, vl 0, vl x2] _ _
          refine wp_i2l rfl ?_
          refine wp_call (k := 48) (ρ2 := 0) (L2 := [vl x2, vu, vl 0, vu, vl 99, vu]) rfl rfl rfl (Nat.le_of_ble_eq_true rfl) (Nat.le_of_ble_eq_true rfl) (Nat.le_of_ble_eq_true rfl) (rcv_S rfl) rfl ?_
          refine wp_lload rfl rfl ?_
          refine wp_lload rfl rfl ?_
          refine wp_lcmp rfl ?_
          refine wp_iflt (tn := 17) rfl rfl (fun c23 => ?_) (fun c23 => ?_)
          · replace H := H.1 c23
            refine wp_iconst rfl ?_
            refine wp_zret rfl rfl (by decide) ?_
            show Wp X _ 69 33 [vr 89, vi x1, vi x2, vu] [vi 0] _ _
            refine wp_ifneF (tn := 39) rfl rfl (by decide) ?_
            refine wp_iconst rfl ?_
            exact wp_iret rfl rfl H
          · replace H := H.2 c23
            refine wp_lload rfl rfl ?_
            refine wp_lload rfl rfl ?_
            refine wp_lcmp rfl ?_
            refine wp_ifgt (tn := 17) rfl rfl (fun c24 => ?_) (fun c24 => ?_)
            · replace H := H.1 c24
              refine wp_iconst rfl ?_
              refine wp_zret rfl rfl (by decide) ?_
              show Wp X _ 69 33 [vr 89, vi x1, vi x2, vu] [vi 0] _ _
              refine wp_ifneF (tn := 39) rfl rfl (by decide) ?_
              refine wp_iconst rfl ?_
              exact wp_iret rfl rfl H
            · replace H := H.2 c24
              refine wp_iconst rfl ?_
              refine wp_goto (tn := 18) rfl rfl ?_
              refine wp_zret rfl rfl (by decide) ?_
              show Wp X _ 69 33 [vr 89, vi x1, vi x2, vu] [vi 1] _ _
              refine wp_ifneT (tn := 39) rfl rfl (by decide) ?_
              refine wp_aload rfl rfl ?_
              refine wp_getR (r := 96) rfl (congrArg Prod.fst (kf_89 X.1)) rfl ?_
              refine wp_iload rfl rfl ?_
              refine wp_iaload rfl (kf_97 X.1) ⟨(by clear H; omega), (by clear H; omega)⟩ ?_
              refine wp_istore (L2 := [vr 89, vi x1, vi x2, vi (h 97 x1)]) rfl (Nat.le_of_ble_eq_true rfl) rfl ?_
              refine wp_aload rfl rfl ?_
              refine wp_getR (r := 96) rfl (congrArg Prod.fst (kf_89 X.1)) rfl ?_
              refine wp_iload rfl rfl ?_
              refine wp_iload rfl rfl ?_
              refine wp_iastore rfl (kf_97 X.1) ⟨(by clear H; omega), (by clear H; omega)⟩ ?_
              refine wp_iload rfl rfl ?_
              exact wp_iret rfl rfl H
        replace H := H.2 c22
        by_cases c25 : x1 = 9
        · replace H := H.1 c25
          refine wp_tabIn (tn := 52) rfl (by rw [c25]; decide) (by rw [c25]; rfl) ?_
          refine wp_iconst rfl ?_
          refine wp_iret rfl rfl ?_
          show Wp X _ 69 29 [vr 89, vi x1, vi x2, vu] [vi 99, vl 0, vl x2] _ _
          refine wp_i2l rfl ?_
          refine wp_call (k := 48) (ρ2 := 0) (L2 := [vl x2, vu, vl 0, vu, vl 99, vu]) rfl rfl rfl (Nat.le_of_ble_eq_true rfl) (Nat.le_of_ble_eq_true rfl) (Nat.le_of_ble_eq_true rfl) (rcv_S rfl) rfl ?_
          refine wp_lload rfl rfl ?_
          refine wp_lload rfl rfl ?_
          refine wp_lcmp rfl ?_
          refine wp_iflt (tn := 17) rfl rfl (fun c26 => ?_) (fun c26 => ?_)
          · replace H := H.1 c26
            refine wp_iconst rfl ?_
            refine wp_zret rfl rfl (by decide) ?_
            show Wp X _ 69 33 [vr 89, vi x1, vi x2, vu] [vi 0] _ _
            refine wp_ifneF (tn := 39) rfl rfl (by decide) ?_
            refine wp_iconst rfl ?_
            exact wp_iret rfl rfl H
          · replace H := H.2 c26
            refine wp_lload rfl rfl ?_
            refine wp_lload rfl rfl ?_
            refine wp_lcmp rfl ?_
            refine wp_ifgt (tn := 17) rfl rfl (fun c27 => ?_) (fun c27 => ?_)
            · replace H := H.1 c27
              refine wp_iconst rfl ?_
              refine wp_zret rfl rfl (by decide) ?_
              show Wp X _ 69 33 [vr 89, vi x1, vi x2, vu] [vi 0] _ _
              refine wp_ifneF (tn := 39) rfl rfl (by decide) ?_
              refine wp_iconst rfl ?_
              exact wp_iret rfl rfl H
            · replace H := H.2 c27
              refine wp_iconst rfl ?_
              refine wp_goto (tn := 18) rfl rfl ?_
              refine wp_zret rfl rfl (by decide) ?_
              show Wp X _ 69 33 [vr 89, vi x1, vi x2, vu] [vi 1] _ _
              refine wp_ifneT (tn := 39) rfl rfl (by decide) ?_
              refine wp_aload rfl rfl ?_
              refine wp_getR (r := 96) rfl (congrArg Prod.fst (kf_89 X.1)) rfl ?_
              refine wp_iload rfl rfl ?_
              refine wp_iaload rfl (kf_97 X.1) ⟨(by clear H; omega), (by clear H; omega)⟩ ?_
              refine wp_istore (L2 := [vr 89, vi x1, vi x2, vi (h 97 x1)]) rfl (Nat.le_of_ble_eq_true rfl) rfl ?_
              refine wp_aload rfl rfl ?_
              refine wp_getR (r := 96) rfl (congrArg Prod.fst (kf_89 X.1)) rfl ?_
              refine wp_iload rfl rfl ?_
              refine wp_iload rfl rfl ?_
              refine wp_iastore rfl (kf_97 X.1) ⟨(by clear H; omega), (by clear H; omega)⟩ ?_
              refine wp_iload rfl rfl ?_
              exact wp_iret rfl rfl H
        replace H := H.2 c25
        refine wp_tabOut (tn := 62) rfl (by clear H; omega) rfl ?_
        refine wp_iconst rfl ?_
        refine wp_iret rfl rfl ?_
        show Wp X _ 69 29 [vr 89, vi x1, vi x2, vu] [vi 19, vl 0, vl x2] _ _
        refine wp_i2l rfl ?_
        refine wp_call (k := 48) (ρ2 := 0) (L2 := [vl x2, vu, vl 0, vu, vl 19, vu]) rfl rfl rfl (Nat.le_of_ble_eq_true rfl) (Nat.le_of_ble_eq_true rfl) (Nat.le_of_ble_eq_true rfl) (rcv_S rfl) rfl ?_
        refine wp_lload rfl rfl ?_
        refine wp_lload rfl rfl ?_
        refine wp_lcmp rfl ?_
        refine wp_iflt (tn := 17) rfl rfl (fun c29 => ?_) (fun c29 => ?_)
        · replace H := H.1 c29
          refine wp_iconst rfl ?_
          refine wp_zret rfl rfl (by decide) ?_
          show Wp X _ 69 33 [vr 89, vi x1, vi x2, vu] [vi 0] _ _
          refine wp_ifneF (tn := 39) rfl rfl (by decide) ?_
          refine wp_iconst rfl ?_
          exact wp_iret rfl rfl H
        · replace H := H.2 c29
          refine wp_lload rfl rfl ?_
          refine wp_lload rfl rfl ?_
          refine wp_lcmp rfl ?_
          refine wp_ifgt (tn := 17) rfl rfl (fun c30 => ?_) (fun c30 => ?_)
          · replace H := H.1 c30
            refine wp_iconst rfl ?_
            refine wp_zret rfl rfl (by decide) ?_
            show Wp X _ 69 33 [vr 89, vi x1, vi x2, vu] [vi 0] _ _
            refine wp_ifneF (tn := 39) rfl rfl (by decide) ?_
            refine wp_iconst rfl ?_
            exact wp_iret rfl rfl H
          · replace H := H.2 c30
            refine wp_iconst rfl ?_
            refine wp_goto (tn := 18) rfl rfl ?_
            refine wp_zret rfl rfl (by decide) ?_
            show Wp X _ 69 33 [vr 89, vi x1, vi x2, vu] [vi 1] _ _
            refine wp_ifneT (tn := 39) rfl rfl (by decide) ?_
            refine wp_aload rfl rfl ?_
            refine wp_getR (r := 96) rfl (congrArg Prod.fst (kf_89 X.1)) rfl ?_
            refine wp_iload rfl rfl ?_
            have g31 := H.1
            replace H := H.2
            refine wp_iaload rfl (kf_97 X.1) g31 ?_
            refine wp_istore (L2 := [vr 89, vi x1, vi x2, vi (h 97 x1)]) rfl (Nat.le_of_ble_eq_true rfl) rfl ?_
            refine wp_aload rfl rfl ?_
            refine wp_getR (r := 96) rfl (congrArg Prod.fst (kf_89 X.1)) rfl ?_
            refine wp_iload rfl rfl ?_
            refine wp_iload rfl rfl ?_
            refine wp_iastore rfl (kf_97 X.1) ⟨g31.1, g31.2⟩ ?_
            refine wp_iload rfl rfl ?_
            exact wp_iret rfl rfl H
      · replace H := H.2 c3
        refine wp_sipush rfl ?_
        refine wp_goto (tn := 25) rfl rfl ?_
        refine wp_iload rfl rfl ?_
        refine wp_call (k := 68) (ρ2 := 0) (L2 := [vi x1]) rfl rfl rfl (Nat.le_of_ble_eq_true rfl) (Nat.le_of_ble_eq_true rfl) (Nat.le_of_ble_eq_true rfl) (rcv_S rfl) rfl ?_
        refine wp_iload rfl rfl ?_
        by_cases c32 : x1 = 2
        · replace H := H.1 c32
          refine wp_tabIn (tn := 48) rfl (by rw [c32]; decide) (by rw [c32]; rfl) ?_
          refine wp_iconst rfl ?_
          refine wp_iret rfl rfl ?_
          show Wp X _ 69 29 [vr 89, vi x1, vi x2, vu] [vi 999, vl 1, vl x2] _ _
          refine wp_i2l rfl ?_
          refine wp_call (k := 48) (ρ2 := 0) (L2 := [vl x2, vu, vl 1, vu, vl 999, vu]) rfl rfl rfl (Nat.le_of_ble_eq_true rfl) (Nat.le_of_ble_eq_true rfl) (Nat.le_of_ble_eq_true rfl) (rcv_S rfl) rfl ?_
          refine wp_lload rfl rfl ?_
          refine wp_lload rfl rfl ?_
          refine wp_lcmp rfl ?_
          refine wp_iflt (tn := 17) rfl rfl (fun c33 => ?_) (fun c33 => ?_)
          · replace H := H.1 c33
            refine wp_iconst rfl ?_
            refine wp_zret rfl rfl (by decide) ?_
            show Wp X _ 69 33 [vr 89, vi x1, vi x2, vu] [vi 0] _ _
            refine wp_ifneF (tn := 39) rfl rfl (by decide) ?_
            refine wp_iconst rfl ?_
            exact wp_iret rfl rfl H
          · replace H := H.2 c33
            refine wp_lload rfl rfl ?_
            refine wp_lload rfl rfl ?_
            refine wp_lcmp rfl ?_
            refine wp_ifgt (tn := 17) rfl rfl (fun c34 => ?_) (fun c34 => ?_)
            · replace H := H.1 c34
              refine wp_iconst rfl ?_
              refine wp_zret rfl rfl (by decide) ?_
              show Wp X _ 69 33 [vr 89, vi x1, vi x2, vu] [vi 0] _ _
              refine wp_ifneF (tn := 39) rfl rfl (by decide) ?_
              refine wp_iconst rfl ?_
              exact wp_iret rfl rfl H
            · replace H := H.2 c34
              refine wp_iconst rfl ?_
              refine wp_goto (tn := 18) rfl rfl ?_
              refine wp_zret rfl rfl (by decide) ?_
              show Wp X _ 69 33 [vr 89, vi x1, vi x2, vu] [vi 1] _ _
              refine wp_ifneT (tn := 39) rfl rfl (by decide) ?_
              refine wp_aload rfl rfl ?_
              refine wp_getR (r := 96) rfl (congrArg Prod.fst (kf_89 X.1)) rfl ?_
              refine wp_iload rfl rfl ?_
              refine wp_iaload rfl (kf_97 X.1) ⟨(by clear H; omega), (by clear H; omega)⟩ ?_
              refine wp_istore (L2 := [vr 89, vi x1, vi x2, vi (h 97 x1)]) rfl (Nat.le_of_ble_eq_true rfl) rfl ?_
              refine wp_aload rfl rfl ?_
              refine wp_getR (r := 96) rfl (congrArg Prod.fst (kf_89 X.1)) rfl ?_
              refine wp_iload rfl rfl ?_
              refine wp_iload rfl rfl ?_
              refine wp_iastore rfl (kf_97 X.1) ⟨(by clear H; omega), (by clear H; omega)⟩ ?_
              refine wp_iload rfl rfl ?_
              exact wp_iret rfl rfl H
        replace H := H.2 c32
        by_cases c35 : x1 = 3
        · replace H := H.1 c35
          refine wp_tabIn (tn := 48) rfl (by rw [c35]; decide) (by rw [c35]; rfl) ?_
          refine wp_iconst rfl ?_
          refine wp_iret rfl rfl ?_
          show Wp X _ 69 29 [vr 89, vi x1, vi x2, vu] [vi 999, vl 1, vl x2] _ _
          refine wp_i2l rfl ?_
          refine wp_call (k := 48) (ρ2 := 0) (L2 := [vl x2, vu, vl 1, vu, vl 999, vu]) rfl rfl rfl (Nat.le_of_ble_eq_true rfl) (Nat.le_of_ble_eq_true rfl) (Nat.le_of_ble_eq_true rfl) (rcv_S rfl) rfl ?_
          refine wp_lload rfl rfl ?_
          refine wp_lload rfl rfl ?_
          refine wp_lcmp rfl ?_
          refine wp_iflt (tn := 17) rfl rfl (fun c36 => ?_) (fun c36 => ?_)
          · replace H := H.1 c36
            refine wp_iconst rfl ?_
            refine wp_zret rfl rfl (by decide) ?_
            show Wp X _ 69 33 [vr 89, vi x1, vi x2, vu] [vi 0] _ _
            refine wp_ifneF (tn := 39) rfl rfl (by decide) ?_
            refine wp_iconst rfl ?_
            exact wp_iret rfl rfl H
          · replace H := H.2 c36
            refine wp_lload rfl rfl ?_
            refine wp_lload rfl rfl ?_
            refine wp_lcmp rfl ?_
            refine wp_ifgt (tn := 17) rfl rfl (fun c37 => ?_) (fun c37 => ?_)
            · replace H := H.1 c37
              refine wp_iconst rfl ?_
              refine wp_zret rfl rfl (by decide) ?_
              show Wp X _ 69 33 [vr 89, vi x1, vi x2, vu] [vi 0] _ _
              refine wp_ifneF (tn := 39) rfl rfl (by decide) ?_
              refine wp_iconst rfl ?_
              exact wp_iret rfl rfl H
            · replace H := H.2 c37
              refine wp_iconst rfl ?_
              refine wp_goto (tn := 18) rfl rfl ?_
              refine wp_zret rfl rfl (by decide) ?_
              show Wp X _ 69 33 [vr 89, vi x1, vi x2, vu] [vi 1] _ _
              refine wp_ifneT (tn := 39) rfl rfl (by decide) ?_
              refine wp_aload rfl rfl ?_
              refine wp_getR (r := 96) rfl (congrArg Prod.fst (kf_89 X.1)) rfl ?_
              refine wp_iload rfl rfl ?_
              refine wp_iaload rfl (kf_97 X.1) ⟨(by clear H; omega), (by clear H; omega)⟩ ?_
              refine wp_istore (L2 := [vr 89, vi x1, vi x2, vi (h 97 x1)]) rfl (Nat.le_of_ble_eq_true rfl) rfl ?_
              refine wp_aload rfl rfl ?_
              refine wp_getR (r := 96) rfl (congrArg Prod.fst (kf_89 X.1)) rfl ?_
              refine wp_iload rfl rfl ?_
              refine wp_iload rfl rfl ?_
              refine wp_iastore rfl (kf_97 X.1) ⟨(by clear H; omega), (by clear H; omega)⟩ ?_
              refine wp_iload rfl rfl ?_
              exact wp_iret rfl rfl H
        replace H := H.2 c35
        by_cases c38 : x1 = 4
        · replace H := H.1 c38
          refine wp_tabIn (tn := 52) rfl (by rw [c38]; decide) (by rw [c38]; rfl) ?_
          refine wp_iconst rfl ?_
          refine wp_iret rfl rfl ?_
          show Wp X _ 69 29 [vr 89, vi x1, vi x2, vu] [vi 99, vl 1, vl x2] _ _
          refine wp_i2l rfl ?_
          refine wp_call (k := 48) (ρ2 := 0) (L2 := [vl x2, vu, vl 1, vu, vl 99, vu]) rfl rfl rfl (Nat.le_of_ble_eq_true rfl) (Nat.le_of_ble_eq_true rfl) (Nat.le_of_ble_eq_true rfl) (rcv_S rfl) rfl ?_
          refine wp_lload rfl rfl ?_
          refine wp_lload rfl rfl ?_
          refine wp_lcmp rfl ?_
          refine wp_iflt (tn := 17) rfl rfl (fun c39 => ?_) (fun c39 => ?_)
          · replace H := H.1 c39
            refine wp_iconst rfl ?_
            refine wp_zret rfl rfl (by decide) ?_
            show Wp X _ 69 33 [vr 89, vi x1, vi x2, vu] [vi 0] _ _
            refine wp_ifneF (tn := 39) rfl rfl (by decide) ?_
            refine wp_iconst rfl ?_
            exact wp_iret rfl rfl H
          · replace H := H.2 c39
            refine wp_lload rfl rfl ?_
            refine wp_lload rfl rfl ?_
            refine wp_lcmp rfl ?_
            refine wp_ifgt (tn := 17) rfl rfl (fun c40 => ?_) (fun c40 => ?_)
            · replace H := H.1 c40
              refine wp_iconst rfl ?_
              refine wp_zret rfl rfl (by decide) ?_
              show Wp X _ 69 33 [vr 89, vi x1, vi x2, vu] [vi 0] _ _
              refine wp_ifneF (tn := 39) rfl rfl (by decide) ?_
              refine wp_iconst rfl ?_
              exact wp_iret rfl rfl H
            · replace H := H.2 c40
              refine wp_iconst rfl ?_
              refine wp_goto (tn := 18) rfl rfl ?_
              refine wp_zret rfl rfl (by decide) ?_
              show Wp X _ 69 33 [vr 89, vi x1, vi x2, vu] [vi 1] _ _
              refine wp_ifneT (tn := 39) rfl rfl (by decide) ?_
              refine wp_aload rfl rfl ?_
              refine wp_getR (r := 96) rfl (congrArg Prod.fst (kf_89 X.1)) rfl ?_
              refine wp_iload rfl rfl ?_
              refine wp_iaload rfl (kf_97 X.1) ⟨(by clear H; omega), (by clear H; omega)⟩ ?_
              refine wp_istore (L2 := [vr 89, vi x1, vi x2, vi (h 97 x1)]) rfl (Nat.le_of_ble_eq_true rfl) rfl ?_
              refine wp_aload rfl rfl ?_
              refine wp_getR (r := 96) rfl (congrArg Prod.fst (kf_89 X.1)) rfl ?_
              refine wp_iload rfl rfl ?_
              refine wp_iload rfl rfl ?_
              refine wp_iastore rfl (kf_97 X.1) ⟨(by clear H; omega), (by clear H; omega)⟩ ?_
              refine wp_iload rfl rfl ?_
              exact wp_iret rfl rfl H
        replace H := H.2 c38
        by_cases c41 : x1 = 5
        · replace H := H.1 c41
          refine wp_tabIn (tn := 55) rfl (by rw [c41]; decide) (by rw [c41]; rfl) ?_
          refine wp_iconst rfl ?_
          refine wp_iret rfl rfl ?_
          show Wp X _ 69 29 [vr 89, vi x1, vi x2, vu] [vi 9999, vl 1, vl x2] _ _
          refine wp_i2l rfl ?_
          refine wp_call (k := 48) (ρ2 := 0) (L2 := [vl x2, vu, vl 1, vu, vl 9999, vu]) rfl rfl rfl (Nat.le_of_ble_eq_true rfl) (Nat.le_of_ble_eq_true rfl) (Nat.le_of_ble_eq_true rfl) (rcv_S rfl) rfl ?_
          refine wp_lload rfl rfl ?_
          refine wp_lload rfl rfl ?_
          refine wp_lcmp rfl ?_
          refine wp_iflt (tn := 17) rfl rfl (fun c42 => ?_) (fun c42 => ?_)
          · replace H := H.1 c42
            refine wp_iconst rfl ?_
            refine wp_zret rfl rfl (by decide) ?_
            show Wp X _ 69 33 [vr 89, vi x1, vi x2, vu] [vi 0] _ _
            refine wp_ifneF (tn := 39) rfl rfl (by decide) ?_
            refine wp_iconst rfl ?_
            exact wp_iret rfl rfl H
          · replace H := H.2 c42
            refine wp_lload rfl rfl ?_
            refine wp_lload rfl rfl ?_
            refine wp_lcmp rfl ?_
            refine wp_ifgt (tn := 17) rfl rfl (fun c43 => ?_) (fun c43 => ?_)
            · replace H := H.1 c43
              refine wp_iconst rfl ?_
              refine wp_zret rfl rfl (by decide) ?_
              show Wp X _ 69 33 [vr 89, vi x1, vi x2, vu] [vi 0] _ _
              refine wp_ifneF (tn := 39) rfl rfl (by decide) ?_
              refine wp_iconst rfl ?_
              exact wp_iret rfl rfl H
            · replace H := H.2 c43
              refine wp_iconst rfl ?_
              refine wp_goto (tn := 18) rfl rfl ?_
              refine wp_zret rfl rfl (by decide) ?_
              show Wp X _ 69 33 [vr 89, vi x1, vi x2, vu] [vi 1] _ _
              refine wp_ifneT (tn := 39) rfl rfl (by decide) ?_
              refine wp_aload rfl rfl ?_
              refine wp_getR (r := 96) rfl (congrArg Prod.fst (kf_89 X.1)) rfl ?_
              refine wp_iload rfl rfl ?_
              refine wp_iaload rfl (kf_97 X.1) ⟨(by clear H; omega), (by clear H; omega)⟩ ?_
              refine wp_istore (L2 := [vr 89, vi x1, vi x2, vi (h 97 x1)]) rfl (Nat.le_of_ble_eq_true rfl) rfl ?_
              refine wp_aload rfl rfl ?_
              refine wp_getR (r := 96) rfl (congrArg Prod.fst (kf_89 X.1)) rfl ?_
              refine wp_iload rfl rfl ?_
              refine wp_iload rfl rfl ?_
              refine wp_iastore rfl (kf_97 X.1) ⟨(by clear H; omega), (by clear H; omega)⟩ ?_
              refine wp_iload rfl rfl ?_
              exact wp_iret rfl rfl H
        replace H := H.2 c41
        by_cases c44 : x1 = 6
        · replace H := H.1 c44
          refine wp_tabIn (tn := 62) rfl (by rw [c44]; decide) (by rw [c44]; rfl) ?_
          refine wp_iconst rfl ?_
          refine wp_iret rfl rfl ?_
          show Wp X _ 69 29 [vr 89, vi x1, vi x2, vu] [vi 19, vl 1, vl x2] _ _
          refine wp_i2l rfl ?_
          refine wp_call (k := 48) (ρ2 := 0) (L2 := [vl x2, vu, vl 1, vu, vl 19, vu]) rfl rfl rfl (Nat.le_of_ble_eq_true rfl) (Nat.le_of_ble_eq_true rfl) (Nat.le_of_ble_eq_true rfl) (rcv_S rfl) rfl ?_
          refine wp_lload rfl rfl ?_
          refine wp_lload rfl rfl ?_
          refine wp_lcmp rfl ?_
          refine wp_iflt (tn := 17) rfl rfl (fun c45 => ?_) (fun c45 => ?_)
          · replace H := H.1 c45
            refine wp_iconst rfl ?_
            refine wp_zret rfl rfl (by decide) ?_
            show Wp X _ 69 33 [vr 89, vi x1, vi x2, vu] [vi 0] _ _
            refine wp_ifneF (tn := 39) rfl rfl (by decide) ?_
            refine wp_iconst rfl ?_
            exact wp_iret rfl rfl H
          · replace H := H.2 c45
            refine wp_lload rfl rfl ?_
            refine wp_lload rfl rfl ?_
            refine wp_lcmp rfl ?_
            refine wp_ifgt (tn := 17) rfl rfl (fun c46 => ?_) (fun c46 => ?_)
            · replace H := H.1 c46
              refine wp_iconst rfl ?_
              refine wp_zret rfl rfl (by decide) ?_
              show Wp X _ 69 33 [vr 89, vi x1, vi x2, vu] [vi 0] _ _
              refine wp_ifneF (tn := 39) rfl rfl (by decide) ?_
              refine wp_iconst rfl ?_
              exact wp_iret rfl rfl H
            · replace H := H.2 c46
              refine wp_iconst rfl ?_
              refine wp_goto (tn := 18) rfl rfl ?_
              refine wp_zret rfl rfl (by decide) ?_
              show Wp X _ 69 33 [vr 89, vi x1, vi x2, vu] [vi 1] _ _
              refine wp_ifneT (tn := 39) rfl rfl (by decide) ?_
              refine wp_aload rfl rfl ?_
              refine wp_getR (r := 96) rfl (congrArg Prod.fst (kf_89 X.1)) rfl ?_
              refine wp_iload rfl rfl ?_
              refine wp_iaload rfl (kf_97 X.1) ⟨(by clear H; omega), (by clear H; omega)⟩ ?_
              refine wp_istore (L2 := [vr 89, vi x1, vi x2, vi (h 97 x1)]) rfl (Nat.le_of_ble_eq_true rfl) rfl ?_
              refine wp_aload rfl rfl ?_
              refine wp_getR (r := 96) rfl (congrArg Prod.fst (kf_89 X.1)) rfl ?_
              refine wp_iload rfl rfl ?_
              refine wp_iload rfl rfl ?_
              refine wp_iastore rfl (kf_97 X.1) ⟨(by clear H; omega), (by clear H; omega)⟩ ?_
              refine wp_iload rfl rfl ?_
              exact wp_iret rfl rfl H
        replace H := H.2 c44
        by_cases c47 : x1 = 7
        · replace H := H.1 c47
          refine wp_tabIn (tn := 59) rfl (by rw [c47]; decide) (by rw [c47]; rfl) ?_
          refine wp_iconst rfl ?_
          refine wp_iret rfl rfl ?_
          show Wp X _ 69 29 [vr 89, vi x1, vi x2, vu] [vi 8, vl 1, vl x2] _ _
          refine wp_i2l rfl ?_
          refine wp_call (k := 48) (ρ2 := 0) (L2 := [vl x2, vu, vl 1, vu, vl 8, vu]) rfl rfl rfl (Nat.le_of_ble_eq_true rfl) (Nat.le_of_ble_eq_true rfl) (Nat.le_of_ble_eq_true rfl) (rcv_S rfl) rfl ?_
          refine wp_lload rfl rfl ?_
          refine wp_lload rfl rfl ?_
          refine wp_lcmp rfl ?_
          refine wp_iflt (tn := 17) rfl rfl (fun c48 => ?_) (fun c48 => ?_)
          · replace H := H.1 c48
            refine wp_iconst rfl ?_
            refine wp_zret rfl rfl (by decide) ?_
            show Wp X _ 69 33 [vr 89, vi x1, vi x2, vu] [vi 0] _ _
            refine wp_ifneF (tn := 39) rfl rfl (by decide) ?_
            refine wp_iconst rfl ?_
            exact wp_iret rfl rfl H
          · replace H := H.2 c48
            refine wp_lload rfl rfl ?_
            refine wp_lload rfl rfl ?_
            refine wp_lcmp rfl ?_
            refine wp_ifgt (tn := 17) rfl rfl (fun c49 => ?_) (fun c49 => ?_)
            · replace H := H.1 c49
              refine wp_iconst rfl ?_
              refine wp_zret rfl rfl (by decide) ?_
              show Wp X _ 69 33 [vr 89, vi x1, vi x2, vu] [vi 0] _ _
              refine wp_ifneF (tn := 39) rfl rfl (by decide) ?_
              refine wp_iconst rfl ?_
              exact wp_iret rfl rfl H
            · replace H := H.2 c49
              refine wp_iconst rfl ?_
              refine wp_goto (tn := 18) rfl rfl ?_
              refine wp_zret rfl rfl (by decide) ?_
              show Wp X _ 69 33 [vr 89, vi x1, vi x2, vu] [vi 1] _ _
              refine wp_ifneT (tn := 39) rfl rfl (by decide) ?_
              refine wp_aload rfl rfl ?_
              refine wp_getR (r := 96) rfl (congrArg Prod.fst (kf_89 X.1)) rfl ?_
              refine wp_iload rfl rfl ?_
              refine wp_iaload rfl (kf_97 X.1) ⟨(by clear H; omega), (by clear H; omega)⟩ ?_
              refine wp_istore (L2 := [vr 89, vi x1, vi x2, vi (h 97 x1)]) rfl (Nat.le_of_ble_eq_true rfl) rfl ?_
              refine wp_aload rfl rfl ?_
              refine wp_getR (r := 96) rfl (congrArg Prod.fst (kf_89 X.1)) rfl ?_
              refine wp_iload rfl rfl ?_
              refine wp_iload rfl rfl ?_
              refine wp_iastore rfl (kf_97 X.1) ⟨(by clear H; omega), (by clear H; omega)⟩ ?_
              refine wp_iload rfl rfl ?_
              exact wp_iret rfl rfl H
        replace H := H.2 c47
        by_cases c50 : x1 = 8
        · replace H := H.1 c50
          refine wp_tabIn (tn := 52) rfl (by rw [c50]; decide) (by rw [c50]; rfl) ?_
          refine wp_iconst rfl ?_
          refine wp_iret rfl rfl ?_
          show Wp X _ 69 29 [vr 89, vi x1, vi x2, vu] [vi 99, vl 1, vl x2] _ _
          refine wp_i2l rfl ?_
          refine wp_call (k := 48) (ρ2 := 0) (L2 := [vl x2, vu, vl 1, vu, vl 99, vu]) rfl rfl rfl (Nat.le_of_ble_eq_true rfl) (Nat.le_of_ble_eq_true rfl) (Nat.le_of_ble_eq_true rfl) (rcv_S rfl) rfl ?_
          refine wp_lload rfl rfl ?_
          refine wp_lload rfl rfl ?_
          refine wp_lcmp rfl ?_
          refine wp_iflt (tn := 17) rfl rfl (fun c51 => ?_) (fun c51 => ?_)
          · replace H := H.1 c51
            refine wp_iconst rfl ?_
            refine wp_zret rfl rfl (by decide) ?_
            show Wp X _ 69 33 [vr 89, vi x1, vi x2, vu] [vi 0] _ _
            refine wp_ifneF (tn := 39) rfl rfl (by decide) ?_
            refine wp_iconst rfl ?_
            exact wp_iret rfl rfl H
          · replace H := H.2 c51
            refine wp_lload rfl rfl ?_
            refine wp_lload rfl rfl ?_
            refine wp_lcmp rfl ?_
            refine wp_ifgt (tn := 17) rfl rfl (fun c52 => ?_) (fun c52 => ?_)
            · replace H := H.1 c52
              refine wp_iconst rfl ?_
              refine wp_zret rfl rfl (by decide) ?_
              show Wp X _ 69 33 [vr 89, vi x1, vi x2, vu] [vi 0] _ _
              refine wp_ifneF (tn := 39) rfl rfl (by decide) ?_
              refine wp_iconst rfl ?_
              exact wp_iret rfl rfl H
            · replace H := H.2 c52
              refine wp_iconst rfl ?_
              refine wp_goto (tn := 18) rfl rfl ?_
              refine wp_zret rfl rfl (by decide) ?_
              show Wp X _ 69 33 [vr 89, vi x1, vi x2, vu] [vi 1] _ _
              refine wp_ifneT (tn := 39) rfl rfl (by decide) ?_
              refine wp_aload rfl rfl ?_
              refine wp_getR (r := 96) rfl (congrArg Prod.fst (kf_89 X.1)) rfl ?_
              refine wp_iload rfl rfl ?_
              refine wp_iaload rfl (kf_97 X.1) ⟨(by clear H; omega), (by clear H; omega)⟩ ?_
              refine wp_istore (L2 := [vr 89, vi x1, vi x2, vi (h 97 x1)]) rfl (Nat.le_of_ble_eq_true rfl) rfl ?_
              refine wp_aload rfl rfl ?_
              refine wp_getR (r := 96) rfl (congrArg Prod.fst (kf_89 X.1)) rfl ?_
              refine wp_iload rfl rfl ?_
              refine wp_iload rfl rfl ?_
              refine wp_iastore rfl (kf_97 X.1) ⟨(by clear H; omega), (by clear H; omega)⟩ ?_
              refine wp_iload rfl rfl ?_
              exact wp_iret rfl rfl H
        replace H := H.2 c50
        by_cases c53 : x1 = 9
        · replace H := H.1 c53
          refine wp_tabIn (tn := 52) rfl (by rw [c53]; decide) (by rw [c53]; rfl) ?_
          refine wp_iconst rfl ?_
          refine wp_iret rfl rfl ?_
          show Wp X _ 69 29 [vr 89, vi x1, vi x2, vu] [vi 99, vl 1, vl x2] _ _
          refine wp_i2l rfl ?_
          refine wp_call (k := 48) (ρ2 := 0) (L2 := [vl x2, vu, vl 1, vu, vl 99, vu]) rfl rfl rfl (Nat.le_of_ble_eq_true rfl) (Nat.le_of_ble_eq_true rfl) (Nat.le_of_ble_eq_true rfl) (rcv_S rfl) rfl ?_
          refine wp_lload rfl rfl ?_
          refine wp_lload rfl rfl ?_
          refine wp_lcmp rfl ?_
          refine wp_iflt (tn := 17) rfl rfl (fun c54 => ?_) (fun c54 => ?_)
          · replace H := H.1 c54
            refine wp_iconst rfl ?_
            refine wp_zret rfl rfl (by decide) ?_
            show Wp X _ 69 33 [vr 89, vi x1, vi x2, vu] [vi 0] _ _
            refine wp_ifneF (tn := 39) rfl rfl (by decide) ?_
            refine wp_iconst rfl ?_
            exact wp_iret rfl rfl H
          · replace H := H.2 c54
            refine wp_lload rfl rfl ?_
            refine wp_lload rfl rfl ?_
            refine wp_lcmp rfl ?_
            refine wp_ifgt (tn := 17) rfl rfl (fun c55 => ?_) (fun c55 => ?_)
            · replace H := H.1 c55
              refine wp_iconst rfl ?_
              refine wp_zret rfl rfl (by decide) ?_
              show Wp X _ 69 33 [vr 89, vi x1, vi x2, vu] [vi 0] _ _
              refine wp_ifneF (tn := 39) rfl rfl (by decide) ?_
              refine wp_iconst rfl ?_
              exact wp_iret rfl rfl H
            · replace H := H.2 c55
              refine wp_iconst rfl ?_
              refine wp_goto (tn := 18) rfl rfl ?_
              refine wp_zret rfl rfl (by decide) ?_
              show Wp X _ 69 33 [vr 89, vi x1, vi x2, vu] [vi 1] _ _
              refine wp_ifneT (tn := 39) rfl rfl (by decide) ?_
              refine wp_aload rfl rfl ?_
              refine wp_getR (r := 96) rfl (congrArg Prod.fst (kf_89 X.1)) rfl ?_
              refine wp_iload rfl rfl ?_
              refine wp_iaload rfl (kf_97 X.1) ⟨(by clear H; omega), (by clear H; omega)⟩ ?_
              refine wp_istore (L2 := [vr 89, vi x1, vi x2, vi (h 97 x1)]) rfl (Nat.le_of_ble_eq_true rfl) rfl ?_
              refine wp_aload rfl rfl ?_
              refine wp_getR (r := 96) rfl (congrArg Prod.fst (kf_89 X.1)) rfl ?_
              refine wp_iload rfl rfl ?_
              refine wp_iload rfl rfl ?_
              refine wp_iastore rfl (kf_97 X.1) ⟨(by clear H; omega), (by clear H; omega)⟩ ?_
              refine wp_iload rfl rfl ?_
              exact wp_iret rfl rfl H
        replace H := H.2 c53
        refine wp_tabOut (tn := 62) rfl (by clear H; omega) rfl ?_
        refine wp_iconst rfl ?_
        refine wp_iret rfl rfl ?_
        show Wp X _ 69 29 [vr 89, vi x1, vi x2, vu] [vi 19, vl 1, vl x2] _ _
        refine wp_i2l rfl ?_
        refine wp_call (k := 48) (ρ2 := 0) (L2 := [vl x2, vu, vl 1, vu, vl 19, vu]) rfl rfl rfl (Nat.le_of_ble_eq_true rfl) (Nat.le_of_ble_eq_true rfl) (Nat.le_of_ble_eq_true rfl) (rcv_S rfl) rfl ?_
        refine wp_lload rfl rfl ?_
        refine wp_lload rfl rfl ?_
        refine wp_lcmp rfl ?_
        refine wp_iflt (tn := 17) rfl rfl (fun c57 => ?_) (fun c57 => ?_)
        · replace H := H.1 c57
          refine wp_iconst rfl ?_
          refine wp_zret rfl rfl (by decide) ?_
          show Wp X _ 69 33 [vr 89, vi x1, vi x2, vu] [vi 0] _ _
          refine wp_ifneF (tn := 39) rfl rfl (by decide) ?_
          refine wp_iconst rfl ?_
          exact wp_iret rfl rfl H
        · replace H := H.2 c57
          refine wp_lload rfl rfl ?_
          refine wp_lload rfl rfl ?_
          refine wp_lcmp rfl ?_
          refine wp_ifgt (tn := 17) rfl rfl (fun c58 => ?_) (fun c58 => ?_)
          · replace H := H.1 c58
            refine wp_iconst rfl ?_
            refine wp_zret rfl rfl (by decide) ?_
            show Wp X _ 69 33 [vr 89, vi x1, vi x2, vu] [vi 0] _ _
            refine wp_ifneF (tn := 39) rfl rfl (by decide) ?_
            refine wp_iconst rfl ?_
            exact wp_iret rfl rfl H
          · replace H := H.2 c58
            refine wp_iconst rfl ?_
            refine wp_goto (tn := 18) rfl rfl ?_
            refine wp_zret rfl rfl (by decide) ?_
            show Wp X _ 69 33 [vr 89, vi x1, vi x2, vu] [vi 1] _ _
            refine wp_ifneT (tn := 39) rfl rfl (by decide) ?_
            refine wp_aload rfl rfl ?_
            refine wp_getR (r := 96) rfl (congrArg Prod.fst (kf_89 X.1)) rfl ?_
            refine wp_iload rfl rfl ?_
            refine wp_iaload rfl (kf_97 X.1) ⟨(by clear H; omega), (by clear H; omega)⟩ ?_
            refine wp_istore (L2 := [vr 89, vi x1, vi x2, vi (h 97 x1)]) rfl (Nat.le_of_ble_eq_true rfl) rfl ?_
            refine wp_aload rfl rfl ?_
            refine wp_getR (r := 96) rfl (congrArg Prod.fst (kf_89 X.1)) rfl ?_
            refine wp_iload rfl rfl ?_
            refine wp_iload rfl rfl ?_
            refine wp_iastore rfl (kf_97 X.1) ⟨(by clear H; omega), (by clear H; omega)⟩ ?_
            refine wp_iload rfl rfl ?_
            exact wp_iret rfl rfl H
/-- WarnLinesModel.findValues()V, from 0 -/
theorem S70_89_0 {X : Nat × (Int → Int)} {h : HP} {Q : bQ}  (H : Wp X 0 70 2 [vr 89, vi 0, vu, vu, vu, vu, vu, vu] [] h Q) : Wp X 0 70 0 [vr 89, vu, vu, vu, vu, vu, vu, vu] [] h Q := by
  refine wp_iconst rfl ?_
  refine wp_istore (L2 := [vr 89, vi 0, vu, vu, vu, vu, vu, vu]) rfl (Nat.le_of_ble_eq_true rfl) rfl ?_
  exact H
/-- WarnLinesModel.findValues()V, from 2 -/
theorem S70_89_2 {X : Nat × (Int → Int)} {h : HP} {Q : bQ} (x1 : Int) (H : ((100 ≤ x1 → Wp X 0 70 23 [vr 89, vi 0, vu, vu, vu, vu, vu, vu] [] h Q) ∧ (x1 < 100 → ((0 ≤ x1 ∧ x1 < 100) ∧ Wp X 0 70 2 [vr 89, vi (x1 + 1), vu, vu, vu, vu, vu, vu] [] (upd2 h 98 x1 (-1)) Q)))) : Wp X 0 70 2 [vr 89, vi x1, vu, vu, vu, vu, vu, vu] [] h Q := by
  refine wp_iload rfl rfl ?_
  refine wp_iconst rfl ?_
  refine wp_icge (tn := 21) rfl rfl (fun c1 => ?_) (fun c1 => ?_)
  · replace H := H.1 c1
    refine wp_iconst rfl ?_
    refine wp_istore (L2 := [vr 89, vi 0, vu, vu, vu, vu, vu, vu]) rfl (Nat.le_of_ble_eq_true rfl) rfl ?_
    exact H
  · replace H := H.2 c1
    refine wp_aload rfl rfl ?_
    refine wp_getR (r := 97) rfl (congrArg Prod.fst (kf_89 X.1)) rfl ?_
    refine wp_iload rfl rfl ?_
    refine wp_iconst rfl ?_
    have g2 := H.1
    replace H := H.2
    refine wp_iastore rfl (kf_98 X.1) g2 ?_
    refine wp_iincR (L2 := [vr 89, vi (x1 + 1), vu, vu, vu, vu, vu, vu]) rfl rfl (by clear H; unfold R32; omega) rfl ?_
    refine wp_goto (tn := 2) rfl rfl ?_
    exact H
/-- WarnLinesModel.findValues()V, from 23 -/
theorem S70_89_23 {X : Nat × (Int → Int)} {h : HP} {Q : bQ} (x1 : Int) (H : (((h 89 6) ≤ x1 → Wp X 0 70 90 [vr 89, vi 0, vu, vu, vu, vu, vu, vu] [] (upd2 h 89 16 0) Q) ∧ (x1 < (h 89 6) → ((0 ≤ x1 ∧ x1 < 100) ∧ (((h 97 3) < (h 96 x1) → ((0 ≤ (h 94 x1) ∧ (h 94 x1) < 100) ∧ Wp X 0 70 23 [vr 89, vi (x1 + 1), vu, vu, vu, vu, vu, vu] [] (upd2 h 98 (h 94 x1) (h 98 (h 94 x1))) Q)) ∧ ((h 96 x1) ≤ (h 97 3) → ((0 ≤ (h 94 x1) ∧ (h 94 x1) < 100) ∧ Wp X 0 70 23 [vr 89, vi (x1 + 1), vu, vu, vu, vu, vu, vu] [] (upd2 h 98 (h 94 x1) (h 95 x1)) Q))))))) : Wp X 0 70 23 [vr 89, vi x1, vu, vu, vu, vu, vu, vu] [] h Q := by
  refine wp_iload rfl rfl ?_
  refine wp_aload rfl rfl ?_
  refine wp_getI (j := 6) rfl (congrArg Prod.fst (kf_89 X.1)) rfl ?_
  refine wp_icge (tn := 83) rfl rfl (fun c1 => ?_) (fun c1 => ?_)
  · replace H := H.1 c1
    refine wp_aload rfl rfl ?_
    refine wp_iconst rfl ?_
    refine wp_putI (j := 16) rfl (congrArg Prod.fst (kf_89 X.1)) rfl rfl rfl ?_
    refine wp_iconst rfl ?_
    refine wp_istore (L2 := [vr 89, vi 0, vu, vu, vu, vu, vu, vu]) rfl (Nat.le_of_ble_eq_true rfl) rfl ?_
    exact H
  · replace H := H.2 c1
    refine wp_aload rfl rfl ?_
    refine wp_getR (r := 97) rfl (congrArg Prod.fst (kf_89 X.1)) rfl ?_
    refine wp_aload rfl rfl ?_
    refine wp_getR (r := 93) rfl (congrArg Prod.fst (kf_89 X.1)) rfl ?_
    refine wp_iload rfl rfl ?_
    have g2 := H.1
    replace H := H.2
    refine wp_iaload rfl (kf_94 X.1) g2 ?_
    refine wp_aload rfl rfl ?_
    refine wp_getR (r := 95) rfl (congrArg Prod.fst (kf_89 X.1)) rfl ?_
    refine wp_iload rfl rfl ?_
    refine wp_iaload rfl (kf_96 X.1) ⟨g2.1, g2.2⟩ ?_
    refine wp_aload rfl rfl ?_
    refine wp_getR (r := 96) rfl (congrArg Prod.fst (kf_89 X.1)) rfl ?_
    refine wp_iconst rfl ?_
    refine wp_iaload rfl (kf_97 X.1) (by decide) ?_
    refine wp_icgt (tn := 65) rfl rfl (fun c3 => ?_) (fun c3 => ?_)
    · replace H := H.1 c3
      refine wp_aload rfl rfl ?_
      refine wp_getR (r := 97) rfl (congrArg Prod.fst (kf_89 X.1)) rfl ?_
      refine wp_aload rfl rfl ?_
      refine wp_getR (r := 93) rfl (congrArg Prod.fst (kf_89 X.1)) rfl ?_
      refine wp_iload rfl rfl ?_
      refine wp_iaload rfl (kf_94 X.1) ⟨g2.1, g2.2⟩ ?_
      have g4 := H.1
      replace H := H.2
      refine wp_iaload rfl (kf_98 X.1) g4 ?_
      refine wp_iastore rfl (kf_98 X.1) ⟨g4.1, g4.2⟩ ?_
      refine wp_iincR (L2 := [vr 89, vi (x1 + 1), vu, vu, vu, vu, vu, vu]) rfl rfl (by clear H; unfold R32; omega) rfl ?_
      refine wp_goto (tn := 23) rfl rfl ?_
      exact H
    · replace H := H.2 c3
      refine wp_aload rfl rfl ?_
      refine wp_getR (r := 94) rfl (congrArg Prod.fst (kf_89 X.1)) rfl ?_
      refine wp_iload rfl rfl ?_
      refine wp_iaload rfl (kf_95 X.1) ⟨g2.1, g2.2⟩ ?_
      refine wp_goto (tn := 76) rfl rfl ?_
      have g5 := H.1
      replace H := H.2
      refine wp_iastore rfl (kf_98 X.1) g5 ?_
      refine wp_iincR (L2 := [vr 89, vi (x1 + 1), vu, vu, vu, vu, vu, vu]) rfl rfl (by clear H; unfold R32; omega) rfl ?_
      refine wp_goto (tn := 23) rfl rfl ?_
      exact H
/-- WarnLinesModel.findValues()V, from 90 -/
theorem S70_89_90 {X : Nat × (Int → Int)} {h : HP} {Q : bQ} (x1 : Int) (zx2 : aV) (zx3 : aV) (zx4 : aV) (zx5 : aV) (zx6 : aV) (zx7 : aV) (H : (((h 89 5) ≤ x1 → Q none h) ∧ (x1 < (h 89 5) → Wp X 0 70 113 [vr 89, vi x1, vi 0, vi 0, vi 1000, vi 0, vi 0, zx7] [] h Q))) : Wp X 0 70 90 [vr 89, vi x1, zx2, zx3, zx4, zx5, zx6, zx7] [] h Q := by
  refine wp_iload rfl rfl ?_
  refine wp_aload rfl rfl ?_
  refine wp_getI (j := 5) rfl (congrArg Prod.fst (kf_89 X.1)) rfl ?_
  refine wp_icge (tn := 295) rfl rfl (fun c1 => ?_) (fun c1 => ?_)
  · replace H := H.1 c1
    exact wp_vret rfl rfl H
  · replace H := H.2 c1
    refine wp_iconst rfl ?_
    refine wp_istore (L2 := [vr 89, vi x1, vi 0, zx3, zx4, zx5, zx6, zx7]) rfl (Nat.le_of_ble_eq_true rfl) rfl ?_
    refine wp_iconst rfl ?_
    refine wp_istore (L2 := [vr 89, vi x1, vi 0, vi 0, zx4, zx5, zx6, zx7]) rfl (Nat.le_of_ble_eq_true rfl) rfl ?_
    refine wp_iconst rfl ?_
    refine wp_istore (L2 := [vr 89, vi x1, vi 0, vi 0, vi 1000, zx5, zx6, zx7]) rfl (Nat.le_of_ble_eq_true rfl) rfl ?_
    refine wp_iconst rfl ?_
    refine wp_istore (L2 := [vr 89, vi x1, vi 0, vi 0, vi 1000, vi 0, zx6, zx7]) rfl (Nat.le_of_ble_eq_true rfl) rfl ?_
    refine wp_iconst rfl ?_
    refine wp_istore (L2 := [vr 89, vi x1, vi 0, vi 0, vi 1000, vi 0, vi 0, zx7]) rfl (Nat.le_of_ble_eq_true rfl) rfl ?_
    exact H
/-- WarnLinesModel.findValues()V, from 113 -/
theorem S70_89_113 {X : Nat × (Int → Int)} {h : HP} {Q : bQ} (x1 : Int) (x2 : Int) (x3 : Int) (x4 : Int) (x5 : Int) (x6 : Int) (zx7 : aV) (H : ((5 ≤ x6 → ((x2 ≠ 0 → ((0 ≤ x1 ∧ x1 < 20) ∧ ((R32 (x3 * 60)) ∧ ((R32 (Int.tdiv (x3 * 60) x2)) ∧ ((R32 (x5 - x4)) ∧ ((x2 ≤ 0 → Wp X 0 70 90 [vr 89, vi (x1 + 1), vi x2, vi x3, vi x4, vi x5, vi x6, zx7] [] (upd2 (upd2 (upd2 h 101 x1 0) 99 x1 (Int.tdiv (x3 * 60) x2)) 100 x1 (x5 - x4)) Q) ∧ (0 < x2 → ((0 ≤ (h 89 16) ∧ (h 89 16) < 20) ∧ Wp X 0 70 90 [vr 89, vi (x1 + 1), vi x2, vi x3, vi x4, vi x5, vi x6, zx7] [] (upd2 (upd2 (upd2 (upd2 (upd2 h 101 x1 0) 99 x1 (Int.tdiv (x3 * 60) x2)) 100 x1 (x5 - x4)) 102 (h 89 16) x1) 89 16 ((h 89 16) + 1)) Q)))))))) ∧ (x2 = 0 → ((0 ≤ x1 ∧ x1 < 20) ∧ Wp X 0 70 90 [vr 89, vi (x1 + 1), vi x2, vi x3, vi x4, vi x5, vi x6, zx7] [] (upd2 (upd2 (upd2 h 101 x1 1) 99 x1 0) 100 x1 0) Q)))) ∧ (x6 < 5 → ((R32 (5 * x1)) ∧ ((R32 ((5 * x1) + x6)) ∧ ((0 ≤ ((5 * x1) + x6) ∧ ((5 * x1) + x6) < 100) ∧ (((h 98 ((5 * x1) + x6)) ≠ (-1) → ((R32 (x2 + 1)) ∧ ((R32 (x3 + (h 98 ((5 * x1) + x6)))) ∧ ((x4 ≤ (h 98 ((5 * x1) + x6)) → (((h 98 ((5 * x1) + x6)) ≤ x5 → ((R32 (x6 + 1)) ∧ Wp X 0 70 113 [vr 89, vi x1, vi (x2 + 1), vi (x3 + (h 98 ((5 * x1) + x6))), vi x4, vi x5, vi (x6 + 1), vi (h 98 ((5 * x1) + x6))] [] h Q)) ∧ (x5 < (h 98 ((5 * x1) + x6)) → ((R32 (x6 + 1)) ∧ Wp X 0 70 113 [vr 89, vi x1, vi (x2 + 1), vi (x3 + (h 98 ((5 * x1) + x6))), vi x4, vi (h 98 ((5 * x1) + x6)), vi (x6 + 1), vi (h 98 ((5 * x1) + x6))] [] h Q)))) ∧ ((h 98 ((5 * x1) + x6)) < x4 → (((h 98 ((5 * x1) + x6)) ≤ x5 → ((R32 (x6 + 1)) ∧ Wp X 0 70 113 [vr 89, vi x1, vi (x2 + 1), vi (x3 + (h 98 ((5 * x1) + x6))), vi (h 98 ((5 * x1) + x6)), vi x5, vi (x6 + 1), vi (h 98 ((5 * x1) + x6))] [] h Q)) ∧ (x5 < (h 98 ((5 * x1) + x6)) → ((R32 (x6 + 1)) ∧ Wp X 0 70 113 [vr 89, vi x1, vi (x2 + 1), vi (x3 + (h 98 ((5 * x1) + x6))), vi (h 98 ((5 * x1) + x6)), vi (h 98 ((5 * x1) + x6)), vi (x6 + 1), vi (h 98 ((5 * x1) + x6))] [] h Q)))))))) ∧ ((h 98 ((5 * x1) + x6)) = (-1) → ((R32 (x2 + 0)) ∧ ((R32 (x3 + 0)) ∧ ((R32 (x6 + 1)) ∧ Wp X 0 70 113 [vr 89, vi x1, vi (x2 + 0), vi (x3 + 0), vi x4, vi x5, vi (x6 + 1), vi (h 98 ((5 * x1) + x6))] [] h Q))))))))))) : Wp X 0 70 113 [vr 89, vi x1, vi x2, vi x3, vi x4, vi x5, vi x6, zx7] [] h Q := by
  refine wp_iload rfl rfl ?_
  refine wp_iconst rfl ?_
  refine wp_icge (tn := 211) rfl rfl (fun c1 => ?_) (fun c1 => ?_)
  · replace H := H.1 c1
    refine wp_aload rfl rfl ?_
    refine wp_getR (r := 100) rfl (congrArg Prod.fst (kf_89 X.1)) rfl ?_
    refine wp_iload rfl rfl ?_
    refine wp_iload rfl rfl ?_
    refine wp_ifne (tn := 224) rfl rfl (fun c2 => ?_) (fun c2 => ?_)
    · replace H := H.1 c2
      refine wp_iconst rfl ?_
      have g3 := H.1
      replace H := H.2
      refine wp_bastore rfl (kf_101 X.1) g3 (by decide) ?_
      refine wp_aload rfl rfl ?_
      refine wp_getR (r := 98) rfl (congrArg Prod.fst (kf_89 X.1)) rfl ?_
      refine wp_iload rfl rfl ?_
      refine wp_iload rfl rfl ?_
      refine wp_ifneT (tn := 239) rfl rfl c2 ?_
      refine wp_iload rfl rfl ?_
      refine wp_iconst rfl ?_
      refine wp_imul rfl ?_
      have g4 := H.1
      replace H := H.2
      refine Wp.topI (y := (x3 * 60)) (w32_I g4) ?_
      refine wp_iload rfl rfl ?_
      refine wp_idiv rfl c2 ?_
      have g5 := H.1
      replace H := H.2
      refine Wp.topI (y := (Int.tdiv (x3 * 60) x2)) (w32_I g5) ?_
      refine wp_iastore rfl (kf_99 X.1) ⟨g3.1, g3.2⟩ ?_
      refine wp_aload rfl rfl ?_
      refine wp_getR (r := 99) rfl (congrArg Prod.fst (kf_89 X.1)) rfl ?_
      refine wp_iload rfl rfl ?_
      refine wp_iload rfl rfl ?_
      refine wp_ifneT (tn := 259) rfl rfl c2 ?_
      refine wp_iload rfl rfl ?_
      refine wp_iload rfl rfl ?_
      refine wp_isub rfl ?_
      have g6 := H.1
      replace H := H.2
      refine Wp.topI (y := (x5 - x4)) (w32_I g6) ?_
      refine wp_iastore rfl (kf_100 X.1) ⟨g3.1, g3.2⟩ ?_
      refine wp_iload rfl rfl ?_
      refine wp_ifle (tn := 289) rfl rfl (fun c7 => ?_) (fun c7 => ?_)
      · replace H := H.1 c7
        refine wp_iincR (L2 := [vr 89, vi (x1 + 1), vi x2, vi x3, vi x4, vi x5, vi x6, zx7]) rfl rfl (by clear H; unfold R32; omega) rfl ?_
        refine wp_goto (tn := 90) rfl rfl ?_
        exact H
      · replace H := H.2 c7
        refine wp_aload rfl rfl ?_
        refine wp_getR (r := 101) rfl (congrArg Prod.fst (kf_89 X.1)) rfl ?_
        refine wp_aload rfl rfl ?_
        refine wp_getI (j := 16) rfl (congrArg Prod.fst (kf_89 X.1)) rfl ?_
        refine Wp.topI (y := (h 89 16)) (congrFun ((upd2_ne (by decide)).trans ((upd2_ne (by decide)).trans (upd2_ne (by decide)))) _) ?_
        refine wp_iload rfl rfl ?_
        have g8 := H.1
        replace H := H.2
        refine wp_iastore rfl (kf_102 X.1) g8 ?_
        refine wp_aload rfl rfl ?_
        refine wp_dupR rfl ?_
        refine wp_getI (j := 16) rfl (congrArg Prod.fst (kf_89 X.1)) rfl ?_
        refine Wp.topI (y := (h 89 16)) (congrFun ((upd2_ne (by decide)).trans ((upd2_ne (by decide)).trans ((upd2_ne (by decide)).trans (upd2_ne (by decide))))) _) ?_
        refine wp_iconst rfl ?_
        refine wp_iadd rfl ?_
        refine Wp.topI (y := ((h 89 16) + 1)) (w32_I (by clear H; unfold R32; omega)) ?_
        refine wp_putI (j := 16) rfl (congrArg Prod.fst (kf_89 X.1)) rfl rfl rfl ?_
        refine wp_iincR (L2 := [vr 89, vi (x1 + 1), vi x2, vi x3, vi x4, vi x5, vi x6, zx7]) rfl rfl (by clear H; unfold R32; omega) rfl ?_
        refine wp_goto (tn := 90) rfl rfl ?_
        exact H
    · replace H := H.2 c2
      refine wp_iconst rfl ?_
      refine wp_goto (tn := 225) rfl rfl ?_
      have g9 := H.1
      replace H := H.2
      refine wp_bastore rfl (kf_101 X.1) g9 (by decide) ?_
      refine wp_aload rfl rfl ?_
      refine wp_getR (r := 98) rfl (congrArg Prod.fst (kf_89 X.1)) rfl ?_
      refine wp_iload rfl rfl ?_
      refine wp_iload rfl rfl ?_
      refine wp_ifneF (tn := 239) rfl rfl c2 ?_
      refine wp_iconst rfl ?_
      refine wp_goto (tn := 245) rfl rfl ?_
      refine wp_iastore rfl (kf_99 X.1) ⟨g9.1, g9.2⟩ ?_
      refine wp_aload rfl rfl ?_
      refine wp_getR (r := 99) rfl (congrArg Prod.fst (kf_89 X.1)) rfl ?_
      refine wp_iload rfl rfl ?_
      refine wp_iload rfl rfl ?_
      refine wp_ifneF (tn := 259) rfl rfl c2 ?_
      refine wp_iconst rfl ?_
      refine wp_goto (tn := 264) rfl rfl ?_
      refine wp_iastore rfl (kf_100 X.1) ⟨g9.1, g9.2⟩ ?_
      refine wp_iload rfl rfl ?_
      refine wp_ifleT (tn := 289) rfl rfl (by clear H; omega) ?_
      refine wp_iincR (L2 := [vr 89, vi (x1 + 1), vi x2, vi x3, vi x4, vi x5, vi x6, zx7]) rfl rfl (by clear H; unfold R32; omega) rfl ?_
      refine wp_goto (tn := 90) rfl rfl ?_
      exact H
  · replace H := H.2 c1
    refine wp_aload rfl rfl ?_
    refine wp_getR (r := 97) rfl (congrArg Prod.fst (kf_89 X.1)) rfl ?_
    refine wp_iconst rfl ?_
    refine wp_iload rfl rfl ?_
    refine wp_imul rfl ?_
    have g10 := H.1
    replace H := H.2
    refine Wp.topI (y := (5 * x1)) (w32_I g10) ?_
    refine wp_iload rfl rfl ?_
    refine wp_iadd rfl ?_
    have g11 := H.1
    replace H := H.2
    refine Wp.topI (y := ((5 * x1) + x6)) (w32_I g11) ?_
    have g12 := H.1
    replace H := H.2
    refine wp_iaload rfl (kf_98 X.1) g12 ?_
    refine wp_istore (L2 := [vr 89, vi x1, vi x2, vi x3, vi x4, vi x5, vi x6, vi (h 98 ((5 * x1) + x6))]) rfl (Nat.le_of_ble_eq_true rfl) rfl ?_
    refine wp_iload rfl rfl ?_
    refine wp_iload rfl rfl ?_
    refine wp_iconst rfl ?_
    refine wp_icne (tn := 143) rfl rfl (fun c13 => ?_) (fun c13 => ?_)
    · replace H := H.1 c13
      refine wp_iconst rfl ?_
      refine wp_iadd rfl ?_
      have g14 := H.1
      replace H := H.2
      refine Wp.topI (y := (x2 + 1)) (w32_I g14) ?_
      refine wp_istore (L2 := [vr 89, vi x1, vi (x2 + 1), vi x3, vi x4, vi x5, vi x6, vi (h 98 ((5 * x1) + x6))]) rfl (Nat.le_of_ble_eq_true rfl) rfl ?_
      refine wp_iload rfl rfl ?_
      refine wp_iload rfl rfl ?_
      refine wp_iconst rfl ?_
      refine wp_icneT (tn := 157) rfl rfl c13 ?_
      refine wp_iload rfl rfl ?_
      refine wp_iadd rfl ?_
      have g15 := H.1
      replace H := H.2
      refine Wp.topI (y := (x3 + (h 98 ((5 * x1) + x6)))) (w32_I g15) ?_
      refine wp_istore (L2 := [vr 89, vi x1, vi (x2 + 1), vi (x3 + (h 98 ((5 * x1) + x6))), vi x4, vi x5, vi x6, vi (h 98 ((5 * x1) + x6))]) rfl (Nat.le_of_ble_eq_true rfl) rfl ?_
      refine wp_iload rfl rfl ?_
      refine wp_iconst rfl ?_
      refine wp_iceqF (tn := 179) rfl rfl c13 ?_
      refine wp_iload rfl rfl ?_
      refine wp_iload rfl rfl ?_
      refine wp_icge (tn := 179) rfl rfl (fun c16 => ?_) (fun c16 => ?_)
      · replace H := H.1 c16
        refine wp_iload rfl rfl ?_
        refine wp_istore (L2 := [vr 89, vi x1, vi (x2 + 1), vi (x3 + (h 98 ((5 * x1) + x6))), vi x4, vi x5, vi x6, vi (h 98 ((5 * x1) + x6))]) rfl (Nat.le_of_ble_eq_true rfl) rfl ?_
        refine wp_iload rfl rfl ?_
        refine wp_iconst rfl ?_
        refine wp_iceqF (tn := 201) rfl rfl c13 ?_
        refine wp_iload rfl rfl ?_
        refine wp_iload rfl rfl ?_
        refine wp_icle (tn := 201) rfl rfl (fun c17 => ?_) (fun c17 => ?_)
        · replace H := H.1 c17
          refine wp_iload rfl rfl ?_
          refine wp_istore (L2 := [vr 89, vi x1, vi (x2 + 1), vi (x3 + (h 98 ((5 * x1) + x6))), vi x4, vi x5, vi x6, vi (h 98 ((5 * x1) + x6))]) rfl (Nat.le_of_ble_eq_true rfl) rfl ?_
          have g18 := H.1
          replace H := H.2
          refine wp_iincR (L2 := [vr 89, vi x1, vi (x2 + 1), vi (x3 + (h 98 ((5 * x1) + x6))), vi x4, vi x5, vi (x6 + 1), vi (h 98 ((5 * x1) + x6))]) rfl rfl g18 rfl ?_
          refine wp_goto (tn := 113) rfl rfl ?_
          exact H
        · replace H := H.2 c17
          refine wp_iload rfl rfl ?_
          refine wp_goto (tn := 203) rfl rfl ?_
          refine wp_istore (L2 := [vr 89, vi x1, vi (x2 + 1), vi (x3 + (h 98 ((5 * x1) + x6))), vi x4, vi (h 98 ((5 * x1) + x6)), vi x6, vi (h 98 ((5 * x1) + x6))]) rfl (Nat.le_of_ble_eq_true rfl) rfl ?_
          have g19 := H.1
          replace H := H.2
          refine wp_iincR (L2 := [vr 89, vi x1, vi (x2 + 1), vi (x3 + (h 98 ((5 * x1) + x6))), vi x4, vi (h 98 ((5 * x1) + x6)), vi (x6 + 1), vi (h 98 ((5 * x1) + x6))]) rfl rfl g19 rfl ?_
          refine wp_goto (tn := 113) rfl rfl ?_
          exact H
      · replace H := H.2 c16
        refine wp_iload rfl rfl ?_
        refine wp_goto (tn := 181) rfl rfl ?_
        refine wp_istore (L2 := [vr 89, vi x1, vi (x2 + 1), vi (x3 + (h 98 ((5 * x1) + x6))), vi (h 98 ((5 * x1) + x6)), vi x5, vi x6, vi (h 98 ((5 * x1) + x6))]) rfl (Nat.le_of_ble_eq_true rfl) rfl ?_
        refine wp_iload rfl rfl ?_
        refine wp_iconst rfl ?_
        refine wp_iceqF (tn := 201) rfl rfl c13 ?_
        refine wp_iload rfl rfl ?_
        refine wp_iload rfl rfl ?_
        refine wp_icle (tn := 201) rfl rfl (fun c20 => ?_) (fun c20 => ?_)
        · replace H := H.1 c20
          refine wp_iload rfl rfl ?_
          refine wp_istore (L2 := [vr 89, vi x1, vi (x2 + 1), vi (x3 + (h 98 ((5 * x1) + x6))), vi (h 98 ((5 * x1) + x6)), vi x5, vi x6, vi (h 98 ((5 * x1) + x6))]) rfl (Nat.le_of_ble_eq_true rfl) rfl ?_
          have g21 := H.1
          replace H := H.2
          refine wp_iincR (L2 := [vr 89, vi x1, vi (x2 + 1), vi (x3 + (h 98 ((5 * x1) + x6))), vi (h 98 ((5 * x1) + x6)), vi x5, vi (x6 + 1), vi (h 98 ((5 * x1) + x6))]) rfl rfl g21 rfl ?_
          refine wp_goto (tn := 113) rfl rfl ?_
          exact H
        · replace H := H.2 c20
          refine wp_iload rfl rfl ?_
          refine wp_goto (tn := 203) rfl rfl ?_
          refine wp_istore (L2 := [vr 89, vi x1, vi (x2 + 1), vi (x3 + (h 98 ((5 * x1) + x6))), vi (h 98 ((5 * x1) + x6)), vi (h 98 ((5 * x1) + x6)), vi x6, vi (h 98 ((5 * x1) + x6))]) rfl (Nat.le_of_ble_eq_true rfl) rfl ?_
          have g22 := H.1
          replace H := H.2
          refine wp_iincR (L2 := [vr 89, vi x1, vi (x2 + 1), vi (x3 + (h 98 ((5 * x1) + x6))), vi (h 98 ((5 * x1) + x6)), vi (h 98 ((5 * x1) + x6)), vi (x6 + 1), vi (h 98 ((5 * x1) + x6))]) rfl rfl g22 rfl ?_
          refine wp_goto (tn := 113) rfl rfl ?_
          exact H
    · replace H := H.2 c13
      refine wp_iconst rfl ?_
      refine wp_goto (tn := 144) rfl rfl ?_
      refine wp_iadd rfl ?_
      have g23 := H.1
      replace H := H.2
      refine Wp.topI (y := (x2 + 0)) (w32_I g23) ?_
      refine wp_istore (L2 := [vr 89, vi x1, vi (x2 + 0), vi x3, vi x4, vi x5, vi x6, vi (h 98 ((5 * x1) + x6))]) rfl (Nat.le_of_ble_eq_true rfl) rfl ?_
      refine wp_iload rfl rfl ?_
      refine wp_iload rfl rfl ?_
      refine wp_iconst rfl ?_
      refine wp_icneF (tn := 157) rfl rfl c13 ?_
      refine wp_iconst rfl ?_
      refine wp_goto (tn := 159) rfl rfl ?_
      refine wp_iadd rfl ?_
      have g24 := H.1
      replace H := H.2
      refine Wp.topI (y := (x3 + 0)) (w32_I g24) ?_
      refine wp_istore (L2 := [vr 89, vi x1, vi (x2 + 0), vi (x3 + 0), vi x4, vi x5, vi x6, vi (h 98 ((5 * x1) + x6))]) rfl (Nat.le_of_ble_eq_true rfl) rfl ?_
      refine wp_iload rfl rfl ?_
      refine wp_iconst rfl ?_
      refine wp_iceqT (tn := 179) rfl rfl c13 ?_
      refine wp_iload rfl rfl ?_
      refine wp_istore (L2 := [vr 89, vi x1, vi (x2 + 0), vi (x3 + 0), vi x4, vi x5, vi x6, vi (h 98 ((5 * x1) + x6))]) rfl (Nat.le_of_ble_eq_true rfl) rfl ?_
      refine wp_iload rfl rfl ?_
      refine wp_iconst rfl ?_
      refine wp_iceqT (tn := 201) rfl rfl c13 ?_
      refine wp_iload rfl rfl ?_
      refine wp_istore (L2 := [vr 89, vi x1, vi (x2 + 0), vi (x3 + 0), vi x4, vi x5, vi x6, vi (h 98 ((5 * x1) + x6))]) rfl (Nat.le_of_ble_eq_true rfl) rfl ?_
      have g25 := H.1
      replace H := H.2
      refine wp_iincR (L2 := [vr 89, vi x1, vi (x2 + 0), vi (x3 + 0), vi x4, vi x5, vi (x6 + 1), vi (h 98 ((5 * x1) + x6))]) rfl rfl g25 rfl ?_
      refine wp_goto (tn := 113) rfl rfl ?_
      exact H
/-- WarnLinesModel.value(II)I, from 0 -/
theorem S71_89_0 {X : Nat × (Int → Int)} {h : HP} {Q : bQ} (x1 : Int) (x2 : Int) (H : ((R32 ((h 89 5) - 1)) ∧ (((lcp x1 0) < 0 → Q (some (vi (-2))) h) ∧ (0 ≤ (lcp x1 0) → ((0 < (lcp x1 ((h 89 5) - 1)) → Q (some (vi (-2))) h) ∧ ((lcp x1 ((h 89 5) - 1)) ≤ 0 → (((lcp x2 0) < 0 → Q (some (vi (-2))) h) ∧ (0 ≤ (lcp x2 0) → ((0 < (lcp x2 4) → Q (some (vi (-2))) h) ∧ ((lcp x2 4) ≤ 0 → Wp X 0 70 0 [vr 89, vu, vu, vu, vu, vu, vu, vu] [] h (fun v h' => Wp X 2 71 27 [vr 89, vi x1, vi x2] (psh v []) h' Q))))))))))) : Wp X 2 71 0 [vr 89, vi x1, vi x2] [] h Q := by
  refine wp_aload rfl rfl ?_
  refine wp_iload rfl rfl ?_
  refine wp_call (k := 62) (ρ2 := 1) (L2 := [vr 89, vi x1]) rfl rfl rfl (Nat.le_of_ble_eq_true rfl) (Nat.le_of_ble_eq_true rfl) (Nat.le_of_ble_eq_true rfl) (rcv_V rfl (congrArg Prod.fst (kf_89 X.1))) rfl ?_
  refine wp_iload rfl rfl ?_
  refine wp_i2l rfl ?_
  refine wp_sipush rfl ?_
  refine wp_aload rfl rfl ?_
  refine wp_getI (j := 5) rfl (congrArg Prod.fst (kf_89 X.1)) rfl ?_
  refine wp_iconst rfl ?_
  refine wp_isub rfl ?_
  have g1 := H.1
  replace H := H.2
  refine Wp.topI (y := ((h 89 5) - 1)) (w32_I g1) ?_
  refine wp_i2l rfl ?_
  refine wp_call (k := 48) (ρ2 := 0) (L2 := [vl x1, vu, vl 0, vu, vl ((h 89 5) - 1), vu]) rfl rfl rfl (Nat.le_of_ble_eq_true rfl) (Nat.le_of_ble_eq_true rfl) (Nat.le_of_ble_eq_true rfl) (rcv_S rfl) rfl ?_
  refine wp_lload rfl rfl ?_
  refine wp_lload rfl rfl ?_
  refine wp_lcmp rfl ?_
  refine wp_iflt (tn := 17) rfl rfl (fun c2 => ?_) (fun c2 => ?_)
  · replace H := H.1 c2
    refine wp_iconst rfl ?_
    refine wp_zret rfl rfl (by decide) ?_
    show Wp X _ 62 13 [vr 89, vi x1] [vi 0] _ _
    refine wp_zret rfl rfl (by decide) ?_
    show Wp X _ 71 5 [vr 89, vi x1, vi x2] [vi 0] _ _
    refine wp_ifeqT (tn := 20) rfl rfl (by decide) ?_
    refine wp_iconst rfl ?_
    exact wp_iret rfl rfl H
  · replace H := H.2 c2
    refine wp_lload rfl rfl ?_
    refine wp_lload rfl rfl ?_
    refine wp_lcmp rfl ?_
    refine wp_ifgt (tn := 17) rfl rfl (fun c3 => ?_) (fun c3 => ?_)
    · replace H := H.1 c3
      refine wp_iconst rfl ?_
      refine wp_zret rfl rfl (by decide) ?_
      show Wp X _ 62 13 [vr 89, vi x1] [vi 0] _ _
      refine wp_zret rfl rfl (by decide) ?_
      show Wp X _ 71 5 [vr 89, vi x1, vi x2] [vi 0] _ _
      refine wp_ifeqT (tn := 20) rfl rfl (by decide) ?_
      refine wp_iconst rfl ?_
      exact wp_iret rfl rfl H
    · replace H := H.2 c3
      refine wp_iconst rfl ?_
      refine wp_goto (tn := 18) rfl rfl ?_
      refine wp_zret rfl rfl (by decide) ?_
      show Wp X _ 62 13 [vr 89, vi x1] [vi 1] _ _
      refine wp_zret rfl rfl (by decide) ?_
      show Wp X _ 71 5 [vr 89, vi x1, vi x2] [vi 1] _ _
      refine wp_ifeqF (tn := 20) rfl rfl (by decide) ?_
      refine wp_iload rfl rfl ?_
      refine wp_i2l rfl ?_
      refine wp_sipush rfl ?_
      refine wp_sipush rfl ?_
      refine wp_call (k := 48) (ρ2 := 0) (L2 := [vl x2, vu, vl 0, vu, vl 4, vu]) rfl rfl rfl (Nat.le_of_ble_eq_true rfl) (Nat.le_of_ble_eq_true rfl) (Nat.le_of_ble_eq_true rfl) (rcv_S rfl) rfl ?_
      refine wp_lload rfl rfl ?_
      refine wp_lload rfl rfl ?_
      refine wp_lcmp rfl ?_
      refine wp_iflt (tn := 17) rfl rfl (fun c4 => ?_) (fun c4 => ?_)
      · replace H := H.1 c4
        refine wp_iconst rfl ?_
        refine wp_zret rfl rfl (by decide) ?_
        show Wp X _ 71 17 [vr 89, vi x1, vi x2] [vi 0] _ _
        refine wp_ifneF (tn := 23) rfl rfl (by decide) ?_
        refine wp_iconst rfl ?_
        exact wp_iret rfl rfl H
      · replace H := H.2 c4
        refine wp_lload rfl rfl ?_
        refine wp_lload rfl rfl ?_
        refine wp_lcmp rfl ?_
        refine wp_ifgt (tn := 17) rfl rfl (fun c5 => ?_) (fun c5 => ?_)
        · replace H := H.1 c5
          refine wp_iconst rfl ?_
          refine wp_zret rfl rfl (by decide) ?_
          show Wp X _ 71 17 [vr 89, vi x1, vi x2] [vi 0] _ _
          refine wp_ifneF (tn := 23) rfl rfl (by decide) ?_
          refine wp_iconst rfl ?_
          exact wp_iret rfl rfl H
        · replace H := H.2 c5
          refine wp_iconst rfl ?_
          refine wp_goto (tn := 18) rfl rfl ?_
          refine wp_zret rfl rfl (by decide) ?_
          show Wp X _ 71 17 [vr 89, vi x1, vi x2] [vi 1] _ _
          refine wp_ifneT (tn := 23) rfl rfl (by decide) ?_
          refine wp_aload rfl rfl ?_
          exact wp_call (k := 70) (ρ2 := 0) (L2 := [vr 89, vu, vu, vu, vu, vu, vu, vu]) rfl rfl rfl (Nat.le_of_ble_eq_true rfl) (Nat.le_of_ble_eq_true rfl) (Nat.le_of_ble_eq_true rfl) (rcv_V rfl (congrArg Prod.fst (kf_89 X.1))) rfl H
/-- WarnLinesModel.value(II)I, from 27 -/
theorem S71_89_27 {X : Nat × (Int → Int)} {h : HP} {Q : bQ} (x1 : Int) (x2 : Int) (H : ((R32 (5 * x1)) ∧ ((R32 ((5 * x1) + x2)) ∧ ((0 ≤ ((5 * x1) + x2) ∧ ((5 * x1) + x2) < 100) ∧ Q (some (vi (h 98 ((5 * x1) + x2)))) h)))) : Wp X 2 71 27 [vr 89, vi x1, vi x2] [] h Q := by
  refine wp_aload rfl rfl ?_
  refine wp_getR (r := 97) rfl (congrArg Prod.fst (kf_89 X.1)) rfl ?_
  refine wp_iconst rfl ?_
  refine wp_iload rfl rfl ?_
  refine wp_imul rfl ?_
  have g1 := H.1
  replace H := H.2
  refine Wp.topI (y := (5 * x1)) (w32_I g1) ?_
  refine wp_iload rfl rfl ?_
  refine wp_iadd rfl ?_
  have g2 := H.1
  replace H := H.2
  refine Wp.topI (y := ((5 * x1) + x2)) (w32_I g2) ?_
  have g3 := H.1
  replace H := H.2
  refine wp_iaload rfl (kf_98 X.1) g3 ?_
  exact wp_iret rfl rfl H
/-- WarnLinesModel.of(III)J, from 0 -/
theorem S72_89_0 {X : Nat × (Int → Int)} {h : HP} {Q : bQ} (x1 : Int) (x2 : Int) (x3 : Int) (H : ((R32 ((h 89 5) - 1)) ∧ (((lcp x1 0) < 0 → Q (some (vl (-9223372036854775806))) h) ∧ (0 ≤ (lcp x1 0) → ((0 < (lcp x1 ((h 89 5) - 1)) → Q (some (vl (-9223372036854775806))) h) ∧ ((lcp x1 ((h 89 5) - 1)) ≤ 0 → (((lcp x2 0) < 0 → Q (some (vl (-9223372036854775806))) h) ∧ (0 ≤ (lcp x2 0) → ((0 < (lcp x2 1) → Q (some (vl (-9223372036854775806))) h) ∧ ((lcp x2 1) ≤ 0 → (((lcp x3 0) < 0 → Q (some (vl (-9223372036854775806))) h) ∧ (0 ≤ (lcp x3 0) → ((0 < (lcp x3 1) → Q (some (vl (-9223372036854775806))) h) ∧ ((lcp x3 1) ≤ 0 → Wp X 0 70 0 [vr 89, vu, vu, vu, vu, vu, vu, vu] [] h (fun v h' => Wp X 2 72 32 [vr 89, vi x1, vi x2, vi x3] (psh v []) h' Q))))))))))))))) : Wp X 2 72 0 [vr 89, vi x1, vi x2, vi x3] [] h Q := by
  refine wp_aload rfl rfl ?_
  refine wp_iload rfl rfl ?_
  refine wp_call (k := 62) (ρ2 := 1) (L2 := [vr 89, vi x1]) rfl rfl rfl (Nat.le_of_ble_eq_true rfl) (Nat.le_of_ble_eq_true rfl) (Nat.le_of_ble_eq_true rfl) (rcv_V rfl (congrArg Prod.fst (kf_89 X.1))) rfl ?_
  refine wp_iload rfl rfl ?_
  refine wp_i2l rfl ?_
  refine wp_sipush rfl ?_
  refine wp_aload rfl rfl ?_
  refine wp_getI (j := 5) rfl (congrArg Prod.fst (kf_89 X.1)) rfl ?_
  refine wp_iconst rfl ?_
  refine wp_isub rfl ?_
  have g1 := H.1
  replace H := H.2
  refine Wp.topI (y := ((h 89 5) - 1)) (w32_I g1) ?_
  refine wp_i2l rfl ?_
  refine wp_call (k := 48) (ρ2 := 0) (L2 := [vl x1, vu, vl 0, vu, vl ((h 89 5) - 1), vu]) rfl rfl rfl (Nat.le_of_ble_eq_true rfl) (Nat.le_of_ble_eq_true rfl) (Nat.le_of_ble_eq_true rfl) (rcv_S rfl) rfl ?_
  refine wp_lload rfl rfl ?_
  refine wp_lload rfl rfl ?_
  refine wp_lcmp rfl ?_
  refine wp_iflt (tn := 17) rfl rfl (fun c2 => ?_) (fun c2 => ?_)
  · replace H := H.1 c2
    refine wp_iconst rfl ?_
    refine wp_zret rfl rfl (by decide) ?_
    show Wp X _ 62 13 [vr 89, vi x1] [vi 0] _ _
    refine wp_zret rfl rfl (by decide) ?_
    show Wp X _ 72 5 [vr 89, vi x1, vi x2, vi x3] [vi 0] _ _
    refine wp_ifeqT (tn := 22) rfl rfl (by decide) ?_
    refine wp_iconst rfl ?_
    refine wp_call (k := 49) (ρ2 := 0) (L2 := [vi (-2)]) rfl rfl rfl (Nat.le_of_ble_eq_true rfl) (Nat.le_of_ble_eq_true rfl) (Nat.le_of_ble_eq_true rfl) (rcv_S rfl) rfl ?_
    refine wp_sipush rfl ?_
    refine wp_iload rfl rfl ?_
    refine wp_i2l rfl ?_
    refine wp_lsub rfl ?_
    refine Wp.topL (y := (-9223372036854775806)) (by decide) ?_
    refine wp_lret rfl rfl ?_
    show Wp X _ 72 27 [vr 89, vi x1, vi x2, vi x3] [vl (-9223372036854775806)] _ _
    exact wp_lret rfl rfl H
  · replace H := H.2 c2
    refine wp_lload rfl rfl ?_
    refine wp_lload rfl rfl ?_
    refine wp_lcmp rfl ?_
    refine wp_ifgt (tn := 17) rfl rfl (fun c3 => ?_) (fun c3 => ?_)
    · replace H := H.1 c3
      refine wp_iconst rfl ?_
      refine wp_zret rfl rfl (by decide) ?_
      show Wp X _ 62 13 [vr 89, vi x1] [vi 0] _ _
      refine wp_zret rfl rfl (by decide) ?_
      show Wp X _ 72 5 [vr 89, vi x1, vi x2, vi x3] [vi 0] _ _
      refine wp_ifeqT (tn := 22) rfl rfl (by decide) ?_
      refine wp_iconst rfl ?_
      refine wp_call (k := 49) (ρ2 := 0) (L2 := [vi (-2)]) rfl rfl rfl (Nat.le_of_ble_eq_true rfl) (Nat.le_of_ble_eq_true rfl) (Nat.le_of_ble_eq_true rfl) (rcv_S rfl) rfl ?_
      refine wp_sipush rfl ?_
      refine wp_iload rfl rfl ?_
      refine wp_i2l rfl ?_
      refine wp_lsub rfl ?_
      refine Wp.topL (y := (-9223372036854775806)) (by decide) ?_
      refine wp_lret rfl rfl ?_
      show Wp X _ 72 27 [vr 89, vi x1, vi x2, vi x3] [vl (-9223372036854775806)] _ _
      exact wp_lret rfl rfl H
    · replace H := H.2 c3
      refine wp_iconst rfl ?_
      refine wp_goto (tn := 18) rfl rfl ?_
      refine wp_zret rfl rfl (by decide) ?_
      show Wp X _ 62 13 [vr 89, vi x1] [vi 1] _ _
      refine wp_zret rfl rfl (by decide) ?_
      show Wp X _ 72 5 [vr 89, vi x1, vi x2, vi x3] [vi 1] _ _
      refine wp_ifeqF (tn := 22) rfl rfl (by decide) ?_
      refine wp_iload rfl rfl ?_
      refine wp_call (k := 50) (ρ2 := 1) (L2 := [vi x2]) rfl rfl rfl (Nat.le_of_ble_eq_true rfl) (Nat.le_of_ble_eq_true rfl) (Nat.le_of_ble_eq_true rfl) (rcv_S rfl) rfl ?_
      refine wp_iload rfl rfl ?_
      refine wp_i2l rfl ?_
      refine wp_sipush rfl ?_
      refine wp_sipush rfl ?_
      refine wp_call (k := 48) (ρ2 := 0) (L2 := [vl x2, vu, vl 0, vu, vl 1, vu]) rfl rfl rfl (Nat.le_of_ble_eq_true rfl) (Nat.le_of_ble_eq_true rfl) (Nat.le_of_ble_eq_true rfl) (rcv_S rfl) rfl ?_
      refine wp_lload rfl rfl ?_
      refine wp_lload rfl rfl ?_
      refine wp_lcmp rfl ?_
      refine wp_iflt (tn := 17) rfl rfl (fun c4 => ?_) (fun c4 => ?_)
      · replace H := H.1 c4
        refine wp_iconst rfl ?_
        refine wp_zret rfl rfl (by decide) ?_
        show Wp X _ 50 7 [vi x2] [vi 0] _ _
        refine wp_zret rfl rfl (by decide) ?_
        show Wp X _ 72 12 [vr 89, vi x1, vi x2, vi x3] [vi 0] _ _
        refine wp_ifeqT (tn := 22) rfl rfl (by decide) ?_
        refine wp_iconst rfl ?_
        refine wp_call (k := 49) (ρ2 := 0) (L2 := [vi (-2)]) rfl rfl rfl (Nat.le_of_ble_eq_true rfl) (Nat.le_of_ble_eq_true rfl) (Nat.le_of_ble_eq_true rfl) (rcv_S rfl) rfl ?_
        refine wp_sipush rfl ?_
        refine wp_iload rfl rfl ?_
        refine wp_i2l rfl ?_
        refine wp_lsub rfl ?_
        refine Wp.topL (y := (-9223372036854775806)) (by decide) ?_
        refine wp_lret rfl rfl ?_
        show Wp X _ 72 27 [vr 89, vi x1, vi x2, vi x3] [vl (-9223372036854775806)] _ _
        exact wp_lret rfl rfl H
      · replace H := H.2 c4
        refine wp_lload rfl rfl ?_
        refine wp_lload rfl rfl ?_
        refine wp_lcmp rfl ?_
        refine wp_ifgt (tn := 17) rfl rfl (fun c5 => ?_) (fun c5 => ?_)
        · replace H := H.1 c5
          refine wp_iconst rfl ?_
          refine wp_zret rfl rfl (by decide) ?_
          show Wp X _ 50 7 [vi x2] [vi 0] _ _
          refine wp_zret rfl rfl (by decide) ?_
          show Wp X _ 72 12 [vr 89, vi x1, vi x2, vi x3] [vi 0] _ _
          refine wp_ifeqT (tn := 22) rfl rfl (by decide) ?_
          refine wp_iconst rfl ?_
          refine wp_call (k := 49) (ρ2 := 0) (L2 := [vi (-2)]) rfl rfl rfl (Nat.le_of_ble_eq_true rfl) (Nat.le_of_ble_eq_true rfl) (Nat.le_of_ble_eq_true rfl) (rcv_S rfl) rfl ?_
          refine wp_sipush rfl ?_
          refine wp_iload rfl rfl ?_
          refine wp_i2l rfl ?_
          refine wp_lsub rfl ?_
          refine Wp.topL (y := (-9223372036854775806)) (by decide) ?_
          refine wp_lret rfl rfl ?_
          show Wp X _ 72 27 [vr 89, vi x1, vi x2, vi x3] [vl (-9223372036854775806)] _ _
          exact wp_lret rfl rfl H
        · replace H := H.2 c5
          refine wp_iconst rfl ?_
          refine wp_goto (tn := 18) rfl rfl ?_
          refine wp_zret rfl rfl (by decide) ?_
          show Wp X _ 50 7 [vi x2] [vi 1] _ _
          refine wp_zret rfl rfl (by decide) ?_
          show Wp X _ 72 12 [vr 89, vi x1, vi x2, vi x3] [vi 1] _ _
          refine wp_ifeqF (tn := 22) rfl rfl (by decide) ?_
          refine wp_iload rfl rfl ?_
          refine wp_call (k := 50) (ρ2 := 1) (L2 := [vi x3]) rfl rfl rfl (Nat.le_of_ble_eq_true rfl) (Nat.le_of_ble_eq_true rfl) (Nat.le_of_ble_eq_true rfl) (rcv_S rfl) rfl ?_
          refine wp_iload rfl rfl ?_
          refine wp_i2l rfl ?_
          refine wp_sipush rfl ?_
          refine wp_sipush rfl ?_
          refine wp_call (k := 48) (ρ2 := 0) (L2 := [vl x3, vu, vl 0, vu, vl 1, vu]) rfl rfl rfl (Nat.le_of_ble_eq_true rfl) (Nat.le_of_ble_eq_true rfl) (Nat.le_of_ble_eq_true rfl) (rcv_S rfl) rfl ?_
          refine wp_lload rfl rfl ?_
          refine wp_lload rfl rfl ?_
          refine wp_lcmp rfl ?_
          refine wp_iflt (tn := 17) rfl rfl (fun c6 => ?_) (fun c6 => ?_)
          · replace H := H.1 c6
            refine wp_iconst rfl ?_
            refine wp_zret rfl rfl (by decide) ?_
            show Wp X _ 50 7 [vi x3] [vi 0] _ _
            refine wp_zret rfl rfl (by decide) ?_
            show Wp X _ 72 19 [vr 89, vi x1, vi x2, vi x3] [vi 0] _ _
            refine wp_ifneF (tn := 28) rfl rfl (by decide) ?_
            refine wp_iconst rfl ?_
            refine wp_call (k := 49) (ρ2 := 0) (L2 := [vi (-2)]) rfl rfl rfl (Nat.le_of_ble_eq_true rfl) (Nat.le_of_ble_eq_true rfl) (Nat.le_of_ble_eq_true rfl) (rcv_S rfl) rfl ?_
            refine wp_sipush rfl ?_
            refine wp_iload rfl rfl ?_
            refine wp_i2l rfl ?_
            refine wp_lsub rfl ?_
            refine Wp.topL (y := (-9223372036854775806)) (by decide) ?_
            refine wp_lret rfl rfl ?_
            show Wp X _ 72 27 [vr 89, vi x1, vi x2, vi x3] [vl (-9223372036854775806)] _ _
            exact wp_lret rfl rfl H
          · replace H := H.2 c6
            refine wp_lload rfl rfl ?_
            refine wp_lload rfl rfl ?_
            refine wp_lcmp rfl ?_
            refine wp_ifgt (tn := 17) rfl rfl (fun c7 => ?_) (fun c7 => ?_)
            · replace H := H.1 c7
              refine wp_iconst rfl ?_
              refine wp_zret rfl rfl (by decide) ?_
              show Wp X _ 50 7 [vi x3] [vi 0] _ _
              refine wp_zret rfl rfl (by decide) ?_
              show Wp X _ 72 19 [vr 89, vi x1, vi x2, vi x3] [vi 0] _ _
              refine wp_ifneF (tn := 28) rfl rfl (by decide) ?_
              refine wp_iconst rfl ?_
              refine wp_call (k := 49) (ρ2 := 0) (L2 := [vi (-2)]) rfl rfl rfl (Nat.le_of_ble_eq_true rfl) (Nat.le_of_ble_eq_true rfl) (Nat.le_of_ble_eq_true rfl) (rcv_S rfl) rfl ?_
              refine wp_sipush rfl ?_
              refine wp_iload rfl rfl ?_
              refine wp_i2l rfl ?_
              refine wp_lsub rfl ?_
              refine Wp.topL (y := (-9223372036854775806)) (by decide) ?_
              refine wp_lret rfl rfl ?_
              show Wp X _ 72 27 [vr 89, vi x1, vi x2, vi x3] [vl (-9223372036854775806)] _ _
              exact wp_lret rfl rfl H
            · replace H := H.2 c7
              refine wp_iconst rfl ?_
              refine wp_goto (tn := 18) rfl rfl ?_
              refine wp_zret rfl rfl (by decide) ?_
              show Wp X _ 50 7 [vi x3] [vi 1] _ _
              refine wp_zret rfl rfl (by decide) ?_
              show Wp X _ 72 19 [vr 89, vi x1, vi x2, vi x3] [vi 1] _ _
              refine wp_ifneT (tn := 28) rfl rfl (by decide) ?_
              refine wp_aload rfl rfl ?_
              exact wp_call (k := 70) (ρ2 := 0) (L2 := [vr 89, vu, vu, vu, vu, vu, vu, vu]) rfl rfl rfl (Nat.le_of_ble_eq_true rfl) (Nat.le_of_ble_eq_true rfl) (Nat.le_of_ble_eq_true rfl) (rcv_V rfl (congrArg Prod.fst (kf_89 X.1))) rfl H
/-- WarnLinesModel.of(III)J, from 32 -/
theorem S72_89_32 {X : Nat × (Int → Int)} {h : HP} {Q : bQ} (x1 : Int) (x2 : Int) (x3 : Int) (H : ((0 ≤ x1 ∧ x1 < 20) ∧ (((h 101 x1) = 0 → ((x2 ≠ 0 → Wp X 1 61 0 [vl (h 100 x1), vu, vl 1, vu, vi x3] [] h (fun v h' => Wp X 2 72 82 [vr 89, vi x1, vi x2, vi x3] (psh v []) h' Q)) ∧ (x2 = 0 → Wp X 1 61 0 [vl (h 99 x1), vu, vl 60, vu, vi x3] [] h (fun v h' => Wp X 2 72 67 [vr 89, vi x1, vi x2, vi x3] (psh v []) h' Q)))) ∧ ((h 101 x1) ≠ 0 → Wp X 2 72 82 [vr 89, vi x1, vi x2, vi x3] [vl (-9223372036854775805)] h Q)))) : Wp X 2 72 32 [vr 89, vi x1, vi x2, vi x3] [] h Q := by
  refine wp_aload rfl rfl ?_
  refine wp_getR (r := 100) rfl (congrArg Prod.fst (kf_89 X.1)) rfl ?_
  refine wp_iload rfl rfl ?_
  have g1 := H.1
  replace H := H.2
  refine wp_baload rfl (kf_101 X.1) g1 ?_
  refine wp_ifeq (tn := 49) rfl rfl (fun c2 => ?_) (fun c2 => ?_)
  · replace H := H.1 c2
    refine wp_iload rfl rfl ?_
    refine wp_ifne (tn := 70) rfl rfl (fun c3 => ?_) (fun c3 => ?_)
    · replace H := H.1 c3
      refine wp_aload rfl rfl ?_
      refine wp_getR (r := 99) rfl (congrArg Prod.fst (kf_89 X.1)) rfl ?_
      refine wp_iload rfl rfl ?_
      refine wp_iaload rfl (kf_100 X.1) ⟨g1.1, g1.2⟩ ?_
      refine wp_i2l rfl ?_
      refine wp_sipush rfl ?_
      refine wp_iload rfl rfl ?_
      exact wp_call (k := 61) (ρ2 := 1) (L2 := [vl (h 100 x1), vu, vl 1, vu, vi x3]) rfl rfl rfl (Nat.le_of_ble_eq_true rfl) (Nat.le_of_ble_eq_true rfl) (Nat.le_of_ble_eq_true rfl) (rcv_S rfl) rfl H
    · replace H := H.2 c3
      refine wp_aload rfl rfl ?_
      refine wp_getR (r := 98) rfl (congrArg Prod.fst (kf_89 X.1)) rfl ?_
      refine wp_iload rfl rfl ?_
      refine wp_iaload rfl (kf_99 X.1) ⟨g1.1, g1.2⟩ ?_
      refine wp_i2l rfl ?_
      refine wp_sipush rfl ?_
      refine wp_iload rfl rfl ?_
      exact wp_call (k := 61) (ρ2 := 1) (L2 := [vl (h 99 x1), vu, vl 60, vu, vi x3]) rfl rfl rfl (Nat.le_of_ble_eq_true rfl) (Nat.le_of_ble_eq_true rfl) (Nat.le_of_ble_eq_true rfl) (rcv_S rfl) rfl H
  · replace H := H.2 c2
    refine wp_iconst rfl ?_
    refine wp_call (k := 49) (ρ2 := 0) (L2 := [vi (-3)]) rfl rfl rfl (Nat.le_of_ble_eq_true rfl) (Nat.le_of_ble_eq_true rfl) (Nat.le_of_ble_eq_true rfl) (rcv_S rfl) rfl ?_
    refine wp_sipush rfl ?_
    refine wp_iload rfl rfl ?_
    refine wp_i2l rfl ?_
    refine wp_lsub rfl ?_
    refine Wp.topL (y := (-9223372036854775805)) (by decide) ?_
    refine wp_lret rfl rfl ?_
    show Wp X _ 72 46 [vr 89, vi x1, vi x2, vi x3] [vl (-9223372036854775805)] _ _
    refine wp_goto (tn := 82) rfl rfl ?_
    exact H
/-- WarnLinesModel.of(III)J, from 67 -/
theorem S72_89_67 {X : Nat × (Int → Int)} {h : HP} {Q : bQ} (zx0 : aV) (zx1 : aV) (zx2 : aV) (zx3 : aV) (s0 : Int) (H : Wp X 2 72 82 [zx0, zx1, zx2, zx3] [vl s0] h Q) : Wp X 2 72 67 [zx0, zx1, zx2, zx3] [vl s0] h Q := by
  refine wp_goto (tn := 82) rfl rfl ?_
  exact H
/-- WarnLinesModel.of(III)J, from 82 -/
theorem S72_89_82 {X : Nat × (Int → Int)} {h : HP} {Q : bQ} (zx0 : aV) (zx1 : aV) (zx2 : aV) (zx3 : aV) (s0 : Int) (H : Q (some (vl s0)) h) : Wp X 2 72 82 [zx0, zx1, zx2, zx3] [vl s0] h Q := by
  exact wp_lret rfl rfl H
/-- WarnLinesModel.sumsUp()V, from 0 -/
theorem S74_89_0 {X : Nat × (Int → Int)} {h : HP} {Q : bQ}  (H : Wp X 2 74 17 [vr 89, vi 0] [] (upd2 (upd2 (upd2 h 89 17 0) 89 18 0) 89 19 0) Q) : Wp X 2 74 0 [vr 89, vu] [] h Q := by
  refine wp_aload rfl rfl ?_
  refine wp_sipush rfl ?_
  refine wp_putL (j := 17) rfl (congrArg Prod.fst (kf_89 X.1)) rfl rfl rfl ?_
  refine wp_aload rfl rfl ?_
  refine wp_sipush rfl ?_
  refine wp_putL (j := 18) rfl (congrArg Prod.fst (kf_89 X.1)) rfl rfl rfl ?_
  refine wp_aload rfl rfl ?_
  refine wp_iconst rfl ?_
  refine wp_putI (j := 19) rfl (congrArg Prod.fst (kf_89 X.1)) rfl rfl rfl ?_
  refine wp_iconst rfl ?_
  refine wp_istore (L2 := [vr 89, vi 0]) rfl (Nat.le_of_ble_eq_true rfl) rfl ?_
  exact H
/-- WarnLinesModel.sumsUp()V, from 17 -/
theorem S74_89_17 {X : Nat × (Int → Int)} {h : HP} {Q : bQ} (x1 : Int) (H : (((h 89 5) ≤ x1 → Q none h) ∧ (x1 < (h 89 5) → (((lcp x1 (h 97 0)) < 0 → ((R32 (x1 + 1)) ∧ Wp X 2 74 17 [vr 89, vi (x1 + 1)] [] h Q)) ∧ (0 ≤ (lcp x1 (h 97 0)) → ((0 < (lcp x1 (h 97 1)) → ((R32 (x1 + 1)) ∧ Wp X 2 74 17 [vr 89, vi (x1 + 1)] [] h Q)) ∧ ((lcp x1 (h 97 1)) ≤ 0 → ((0 ≤ x1 ∧ x1 < 20) ∧ (((h 101 x1) ≠ 0 → Wp X 2 74 17 [vr 89, vi (x1 + 1)] [] h Q) ∧ ((h 101 x1) = 0 → ((((i32 ((i32 (h 89 20) >>> (i32 x1 &&& 31)).toInt) &&& i32 1).toInt) ≠ 0 → Wp X 2 74 17 [vr 89, vi (x1 + 1)] [] h Q) ∧ (((i32 ((i32 (h 89 20) >>> (i32 x1 &&& 31)).toInt) &&& i32 1).toInt) = 0 → ((R64 ((h 89 17) + (h 99 x1))) ∧ ((R64 ((h 89 18) + (h 100 x1))) ∧ ((R32 ((h 89 19) + 1)) ∧ Wp X 2 74 17 [vr 89, vi (x1 + 1)] [] (upd2 (upd2 (upd2 h 89 17 ((h 89 17) + (h 99 x1))) 89 18 ((h 89 18) + (h 100 x1))) 89 19 ((h 89 19) + 1)) Q))))))))))))))) : Wp X 2 74 17 [vr 89, vi x1] [] h Q := by
  refine wp_iload rfl rfl ?_
  refine wp_aload rfl rfl ?_
  refine wp_getI (j := 5) rfl (congrArg Prod.fst (kf_89 X.1)) rfl ?_
  refine wp_icge (tn := 81) rfl rfl (fun c1 => ?_) (fun c1 => ?_)
  · replace H := H.1 c1
    exact wp_vret rfl rfl H
  · replace H := H.2 c1
    refine wp_aload rfl rfl ?_
    refine wp_iload rfl rfl ?_
    refine wp_call (k := 73) (ρ2 := 1) (L2 := [vr 89, vi x1]) rfl rfl rfl (Nat.le_of_ble_eq_true rfl) (Nat.le_of_ble_eq_true rfl) (Nat.le_of_ble_eq_true rfl) (rcv_V rfl (congrArg Prod.fst (kf_89 X.1))) rfl ?_
    refine wp_iload rfl rfl ?_
    refine wp_i2l rfl ?_
    refine wp_aload rfl rfl ?_
    refine wp_getR (r := 96) rfl (congrArg Prod.fst (kf_89 X.1)) rfl ?_
    refine wp_iconst rfl ?_
    refine wp_iaload rfl (kf_97 X.1) (by decide) ?_
    refine wp_i2l rfl ?_
    refine wp_aload rfl rfl ?_
    refine wp_getR (r := 96) rfl (congrArg Prod.fst (kf_89 X.1)) rfl ?_
    refine wp_iconst rfl ?_
    refine wp_iaload rfl (kf_97 X.1) (by decide) ?_
    refine wp_i2l rfl ?_
    refine wp_call (k := 48) (ρ2 := 0) (L2 := [vl x1, vu, vl (h 97 0), vu, vl (h 97 1), vu]) rfl rfl rfl (Nat.le_of_ble_eq_true rfl) (Nat.le_of_ble_eq_true rfl) (Nat.le_of_ble_eq_true rfl) (rcv_S rfl) rfl ?_
    refine wp_lload rfl rfl ?_
    refine wp_lload rfl rfl ?_
    refine wp_lcmp rfl ?_
    refine wp_iflt (tn := 17) rfl rfl (fun c2 => ?_) (fun c2 => ?_)
    · replace H := H.1 c2
      refine wp_iconst rfl ?_
      refine wp_zret rfl rfl (by decide) ?_
      show Wp X _ 73 19 [vr 89, vi x1] [vi 0] _ _
      refine wp_ifeqT (tn := 46) rfl rfl (by decide) ?_
      refine wp_iconst rfl ?_
      refine wp_zret rfl rfl (by decide) ?_
      show Wp X _ 74 30 [vr 89, vi x1] [vi 0] _ _
      refine wp_ifeqT (tn := 75) rfl rfl (by decide) ?_
      have g3 := H.1
      replace H := H.2
      refine wp_iincR (L2 := [vr 89, vi (x1 + 1)]) rfl rfl g3 rfl ?_
      refine wp_goto (tn := 17) rfl rfl ?_
      exact H
    · replace H := H.2 c2
      refine wp_lload rfl rfl ?_
      refine wp_lload rfl rfl ?_
      refine wp_lcmp rfl ?_
      refine wp_ifgt (tn := 17) rfl rfl (fun c4 => ?_) (fun c4 => ?_)
      · replace H := H.1 c4
        refine wp_iconst rfl ?_
        refine wp_zret rfl rfl (by decide) ?_
        show Wp X _ 73 19 [vr 89, vi x1] [vi 0] _ _
        refine wp_ifeqT (tn := 46) rfl rfl (by decide) ?_
        refine wp_iconst rfl ?_
        refine wp_zret rfl rfl (by decide) ?_
        show Wp X _ 74 30 [vr 89, vi x1] [vi 0] _ _
        refine wp_ifeqT (tn := 75) rfl rfl (by decide) ?_
        have g5 := H.1
        replace H := H.2
        refine wp_iincR (L2 := [vr 89, vi (x1 + 1)]) rfl rfl g5 rfl ?_
        refine wp_goto (tn := 17) rfl rfl ?_
        exact H
      · replace H := H.2 c4
        refine wp_iconst rfl ?_
        refine wp_goto (tn := 18) rfl rfl ?_
        refine wp_zret rfl rfl (by decide) ?_
        show Wp X _ 73 19 [vr 89, vi x1] [vi 1] _ _
        refine wp_ifeqF (tn := 46) rfl rfl (by decide) ?_
        refine wp_aload rfl rfl ?_
        refine wp_getR (r := 100) rfl (congrArg Prod.fst (kf_89 X.1)) rfl ?_
        refine wp_iload rfl rfl ?_
        have g6 := H.1
        replace H := H.2
        refine wp_baload rfl (kf_101 X.1) g6 ?_
        refine wp_ifne (tn := 46) rfl rfl (fun c7 => ?_) (fun c7 => ?_)
        · replace H := H.1 c7
          refine wp_iconst rfl ?_
          refine wp_zret rfl rfl (by decide) ?_
          show Wp X _ 74 30 [vr 89, vi x1] [vi 0] _ _
          refine wp_ifeqT (tn := 75) rfl rfl (by decide) ?_
          refine wp_iincR (L2 := [vr 89, vi (x1 + 1)]) rfl rfl (by clear H; unfold R32; omega) rfl ?_
          refine wp_goto (tn := 17) rfl rfl ?_
          exact H
        · replace H := H.2 c7
          refine wp_aload rfl rfl ?_
          refine wp_getI (j := 20) rfl (congrArg Prod.fst (kf_89 X.1)) rfl ?_
          refine wp_iload rfl rfl ?_
          refine wp_ishr rfl ?_
          refine wp_iconst rfl ?_
          refine wp_iand rfl ?_
          refine wp_ifne (tn := 46) rfl rfl (fun c8 => ?_) (fun c8 => ?_)
          · replace H := H.1 c8
            refine wp_iconst rfl ?_
            refine wp_zret rfl rfl (by decide) ?_
            show Wp X _ 74 30 [vr 89, vi x1] [vi 0] _ _
            refine wp_ifeqT (tn := 75) rfl rfl (by decide) ?_
            refine wp_iincR (L2 := [vr 89, vi (x1 + 1)]) rfl rfl (by clear H; unfold R32; omega) rfl ?_
            refine wp_goto (tn := 17) rfl rfl ?_
            exact H
          · replace H := H.2 c8
            refine wp_iconst rfl ?_
            refine wp_goto (tn := 47) rfl rfl ?_
            refine wp_zret rfl rfl (by decide) ?_
            show Wp X _ 74 30 [vr 89, vi x1] [vi 1] _ _
            refine wp_ifeqF (tn := 75) rfl rfl (by decide) ?_
            refine wp_aload rfl rfl ?_
            refine wp_dupR rfl ?_
            refine wp_getL (j := 17) rfl (congrArg Prod.fst (kf_89 X.1)) rfl ?_
            refine wp_aload rfl rfl ?_
            refine wp_getR (r := 98) rfl (congrArg Prod.fst (kf_89 X.1)) rfl ?_
            refine wp_iload rfl rfl ?_
            refine wp_iaload rfl (kf_99 X.1) ⟨g6.1, g6.2⟩ ?_
            refine wp_i2l rfl ?_
            refine wp_ladd rfl ?_
            have g9 := H.1
            replace H := H.2
            refine Wp.topL (y := ((h 89 17) + (h 99 x1))) (w64_I g9) ?_
            refine wp_putL (j := 17) rfl (congrArg Prod.fst (kf_89 X.1)) rfl rfl rfl ?_
            refine wp_aload rfl rfl ?_
            refine wp_dupR rfl ?_
            refine wp_getL (j := 18) rfl (congrArg Prod.fst (kf_89 X.1)) rfl ?_
            refine Wp.topL (y := (h 89 18)) (upd2_o (by decide)) ?_
            refine wp_aload rfl rfl ?_
            refine wp_getR (r := 99) rfl (congrArg Prod.fst (kf_89 X.1)) rfl ?_
            refine wp_iload rfl rfl ?_
            refine wp_iaload rfl (kf_100 X.1) ⟨g6.1, g6.2⟩ ?_
            refine Wp.topI (y := (h 100 x1)) (congrFun (upd2_ne (by decide)) _) ?_
            refine wp_i2l rfl ?_
            refine wp_ladd rfl ?_
            have g10 := H.1
            replace H := H.2
            refine Wp.topL (y := ((h 89 18) + (h 100 x1))) (w64_I g10) ?_
            refine wp_putL (j := 18) rfl (congrArg Prod.fst (kf_89 X.1)) rfl rfl rfl ?_
            refine wp_aload rfl rfl ?_
            refine wp_dupR rfl ?_
            refine wp_getI (j := 19) rfl (congrArg Prod.fst (kf_89 X.1)) rfl ?_
            refine Wp.topI (y := (h 89 19)) ((upd2_o (by decide)).trans (upd2_o (by decide))) ?_
            refine wp_iconst rfl ?_
            refine wp_iadd rfl ?_
            have g11 := H.1
            replace H := H.2
            refine Wp.topI (y := ((h 89 19) + 1)) (w32_I g11) ?_
            refine wp_putI (j := 19) rfl (congrArg Prod.fst (kf_89 X.1)) rfl rfl rfl ?_
            refine wp_iincR (L2 := [vr 89, vi (x1 + 1)]) rfl rfl (by clear H; unfold R32; omega) rfl ?_
            refine wp_goto (tn := 17) rfl rfl ?_
            exact H
/-- WarnLinesModel.zoneOf(I)I, from 0 -/
theorem S77_89_0 {X : Nat × (Int → Int)} {h : HP} {Q : bQ} (x1 : Int) (H : ((0 ≤ x1 ∧ x1 < 20) ∧ ((R64 ((h 99 x1) * (h 89 19))) ∧ ((R64 (((h 99 x1) * (h 89 19)) - (h 89 17))) ∧ ((R64 (5 * (((h 99 x1) * (h 89 19)) - (h 89 17)))) ∧ ((0 ≤ (lcp (5 * (((h 99 x1) * (h 89 19)) - (h 89 17))) 0) → Wp X 1 77 28 [vr 89, vi x1, vl (5 * (((h 99 x1) * (h 89 19)) - (h 89 17))), vu, vi 0] [] h Q) ∧ ((lcp (5 * (((h 99 x1) * (h 89 19)) - (h 89 17))) 0) < 0 → ((R64 (-(5 * (((h 99 x1) * (h 89 19)) - (h 89 17))))) ∧ Wp X 1 77 28 [vr 89, vi x1, vl (-(5 * (((h 99 x1) * (h 89 19)) - (h 89 17)))), vu, vi 0] [] h Q)))))))) : Wp X 1 77 0 [vr 89, vi x1, vu, vu, vu] [] h Q := by
  refine wp_aload rfl rfl ?_
  refine wp_iload rfl rfl ?_
  refine wp_call (k := 75) (ρ2 := 0) (L2 := [vr 89, vi x1]) rfl rfl rfl (Nat.le_of_ble_eq_true rfl) (Nat.le_of_ble_eq_true rfl) (Nat.le_of_ble_eq_true rfl) (rcv_V rfl (congrArg Prod.fst (kf_89 X.1))) rfl ?_
  refine wp_sipush rfl ?_
  refine wp_aload rfl rfl ?_
  refine wp_getR (r := 98) rfl (congrArg Prod.fst (kf_89 X.1)) rfl ?_
  refine wp_iload rfl rfl ?_
  have g1 := H.1
  replace H := H.2
  refine wp_iaload rfl (kf_99 X.1) g1 ?_
  refine wp_i2l rfl ?_
  refine wp_aload rfl rfl ?_
  refine wp_getI (j := 19) rfl (congrArg Prod.fst (kf_89 X.1)) rfl ?_
  refine wp_i2l rfl ?_
  refine wp_lmul rfl ?_
  have g2 := H.1
  replace H := H.2
  refine Wp.topL (y := ((h 99 x1) * (h 89 19))) (w64_I g2) ?_
  refine wp_aload rfl rfl ?_
  refine wp_getL (j := 17) rfl (congrArg Prod.fst (kf_89 X.1)) rfl ?_
  refine wp_lsub rfl ?_
  have g3 := H.1
  replace H := H.2
  refine Wp.topL (y := (((h 99 x1) * (h 89 19)) - (h 89 17))) (w64_I g3) ?_
  refine wp_lmul rfl ?_
  have g4 := H.1
  replace H := H.2
  refine Wp.topL (y := (5 * (((h 99 x1) * (h 89 19)) - (h 89 17)))) (w64_I g4) ?_
  refine wp_lret rfl rfl ?_
  show Wp X _ 77 5 [vr 89, vi x1, vu, vu, vu] [vl (5 * (((h 99 x1) * (h 89 19)) - (h 89 17)))] _ _
  refine wp_sipush rfl ?_
  refine wp_lcmp rfl ?_
  refine wp_ifge (tn := 19) rfl rfl (fun c5 => ?_) (fun c5 => ?_)
  · replace H := H.1 c5
    refine wp_aload rfl rfl ?_
    refine wp_iload rfl rfl ?_
    refine wp_call (k := 75) (ρ2 := 0) (L2 := [vr 89, vi x1]) rfl rfl rfl (Nat.le_of_ble_eq_true rfl) (Nat.le_of_ble_eq_true rfl) (Nat.le_of_ble_eq_true rfl) (rcv_V rfl (congrArg Prod.fst (kf_89 X.1))) rfl ?_
    refine wp_sipush rfl ?_
    refine wp_aload rfl rfl ?_
    refine wp_getR (r := 98) rfl (congrArg Prod.fst (kf_89 X.1)) rfl ?_
    refine wp_iload rfl rfl ?_
    refine wp_iaload rfl (kf_99 X.1) ⟨g1.1, g1.2⟩ ?_
    refine wp_i2l rfl ?_
    refine wp_aload rfl rfl ?_
    refine wp_getI (j := 19) rfl (congrArg Prod.fst (kf_89 X.1)) rfl ?_
    refine wp_i2l rfl ?_
    refine wp_lmul rfl ?_
    refine Wp.topL (y := ((h 99 x1) * (h 89 19))) (w64_I g2) ?_
    refine wp_aload rfl rfl ?_
    refine wp_getL (j := 17) rfl (congrArg Prod.fst (kf_89 X.1)) rfl ?_
    refine wp_lsub rfl ?_
    refine Wp.topL (y := (((h 99 x1) * (h 89 19)) - (h 89 17))) (w64_I g3) ?_
    refine wp_lmul rfl ?_
    refine Wp.topL (y := (5 * (((h 99 x1) * (h 89 19)) - (h 89 17)))) (w64_I g4) ?_
    refine wp_lret rfl rfl ?_
    show Wp X _ 77 24 [vr 89, vi x1, vu, vu, vu] [vl (5 * (((h 99 x1) * (h 89 19)) - (h 89 17)))] _ _
    refine wp_lstore (L2 := [vr 89, vi x1, vl (5 * (((h 99 x1) * (h 89 19)) - (h 89 17))), vu, vu]) rfl (Nat.le_of_ble_eq_true rfl) rfl ?_
    refine wp_iconst rfl ?_
    refine wp_istore (L2 := [vr 89, vi x1, vl (5 * (((h 99 x1) * (h 89 19)) - (h 89 17))), vu, vi 0]) rfl (Nat.le_of_ble_eq_true rfl) rfl ?_
    exact H
  · replace H := H.2 c5
    refine wp_aload rfl rfl ?_
    refine wp_iload rfl rfl ?_
    refine wp_call (k := 75) (ρ2 := 0) (L2 := [vr 89, vi x1]) rfl rfl rfl (Nat.le_of_ble_eq_true rfl) (Nat.le_of_ble_eq_true rfl) (Nat.le_of_ble_eq_true rfl) (rcv_V rfl (congrArg Prod.fst (kf_89 X.1))) rfl ?_
    refine wp_sipush rfl ?_
    refine wp_aload rfl rfl ?_
    refine wp_getR (r := 98) rfl (congrArg Prod.fst (kf_89 X.1)) rfl ?_
    refine wp_iload rfl rfl ?_
    refine wp_iaload rfl (kf_99 X.1) ⟨g1.1, g1.2⟩ ?_
    refine wp_i2l rfl ?_
    refine wp_aload rfl rfl ?_
    refine wp_getI (j := 19) rfl (congrArg Prod.fst (kf_89 X.1)) rfl ?_
    refine wp_i2l rfl ?_
    refine wp_lmul rfl ?_
    refine Wp.topL (y := ((h 99 x1) * (h 89 19))) (w64_I g2) ?_
    refine wp_aload rfl rfl ?_
    refine wp_getL (j := 17) rfl (congrArg Prod.fst (kf_89 X.1)) rfl ?_
    refine wp_lsub rfl ?_
    refine Wp.topL (y := (((h 99 x1) * (h 89 19)) - (h 89 17))) (w64_I g3) ?_
    refine wp_lmul rfl ?_
    refine Wp.topL (y := (5 * (((h 99 x1) * (h 89 19)) - (h 89 17)))) (w64_I g4) ?_
    refine wp_lret rfl rfl ?_
    show Wp X _ 77 15 [vr 89, vi x1, vu, vu, vu] [vl (5 * (((h 99 x1) * (h 89 19)) - (h 89 17)))] _ _
    refine wp_lneg rfl ?_
    have g6 := H.1
    replace H := H.2
    refine Wp.topL (y := (-(5 * (((h 99 x1) * (h 89 19)) - (h 89 17))))) (w64_I g6) ?_
    refine wp_goto (tn := 24) rfl rfl ?_
    refine wp_lstore (L2 := [vr 89, vi x1, vl (-(5 * (((h 99 x1) * (h 89 19)) - (h 89 17)))), vu, vu]) rfl (Nat.le_of_ble_eq_true rfl) rfl ?_
    refine wp_iconst rfl ?_
    refine wp_istore (L2 := [vr 89, vi x1, vl (-(5 * (((h 99 x1) * (h 89 19)) - (h 89 17)))), vu, vi 0]) rfl (Nat.le_of_ble_eq_true rfl) rfl ?_
    exact H
/-- WarnLinesModel.zoneOf(I)I, from 28 -/
theorem S77_89_28 {X : Nat × (Int → Int)} {h : HP} {Q : bQ} (zx1 : aV) (x2 : Int) (x4 : Int) (H : ((3 ≤ x4 → (((lcp x2 0) ≠ 0 → Q (some (vi x4)) h) ∧ ((lcp x2 0) = 0 → Q (some (vi 0)) h))) ∧ (x4 < 3 → ((R32 (x4 + 1)) ∧ ((R64 ((x4 + 1) * (h 89 18))) ∧ ((R64 (((x4 + 1) * (h 89 18)) * (h 97 2))) ∧ (((lcp x2 (((x4 + 1) * (h 89 18)) * (h 97 2))) ≤ 0 → (((lcp x2 0) ≠ 0 → Q (some (vi x4)) h) ∧ ((lcp x2 0) = 0 → Q (some (vi 0)) h))) ∧ (0 < (lcp x2 (((x4 + 1) * (h 89 18)) * (h 97 2))) → Wp X 1 77 28 [vr 89, zx1, vl x2, vu, vi (x4 + 1)] [] h Q)))))))) : Wp X 1 77 28 [vr 89, zx1, vl x2, vu, vi x4] [] h Q := by
  refine wp_iload rfl rfl ?_
  refine wp_iconst rfl ?_
  refine wp_icge (tn := 63) rfl rfl (fun c1 => ?_) (fun c1 => ?_)
  · replace H := H.1 c1
    refine wp_lload rfl rfl ?_
    refine wp_sipush rfl ?_
    refine wp_lcmp rfl ?_
    refine wp_ifne (tn := 73) rfl rfl (fun c2 => ?_) (fun c2 => ?_)
    · replace H := H.1 c2
      refine wp_iload rfl rfl ?_
      exact wp_iret rfl rfl H
    · replace H := H.2 c2
      refine wp_iconst rfl ?_
      refine wp_goto (tn := 75) rfl rfl ?_
      exact wp_iret rfl rfl H
  · replace H := H.2 c1
    refine wp_lload rfl rfl ?_
    refine wp_iload rfl rfl ?_
    refine wp_iconst rfl ?_
    refine wp_iadd rfl ?_
    have g3 := H.1
    replace H := H.2
    refine Wp.topI (y := (x4 + 1)) (w32_I g3) ?_
    refine wp_i2l rfl ?_
    refine wp_aload rfl rfl ?_
    refine wp_getL (j := 18) rfl (congrArg Prod.fst (kf_89 X.1)) rfl ?_
    refine wp_lmul rfl ?_
    have g4 := H.1
    replace H := H.2
    refine Wp.topL (y := ((x4 + 1) * (h 89 18))) (w64_I g4) ?_
    refine wp_aload rfl rfl ?_
    refine wp_getR (r := 96) rfl (congrArg Prod.fst (kf_89 X.1)) rfl ?_
    refine wp_iconst rfl ?_
    refine wp_iaload rfl (kf_97 X.1) (by decide) ?_
    refine wp_i2l rfl ?_
    refine wp_lmul rfl ?_
    have g5 := H.1
    replace H := H.2
    refine Wp.topL (y := (((x4 + 1) * (h 89 18)) * (h 97 2))) (w64_I g5) ?_
    refine wp_lcmp rfl ?_
    refine wp_ifle (tn := 63) rfl rfl (fun c6 => ?_) (fun c6 => ?_)
    · replace H := H.1 c6
      refine wp_lload rfl rfl ?_
      refine wp_sipush rfl ?_
      refine wp_lcmp rfl ?_
      refine wp_ifne (tn := 73) rfl rfl (fun c7 => ?_) (fun c7 => ?_)
      · replace H := H.1 c7
        refine wp_iload rfl rfl ?_
        exact wp_iret rfl rfl H
      · replace H := H.2 c7
        refine wp_iconst rfl ?_
        refine wp_goto (tn := 75) rfl rfl ?_
        exact wp_iret rfl rfl H
    · replace H := H.2 c6
      refine wp_iincR (L2 := [vr 89, zx1, vl x2, vu, vi (x4 + 1)]) rfl rfl g3 rfl ?_
      refine wp_goto (tn := 28) rfl rfl ?_
      exact H
/-- WarnLinesModel.findBase()Z, from 0 -/
theorem S78_89_0 {X : Nat × (Int → Int)} {h : HP} {Q : bQ}  (H : Wp X 0 70 0 [vr 89, vu, vu, vu, vu, vu, vu, vu] [] h (fun v h' => Wp X 3 78 4 [vr 89, vu, vu, vu, vu] (psh v []) h' Q)) : Wp X 3 78 0 [vr 89, vu, vu, vu, vu] [] h Q := by
  refine wp_aload rfl rfl ?_
  exact wp_call (k := 70) (ρ2 := 0) (L2 := [vr 89, vu, vu, vu, vu, vu, vu, vu]) rfl rfl rfl (Nat.le_of_ble_eq_true rfl) (Nat.le_of_ble_eq_true rfl) (Nat.le_of_ble_eq_true rfl) (rcv_V rfl (congrArg Prod.fst (kf_89 X.1))) rfl H
/-- WarnLinesModel.findBase()Z, from 4 -/
theorem S78_89_4 {X : Nat × (Int → Int)} {h : HP} {Q : bQ}  (H : Wp X 2 74 0 [vr 89, vu] [] (upd2 h 89 20 0) (fun v h' => Wp X 3 78 13 [vr 89, vu, vu, vu, vu] (psh v []) h' Q)) : Wp X 3 78 4 [vr 89, vu, vu, vu, vu] [] h Q := by
  refine wp_aload rfl rfl ?_
  refine wp_iconst rfl ?_
  refine wp_putI (j := 20) rfl (congrArg Prod.fst (kf_89 X.1)) rfl rfl rfl ?_
  refine wp_aload rfl rfl ?_
  exact wp_call (k := 74) (ρ2 := 2) (L2 := [vr 89, vu]) rfl rfl rfl (Nat.le_of_ble_eq_true rfl) (Nat.le_of_ble_eq_true rfl) (Nat.le_of_ble_eq_true rfl) (rcv_V rfl (congrArg Prod.fst (kf_89 X.1))) rfl H
/-- WarnLinesModel.findBase()Z, from 13 -/
theorem S78_89_13 {X : Nat × (Int → Int)} {h : HP} {Q : bQ}  (H : (((h 89 19) ≤ 0 → Wp X 3 78 26 [vr 89, vi 0, vu, vu, vu] [] h Q) ∧ (0 < (h 89 19) → Wp X 3 78 26 [vr 89, vi 1, vu, vu, vu] [] h Q))) : Wp X 3 78 13 [vr 89, vu, vu, vu, vu] [] h Q := by
  refine wp_aload rfl rfl ?_
  refine wp_getI (j := 19) rfl (congrArg Prod.fst (kf_89 X.1)) rfl ?_
  refine wp_ifle (tn := 24) rfl rfl (fun c1 => ?_) (fun c1 => ?_)
  · replace H := H.1 c1
    refine wp_iconst rfl ?_
    refine wp_istore (L2 := [vr 89, vi 0, vu, vu, vu]) rfl (Nat.le_of_ble_eq_true rfl) rfl ?_
    exact H
  · replace H := H.2 c1
    refine wp_iconst rfl ?_
    refine wp_goto (tn := 25) rfl rfl ?_
    refine wp_istore (L2 := [vr 89, vi 1, vu, vu, vu]) rfl (Nat.le_of_ble_eq_true rfl) rfl ?_
    exact H
/-- WarnLinesModel.findBase()Z, from 26 -/
theorem S78_89_26 {X : Nat × (Int → Int)} {h : HP} {Q : bQ} (x1 : Int) (zx2 : aV) (zx3 : aV) (zx4 : aV) (H : ((x1 = 0 → (((h 89 19) ≤ 0 → Q (some (vi 0)) h) ∧ (0 < (h 89 19) → Q (some (vi 1)) h))) ∧ (x1 ≠ 0 → Wp X 3 78 37 [vr 89, vi x1, vi 0, vi 0, vi 0] [] h Q))) : Wp X 3 78 26 [vr 89, vi x1, zx2, zx3, zx4] [] h Q := by
  refine wp_iload rfl rfl ?_
  refine wp_ifeq (tn := 126) rfl rfl (fun c1 => ?_) (fun c1 => ?_)
  · replace H := H.1 c1
    refine wp_aload rfl rfl ?_
    refine wp_getI (j := 19) rfl (congrArg Prod.fst (kf_89 X.1)) rfl ?_
    refine wp_ifle (tn := 137) rfl rfl (fun c2 => ?_) (fun c2 => ?_)
    · replace H := H.1 c2
      refine wp_iconst rfl ?_
      exact wp_zret rfl rfl (by decide) H
    · replace H := H.2 c2
      refine wp_iconst rfl ?_
      refine wp_goto (tn := 138) rfl rfl ?_
      exact wp_zret rfl rfl (by decide) H
  · replace H := H.2 c1
    refine wp_iconst rfl ?_
    refine wp_istore (L2 := [vr 89, vi x1, vi 0, zx3, zx4]) rfl (Nat.le_of_ble_eq_true rfl) rfl ?_
    refine wp_iconst rfl ?_
    refine wp_istore (L2 := [vr 89, vi x1, vi 0, vi 0, zx4]) rfl (Nat.le_of_ble_eq_true rfl) rfl ?_
    refine wp_iconst rfl ?_
    refine wp_istore (L2 := [vr 89, vi x1, vi 0, vi 0, vi 0]) rfl (Nat.le_of_ble_eq_true rfl) rfl ?_
    exact H
/-- WarnLinesModel.findBase()Z, from 37 -/
theorem S78_89_37 {X : Nat × (Int → Int)} {h : HP} {Q : bQ} (zx1 : aV) (x2 : Int) (x3 : Int) (x4 : Int) (H : (((h 89 5) ≤ x4 → ((x3 ≤ 0 → Wp X 2 74 0 [vr 89, vu] [] (upd2 h 89 20 ((i32 (h 89 20) ||| i32 0).toInt)) (fun v h' => Wp X 3 78 123 [vr 89, vi 0, vi x2, vi x3, vi x4] (psh v []) h' Q)) ∧ (0 < x3 → ((R32 ((h 89 19) - x3)) ∧ ((((h 89 19) - x3) < 2 → Wp X 2 74 0 [vr 89, vu] [] (upd2 h 89 20 ((i32 (h 89 20) ||| i32 0).toInt)) (fun v h' => Wp X 3 78 123 [vr 89, vi 0, vi x2, vi x3, vi x4] (psh v []) h' Q)) ∧ (2 ≤ ((h 89 19) - x3) → Wp X 2 74 0 [vr 89, vu] [] (upd2 h 89 20 ((i32 (h 89 20) ||| i32 x2).toInt)) (fun v h' => Wp X 3 78 123 [vr 89, vi 1, vi x2, vi x3, vi x4] (psh v []) h' Q))))))) ∧ (x4 < (h 89 5) → (((lcp x4 (h 97 0)) < 0 → ((R32 (x4 + 1)) ∧ Wp X 3 78 37 [vr 89, zx1, vi x2, vi x3, vi (x4 + 1)] [] h Q)) ∧ (0 ≤ (lcp x4 (h 97 0)) → ((0 < (lcp x4 (h 97 1)) → ((R32 (x4 + 1)) ∧ Wp X 3 78 37 [vr 89, zx1, vi x2, vi x3, vi (x4 + 1)] [] h Q)) ∧ ((lcp x4 (h 97 1)) ≤ 0 → ((0 ≤ x4 ∧ x4 < 20) ∧ (((h 101 x4) ≠ 0 → Wp X 3 78 37 [vr 89, zx1, vi x2, vi x3, vi (x4 + 1)] [] h Q) ∧ ((h 101 x4) = 0 → ((((i32 ((i32 (h 89 20) >>> (i32 x4 &&& 31)).toInt) &&& i32 1).toInt) ≠ 0 → Wp X 3 78 37 [vr 89, zx1, vi x2, vi x3, vi (x4 + 1)] [] h Q) ∧ (((i32 ((i32 (h 89 20) >>> (i32 x4 &&& 31)).toInt) &&& i32 1).toInt) = 0 → Wp X 1 77 0 [vr 89, vi x4, vu, vu, vu] [] h (fun v h' => Wp X 3 78 61 [vr 89, zx1, vi x2, vi x3, vi x4] (psh v []) h' Q))))))))))))) : Wp X 3 78 37 [vr 89, zx1, vi x2, vi x3, vi x4] [] h Q := by
  refine wp_iload rfl rfl ?_
  refine wp_aload rfl rfl ?_
  refine wp_getI (j := 5) rfl (congrArg Prod.fst (kf_89 X.1)) rfl ?_
  refine wp_icge (tn := 81) rfl rfl (fun c1 => ?_) (fun c1 => ?_)
  · replace H := H.1 c1
    refine wp_iload rfl rfl ?_
    refine wp_ifle (tn := 99) rfl rfl (fun c2 => ?_) (fun c2 => ?_)
    · replace H := H.1 c2
      refine wp_iconst rfl ?_
      refine wp_istore (L2 := [vr 89, vi 0, vi x2, vi x3, vi x4]) rfl (Nat.le_of_ble_eq_true rfl) rfl ?_
      refine wp_aload rfl rfl ?_
      refine wp_dupR rfl ?_
      refine wp_getI (j := 20) rfl (congrArg Prod.fst (kf_89 X.1)) rfl ?_
      refine wp_iload rfl rfl ?_
      refine wp_ifeqT (tn := 114) rfl rfl (by decide) ?_
      refine wp_iconst rfl ?_
      refine wp_ior rfl ?_
      refine wp_putI (j := 20) rfl (congrArg Prod.fst (kf_89 X.1)) rfl rfl rfl ?_
      refine wp_aload rfl rfl ?_
      exact wp_call (k := 74) (ρ2 := 2) (L2 := [vr 89, vu]) rfl rfl rfl (Nat.le_of_ble_eq_true rfl) (Nat.le_of_ble_eq_true rfl) (Nat.le_of_ble_eq_true rfl) (rcv_V rfl (congrArg Prod.fst (kf_89 X.1))) rfl H
    · replace H := H.2 c2
      refine wp_aload rfl rfl ?_
      refine wp_getI (j := 19) rfl (congrArg Prod.fst (kf_89 X.1)) rfl ?_
      refine wp_iload rfl rfl ?_
      refine wp_isub rfl ?_
      have g3 := H.1
      replace H := H.2
      refine Wp.topI (y := ((h 89 19) - x3)) (w32_I g3) ?_
      refine wp_iconst rfl ?_
      refine wp_iclt (tn := 99) rfl rfl (fun c4 => ?_) (fun c4 => ?_)
      · replace H := H.1 c4
        refine wp_iconst rfl ?_
        refine wp_istore (L2 := [vr 89, vi 0, vi x2, vi x3, vi x4]) rfl (Nat.le_of_ble_eq_true rfl) rfl ?_
        refine wp_aload rfl rfl ?_
        refine wp_dupR rfl ?_
        refine wp_getI (j := 20) rfl (congrArg Prod.fst (kf_89 X.1)) rfl ?_
        refine wp_iload rfl rfl ?_
        refine wp_ifeqT (tn := 114) rfl rfl (by decide) ?_
        refine wp_iconst rfl ?_
        refine wp_ior rfl ?_
        refine wp_putI (j := 20) rfl (congrArg Prod.fst (kf_89 X.1)) rfl rfl rfl ?_
        refine wp_aload rfl rfl ?_
        exact wp_call (k := 74) (ρ2 := 2) (L2 := [vr 89, vu]) rfl rfl rfl (Nat.le_of_ble_eq_true rfl) (Nat.le_of_ble_eq_true rfl) (Nat.le_of_ble_eq_true rfl) (rcv_V rfl (congrArg Prod.fst (kf_89 X.1))) rfl H
      · replace H := H.2 c4
        refine wp_iconst rfl ?_
        refine wp_goto (tn := 100) rfl rfl ?_
        refine wp_istore (L2 := [vr 89, vi 1, vi x2, vi x3, vi x4]) rfl (Nat.le_of_ble_eq_true rfl) rfl ?_
        refine wp_aload rfl rfl ?_
        refine wp_dupR rfl ?_
        refine wp_getI (j := 20) rfl (congrArg Prod.fst (kf_89 X.1)) rfl ?_
        refine wp_iload rfl rfl ?_
        refine wp_ifeqF (tn := 114) rfl rfl (by decide) ?_
        refine wp_iload rfl rfl ?_
        refine wp_goto (tn := 115) rfl rfl ?_
        refine wp_ior rfl ?_
        refine wp_putI (j := 20) rfl (congrArg Prod.fst (kf_89 X.1)) rfl rfl rfl ?_
        refine wp_aload rfl rfl ?_
        exact wp_call (k := 74) (ρ2 := 2) (L2 := [vr 89, vu]) rfl rfl rfl (Nat.le_of_ble_eq_true rfl) (Nat.le_of_ble_eq_true rfl) (Nat.le_of_ble_eq_true rfl) (rcv_V rfl (congrArg Prod.fst (kf_89 X.1))) rfl H
  · replace H := H.2 c1
    refine wp_aload rfl rfl ?_
    refine wp_iload rfl rfl ?_
    refine wp_call (k := 73) (ρ2 := 1) (L2 := [vr 89, vi x4]) rfl rfl rfl (Nat.le_of_ble_eq_true rfl) (Nat.le_of_ble_eq_true rfl) (Nat.le_of_ble_eq_true rfl) (rcv_V rfl (congrArg Prod.fst (kf_89 X.1))) rfl ?_
    refine wp_iload rfl rfl ?_
    refine wp_i2l rfl ?_
    refine wp_aload rfl rfl ?_
    refine wp_getR (r := 96) rfl (congrArg Prod.fst (kf_89 X.1)) rfl ?_
    refine wp_iconst rfl ?_
    refine wp_iaload rfl (kf_97 X.1) (by decide) ?_
    refine wp_i2l rfl ?_
    refine wp_aload rfl rfl ?_
    refine wp_getR (r := 96) rfl (congrArg Prod.fst (kf_89 X.1)) rfl ?_
    refine wp_iconst rfl ?_
    refine wp_iaload rfl (kf_97 X.1) (by decide) ?_
    refine wp_i2l rfl ?_
    refine wp_call (k := 48) (ρ2 := 0) (L2 := [vl x4, vu, vl (h 97 0), vu, vl (h 97 1), vu]) rfl rfl rfl (Nat.le_of_ble_eq_true rfl) (Nat.le_of_ble_eq_true rfl) (Nat.le_of_ble_eq_true rfl) (rcv_S rfl) rfl ?_
    refine wp_lload rfl rfl ?_
    refine wp_lload rfl rfl ?_
    refine wp_lcmp rfl ?_
    refine wp_iflt (tn := 17) rfl rfl (fun c5 => ?_) (fun c5 => ?_)
    · replace H := H.1 c5
      refine wp_iconst rfl ?_
      refine wp_zret rfl rfl (by decide) ?_
      show Wp X _ 73 19 [vr 89, vi x4] [vi 0] _ _
      refine wp_ifeqT (tn := 46) rfl rfl (by decide) ?_
      refine wp_iconst rfl ?_
      refine wp_zret rfl rfl (by decide) ?_
      show Wp X _ 78 52 [vr 89, zx1, vi x2, vi x3, vi x4] [vi 0] _ _
      refine wp_ifeqT (tn := 75) rfl rfl (by decide) ?_
      have g6 := H.1
      replace H := H.2
      refine wp_iincR (L2 := [vr 89, zx1, vi x2, vi x3, vi (x4 + 1)]) rfl rfl g6 rfl ?_
      refine wp_goto (tn := 37) rfl rfl ?_
      exact H
    · replace H := H.2 c5
      refine wp_lload rfl rfl ?_
      refine wp_lload rfl rfl ?_
      refine wp_lcmp rfl ?_
      refine wp_ifgt (tn := 17) rfl rfl (fun c7 => ?_) (fun c7 => ?_)
      · replace H := H.1 c7
        refine wp_iconst rfl ?_
        refine wp_zret rfl rfl (by decide) ?_
        show Wp X _ 73 19 [vr 89, vi x4] [vi 0] _ _
        refine wp_ifeqT (tn := 46) rfl rfl (by decide) ?_
        refine wp_iconst rfl ?_
        refine wp_zret rfl rfl (by decide) ?_
        show Wp X _ 78 52 [vr 89, zx1, vi x2, vi x3, vi x4] [vi 0] _ _
        refine wp_ifeqT (tn := 75) rfl rfl (by decide) ?_
        have g8 := H.1
        replace H := H.2
        refine wp_iincR (L2 := [vr 89, zx1, vi x2, vi x3, vi (x4 + 1)]) rfl rfl g8 rfl ?_
        refine wp_goto (tn := 37) rfl rfl ?_
        exact H
      · replace H := H.2 c7
        refine wp_iconst rfl ?_
        refine wp_goto (tn := 18) rfl rfl ?_
        refine wp_zret rfl rfl (by decide) ?_
        show Wp X _ 73 19 [vr 89, vi x4] [vi 1] _ _
        refine wp_ifeqF (tn := 46) rfl rfl (by decide) ?_
        refine wp_aload rfl rfl ?_
        refine wp_getR (r := 100) rfl (congrArg Prod.fst (kf_89 X.1)) rfl ?_
        refine wp_iload rfl rfl ?_
        have g9 := H.1
        replace H := H.2
        refine wp_baload rfl (kf_101 X.1) g9 ?_
        refine wp_ifne (tn := 46) rfl rfl (fun c10 => ?_) (fun c10 => ?_)
        · replace H := H.1 c10
          refine wp_iconst rfl ?_
          refine wp_zret rfl rfl (by decide) ?_
          show Wp X _ 78 52 [vr 89, zx1, vi x2, vi x3, vi x4] [vi 0] _ _
          refine wp_ifeqT (tn := 75) rfl rfl (by decide) ?_
          refine wp_iincR (L2 := [vr 89, zx1, vi x2, vi x3, vi (x4 + 1)]) rfl rfl (by clear H; unfold R32; omega) rfl ?_
          refine wp_goto (tn := 37) rfl rfl ?_
          exact H
        · replace H := H.2 c10
          refine wp_aload rfl rfl ?_
          refine wp_getI (j := 20) rfl (congrArg Prod.fst (kf_89 X.1)) rfl ?_
          refine wp_iload rfl rfl ?_
          refine wp_ishr rfl ?_
          refine wp_iconst rfl ?_
          refine wp_iand rfl ?_
          refine wp_ifne (tn := 46) rfl rfl (fun c11 => ?_) (fun c11 => ?_)
          · replace H := H.1 c11
            refine wp_iconst rfl ?_
            refine wp_zret rfl rfl (by decide) ?_
            show Wp X _ 78 52 [vr 89, zx1, vi x2, vi x3, vi x4] [vi 0] _ _
            refine wp_ifeqT (tn := 75) rfl rfl (by decide) ?_
            refine wp_iincR (L2 := [vr 89, zx1, vi x2, vi x3, vi (x4 + 1)]) rfl rfl (by clear H; unfold R32; omega) rfl ?_
            refine wp_goto (tn := 37) rfl rfl ?_
            exact H
          · replace H := H.2 c11
            refine wp_iconst rfl ?_
            refine wp_goto (tn := 47) rfl rfl ?_
            refine wp_zret rfl rfl (by decide) ?_
            show Wp X _ 78 52 [vr 89, zx1, vi x2, vi x3, vi x4] [vi 1] _ _
            refine wp_ifeqF (tn := 75) rfl rfl (by decide) ?_
            refine wp_aload rfl rfl ?_
            refine wp_iload rfl rfl ?_
            exact wp_call (k := 77) (ρ2 := 1) (L2 := [vr 89, vi x4, vu, vu, vu]) rfl rfl rfl (Nat.le_of_ble_eq_true rfl) (Nat.le_of_ble_eq_true rfl) (Nat.le_of_ble_eq_true rfl) (rcv_V rfl (congrArg Prod.fst (kf_89 X.1))) rfl H
/-- WarnLinesModel.findBase()Z, from 61 -/
theorem S78_89_61 {X : Nat × (Int → Int)} {h : HP} {Q : bQ} (zx1 : aV) (x2 : Int) (x3 : Int) (x4 : Int) (s0 : Int) (H : ((s0 ≠ 3 → ((R32 (x4 + 1)) ∧ Wp X 3 78 37 [vr 89, zx1, vi x2, vi x3, vi (x4 + 1)] [] h Q)) ∧ (s0 = 3 → ((R32 (x3 + 1)) ∧ ((R32 (x4 + 1)) ∧ Wp X 3 78 37 [vr 89, (clr1 zx1), vi ((i32 x2 ||| i32 ((i32 1 <<< (i32 x4 &&& 31)).toInt)).toInt), vi (x3 + 1), vi (x4 + 1)] [] h Q))))) : Wp X 3 78 61 [vr 89, zx1, vi x2, vi x3, vi x4] [vi s0] h Q := by
  refine wp_iconst rfl ?_
  refine wp_icne (tn := 75) rfl rfl (fun c1 => ?_) (fun c1 => ?_)
  · replace H := H.1 c1
    have g2 := H.1
    replace H := H.2
    refine wp_iincR (L2 := [vr 89, zx1, vi x2, vi x3, vi (x4 + 1)]) rfl rfl g2 rfl ?_
    refine wp_goto (tn := 37) rfl rfl ?_
    exact H
  · replace H := H.2 c1
    refine wp_iload rfl rfl ?_
    refine wp_iconst rfl ?_
    refine wp_iload rfl rfl ?_
    refine wp_ishl rfl ?_
    refine wp_ior rfl ?_
    refine wp_istore (L2 := [vr 89, (clr1 zx1), vi ((i32 x2 ||| i32 ((i32 1 <<< (i32 x4 &&& 31)).toInt)).toInt), vi x3, vi x4]) rfl (Nat.le_of_ble_eq_true rfl) rfl ?_
    have g3 := H.1
    replace H := H.2
    refine wp_iincR (L2 := [vr 89, (clr1 zx1), vi ((i32 x2 ||| i32 ((i32 1 <<< (i32 x4 &&& 31)).toInt)).toInt), vi (x3 + 1), vi x4]) rfl rfl g3 rfl ?_
    have g4 := H.1
    replace H := H.2
    refine wp_iincR (L2 := [vr 89, (clr1 zx1), vi ((i32 x2 ||| i32 ((i32 1 <<< (i32 x4 &&& 31)).toInt)).toInt), vi (x3 + 1), vi (x4 + 1)]) rfl rfl g4 rfl ?_
    refine wp_goto (tn := 37) rfl rfl ?_
    exact H
/-- WarnLinesModel.findBase()Z, from 123 -/
theorem S78_89_123 {X : Nat × (Int → Int)} {h : HP} {Q : bQ} (x1 : Int) (zx2 : aV) (zx3 : aV) (zx4 : aV) (H : Wp X 3 78 26 [vr 89, vi x1, zx2, zx3, zx4] [] h Q) : Wp X 3 78 123 [vr 89, vi x1, zx2, zx3, zx4] [] h Q := by
  refine wp_goto (tn := 26) rfl rfl ?_
  exact H
/-- WarnLinesModel.baseOf(II)J, from 0 -/
theorem S79_89_0 {X : Nat × (Int → Int)} {h : HP} {Q : bQ} (x1 : Int) (x2 : Int) (H : Wp X 3 78 0 [vr 89, vu, vu, vu, vu] [] h (fun v h' => Wp X 4 79 4 [vr 89, vi x1, vi x2] (psh v []) h' Q)) : Wp X 4 79 0 [vr 89, vi x1, vi x2] [] h Q := by
  refine wp_aload rfl rfl ?_
  exact wp_call (k := 78) (ρ2 := 3) (L2 := [vr 89, vu, vu, vu, vu]) rfl rfl rfl (Nat.le_of_ble_eq_true rfl) (Nat.le_of_ble_eq_true rfl) (Nat.le_of_ble_eq_true rfl) (rcv_V rfl (congrArg Prod.fst (kf_89 X.1))) rfl H
/-- WarnLinesModel.baseOf(II)J, from 4 -/
theorem S79_89_4 {X : Nat × (Int → Int)} {h : HP} {Q : bQ} (x1 : Int) (x2 : Int) (s0 : Int) (H : ((s0 ≠ 0 → ((x1 ≠ 0 → ((R64 ((h 89 18) * (h 97 2))) ∧ ((R64 (300 * (h 89 19))) ∧ Wp X 1 61 0 [vl ((h 89 18) * (h 97 2)), vu, vl (300 * (h 89 19)), vu, vi x2] [] h (fun v h' => Wp X 4 79 62 [vr 89, vi x1, vi x2] (psh v []) h' Q)))) ∧ (x1 = 0 → ((R64 (60 * (h 89 19))) ∧ Wp X 1 61 0 [vl (h 89 17), vu, vl (60 * (h 89 19)), vu, vi x2] [] h (fun v h' => Wp X 4 79 34 [vr 89, vi x1, vi x2] (psh v []) h' Q))))) ∧ (s0 = 0 → Q (some (vl (-9223372036854775805))) h))) : Wp X 4 79 4 [vr 89, vi x1, vi x2] [vi s0] h Q := by
  refine wp_ifne (tn := 13) rfl rfl (fun c1 => ?_) (fun c1 => ?_)
  · replace H := H.1 c1
    refine wp_iload rfl rfl ?_
    refine wp_ifne (tn := 37) rfl rfl (fun c2 => ?_) (fun c2 => ?_)
    · replace H := H.1 c2
      refine wp_aload rfl rfl ?_
      refine wp_getL (j := 18) rfl (congrArg Prod.fst (kf_89 X.1)) rfl ?_
      refine wp_aload rfl rfl ?_
      refine wp_getR (r := 96) rfl (congrArg Prod.fst (kf_89 X.1)) rfl ?_
      refine wp_iconst rfl ?_
      refine wp_iaload rfl (kf_97 X.1) (by decide) ?_
      refine wp_i2l rfl ?_
      refine wp_lmul rfl ?_
      have g3 := H.1
      replace H := H.2
      refine Wp.topL (y := ((h 89 18) * (h 97 2))) (w64_I g3) ?_
      refine wp_sipush rfl ?_
      refine wp_aload rfl rfl ?_
      refine wp_getI (j := 19) rfl (congrArg Prod.fst (kf_89 X.1)) rfl ?_
      refine wp_i2l rfl ?_
      refine wp_lmul rfl ?_
      have g4 := H.1
      replace H := H.2
      refine Wp.topL (y := (300 * (h 89 19))) (w64_I g4) ?_
      refine wp_iload rfl rfl ?_
      exact wp_call (k := 61) (ρ2 := 1) (L2 := [vl ((h 89 18) * (h 97 2)), vu, vl (300 * (h 89 19)), vu, vi x2]) rfl rfl rfl (Nat.le_of_ble_eq_true rfl) (Nat.le_of_ble_eq_true rfl) (Nat.le_of_ble_eq_true rfl) (rcv_S rfl) rfl H
    · replace H := H.2 c2
      refine wp_aload rfl rfl ?_
      refine wp_getL (j := 17) rfl (congrArg Prod.fst (kf_89 X.1)) rfl ?_
      refine wp_sipush rfl ?_
      refine wp_aload rfl rfl ?_
      refine wp_getI (j := 19) rfl (congrArg Prod.fst (kf_89 X.1)) rfl ?_
      refine wp_i2l rfl ?_
      refine wp_lmul rfl ?_
      have g5 := H.1
      replace H := H.2
      refine Wp.topL (y := (60 * (h 89 19))) (w64_I g5) ?_
      refine wp_iload rfl rfl ?_
      exact wp_call (k := 61) (ρ2 := 1) (L2 := [vl (h 89 17), vu, vl (60 * (h 89 19)), vu, vi x2]) rfl rfl rfl (Nat.le_of_ble_eq_true rfl) (Nat.le_of_ble_eq_true rfl) (Nat.le_of_ble_eq_true rfl) (rcv_S rfl) rfl H
  · replace H := H.2 c1
    refine wp_iconst rfl ?_
    refine wp_call (k := 49) (ρ2 := 0) (L2 := [vi (-3)]) rfl rfl rfl (Nat.le_of_ble_eq_true rfl) (Nat.le_of_ble_eq_true rfl) (Nat.le_of_ble_eq_true rfl) (rcv_S rfl) rfl ?_
    refine wp_sipush rfl ?_
    refine wp_iload rfl rfl ?_
    refine wp_i2l rfl ?_
    refine wp_lsub rfl ?_
    refine Wp.topL (y := (-9223372036854775805)) (by decide) ?_
    refine wp_lret rfl rfl ?_
    show Wp X _ 79 12 [vr 89, vi x1, vi x2] [vl (-9223372036854775805)] _ _
    exact wp_lret rfl rfl H
/-- WarnLinesModel.baseOf(II)J, from 34 -/
theorem S79_89_34 {X : Nat × (Int → Int)} {h : HP} {Q : bQ} (zx0 : aV) (zx1 : aV) (zx2 : aV) (s0 : Int) (H : Wp X 4 79 62 [zx0, zx1, zx2] [vl s0] h Q) : Wp X 4 79 34 [zx0, zx1, zx2] [vl s0] h Q := by
  refine wp_goto (tn := 62) rfl rfl ?_
  exact H
/-- WarnLinesModel.baseOf(II)J, from 62 -/
theorem S79_89_62 {X : Nat × (Int → Int)} {h : HP} {Q : bQ} (zx0 : aV) (zx1 : aV) (zx2 : aV) (s0 : Int) (H : Q (some (vl s0)) h) : Wp X 4 79 62 [zx0, zx1, zx2] [vl s0] h Q := by
  exact wp_lret rfl rfl H
/-- WarnLinesModel.base(II)J, from 0 -/
theorem S80_89_0 {X : Nat × (Int → Int)} {h : HP} {Q : bQ} (x1 : Int) (x2 : Int) (H : (((lcp x1 0) < 0 → Q (some (vl (-9223372036854775806))) h) ∧ (0 ≤ (lcp x1 0) → ((0 < (lcp x1 1) → Q (some (vl (-9223372036854775806))) h) ∧ ((lcp x1 1) ≤ 0 → (((lcp x2 0) < 0 → Q (some (vl (-9223372036854775806))) h) ∧ (0 ≤ (lcp x2 0) → ((0 < (lcp x2 1) → Q (some (vl (-9223372036854775806))) h) ∧ ((lcp x2 1) ≤ 0 → Wp X 4 79 0 [vr 89, vi x1, vi x2] [] h (fun v h' => Wp X 5 80 20 [vr 89, vi x1, vi x2] (psh v []) h' Q)))))))))) : Wp X 5 80 0 [vr 89, vi x1, vi x2] [] h Q := by
  refine wp_iload rfl rfl ?_
  refine wp_call (k := 50) (ρ2 := 1) (L2 := [vi x1]) rfl rfl rfl (Nat.le_of_ble_eq_true rfl) (Nat.le_of_ble_eq_true rfl) (Nat.le_of_ble_eq_true rfl) (rcv_S rfl) rfl ?_
  refine wp_iload rfl rfl ?_
  refine wp_i2l rfl ?_
  refine wp_sipush rfl ?_
  refine wp_sipush rfl ?_
  refine wp_call (k := 48) (ρ2 := 0) (L2 := [vl x1, vu, vl 0, vu, vl 1, vu]) rfl rfl rfl (Nat.le_of_ble_eq_true rfl) (Nat.le_of_ble_eq_true rfl) (Nat.le_of_ble_eq_true rfl) (rcv_S rfl) rfl ?_
  refine wp_lload rfl rfl ?_
  refine wp_lload rfl rfl ?_
  refine wp_lcmp rfl ?_
  refine wp_iflt (tn := 17) rfl rfl (fun c1 => ?_) (fun c1 => ?_)
  · replace H := H.1 c1
    refine wp_iconst rfl ?_
    refine wp_zret rfl rfl (by decide) ?_
    show Wp X _ 50 7 [vi x1] [vi 0] _ _
    refine wp_zret rfl rfl (by decide) ?_
    show Wp X _ 80 4 [vr 89, vi x1, vi x2] [vi 0] _ _
    refine wp_ifeqT (tn := 23) rfl rfl (by decide) ?_
    refine wp_iconst rfl ?_
    refine wp_call (k := 49) (ρ2 := 0) (L2 := [vi (-2)]) rfl rfl rfl (Nat.le_of_ble_eq_true rfl) (Nat.le_of_ble_eq_true rfl) (Nat.le_of_ble_eq_true rfl) (rcv_S rfl) rfl ?_
    refine wp_sipush rfl ?_
    refine wp_iload rfl rfl ?_
    refine wp_i2l rfl ?_
    refine wp_lsub rfl ?_
    refine Wp.topL (y := (-9223372036854775806)) (by decide) ?_
    refine wp_lret rfl rfl ?_
    show Wp X _ 80 28 [vr 89, vi x1, vi x2] [vl (-9223372036854775806)] _ _
    exact wp_lret rfl rfl H
  · replace H := H.2 c1
    refine wp_lload rfl rfl ?_
    refine wp_lload rfl rfl ?_
    refine wp_lcmp rfl ?_
    refine wp_ifgt (tn := 17) rfl rfl (fun c2 => ?_) (fun c2 => ?_)
    · replace H := H.1 c2
      refine wp_iconst rfl ?_
      refine wp_zret rfl rfl (by decide) ?_
      show Wp X _ 50 7 [vi x1] [vi 0] _ _
      refine wp_zret rfl rfl (by decide) ?_
      show Wp X _ 80 4 [vr 89, vi x1, vi x2] [vi 0] _ _
      refine wp_ifeqT (tn := 23) rfl rfl (by decide) ?_
      refine wp_iconst rfl ?_
      refine wp_call (k := 49) (ρ2 := 0) (L2 := [vi (-2)]) rfl rfl rfl (Nat.le_of_ble_eq_true rfl) (Nat.le_of_ble_eq_true rfl) (Nat.le_of_ble_eq_true rfl) (rcv_S rfl) rfl ?_
      refine wp_sipush rfl ?_
      refine wp_iload rfl rfl ?_
      refine wp_i2l rfl ?_
      refine wp_lsub rfl ?_
      refine Wp.topL (y := (-9223372036854775806)) (by decide) ?_
      refine wp_lret rfl rfl ?_
      show Wp X _ 80 28 [vr 89, vi x1, vi x2] [vl (-9223372036854775806)] _ _
      exact wp_lret rfl rfl H
    · replace H := H.2 c2
      refine wp_iconst rfl ?_
      refine wp_goto (tn := 18) rfl rfl ?_
      refine wp_zret rfl rfl (by decide) ?_
      show Wp X _ 50 7 [vi x1] [vi 1] _ _
      refine wp_zret rfl rfl (by decide) ?_
      show Wp X _ 80 4 [vr 89, vi x1, vi x2] [vi 1] _ _
      refine wp_ifeqF (tn := 23) rfl rfl (by decide) ?_
      refine wp_iload rfl rfl ?_
      refine wp_call (k := 50) (ρ2 := 1) (L2 := [vi x2]) rfl rfl rfl (Nat.le_of_ble_eq_true rfl) (Nat.le_of_ble_eq_true rfl) (Nat.le_of_ble_eq_true rfl) (rcv_S rfl) rfl ?_
      refine wp_iload rfl rfl ?_
      refine wp_i2l rfl ?_
      refine wp_sipush rfl ?_
      refine wp_sipush rfl ?_
      refine wp_call (k := 48) (ρ2 := 0) (L2 := [vl x2, vu, vl 0, vu, vl 1, vu]) rfl rfl rfl (Nat.le_of_ble_eq_true rfl) (Nat.le_of_ble_eq_true rfl) (Nat.le_of_ble_eq_true rfl) (rcv_S rfl) rfl ?_
      refine wp_lload rfl rfl ?_
      refine wp_lload rfl rfl ?_
      refine wp_lcmp rfl ?_
      refine wp_iflt (tn := 17) rfl rfl (fun c3 => ?_) (fun c3 => ?_)
      · replace H := H.1 c3
        refine wp_iconst rfl ?_
        refine wp_zret rfl rfl (by decide) ?_
        show Wp X _ 50 7 [vi x2] [vi 0] _ _
        refine wp_zret rfl rfl (by decide) ?_
        show Wp X _ 80 11 [vr 89, vi x1, vi x2] [vi 0] _ _
        refine wp_ifeqT (tn := 23) rfl rfl (by decide) ?_
        refine wp_iconst rfl ?_
        refine wp_call (k := 49) (ρ2 := 0) (L2 := [vi (-2)]) rfl rfl rfl (Nat.le_of_ble_eq_true rfl) (Nat.le_of_ble_eq_true rfl) (Nat.le_of_ble_eq_true rfl) (rcv_S rfl) rfl ?_
        refine wp_sipush rfl ?_
        refine wp_iload rfl rfl ?_
        refine wp_i2l rfl ?_
        refine wp_lsub rfl ?_
        refine Wp.topL (y := (-9223372036854775806)) (by decide) ?_
        refine wp_lret rfl rfl ?_
        show Wp X _ 80 28 [vr 89, vi x1, vi x2] [vl (-9223372036854775806)] _ _
        exact wp_lret rfl rfl H
      · replace H := H.2 c3
        refine wp_lload rfl rfl ?_
        refine wp_lload rfl rfl ?_
        refine wp_lcmp rfl ?_
        refine wp_ifgt (tn := 17) rfl rfl (fun c4 => ?_) (fun c4 => ?_)
        · replace H := H.1 c4
          refine wp_iconst rfl ?_
          refine wp_zret rfl rfl (by decide) ?_
          show Wp X _ 50 7 [vi x2] [vi 0] _ _
          refine wp_zret rfl rfl (by decide) ?_
          show Wp X _ 80 11 [vr 89, vi x1, vi x2] [vi 0] _ _
          refine wp_ifeqT (tn := 23) rfl rfl (by decide) ?_
          refine wp_iconst rfl ?_
          refine wp_call (k := 49) (ρ2 := 0) (L2 := [vi (-2)]) rfl rfl rfl (Nat.le_of_ble_eq_true rfl) (Nat.le_of_ble_eq_true rfl) (Nat.le_of_ble_eq_true rfl) (rcv_S rfl) rfl ?_
          refine wp_sipush rfl ?_
          refine wp_iload rfl rfl ?_
          refine wp_i2l rfl ?_
          refine wp_lsub rfl ?_
          refine Wp.topL (y := (-9223372036854775806)) (by decide) ?_
          refine wp_lret rfl rfl ?_
          show Wp X _ 80 28 [vr 89, vi x1, vi x2] [vl (-9223372036854775806)] _ _
          exact wp_lret rfl rfl H
        · replace H := H.2 c4
          refine wp_iconst rfl ?_
          refine wp_goto (tn := 18) rfl rfl ?_
          refine wp_zret rfl rfl (by decide) ?_
          show Wp X _ 50 7 [vi x2] [vi 1] _ _
          refine wp_zret rfl rfl (by decide) ?_
          show Wp X _ 80 11 [vr 89, vi x1, vi x2] [vi 1] _ _
          refine wp_ifeqF (tn := 23) rfl rfl (by decide) ?_
          refine wp_aload rfl rfl ?_
          refine wp_iload rfl rfl ?_
          refine wp_iload rfl rfl ?_
          exact wp_call (k := 79) (ρ2 := 4) (L2 := [vr 89, vi x1, vi x2]) rfl rfl rfl (Nat.le_of_ble_eq_true rfl) (Nat.le_of_ble_eq_true rfl) (Nat.le_of_ble_eq_true rfl) (rcv_V rfl (congrArg Prod.fst (kf_89 X.1))) rfl H
/-- WarnLinesModel.base(II)J, from 20 -/
theorem S80_89_20 {X : Nat × (Int → Int)} {h : HP} {Q : bQ} (zx0 : aV) (zx1 : aV) (zx2 : aV) (s0 : Int) (H : Q (some (vl s0)) h) : Wp X 5 80 20 [zx0, zx1, zx2] [vl s0] h Q := by
  refine wp_goto (tn := 28) rfl rfl ?_
  exact wp_lret rfl rfl H
/-- WarnLinesModel.leftNow()I, from 0 -/
theorem S81_89_0 {X : Nat × (Int → Int)} {h : HP} {Q : bQ}  (H : Wp X 3 78 0 [vr 89, vu, vu, vu, vu] [] h (fun v h' => Wp X 4 81 4 [vr 89] (psh v []) h' Q)) : Wp X 4 81 0 [vr 89] [] h Q := by
  refine wp_aload rfl rfl ?_
  exact wp_call (k := 78) (ρ2 := 3) (L2 := [vr 89, vu, vu, vu, vu]) rfl rfl rfl (Nat.le_of_ble_eq_true rfl) (Nat.le_of_ble_eq_true rfl) (Nat.le_of_ble_eq_true rfl) (rcv_V rfl (congrArg Prod.fst (kf_89 X.1))) rfl H
/-- WarnLinesModel.leftNow()I, from 4 -/
theorem S81_89_4 {X : Nat × (Int → Int)} {h : HP} {Q : bQ} (s0 : Int) (H : ((s0 = 0 → Q (some (vi (-3))) h) ∧ (s0 ≠ 0 → Q (some (vi (h 89 20))) h))) : Wp X 4 81 4 [vr 89] [vi s0] h Q := by
  refine wp_ifeq (tn := 14) rfl rfl (fun c1 => ?_) (fun c1 => ?_)
  · replace H := H.1 c1
    refine wp_iconst rfl ?_
    exact wp_iret rfl rfl H
  · replace H := H.2 c1
    refine wp_aload rfl rfl ?_
    refine wp_getI (j := 20) rfl (congrArg Prod.fst (kf_89 X.1)) rfl ?_
    refine wp_goto (tn := 16) rfl rfl ?_
    exact wp_iret rfl rfl H
/-- WarnLinesModel.leftOut()I, from 0 -/
theorem S82_89_0 {X : Nat × (Int → Int)} {h : HP} {Q : bQ}  (H : Wp X 4 81 0 [vr 89] [] h (fun v h' => Wp X 5 82 4 [vr 89] (psh v []) h' Q)) : Wp X 5 82 0 [vr 89] [] h Q := by
  refine wp_aload rfl rfl ?_
  exact wp_call (k := 81) (ρ2 := 4) (L2 := [vr 89]) rfl rfl rfl (Nat.le_of_ble_eq_true rfl) (Nat.le_of_ble_eq_true rfl) (Nat.le_of_ble_eq_true rfl) (rcv_V rfl (congrArg Prod.fst (kf_89 X.1))) rfl H
/-- WarnLinesModel.leftOut()I, from 4 -/
theorem S82_89_4 {X : Nat × (Int → Int)} {h : HP} {Q : bQ} (zx0 : aV) (s0 : Int) (H : Q (some (vi s0)) h) : Wp X 5 82 4 [zx0] [vi s0] h Q := by
  exact wp_iret rfl rfl H
/-- WarnLinesModel.classOf(I)I, from 0 -/
theorem S83_89_0 {X : Nat × (Int → Int)} {h : HP} {Q : bQ} (x1 : Int) (H : ((0 ≤ x1 ∧ x1 < 20) ∧ ((R64 ((h 99 x1) * (h 89 19))) ∧ ((R64 (((h 99 x1) * (h 89 19)) - (h 89 17))) ∧ ((R64 (5 * (((h 99 x1) * (h 89 19)) - (h 89 17)))) ∧ (((lcp (5 * (((h 99 x1) * (h 89 19)) - (h 89 17))) 0) ≤ 0 → ((0 ≤ (lcp (5 * (((h 99 x1) * (h 89 19)) - (h 89 17))) 0) → Wp X 1 77 0 [vr 89, vi x1, vu, vu, vu] [] h (fun v h' => Wp X 2 83 24 [vr 89, vi x1] (psh v [vi 4]) h' Q)) ∧ ((lcp (5 * (((h 99 x1) * (h 89 19)) - (h 89 17))) 0) < 0 → Wp X 1 77 0 [vr 89, vi x1, vu, vu, vu] [] h (fun v h' => Wp X 2 83 14 [vr 89, vi x1] (psh v [vi 3]) h' Q)))) ∧ (0 < (lcp (5 * (((h 99 x1) * (h 89 19)) - (h 89 17))) 0) → Wp X 1 77 0 [vr 89, vi x1, vu, vu, vu] [] h (fun v h' => Wp X 2 83 24 [vr 89, vi x1] (psh v [vi 4]) h' Q)))))))) : Wp X 2 83 0 [vr 89, vi x1] [] h Q := by
  refine wp_aload rfl rfl ?_
  refine wp_iload rfl rfl ?_
  refine wp_call (k := 76) (ρ2 := 1) (L2 := [vr 89, vi x1]) rfl rfl rfl (Nat.le_of_ble_eq_true rfl) (Nat.le_of_ble_eq_true rfl) (Nat.le_of_ble_eq_true rfl) (rcv_V rfl (congrArg Prod.fst (kf_89 X.1))) rfl ?_
  refine wp_aload rfl rfl ?_
  refine wp_iload rfl rfl ?_
  refine wp_call (k := 75) (ρ2 := 0) (L2 := [vr 89, vi x1]) rfl rfl rfl (Nat.le_of_ble_eq_true rfl) (Nat.le_of_ble_eq_true rfl) (Nat.le_of_ble_eq_true rfl) (rcv_V rfl (congrArg Prod.fst (kf_89 X.1))) rfl ?_
  refine wp_sipush rfl ?_
  refine wp_aload rfl rfl ?_
  refine wp_getR (r := 98) rfl (congrArg Prod.fst (kf_89 X.1)) rfl ?_
  refine wp_iload rfl rfl ?_
  have g1 := H.1
  replace H := H.2
  refine wp_iaload rfl (kf_99 X.1) g1 ?_
  refine wp_i2l rfl ?_
  refine wp_aload rfl rfl ?_
  refine wp_getI (j := 19) rfl (congrArg Prod.fst (kf_89 X.1)) rfl ?_
  refine wp_i2l rfl ?_
  refine wp_lmul rfl ?_
  have g2 := H.1
  replace H := H.2
  refine Wp.topL (y := ((h 99 x1) * (h 89 19))) (w64_I g2) ?_
  refine wp_aload rfl rfl ?_
  refine wp_getL (j := 17) rfl (congrArg Prod.fst (kf_89 X.1)) rfl ?_
  refine wp_lsub rfl ?_
  have g3 := H.1
  replace H := H.2
  refine Wp.topL (y := (((h 99 x1) * (h 89 19)) - (h 89 17))) (w64_I g3) ?_
  refine wp_lmul rfl ?_
  have g4 := H.1
  replace H := H.2
  refine Wp.topL (y := (5 * (((h 99 x1) * (h 89 19)) - (h 89 17)))) (w64_I g4) ?_
  refine wp_lret rfl rfl ?_
  show Wp X _ 76 5 [vr 89, vi x1] [vl (5 * (((h 99 x1) * (h 89 19)) - (h 89 17)))] _ _
  refine wp_sipush rfl ?_
  refine wp_lcmp rfl ?_
  refine wp_ifle (tn := 14) rfl rfl (fun c5 => ?_) (fun c5 => ?_)
  · replace H := H.1 c5
    refine wp_aload rfl rfl ?_
    refine wp_iload rfl rfl ?_
    refine wp_call (k := 75) (ρ2 := 0) (L2 := [vr 89, vi x1]) rfl rfl rfl (Nat.le_of_ble_eq_true rfl) (Nat.le_of_ble_eq_true rfl) (Nat.le_of_ble_eq_true rfl) (rcv_V rfl (congrArg Prod.fst (kf_89 X.1))) rfl ?_
    refine wp_sipush rfl ?_
    refine wp_aload rfl rfl ?_
    refine wp_getR (r := 98) rfl (congrArg Prod.fst (kf_89 X.1)) rfl ?_
    refine wp_iload rfl rfl ?_
    refine wp_iaload rfl (kf_99 X.1) ⟨g1.1, g1.2⟩ ?_
    refine wp_i2l rfl ?_
    refine wp_aload rfl rfl ?_
    refine wp_getI (j := 19) rfl (congrArg Prod.fst (kf_89 X.1)) rfl ?_
    refine wp_i2l rfl ?_
    refine wp_lmul rfl ?_
    refine Wp.topL (y := ((h 99 x1) * (h 89 19))) (w64_I g2) ?_
    refine wp_aload rfl rfl ?_
    refine wp_getL (j := 17) rfl (congrArg Prod.fst (kf_89 X.1)) rfl ?_
    refine wp_lsub rfl ?_
    refine Wp.topL (y := (((h 99 x1) * (h 89 19)) - (h 89 17))) (w64_I g3) ?_
    refine wp_lmul rfl ?_
    refine Wp.topL (y := (5 * (((h 99 x1) * (h 89 19)) - (h 89 17)))) (w64_I g4) ?_
    refine wp_lret rfl rfl ?_
    show Wp X _ 76 19 [vr 89, vi x1] [vl (5 * (((h 99 x1) * (h 89 19)) - (h 89 17)))] _ _
    refine wp_sipush rfl ?_
    refine wp_lcmp rfl ?_
    refine wp_ifge (tn := 28) rfl rfl (fun c6 => ?_) (fun c6 => ?_)
    · replace H := H.1 c6
      refine wp_iconst rfl ?_
      refine wp_iret rfl rfl ?_
      show Wp X _ 83 5 [vr 89, vi x1] [vi 0] _ _
      refine wp_ifgeT (tn := 18) rfl rfl (by decide) ?_
      refine wp_iconst rfl ?_
      refine wp_aload rfl rfl ?_
      refine wp_iload rfl rfl ?_
      exact wp_call (k := 77) (ρ2 := 1) (L2 := [vr 89, vi x1, vu, vu, vu]) rfl rfl rfl (Nat.le_of_ble_eq_true rfl) (Nat.le_of_ble_eq_true rfl) (Nat.le_of_ble_eq_true rfl) (rcv_V rfl (congrArg Prod.fst (kf_89 X.1))) rfl H
    · replace H := H.2 c6
      refine wp_iconst rfl ?_
      refine wp_goto (tn := 29) rfl rfl ?_
      refine wp_iret rfl rfl ?_
      show Wp X _ 83 5 [vr 89, vi x1] [vi (-1)] _ _
      refine wp_ifgeF (tn := 18) rfl rfl (by decide) ?_
      refine wp_iconst rfl ?_
      refine wp_aload rfl rfl ?_
      refine wp_iload rfl rfl ?_
      exact wp_call (k := 77) (ρ2 := 1) (L2 := [vr 89, vi x1, vu, vu, vu]) rfl rfl rfl (Nat.le_of_ble_eq_true rfl) (Nat.le_of_ble_eq_true rfl) (Nat.le_of_ble_eq_true rfl) (rcv_V rfl (congrArg Prod.fst (kf_89 X.1))) rfl H
  · replace H := H.2 c5
    refine wp_iconst rfl ?_
    refine wp_goto (tn := 29) rfl rfl ?_
    refine wp_iret rfl rfl ?_
    show Wp X _ 83 5 [vr 89, vi x1] [vi 1] _ _
    refine wp_ifgeT (tn := 18) rfl rfl (by decide) ?_
    refine wp_iconst rfl ?_
    refine wp_aload rfl rfl ?_
    refine wp_iload rfl rfl ?_
    exact wp_call (k := 77) (ρ2 := 1) (L2 := [vr 89, vi x1, vu, vu, vu]) rfl rfl rfl (Nat.le_of_ble_eq_true rfl) (Nat.le_of_ble_eq_true rfl) (Nat.le_of_ble_eq_true rfl) (rcv_V rfl (congrArg Prod.fst (kf_89 X.1))) rfl H
/-- WarnLinesModel.classOf(I)I, from 14 -/
theorem S83_89_14 {X : Nat × (Int → Int)} {h : HP} {Q : bQ} (zx0 : aV) (zx1 : aV) (s0 : Int) (s1 : Int) (H : ((R32 (s1 - s0)) ∧ Q (some (vi (s1 - s0))) h)) : Wp X 2 83 14 [zx0, zx1] [vi s0, vi s1] h Q := by
  refine wp_isub rfl ?_
  have g1 := H.1
  replace H := H.2
  refine Wp.topI (y := (s1 - s0)) (w32_I g1) ?_
  refine wp_goto (tn := 25) rfl rfl ?_
  exact wp_iret rfl rfl H
/-- WarnLinesModel.classOf(I)I, from 24 -/
theorem S83_89_24 {X : Nat × (Int → Int)} {h : HP} {Q : bQ} (zx0 : aV) (zx1 : aV) (s0 : Int) (s1 : Int) (H : ((R32 (s1 + s0)) ∧ Q (some (vi (s1 + s0))) h)) : Wp X 2 83 24 [zx0, zx1] [vi s0, vi s1] h Q := by
  refine wp_iadd rfl ?_
  have g1 := H.1
  replace H := H.2
  refine Wp.topI (y := (s1 + s0)) (w32_I g1) ?_
  exact wp_iret rfl rfl H
/-- WarnLinesModel.zoneNow(II)I, from 0 -/
theorem S84_89_0 {X : Nat × (Int → Int)} {h : HP} {Q : bQ} (x1 : Int) (x2 : Int) (H : Wp X 3 78 0 [vr 89, vu, vu, vu, vu] [] h (fun v h' => Wp X 4 84 4 [vr 89, vi x1, vi x2] (psh v []) h' Q)) : Wp X 4 84 0 [vr 89, vi x1, vi x2] [] h Q := by
  refine wp_aload rfl rfl ?_
  exact wp_call (k := 78) (ρ2 := 3) (L2 := [vr 89, vu, vu, vu, vu]) rfl rfl rfl (Nat.le_of_ble_eq_true rfl) (Nat.le_of_ble_eq_true rfl) (Nat.le_of_ble_eq_true rfl) (rcv_V rfl (congrArg Prod.fst (kf_89 X.1))) rfl H
/-- WarnLinesModel.zoneNow(II)I, from 4 -/
theorem S84_89_4 {X : Nat × (Int → Int)} {h : HP} {Q : bQ} (x1 : Int) (x2 : Int) (s0 : Int) (H : ((s0 = 0 → Q (some (vi (-3))) h) ∧ (s0 ≠ 0 → ((0 ≤ x1 ∧ x1 < 20) ∧ (((h 101 x1) = 0 → ((x2 ≠ 2 → ((x2 ≠ 1 → ((R64 ((h 99 x1) * (h 89 19))) ∧ ((R64 (((h 99 x1) * (h 89 19)) - (h 89 17))) ∧ ((R64 (5 * (((h 99 x1) * (h 89 19)) - (h 89 17)))) ∧ (((lcp (5 * (((h 99 x1) * (h 89 19)) - (h 89 17))) 0) ≤ 0 → ((0 ≤ (lcp (5 * (((h 99 x1) * (h 89 19)) - (h 89 17))) 0) → Q (some (vi 0)) h) ∧ ((lcp (5 * (((h 99 x1) * (h 89 19)) - (h 89 17))) 0) < 0 → Q (some (vi 2)) h))) ∧ (0 < (lcp (5 * (((h 99 x1) * (h 89 19)) - (h 89 17))) 0) → Q (some (vi 1)) h)))))) ∧ (x2 = 1 → Wp X 1 77 0 [vr 89, vi x1, vu, vu, vu] [] h (fun v h' => Wp X 4 84 42 [vr 89, vi x1, vi x2] (psh v []) h' Q)))) ∧ (x2 = 2 → Wp X 2 83 0 [vr 89, vi x1] [] h (fun v h' => Wp X 4 84 29 [vr 89, vi x1, vi x2] (psh v []) h' Q)))) ∧ ((h 101 x1) ≠ 0 → Q (some (vi (-3))) h)))))) : Wp X 4 84 4 [vr 89, vi x1, vi x2] [vi s0] h Q := by
  refine wp_ifeq (tn := 16) rfl rfl (fun c1 => ?_) (fun c1 => ?_)
  · replace H := H.1 c1
    refine wp_iconst rfl ?_
    exact wp_iret rfl rfl H
  · replace H := H.2 c1
    refine wp_aload rfl rfl ?_
    refine wp_getR (r := 100) rfl (congrArg Prod.fst (kf_89 X.1)) rfl ?_
    refine wp_iload rfl rfl ?_
    have g2 := H.1
    replace H := H.2
    refine wp_baload rfl (kf_101 X.1) g2 ?_
    refine wp_ifeq (tn := 19) rfl rfl (fun c3 => ?_) (fun c3 => ?_)
    · replace H := H.1 c3
      refine wp_iload rfl rfl ?_
      refine wp_iconst rfl ?_
      refine wp_icne (tn := 32) rfl rfl (fun c4 => ?_) (fun c4 => ?_)
      · replace H := H.1 c4
        refine wp_iload rfl rfl ?_
        refine wp_iconst rfl ?_
        refine wp_icne (tn := 45) rfl rfl (fun c5 => ?_) (fun c5 => ?_)
        · replace H := H.1 c5
          refine wp_aload rfl rfl ?_
          refine wp_iload rfl rfl ?_
          refine wp_call (k := 76) (ρ2 := 1) (L2 := [vr 89, vi x1]) rfl rfl rfl (Nat.le_of_ble_eq_true rfl) (Nat.le_of_ble_eq_true rfl) (Nat.le_of_ble_eq_true rfl) (rcv_V rfl (congrArg Prod.fst (kf_89 X.1))) rfl ?_
          refine wp_aload rfl rfl ?_
          refine wp_iload rfl rfl ?_
          refine wp_call (k := 75) (ρ2 := 0) (L2 := [vr 89, vi x1]) rfl rfl rfl (Nat.le_of_ble_eq_true rfl) (Nat.le_of_ble_eq_true rfl) (Nat.le_of_ble_eq_true rfl) (rcv_V rfl (congrArg Prod.fst (kf_89 X.1))) rfl ?_
          refine wp_sipush rfl ?_
          refine wp_aload rfl rfl ?_
          refine wp_getR (r := 98) rfl (congrArg Prod.fst (kf_89 X.1)) rfl ?_
          refine wp_iload rfl rfl ?_
          refine wp_iaload rfl (kf_99 X.1) ⟨g2.1, g2.2⟩ ?_
          refine wp_i2l rfl ?_
          refine wp_aload rfl rfl ?_
          refine wp_getI (j := 19) rfl (congrArg Prod.fst (kf_89 X.1)) rfl ?_
          refine wp_i2l rfl ?_
          refine wp_lmul rfl ?_
          have g6 := H.1
          replace H := H.2
          refine Wp.topL (y := ((h 99 x1) * (h 89 19))) (w64_I g6) ?_
          refine wp_aload rfl rfl ?_
          refine wp_getL (j := 17) rfl (congrArg Prod.fst (kf_89 X.1)) rfl ?_
          refine wp_lsub rfl ?_
          have g7 := H.1
          replace H := H.2
          refine Wp.topL (y := (((h 99 x1) * (h 89 19)) - (h 89 17))) (w64_I g7) ?_
          refine wp_lmul rfl ?_
          have g8 := H.1
          replace H := H.2
          refine Wp.topL (y := (5 * (((h 99 x1) * (h 89 19)) - (h 89 17)))) (w64_I g8) ?_
          refine wp_lret rfl rfl ?_
          show Wp X _ 76 5 [vr 89, vi x1] [vl (5 * (((h 99 x1) * (h 89 19)) - (h 89 17)))] _ _
          refine wp_sipush rfl ?_
          refine wp_lcmp rfl ?_
          refine wp_ifle (tn := 14) rfl rfl (fun c9 => ?_) (fun c9 => ?_)
          · replace H := H.1 c9
            refine wp_aload rfl rfl ?_
            refine wp_iload rfl rfl ?_
            refine wp_call (k := 75) (ρ2 := 0) (L2 := [vr 89, vi x1]) rfl rfl rfl (Nat.le_of_ble_eq_true rfl) (Nat.le_of_ble_eq_true rfl) (Nat.le_of_ble_eq_true rfl) (rcv_V rfl (congrArg Prod.fst (kf_89 X.1))) rfl ?_
            refine wp_sipush rfl ?_
            refine wp_aload rfl rfl ?_
            refine wp_getR (r := 98) rfl (congrArg Prod.fst (kf_89 X.1)) rfl ?_
            refine wp_iload rfl rfl ?_
            refine wp_iaload rfl (kf_99 X.1) ⟨g2.1, g2.2⟩ ?_
            refine wp_i2l rfl ?_
            refine wp_aload rfl rfl ?_
            refine wp_getI (j := 19) rfl (congrArg Prod.fst (kf_89 X.1)) rfl ?_
            refine wp_i2l rfl ?_
            refine wp_lmul rfl ?_
            refine Wp.topL (y := ((h 99 x1) * (h 89 19))) (w64_I g6) ?_
            refine wp_aload rfl rfl ?_
            refine wp_getL (j := 17) rfl (congrArg Prod.fst (kf_89 X.1)) rfl ?_
            refine wp_lsub rfl ?_
            refine Wp.topL (y := (((h 99 x1) * (h 89 19)) - (h 89 17))) (w64_I g7) ?_
            refine wp_lmul rfl ?_
            refine Wp.topL (y := (5 * (((h 99 x1) * (h 89 19)) - (h 89 17)))) (w64_I g8) ?_
            refine wp_lret rfl rfl ?_
            show Wp X _ 76 19 [vr 89, vi x1] [vl (5 * (((h 99 x1) * (h 89 19)) - (h 89 17)))] _ _
            refine wp_sipush rfl ?_
            refine wp_lcmp rfl ?_
            refine wp_ifge (tn := 28) rfl rfl (fun c10 => ?_) (fun c10 => ?_)
            · replace H := H.1 c10
              refine wp_iconst rfl ?_
              refine wp_iret rfl rfl ?_
              show Wp X _ 84 50 [vr 89, vi x1, vi x2] [vi 0] _ _
              refine wp_ifgeT (tn := 57) rfl rfl (by decide) ?_
              refine wp_aload rfl rfl ?_
              refine wp_iload rfl rfl ?_
              refine wp_call (k := 76) (ρ2 := 1) (L2 := [vr 89, vi x1]) rfl rfl rfl (Nat.le_of_ble_eq_true rfl) (Nat.le_of_ble_eq_true rfl) (Nat.le_of_ble_eq_true rfl) (rcv_V rfl (congrArg Prod.fst (kf_89 X.1))) rfl ?_
              refine wp_aload rfl rfl ?_
              refine wp_iload rfl rfl ?_
              refine wp_call (k := 75) (ρ2 := 0) (L2 := [vr 89, vi x1]) rfl rfl rfl (Nat.le_of_ble_eq_true rfl) (Nat.le_of_ble_eq_true rfl) (Nat.le_of_ble_eq_true rfl) (rcv_V rfl (congrArg Prod.fst (kf_89 X.1))) rfl ?_
              refine wp_sipush rfl ?_
              refine wp_aload rfl rfl ?_
              refine wp_getR (r := 98) rfl (congrArg Prod.fst (kf_89 X.1)) rfl ?_
              refine wp_iload rfl rfl ?_
              refine wp_iaload rfl (kf_99 X.1) ⟨g2.1, g2.2⟩ ?_
              refine wp_i2l rfl ?_
              refine wp_aload rfl rfl ?_
              refine wp_getI (j := 19) rfl (congrArg Prod.fst (kf_89 X.1)) rfl ?_
              refine wp_i2l rfl ?_
              refine wp_lmul rfl ?_
              refine Wp.topL (y := ((h 99 x1) * (h 89 19))) (w64_I g6) ?_
              refine wp_aload rfl rfl ?_
              refine wp_getL (j := 17) rfl (congrArg Prod.fst (kf_89 X.1)) rfl ?_
              refine wp_lsub rfl ?_
              refine Wp.topL (y := (((h 99 x1) * (h 89 19)) - (h 89 17))) (w64_I g7) ?_
              refine wp_lmul rfl ?_
              refine Wp.topL (y := (5 * (((h 99 x1) * (h 89 19)) - (h 89 17)))) (w64_I g8) ?_
              refine wp_lret rfl rfl ?_
              show Wp X _ 76 5 [vr 89, vi x1] [vl (5 * (((h 99 x1) * (h 89 19)) - (h 89 17)))] _ _
              refine wp_sipush rfl ?_
              refine wp_lcmp rfl ?_
              refine wp_ifleT (tn := 14) rfl rfl c9 ?_
              refine wp_aload rfl rfl ?_
              refine wp_iload rfl rfl ?_
              refine wp_call (k := 75) (ρ2 := 0) (L2 := [vr 89, vi x1]) rfl rfl rfl (Nat.le_of_ble_eq_true rfl) (Nat.le_of_ble_eq_true rfl) (Nat.le_of_ble_eq_true rfl) (rcv_V rfl (congrArg Prod.fst (kf_89 X.1))) rfl ?_
              refine wp_sipush rfl ?_
              refine wp_aload rfl rfl ?_
              refine wp_getR (r := 98) rfl (congrArg Prod.fst (kf_89 X.1)) rfl ?_
              refine wp_iload rfl rfl ?_
              refine wp_iaload rfl (kf_99 X.1) ⟨g2.1, g2.2⟩ ?_
              refine wp_i2l rfl ?_
              refine wp_aload rfl rfl ?_
              refine wp_getI (j := 19) rfl (congrArg Prod.fst (kf_89 X.1)) rfl ?_
              refine wp_i2l rfl ?_
              refine wp_lmul rfl ?_
              refine Wp.topL (y := ((h 99 x1) * (h 89 19))) (w64_I g6) ?_
              refine wp_aload rfl rfl ?_
              refine wp_getL (j := 17) rfl (congrArg Prod.fst (kf_89 X.1)) rfl ?_
              refine wp_lsub rfl ?_
              refine Wp.topL (y := (((h 99 x1) * (h 89 19)) - (h 89 17))) (w64_I g7) ?_
              refine wp_lmul rfl ?_
              refine Wp.topL (y := (5 * (((h 99 x1) * (h 89 19)) - (h 89 17)))) (w64_I g8) ?_
              refine wp_lret rfl rfl ?_
              show Wp X _ 76 19 [vr 89, vi x1] [vl (5 * (((h 99 x1) * (h 89 19)) - (h 89 17)))] _ _
              refine wp_sipush rfl ?_
              refine wp_lcmp rfl ?_
              refine wp_ifgeT (tn := 28) rfl rfl c10 ?_
              refine wp_iconst rfl ?_
              refine wp_iret rfl rfl ?_
              show Wp X _ 84 62 [vr 89, vi x1, vi x2] [vi 0] _ _
              exact wp_iret rfl rfl H
            · replace H := H.2 c10
              refine wp_iconst rfl ?_
              refine wp_goto (tn := 29) rfl rfl ?_
              refine wp_iret rfl rfl ?_
              show Wp X _ 84 50 [vr 89, vi x1, vi x2] [vi (-1)] _ _
              refine wp_ifgeF (tn := 57) rfl rfl (by decide) ?_
              refine wp_iconst rfl ?_
              refine wp_goto (tn := 62) rfl rfl ?_
              exact wp_iret rfl rfl H
          · replace H := H.2 c9
            refine wp_iconst rfl ?_
            refine wp_goto (tn := 29) rfl rfl ?_
            refine wp_iret rfl rfl ?_
            show Wp X _ 84 50 [vr 89, vi x1, vi x2] [vi 1] _ _
            refine wp_ifgeT (tn := 57) rfl rfl (by decide) ?_
            refine wp_aload rfl rfl ?_
            refine wp_iload rfl rfl ?_
            refine wp_call (k := 76) (ρ2 := 1) (L2 := [vr 89, vi x1]) rfl rfl rfl (Nat.le_of_ble_eq_true rfl) (Nat.le_of_ble_eq_true rfl) (Nat.le_of_ble_eq_true rfl) (rcv_V rfl (congrArg Prod.fst (kf_89 X.1))) rfl ?_
            refine wp_aload rfl rfl ?_
            refine wp_iload rfl rfl ?_
            refine wp_call (k := 75) (ρ2 := 0) (L2 := [vr 89, vi x1]) rfl rfl rfl (Nat.le_of_ble_eq_true rfl) (Nat.le_of_ble_eq_true rfl) (Nat.le_of_ble_eq_true rfl) (rcv_V rfl (congrArg Prod.fst (kf_89 X.1))) rfl ?_
            refine wp_sipush rfl ?_
            refine wp_aload rfl rfl ?_
            refine wp_getR (r := 98) rfl (congrArg Prod.fst (kf_89 X.1)) rfl ?_
            refine wp_iload rfl rfl ?_
            refine wp_iaload rfl (kf_99 X.1) ⟨g2.1, g2.2⟩ ?_
            refine wp_i2l rfl ?_
            refine wp_aload rfl rfl ?_
            refine wp_getI (j := 19) rfl (congrArg Prod.fst (kf_89 X.1)) rfl ?_
            refine wp_i2l rfl ?_
            refine wp_lmul rfl ?_
            refine Wp.topL (y := ((h 99 x1) * (h 89 19))) (w64_I g6) ?_
            refine wp_aload rfl rfl ?_
            refine wp_getL (j := 17) rfl (congrArg Prod.fst (kf_89 X.1)) rfl ?_
            refine wp_lsub rfl ?_
            refine Wp.topL (y := (((h 99 x1) * (h 89 19)) - (h 89 17))) (w64_I g7) ?_
            refine wp_lmul rfl ?_
            refine Wp.topL (y := (5 * (((h 99 x1) * (h 89 19)) - (h 89 17)))) (w64_I g8) ?_
            refine wp_lret rfl rfl ?_
            show Wp X _ 76 5 [vr 89, vi x1] [vl (5 * (((h 99 x1) * (h 89 19)) - (h 89 17)))] _ _
            refine wp_sipush rfl ?_
            refine wp_lcmp rfl ?_
            refine wp_ifleF (tn := 14) rfl rfl c9 ?_
            refine wp_iconst rfl ?_
            refine wp_goto (tn := 29) rfl rfl ?_
            refine wp_iret rfl rfl ?_
            show Wp X _ 84 62 [vr 89, vi x1, vi x2] [vi 1] _ _
            exact wp_iret rfl rfl H
        · replace H := H.2 c5
          refine wp_aload rfl rfl ?_
          refine wp_iload rfl rfl ?_
          exact wp_call (k := 77) (ρ2 := 1) (L2 := [vr 89, vi x1, vu, vu, vu]) rfl rfl rfl (Nat.le_of_ble_eq_true rfl) (Nat.le_of_ble_eq_true rfl) (Nat.le_of_ble_eq_true rfl) (rcv_V rfl (congrArg Prod.fst (kf_89 X.1))) rfl H
      · replace H := H.2 c4
        refine wp_aload rfl rfl ?_
        refine wp_iload rfl rfl ?_
        exact wp_call (k := 83) (ρ2 := 2) (L2 := [vr 89, vi x1]) rfl rfl rfl (Nat.le_of_ble_eq_true rfl) (Nat.le_of_ble_eq_true rfl) (Nat.le_of_ble_eq_true rfl) (rcv_V rfl (congrArg Prod.fst (kf_89 X.1))) rfl H
    · replace H := H.2 c3
      refine wp_iconst rfl ?_
      exact wp_iret rfl rfl H
/-- WarnLinesModel.zoneNow(II)I, from 29 -/
theorem S84_89_29 {X : Nat × (Int → Int)} {h : HP} {Q : bQ} (zx0 : aV) (zx1 : aV) (zx2 : aV) (s0 : Int) (H : Q (some (vi s0)) h) : Wp X 4 84 29 [zx0, zx1, zx2] [vi s0] h Q := by
  refine wp_goto (tn := 62) rfl rfl ?_
  exact wp_iret rfl rfl H
/-- WarnLinesModel.zoneNow(II)I, from 42 -/
theorem S84_89_42 {X : Nat × (Int → Int)} {h : HP} {Q : bQ} (zx0 : aV) (zx1 : aV) (zx2 : aV) (s0 : Int) (H : Q (some (vi s0)) h) : Wp X 4 84 42 [zx0, zx1, zx2] [vi s0] h Q := by
  refine wp_goto (tn := 62) rfl rfl ?_
  exact wp_iret rfl rfl H
/-- WarnLinesModel.zone(II)I, from 0 -/
theorem S85_89_0 {X : Nat × (Int → Int)} {h : HP} {Q : bQ} (x1 : Int) (x2 : Int) (H : ((R32 ((h 89 5) - 1)) ∧ (((lcp x1 0) < 0 → Q (some (vi (-2))) h) ∧ (0 ≤ (lcp x1 0) → ((0 < (lcp x1 ((h 89 5) - 1)) → Q (some (vi (-2))) h) ∧ ((lcp x1 ((h 89 5) - 1)) ≤ 0 → (((lcp x2 0) < 0 → Q (some (vi (-2))) h) ∧ (0 ≤ (lcp x2 0) → ((0 < (lcp x2 2) → Q (some (vi (-2))) h) ∧ ((lcp x2 2) ≤ 0 → Wp X 4 84 0 [vr 89, vi x1, vi x2] [] h (fun v h' => Wp X 5 85 26 [vr 89, vi x1, vi x2] (psh v []) h' Q))))))))))) : Wp X 5 85 0 [vr 89, vi x1, vi x2] [] h Q := by
  refine wp_aload rfl rfl ?_
  refine wp_iload rfl rfl ?_
  refine wp_call (k := 62) (ρ2 := 1) (L2 := [vr 89, vi x1]) rfl rfl rfl (Nat.le_of_ble_eq_true rfl) (Nat.le_of_ble_eq_true rfl) (Nat.le_of_ble_eq_true rfl) (rcv_V rfl (congrArg Prod.fst (kf_89 X.1))) rfl ?_
  refine wp_iload rfl rfl ?_
  refine wp_i2l rfl ?_
  refine wp_sipush rfl ?_
  refine wp_aload rfl rfl ?_
  refine wp_getI (j := 5) rfl (congrArg Prod.fst (kf_89 X.1)) rfl ?_
  refine wp_iconst rfl ?_
  refine wp_isub rfl ?_
  have g1 := H.1
  replace H := H.2
  refine Wp.topI (y := ((h 89 5) - 1)) (w32_I g1) ?_
  refine wp_i2l rfl ?_
  refine wp_call (k := 48) (ρ2 := 0) (L2 := [vl x1, vu, vl 0, vu, vl ((h 89 5) - 1), vu]) rfl rfl rfl (Nat.le_of_ble_eq_true rfl) (Nat.le_of_ble_eq_true rfl) (Nat.le_of_ble_eq_true rfl) (rcv_S rfl) rfl ?_
  refine wp_lload rfl rfl ?_
  refine wp_lload rfl rfl ?_
  refine wp_lcmp rfl ?_
  refine wp_iflt (tn := 17) rfl rfl (fun c2 => ?_) (fun c2 => ?_)
  · replace H := H.1 c2
    refine wp_iconst rfl ?_
    refine wp_zret rfl rfl (by decide) ?_
    show Wp X _ 62 13 [vr 89, vi x1] [vi 0] _ _
    refine wp_zret rfl rfl (by decide) ?_
    show Wp X _ 85 5 [vr 89, vi x1, vi x2] [vi 0] _ _
    refine wp_ifeqT (tn := 29) rfl rfl (by decide) ?_
    refine wp_iconst rfl ?_
    exact wp_iret rfl rfl H
  · replace H := H.2 c2
    refine wp_lload rfl rfl ?_
    refine wp_lload rfl rfl ?_
    refine wp_lcmp rfl ?_
    refine wp_ifgt (tn := 17) rfl rfl (fun c3 => ?_) (fun c3 => ?_)
    · replace H := H.1 c3
      refine wp_iconst rfl ?_
      refine wp_zret rfl rfl (by decide) ?_
      show Wp X _ 62 13 [vr 89, vi x1] [vi 0] _ _
      refine wp_zret rfl rfl (by decide) ?_
      show Wp X _ 85 5 [vr 89, vi x1, vi x2] [vi 0] _ _
      refine wp_ifeqT (tn := 29) rfl rfl (by decide) ?_
      refine wp_iconst rfl ?_
      exact wp_iret rfl rfl H
    · replace H := H.2 c3
      refine wp_iconst rfl ?_
      refine wp_goto (tn := 18) rfl rfl ?_
      refine wp_zret rfl rfl (by decide) ?_
      show Wp X _ 62 13 [vr 89, vi x1] [vi 1] _ _
      refine wp_zret rfl rfl (by decide) ?_
      show Wp X _ 85 5 [vr 89, vi x1, vi x2] [vi 1] _ _
      refine wp_ifeqF (tn := 29) rfl rfl (by decide) ?_
      refine wp_iload rfl rfl ?_
      refine wp_i2l rfl ?_
      refine wp_sipush rfl ?_
      refine wp_sipush rfl ?_
      refine wp_call (k := 48) (ρ2 := 0) (L2 := [vl x2, vu, vl 0, vu, vl 2, vu]) rfl rfl rfl (Nat.le_of_ble_eq_true rfl) (Nat.le_of_ble_eq_true rfl) (Nat.le_of_ble_eq_true rfl) (rcv_S rfl) rfl ?_
      refine wp_lload rfl rfl ?_
      refine wp_lload rfl rfl ?_
      refine wp_lcmp rfl ?_
      refine wp_iflt (tn := 17) rfl rfl (fun c4 => ?_) (fun c4 => ?_)
      · replace H := H.1 c4
        refine wp_iconst rfl ?_
        refine wp_zret rfl rfl (by decide) ?_
        show Wp X _ 85 17 [vr 89, vi x1, vi x2] [vi 0] _ _
        refine wp_ifeqT (tn := 29) rfl rfl (by decide) ?_
        refine wp_iconst rfl ?_
        exact wp_iret rfl rfl H
      · replace H := H.2 c4
        refine wp_lload rfl rfl ?_
        refine wp_lload rfl rfl ?_
        refine wp_lcmp rfl ?_
        refine wp_ifgt (tn := 17) rfl rfl (fun c5 => ?_) (fun c5 => ?_)
        · replace H := H.1 c5
          refine wp_iconst rfl ?_
          refine wp_zret rfl rfl (by decide) ?_
          show Wp X _ 85 17 [vr 89, vi x1, vi x2] [vi 0] _ _
          refine wp_ifeqT (tn := 29) rfl rfl (by decide) ?_
          refine wp_iconst rfl ?_
          exact wp_iret rfl rfl H
        · replace H := H.2 c5
          refine wp_iconst rfl ?_
          refine wp_goto (tn := 18) rfl rfl ?_
          refine wp_zret rfl rfl (by decide) ?_
          show Wp X _ 85 17 [vr 89, vi x1, vi x2] [vi 1] _ _
          refine wp_ifeqF (tn := 29) rfl rfl (by decide) ?_
          refine wp_aload rfl rfl ?_
          refine wp_iload rfl rfl ?_
          refine wp_iload rfl rfl ?_
          exact wp_call (k := 84) (ρ2 := 4) (L2 := [vr 89, vi x1, vi x2]) rfl rfl rfl (Nat.le_of_ble_eq_true rfl) (Nat.le_of_ble_eq_true rfl) (Nat.le_of_ble_eq_true rfl) (rcv_V rfl (congrArg Prod.fst (kf_89 X.1))) rfl H
/-- WarnLinesModel.zone(II)I, from 26 -/
theorem S85_89_26 {X : Nat × (Int → Int)} {h : HP} {Q : bQ} (zx0 : aV) (zx1 : aV) (zx2 : aV) (s0 : Int) (H : Q (some (vi s0)) h) : Wp X 5 85 26 [zx0, zx1, zx2] [vi s0] h Q := by
  refine wp_goto (tn := 31) rfl rfl ?_
  exact wp_iret rfl rfl H
/-- WarnLinesModel.type(II)I, from 0 -/
theorem S86_89_0 {X : Nat × (Int → Int)} {h : HP} {Q : bQ} (x1 : Int) (x2 : Int) (H : (((lcp x1 0) < 0 → Q (some (vi (-2))) h) ∧ (0 ≤ (lcp x1 0) → ((0 < (lcp x1 1) → Q (some (vi (-2))) h) ∧ ((lcp x1 1) ≤ 0 → (((lcp x2 0) < 0 → Q (some (vi (-2))) h) ∧ (0 ≤ (lcp x2 0) → ((0 < (lcp x2 255) → Q (some (vi (-2))) h) ∧ ((lcp x2 255) ≤ 0 → ((0 ≤ x1 ∧ x1 < 2) ∧ (((h 104 x1) ≠ 50 → ((R32 ((50 * x1) + (h 104 x1))) ∧ ((0 ≤ ((50 * x1) + (h 104 x1)) ∧ ((50 * x1) + (h 104 x1)) < 100) ∧ ((R32 ((h 104 x1) + 1)) ∧ Q (some (vi ((h 104 x1) + 1))) (upd2 (upd2 h 103 ((50 * x1) + (h 104 x1)) x2) 104 x1 ((h 104 x1) + 1)))))) ∧ ((h 104 x1) = 50 → Q (some (vi (-4))) h)))))))))))) : Wp X 2 86 0 [vr 89, vi x1, vi x2] [] h Q := by
  refine wp_iload rfl rfl ?_
  refine wp_call (k := 50) (ρ2 := 1) (L2 := [vi x1]) rfl rfl rfl (Nat.le_of_ble_eq_true rfl) (Nat.le_of_ble_eq_true rfl) (Nat.le_of_ble_eq_true rfl) (rcv_S rfl) rfl ?_
  refine wp_iload rfl rfl ?_
  refine wp_i2l rfl ?_
  refine wp_sipush rfl ?_
  refine wp_sipush rfl ?_
  refine wp_call (k := 48) (ρ2 := 0) (L2 := [vl x1, vu, vl 0, vu, vl 1, vu]) rfl rfl rfl (Nat.le_of_ble_eq_true rfl) (Nat.le_of_ble_eq_true rfl) (Nat.le_of_ble_eq_true rfl) (rcv_S rfl) rfl ?_
  refine wp_lload rfl rfl ?_
  refine wp_lload rfl rfl ?_
  refine wp_lcmp rfl ?_
  refine wp_iflt (tn := 17) rfl rfl (fun c1 => ?_) (fun c1 => ?_)
  · replace H := H.1 c1
    refine wp_iconst rfl ?_
    refine wp_zret rfl rfl (by decide) ?_
    show Wp X _ 50 7 [vi x1] [vi 0] _ _
    refine wp_zret rfl rfl (by decide) ?_
    show Wp X _ 86 4 [vr 89, vi x1, vi x2] [vi 0] _ _
    refine wp_ifeqT (tn := 19) rfl rfl (by decide) ?_
    refine wp_iconst rfl ?_
    exact wp_iret rfl rfl H
  · replace H := H.2 c1
    refine wp_lload rfl rfl ?_
    refine wp_lload rfl rfl ?_
    refine wp_lcmp rfl ?_
    refine wp_ifgt (tn := 17) rfl rfl (fun c2 => ?_) (fun c2 => ?_)
    · replace H := H.1 c2
      refine wp_iconst rfl ?_
      refine wp_zret rfl rfl (by decide) ?_
      show Wp X _ 50 7 [vi x1] [vi 0] _ _
      refine wp_zret rfl rfl (by decide) ?_
      show Wp X _ 86 4 [vr 89, vi x1, vi x2] [vi 0] _ _
      refine wp_ifeqT (tn := 19) rfl rfl (by decide) ?_
      refine wp_iconst rfl ?_
      exact wp_iret rfl rfl H
    · replace H := H.2 c2
      refine wp_iconst rfl ?_
      refine wp_goto (tn := 18) rfl rfl ?_
      refine wp_zret rfl rfl (by decide) ?_
      show Wp X _ 50 7 [vi x1] [vi 1] _ _
      refine wp_zret rfl rfl (by decide) ?_
      show Wp X _ 86 4 [vr 89, vi x1, vi x2] [vi 1] _ _
      refine wp_ifeqF (tn := 19) rfl rfl (by decide) ?_
      refine wp_iload rfl rfl ?_
      refine wp_i2l rfl ?_
      refine wp_sipush rfl ?_
      refine wp_sipush rfl ?_
      refine wp_call (k := 48) (ρ2 := 0) (L2 := [vl x2, vu, vl 0, vu, vl 255, vu]) rfl rfl rfl (Nat.le_of_ble_eq_true rfl) (Nat.le_of_ble_eq_true rfl) (Nat.le_of_ble_eq_true rfl) (rcv_S rfl) rfl ?_
      refine wp_lload rfl rfl ?_
      refine wp_lload rfl rfl ?_
      refine wp_lcmp rfl ?_
      refine wp_iflt (tn := 17) rfl rfl (fun c3 => ?_) (fun c3 => ?_)
      · replace H := H.1 c3
        refine wp_iconst rfl ?_
        refine wp_zret rfl rfl (by decide) ?_
        show Wp X _ 86 16 [vr 89, vi x1, vi x2] [vi 0] _ _
        refine wp_ifneF (tn := 22) rfl rfl (by decide) ?_
        refine wp_iconst rfl ?_
        exact wp_iret rfl rfl H
      · replace H := H.2 c3
        refine wp_lload rfl rfl ?_
        refine wp_lload rfl rfl ?_
        refine wp_lcmp rfl ?_
        refine wp_ifgt (tn := 17) rfl rfl (fun c4 => ?_) (fun c4 => ?_)
        · replace H := H.1 c4
          refine wp_iconst rfl ?_
          refine wp_zret rfl rfl (by decide) ?_
          show Wp X _ 86 16 [vr 89, vi x1, vi x2] [vi 0] _ _
          refine wp_ifneF (tn := 22) rfl rfl (by decide) ?_
          refine wp_iconst rfl ?_
          exact wp_iret rfl rfl H
        · replace H := H.2 c4
          refine wp_iconst rfl ?_
          refine wp_goto (tn := 18) rfl rfl ?_
          refine wp_zret rfl rfl (by decide) ?_
          show Wp X _ 86 16 [vr 89, vi x1, vi x2] [vi 1] _ _
          refine wp_ifneT (tn := 22) rfl rfl (by decide) ?_
          refine wp_aload rfl rfl ?_
          refine wp_getR (r := 103) rfl (congrArg Prod.fst (kf_89 X.1)) rfl ?_
          refine wp_iload rfl rfl ?_
          have g5 := H.1
          replace H := H.2
          refine wp_iaload rfl (kf_104 X.1) g5 ?_
          refine wp_iconst rfl ?_
          refine wp_icne (tn := 36) rfl rfl (fun c6 => ?_) (fun c6 => ?_)
          · replace H := H.1 c6
            refine wp_aload rfl rfl ?_
            refine wp_getR (r := 102) rfl (congrArg Prod.fst (kf_89 X.1)) rfl ?_
            refine wp_iconst rfl ?_
            refine wp_iload rfl rfl ?_
            refine wp_imul rfl ?_
            refine Wp.topI (y := (50 * x1)) (w32_I (by clear H; unfold R32; omega)) ?_
            refine wp_aload rfl rfl ?_
            refine wp_getR (r := 103) rfl (congrArg Prod.fst (kf_89 X.1)) rfl ?_
            refine wp_iload rfl rfl ?_
            refine wp_iaload rfl (kf_104 X.1) ⟨g5.1, g5.2⟩ ?_
            refine wp_iadd rfl ?_
            have g7 := H.1
            replace H := H.2
            refine Wp.topI (y := ((50 * x1) + (h 104 x1))) (w32_I g7) ?_
            refine wp_iload rfl rfl ?_
            have g8 := H.1
            replace H := H.2
            refine wp_iastore rfl (kf_103 X.1) g8 ?_
            refine wp_aload rfl rfl ?_
            refine wp_getR (r := 103) rfl (congrArg Prod.fst (kf_89 X.1)) rfl ?_
            refine wp_iload rfl rfl ?_
            refine wp_dup2 rfl ?_
            refine wp_iaload rfl (kf_104 X.1) ⟨g5.1, g5.2⟩ ?_
            refine Wp.topI (y := (h 104 x1)) (congrFun (upd2_ne (by decide)) _) ?_
            refine wp_iconst rfl ?_
            refine wp_iadd rfl ?_
            have g9 := H.1
            replace H := H.2
            refine Wp.topI (y := ((h 104 x1) + 1)) (w32_I g9) ?_
            refine wp_iastore rfl (kf_104 X.1) ⟨g5.1, g5.2⟩ ?_
            refine wp_aload rfl rfl ?_
            refine wp_getR (r := 103) rfl (congrArg Prod.fst (kf_89 X.1)) rfl ?_
            refine wp_iload rfl rfl ?_
            refine wp_iaload rfl (kf_104 X.1) ⟨g5.1, g5.2⟩ ?_
            refine Wp.topI (y := ((h 104 x1) + 1)) ((congrFun (upd2_cg (upd2_ne (by decide))) _).trans upd2_s) ?_
            exact wp_iret rfl rfl H
          · replace H := H.2 c6
            refine wp_iconst rfl ?_
            exact wp_iret rfl rfl H
/-- WarnLinesModel.wipe(I)I, from 0 -/
theorem S87_89_0 {X : Nat × (Int → Int)} {h : HP} {Q : bQ} (x1 : Int) (H : (((lcp x1 0) < 0 → Q (some (vi (-2))) h) ∧ (0 ≤ (lcp x1 0) → ((0 < (lcp x1 1) → Q (some (vi (-2))) h) ∧ ((lcp x1 1) ≤ 0 → ((0 ≤ x1 ∧ x1 < 2) ∧ Q (some (vi (h 104 x1))) (upd2 h 104 x1 0))))))) : Wp X 2 87 0 [vr 89, vi x1, vu] [] h Q := by
  refine wp_iload rfl rfl ?_
  refine wp_call (k := 50) (ρ2 := 1) (L2 := [vi x1]) rfl rfl rfl (Nat.le_of_ble_eq_true rfl) (Nat.le_of_ble_eq_true rfl) (Nat.le_of_ble_eq_true rfl) (rcv_S rfl) rfl ?_
  refine wp_iload rfl rfl ?_
  refine wp_i2l rfl ?_
  refine wp_sipush rfl ?_
  refine wp_sipush rfl ?_
  refine wp_call (k := 48) (ρ2 := 0) (L2 := [vl x1, vu, vl 0, vu, vl 1, vu]) rfl rfl rfl (Nat.le_of_ble_eq_true rfl) (Nat.le_of_ble_eq_true rfl) (Nat.le_of_ble_eq_true rfl) (rcv_S rfl) rfl ?_
  refine wp_lload rfl rfl ?_
  refine wp_lload rfl rfl ?_
  refine wp_lcmp rfl ?_
  refine wp_iflt (tn := 17) rfl rfl (fun c1 => ?_) (fun c1 => ?_)
  · replace H := H.1 c1
    refine wp_iconst rfl ?_
    refine wp_zret rfl rfl (by decide) ?_
    show Wp X _ 50 7 [vi x1] [vi 0] _ _
    refine wp_zret rfl rfl (by decide) ?_
    show Wp X _ 87 4 [vr 89, vi x1, vu] [vi 0] _ _
    refine wp_ifneF (tn := 10) rfl rfl (by decide) ?_
    refine wp_iconst rfl ?_
    exact wp_iret rfl rfl H
  · replace H := H.2 c1
    refine wp_lload rfl rfl ?_
    refine wp_lload rfl rfl ?_
    refine wp_lcmp rfl ?_
    refine wp_ifgt (tn := 17) rfl rfl (fun c2 => ?_) (fun c2 => ?_)
    · replace H := H.1 c2
      refine wp_iconst rfl ?_
      refine wp_zret rfl rfl (by decide) ?_
      show Wp X _ 50 7 [vi x1] [vi 0] _ _
      refine wp_zret rfl rfl (by decide) ?_
      show Wp X _ 87 4 [vr 89, vi x1, vu] [vi 0] _ _
      refine wp_ifneF (tn := 10) rfl rfl (by decide) ?_
      refine wp_iconst rfl ?_
      exact wp_iret rfl rfl H
    · replace H := H.2 c2
      refine wp_iconst rfl ?_
      refine wp_goto (tn := 18) rfl rfl ?_
      refine wp_zret rfl rfl (by decide) ?_
      show Wp X _ 50 7 [vi x1] [vi 1] _ _
      refine wp_zret rfl rfl (by decide) ?_
      show Wp X _ 87 4 [vr 89, vi x1, vu] [vi 1] _ _
      refine wp_ifneT (tn := 10) rfl rfl (by decide) ?_
      refine wp_aload rfl rfl ?_
      refine wp_getR (r := 103) rfl (congrArg Prod.fst (kf_89 X.1)) rfl ?_
      refine wp_iload rfl rfl ?_
      have g3 := H.1
      replace H := H.2
      refine wp_iaload rfl (kf_104 X.1) g3 ?_
      refine wp_istore (L2 := [vr 89, vi x1, vi (h 104 x1)]) rfl (Nat.le_of_ble_eq_true rfl) rfl ?_
      refine wp_aload rfl rfl ?_
      refine wp_getR (r := 103) rfl (congrArg Prod.fst (kf_89 X.1)) rfl ?_
      refine wp_iload rfl rfl ?_
      refine wp_iconst rfl ?_
      refine wp_iastore rfl (kf_104 X.1) ⟨g3.1, g3.2⟩ ?_
      refine wp_iload rfl rfl ?_
      exact wp_iret rfl rfl H
/-- WarnLinesModel.readsRule(I)Z, from 0 -/
theorem S91_89_0 {X : Nat × (Int → Int)} {h : HP} {Q : bQ} (x1 : Int) (H : ((0 ≤ x1 ∧ x1 < 2) ∧ (((h 104 x1) ≤ (h 89 23) → (((h 89 24) = 8 → Q (some (vi 0)) h) ∧ ((h 89 24) ≠ 8 → Q (some (vi 0)) h))) ∧ ((h 89 23) < (h 104 x1) → ((R32 ((50 * x1) + (h 89 23))) ∧ ((0 ≤ ((50 * x1) + (h 89 23)) ∧ ((50 * x1) + (h 89 23)) < 100) ∧ (((h 89 24) = 8 → Q (some (vi 0)) h) ∧ ((h 89 24) ≠ 8 → (((h 103 ((50 * x1) + (h 89 23))) = 122 → ((R32 ((h 89 23) + 1)) ∧ (((h 104 x1) ≤ ((h 89 23) + 1) → (((lcp (-49) 1) < 0 → Q (some (vi 0)) (upd2 h 89 23 ((h 89 23) + 1))) ∧ (0 ≤ (lcp (-49) 1) → ((0 < (lcp (-49) 5) → Q (some (vi 0)) (upd2 h 89 23 ((h 89 23) + 1))) ∧ ((lcp (-49) 5) ≤ 0 → ((R32 (((h 89 23) + 1) + 1)) ∧ Q (some (vi 0)) (upd2 (upd2 h 89 23 ((h 89 23) + 1)) 89 23 (((h 89 23) + 1) + 1)))))))) ∧ (((h 89 23) + 1) < (h 104 x1) → ((R32 ((50 * x1) + ((h 89 23) + 1))) ∧ ((0 ≤ ((50 * x1) + ((h 89 23) + 1)) ∧ ((50 * x1) + ((h 89 23) + 1)) < 100) ∧ ((R32 ((h 103 ((50 * x1) + ((h 89 23) + 1))) - 48)) ∧ (((lcp ((h 103 ((50 * x1) + ((h 89 23) + 1))) - 48) 1) < 0 → Q (some (vi 0)) (upd2 h 89 23 ((h 89 23) + 1))) ∧ (0 ≤ (lcp ((h 103 ((50 * x1) + ((h 89 23) + 1))) - 48) 1) → ((0 < (lcp ((h 103 ((50 * x1) + ((h 89 23) + 1))) - 48) 5) → Q (some (vi 0)) (upd2 h 89 23 ((h 89 23) + 1))) ∧ ((lcp ((h 103 ((50 * x1) + ((h 89 23) + 1))) - 48) 5) ≤ 0 → ((R32 (((h 89 23) + 1) + 1)) ∧ ((((h 103 ((50 * x1) + ((h 89 23) + 1))) - 48) < 0 → Q (some (vi 0)) (upd2 (upd2 h 89 23 ((h 89 23) + 1)) 89 23 (((h 89 23) + 1) + 1))) ∧ (0 ≤ ((h 103 ((50 * x1) + ((h 89 23) + 1))) - 48) → (((h 104 x1) ≤ (((h 89 23) + 1) + 1) → ((R32 ((((h 89 23) + 1) + 1) + 0)) ∧ Q (some (vi 0)) (upd2 (upd2 (upd2 h 89 23 ((h 89 23) + 1)) 89 23 (((h 89 23) + 1) + 1)) 89 23 ((((h 89 23) + 1) + 1) + 0)))) ∧ ((((h 89 23) + 1) + 1) < (h 104 x1) → ((R32 ((50 * x1) + (((h 89 23) + 1) + 1))) ∧ ((0 ≤ ((50 * x1) + (((h 89 23) + 1) + 1)) ∧ ((50 * x1) + (((h 89 23) + 1) + 1)) < 100) ∧ (((h 103 ((50 * x1) + (((h 89 23) + 1) + 1))) ≠ 47 → ((R32 ((((h 89 23) + 1) + 1) + 0)) ∧ Q (some (vi 0)) (upd2 (upd2 (upd2 h 89 23 ((h 89 23) + 1)) 89 23 (((h 89 23) + 1) + 1)) 89 23 ((((h 89 23) + 1) + 1) + 0)))) ∧ ((h 103 ((50 * x1) + (((h 89 23) + 1) + 1))) = 47 → ((R32 ((((h 89 23) + 1) + 1) + 1)) ∧ (((h 104 x1) ≤ ((((h 89 23) + 1) + 1) + 1) → (((lcp (-49) ((h 103 ((50 * x1) + ((h 89 23) + 1))) - 48)) < 0 → Q (some (vi 0)) (upd2 (upd2 (upd2 h 89 23 ((h 89 23) + 1)) 89 23 (((h 89 23) + 1) + 1)) 89 23 ((((h 89 23) + 1) + 1) + 1))) ∧ (0 ≤ (lcp (-49) ((h 103 ((50 * x1) + ((h 89 23) + 1))) - 48)) → ((0 < (lcp (-49) 5) → Q (some (vi 0)) (upd2 (upd2 (upd2 h 89 23 ((h 89 23) + 1)) 89 23 (((h 89 23) + 1) + 1)) 89 23 ((((h 89 23) + 1) + 1) + 1))) ∧ ((lcp (-49) 5) ≤ 0 → ((R32 (((((h 89 23) + 1) + 1) + 1) + 1)) ∧ Q (some (vi 0)) (upd2 (upd2 (upd2 (upd2 h 89 23 ((h 89 23) + 1)) 89 23 (((h 89 23) + 1) + 1)) 89 23 ((((h 89 23) + 1) + 1) + 1)) 89 23 (((((h 89 23) + 1) + 1) + 1) + 1)))))))) ∧ (((((h 89 23) + 1) + 1) + 1) < (h 104 x1) → ((R32 ((50 * x1) + ((((h 89 23) + 1) + 1) + 1))) ∧ ((0 ≤ ((50 * x1) + ((((h 89 23) + 1) + 1) + 1)) ∧ ((50 * x1) + ((((h 89 23) + 1) + 1) + 1)) < 100) ∧ ((R32 ((h 103 ((50 * x1) + ((((h 89 23) + 1) + 1) + 1))) - 48)) ∧ (((lcp ((h 103 ((50 * x1) + ((((h 89 23) + 1) + 1) + 1))) - 48) ((h 103 ((50 * x1) + ((h 89 23) + 1))) - 48)) < 0 → Q (some (vi 0)) (upd2 (upd2 (upd2 h 89 23 ((h 89 23) + 1)) 89 23 (((h 89 23) + 1) + 1)) 89 23 ((((h 89 23) + 1) + 1) + 1))) ∧ (0 ≤ (lcp ((h 103 ((50 * x1) + ((((h 89 23) + 1) + 1) + 1))) - 48) ((h 103 ((50 * x1) + ((h 89 23) + 1))) - 48)) → ((0 < (lcp ((h 103 ((50 * x1) + ((((h 89 23) + 1) + 1) + 1))) - 48) 5) → Q (some (vi 0)) (upd2 (upd2 (upd2 h 89 23 ((h 89 23) + 1)) 89 23 (((h 89 23) + 1) + 1)) 89 23 ((((h 89 23) + 1) + 1) + 1))) ∧ ((lcp ((h 103 ((50 * x1) + ((((h 89 23) + 1) + 1) + 1))) - 48) 5) ≤ 0 → ((R32 (((((h 89 23) + 1) + 1) + 1) + 1)) ∧ ((((h 103 ((50 * x1) + ((((h 89 23) + 1) + 1) + 1))) - 48) < 0 → Q (some (vi 0)) (upd2 (upd2 (upd2 (upd2 h 89 23 ((h 89 23) + 1)) 89 23 (((h 89 23) + 1) + 1)) 89 23 ((((h 89 23) + 1) + 1) + 1)) 89 23 (((((h 89 23) + 1) + 1) + 1) + 1))) ∧ (0 ≤ ((h 103 ((50 * x1) + ((((h 89 23) + 1) + 1) + 1))) - 48) → (((h 104 x1) ≤ (((((h 89 23) + 1) + 1) + 1) + 1) → ((R32 ((((((h 89 23) + 1) + 1) + 1) + 1) + 0)) ∧ Q (some (vi 0)) (upd2 (upd2 (upd2 (upd2 (upd2 h 89 23 ((h 89 23) + 1)) 89 23 (((h 89 23) + 1) + 1)) 89 23 ((((h 89 23) + 1) + 1) + 1)) 89 23 (((((h 89 23) + 1) + 1) + 1) + 1)) 89 23 ((((((h 89 23) + 1) + 1) + 1) + 1) + 0)))) ∧ ((((((h 89 23) + 1) + 1) + 1) + 1) < (h 104 x1) → ((R32 ((50 * x1) + (((((h 89 23) + 1) + 1) + 1) + 1))) ∧ ((0 ≤ ((50 * x1) + (((((h 89 23) + 1) + 1) + 1) + 1)) ∧ ((50 * x1) + (((((h 89 23) + 1) + 1) + 1) + 1)) < 100) ∧ (((h 103 ((50 * x1) + (((((h 89 23) + 1) + 1) + 1) + 1))) ≠ 62 → ((R32 ((((((h 89 23) + 1) + 1) + 1) + 1) + 0)) ∧ Q (some (vi 0)) (upd2 (upd2 (upd2 (upd2 (upd2 h 89 23 ((h 89 23) + 1)) 89 23 (((h 89 23) + 1) + 1)) 89 23 ((((h 89 23) + 1) + 1) + 1)) 89 23 (((((h 89 23) + 1) + 1) + 1) + 1)) 89 23 ((((((h 89 23) + 1) + 1) + 1) + 1) + 0)))) ∧ ((h 103 ((50 * x1) + (((((h 89 23) + 1) + 1) + 1) + 1))) = 62 → ((R32 ((((((h 89 23) + 1) + 1) + 1) + 1) + 1)) ∧ (((h 104 x1) ≤ ((((((h 89 23) + 1) + 1) + 1) + 1) + 1) → (((lcp (-49) 0) < 0 → Q (some (vi 0)) (upd2 (upd2 (upd2 (upd2 (upd2 h 89 23 ((h 89 23) + 1)) 89 23 (((h 89 23) + 1) + 1)) 89 23 ((((h 89 23) + 1) + 1) + 1)) 89 23 (((((h 89 23) + 1) + 1) + 1) + 1)) 89 23 ((((((h 89 23) + 1) + 1) + 1) + 1) + 1))) ∧ (0 ≤ (lcp (-49) 0) → ((0 < (lcp (-49) 3) → Q (some (vi 0)) (upd2 (upd2 (upd2 (upd2 (upd2 h 89 23 ((h 89 23) + 1)) 89 23 (((h 89 23) + 1) + 1)) 89 23 ((((h 89 23) + 1) + 1) + 1)) 89 23 (((((h 89 23) + 1) + 1) + 1) + 1)) 89 23 ((((((h 89 23) + 1) + 1) + 1) + 1) + 1))) ∧ ((lcp (-49) 3) ≤ 0 → ((R32 (((((((h 89 23) + 1) + 1) + 1) + 1) + 1) + 1)) ∧ Q (some (vi 0)) (upd2 (upd2 (upd2 (upd2 (upd2 (upd2 h 89 23 ((h 89 23) + 1)) 89 23 (((h 89 23) + 1) + 1)) 89 23 ((((h 89 23) + 1) + 1) + 1)) 89 23 (((((h 89 23) + 1) + 1) + 1) + 1)) 89 23 ((((((h 89 23) + 1) + 1) + 1) + 1) + 1)) 89 23 (((((((h 89 23) + 1) + 1) + 1) + 1) + 1) + 1)))))))) ∧ (((((((h 89 23) + 1) + 1) + 1) + 1) + 1) < (h 104 x1) → ((R32 ((50 * x1) + ((((((h 89 23) + 1) + 1) + 1) + 1) + 1))) ∧ ((0 ≤ ((50 * x1) + ((((((h 89 23) + 1) + 1) + 1) + 1) + 1)) ∧ ((50 * x1) + ((((((h 89 23) + 1) + 1) + 1) + 1) + 1)) < 100) ∧ ((R32 ((h 103 ((50 * x1) + ((((((h 89 23) + 1) + 1) + 1) + 1) + 1))) - 48)) ∧ (((lcp ((h 103 ((50 * x1) + ((((((h 89 23) + 1) + 1) + 1) + 1) + 1))) - 48) 0) < 0 → Q (some (vi 0)) (upd2 (upd2 (upd2 (upd2 (upd2 h 89 23 ((h 89 23) + 1)) 89 23 (((h 89 23) + 1) + 1)) 89 23 ((((h 89 23) + 1) + 1) + 1)) 89 23 (((((h 89 23) + 1) + 1) + 1) + 1)) 89 23 ((((((h 89 23) + 1) + 1) + 1) + 1) + 1))) ∧ (0 ≤ (lcp ((h 103 ((50 * x1) + ((((((h 89 23) + 1) + 1) + 1) + 1) + 1))) - 48) 0) → ((0 < (lcp ((h 103 ((50 * x1) + ((((((h 89 23) + 1) + 1) + 1) + 1) + 1))) - 48) 3) → Q (some (vi 0)) (upd2 (upd2 (upd2 (upd2 (upd2 h 89 23 ((h 89 23) + 1)) 89 23 (((h 89 23) + 1) + 1)) 89 23 ((((h 89 23) + 1) + 1) + 1)) 89 23 (((((h 89 23) + 1) + 1) + 1) + 1)) 89 23 ((((((h 89 23) + 1) + 1) + 1) + 1) + 1))) ∧ ((lcp ((h 103 ((50 * x1) + ((((((h 89 23) + 1) + 1) + 1) + 1) + 1))) - 48) 3) ≤ 0 → ((R32 (((((((h 89 23) + 1) + 1) + 1) + 1) + 1) + 1)) ∧ ((0 ≤ ((h 103 ((50 * x1) + ((((((h 89 23) + 1) + 1) + 1) + 1) + 1))) - 48) → ((0 ≤ (h 89 24) ∧ (h 89 24) < 8) ∧ Q (some (vi 1)) (upd2 (upd2 (upd2 (upd2 (upd2 (upd2 (upd2 (upd2 (upd2 (upd2 (upd2 h 89 23 ((h 89 23) + 1)) 89 23 (((h 89 23) + 1) + 1)) 89 23 ((((h 89 23) + 1) + 1) + 1)) 89 23 (((((h 89 23) + 1) + 1) + 1) + 1)) 89 23 ((((((h 89 23) + 1) + 1) + 1) + 1) + 1)) 89 23 (((((((h 89 23) + 1) + 1) + 1) + 1) + 1) + 1)) 105 (h 89 24) (h 103 ((50 * x1) + (h 89 23)))) 106 (h 89 24) ((h 103 ((50 * x1) + ((h 89 23) + 1))) - 48)) 107 (h 89 24) ((h 103 ((50 * x1) + ((((h 89 23) + 1) + 1) + 1))) - 48)) 108 (h 89 24) ((h 103 ((50 * x1) + ((((((h 89 23) + 1) + 1) + 1) + 1) + 1))) - 48)) 89 24 ((h 89 24) + 1)))) ∧ (((h 103 ((50 * x1) + ((((((h 89 23) + 1) + 1) + 1) + 1) + 1))) - 48) < 0 → Q (some (vi 0)) (upd2 (upd2 (upd2 (upd2 (upd2 (upd2 h 89 23 ((h 89 23) + 1)) 89 23 (((h 89 23) + 1) + 1)) 89 23 ((((h 89 23) + 1) + 1) + 1)) 89 23 (((((h 89 23) + 1) + 1) + 1) + 1)) 89 23 ((((((h 89 23) + 1) + 1) + 1) + 1) + 1)) 89 23 (((((((h 89 23) + 1) + 1) + 1) + 1) + 1) + 1)))))))))))))))))))))))))))))))))))))))))))))))))))))) ∧ ((h 103 ((50 * x1) + (h 89 23))) ≠ 122 → (((h 103 ((50 * x1) + (h 89 23))) = 114 → ((R32 ((h 89 23) + 1)) ∧ (((h 104 x1) ≤ ((h 89 23) + 1) → (((lcp (-49) 2) < 0 → Q (some (vi 0)) (upd2 h 89 23 ((h 89 23) + 1))) ∧ (0 ≤ (lcp (-49) 2) → ((0 < (lcp (-49) 9) → Q (some (vi 0)) (upd2 h 89 23 ((h 89 23) + 1))) ∧ ((lcp (-49) 9) ≤ 0 → ((R32 (((h 89 23) + 1) + 1)) ∧ Q (some (vi 0)) (upd2 (upd2 h 89 23 ((h 89 23) + 1)) 89 23 (((h 89 23) + 1) + 1)))))))) ∧ (((h 89 23) + 1) < (h 104 x1) → ((R32 ((50 * x1) + ((h 89 23) + 1))) ∧ ((0 ≤ ((50 * x1) + ((h 89 23) + 1)) ∧ ((50 * x1) + ((h 89 23) + 1)) < 100) ∧ ((R32 ((h 103 ((50 * x1) + ((h 89 23) + 1))) - 48)) ∧ (((lcp ((h 103 ((50 * x1) + ((h 89 23) + 1))) - 48) 2) < 0 → Q (some (vi 0)) (upd2 h 89 23 ((h 89 23) + 1))) ∧ (0 ≤ (lcp ((h 103 ((50 * x1) + ((h 89 23) + 1))) - 48) 2) → ((0 < (lcp ((h 103 ((50 * x1) + ((h 89 23) + 1))) - 48) 9) → Q (some (vi 0)) (upd2 h 89 23 ((h 89 23) + 1))) ∧ ((lcp ((h 103 ((50 * x1) + ((h 89 23) + 1))) - 48) 9) ≤ 0 → ((R32 (((h 89 23) + 1) + 1)) ∧ ((((h 103 ((50 * x1) + ((h 89 23) + 1))) - 48) < 0 → Q (some (vi 0)) (upd2 (upd2 h 89 23 ((h 89 23) + 1)) 89 23 (((h 89 23) + 1) + 1))) ∧ (0 ≤ ((h 103 ((50 * x1) + ((h 89 23) + 1))) - 48) → ((0 ≤ (h 89 24) ∧ (h 89 24) < 8) ∧ Q (some (vi 1)) (upd2 (upd2 (upd2 (upd2 (upd2 (upd2 (upd2 h 89 23 ((h 89 23) + 1)) 89 23 (((h 89 23) + 1) + 1)) 105 (h 89 24) (h 103 ((50 * x1) + (h 89 23)))) 106 (h 89 24) ((h 103 ((50 * x1) + ((h 89 23) + 1))) - 48)) 107 (h 89 24) ((h 103 ((50 * x1) + ((h 89 23) + 1))) - 48)) 108 (h 89 24) 0) 89 24 ((h 89 24) + 1))))))))))))))))) ∧ ((h 103 ((50 * x1) + (h 89 23))) ≠ 114 → (((h 103 ((50 * x1) + (h 89 23))) = 97 → ((R32 ((h 89 23) + 1)) ∧ (((h 104 x1) ≤ ((h 89 23) + 1) → (((lcp (-49) 3) < 0 → Q (some (vi 0)) (upd2 h 89 23 ((h 89 23) + 1))) ∧ (0 ≤ (lcp (-49) 3) → ((0 < (lcp (-49) 9) → Q (some (vi 0)) (upd2 h 89 23 ((h 89 23) + 1))) ∧ ((lcp (-49) 9) ≤ 0 → ((R32 (((h 89 23) + 1) + 1)) ∧ Q (some (vi 0)) (upd2 (upd2 h 89 23 ((h 89 23) + 1)) 89 23 (((h 89 23) + 1) + 1)))))))) ∧ (((h 89 23) + 1) < (h 104 x1) → ((R32 ((50 * x1) + ((h 89 23) + 1))) ∧ ((0 ≤ ((50 * x1) + ((h 89 23) + 1)) ∧ ((50 * x1) + ((h 89 23) + 1)) < 100) ∧ ((R32 ((h 103 ((50 * x1) + ((h 89 23) + 1))) - 48)) ∧ (((lcp ((h 103 ((50 * x1) + ((h 89 23) + 1))) - 48) 3) < 0 → Q (some (vi 0)) (upd2 h 89 23 ((h 89 23) + 1))) ∧ (0 ≤ (lcp ((h 103 ((50 * x1) + ((h 89 23) + 1))) - 48) 3) → ((0 < (lcp ((h 103 ((50 * x1) + ((h 89 23) + 1))) - 48) 9) → Q (some (vi 0)) (upd2 h 89 23 ((h 89 23) + 1))) ∧ ((lcp ((h 103 ((50 * x1) + ((h 89 23) + 1))) - 48) 9) ≤ 0 → ((R32 (((h 89 23) + 1) + 1)) ∧ ((((h 103 ((50 * x1) + ((h 89 23) + 1))) - 48) < 0 → Q (some (vi 0)) (upd2 (upd2 h 89 23 ((h 89 23) + 1)) 89 23 (((h 89 23) + 1) + 1))) ∧ (0 ≤ ((h 103 ((50 * x1) + ((h 89 23) + 1))) - 48) → ((0 ≤ (h 89 24) ∧ (h 89 24) < 8) ∧ Q (some (vi 1)) (upd2 (upd2 (upd2 (upd2 (upd2 (upd2 (upd2 h 89 23 ((h 89 23) + 1)) 89 23 (((h 89 23) + 1) + 1)) 105 (h 89 24) (h 103 ((50 * x1) + (h 89 23)))) 106 (h 89 24) ((h 103 ((50 * x1) + ((h 89 23) + 1))) - 48)) 107 (h 89 24) ((h 103 ((50 * x1) + ((h 89 23) + 1))) - 48)) 108 (h 89 24) 0) 89 24 ((h 89 24) + 1))))))))))))))))) ∧ ((h 103 ((50 * x1) + (h 89 23))) ≠ 97 → Q (some (vi 0)) h)))))))))))))) : Wp X 2 91 0 [vr 89, vi x1, vu, vu, vu, vu] [] h Q := by
  refine wp_aload rfl rfl ?_
  refine wp_iload rfl rfl ?_
  refine wp_call (k := 88) (ρ2 := 0) (L2 := [vr 89, vi x1]) rfl rfl rfl (Nat.le_of_ble_eq_true rfl) (Nat.le_of_ble_eq_true rfl) (Nat.le_of_ble_eq_true rfl) (rcv_V rfl (congrArg Prod.fst (kf_89 X.1))) rfl ?_
  refine wp_aload rfl rfl ?_
  refine wp_getI (j := 23) rfl (congrArg Prod.fst (kf_89 X.1)) rfl ?_
  refine wp_aload rfl rfl ?_
  refine wp_getR (r := 103) rfl (congrArg Prod.fst (kf_89 X.1)) rfl ?_
  refine wp_iload rfl rfl ?_
  have g1 := H.1
  replace H := H.2
  refine wp_iaload rfl (kf_104 X.1) g1 ?_
  refine wp_icge (tn := 30) rfl rfl (fun c2 => ?_) (fun c2 => ?_)
  · replace H := H.1 c2
    refine wp_iconst rfl ?_
    refine wp_iret rfl rfl ?_
    show Wp X _ 91 5 [vr 89, vi x1, vu, vu, vu, vu] [vi (-1)] _ _
    refine wp_istore (L2 := [vr 89, vi x1, vi (-1), vu, vu, vu]) rfl (Nat.le_of_ble_eq_true rfl) rfl ?_
    refine wp_aload rfl rfl ?_
    refine wp_getI (j := 24) rfl (congrArg Prod.fst (kf_89 X.1)) rfl ?_
    refine wp_iconst rfl ?_
    refine wp_iceq (tn := 33) rfl rfl (fun c3 => ?_) (fun c3 => ?_)
    · replace H := H.1 c3
      refine wp_iconst rfl ?_
      exact wp_zret rfl rfl (by decide) H
    · replace H := H.2 c3
      refine wp_iload rfl rfl ?_
      refine wp_iconst rfl ?_
      refine wp_iceqF (tn := 35) rfl rfl (by decide) ?_
      refine wp_iload rfl rfl ?_
      refine wp_iconst rfl ?_
      refine wp_iceqF (tn := 35) rfl rfl (by decide) ?_
      refine wp_iload rfl rfl ?_
      refine wp_iconst rfl ?_
      refine wp_iceqF (tn := 35) rfl rfl (by decide) ?_
      refine wp_iconst rfl ?_
      exact wp_zret rfl rfl (by decide) H
  · replace H := H.2 c2
    refine wp_aload rfl rfl ?_
    refine wp_getR (r := 102) rfl (congrArg Prod.fst (kf_89 X.1)) rfl ?_
    refine wp_iconst rfl ?_
    refine wp_iload rfl rfl ?_
    refine wp_imul rfl ?_
    refine Wp.topI (y := (50 * x1)) (w32_I (by clear H; unfold R32; omega)) ?_
    refine wp_aload rfl rfl ?_
    refine wp_getI (j := 23) rfl (congrArg Prod.fst (kf_89 X.1)) rfl ?_
    refine wp_iadd rfl ?_
    have g4 := H.1
    replace H := H.2
    refine Wp.topI (y := ((50 * x1) + (h 89 23))) (w32_I g4) ?_
    have g5 := H.1
    replace H := H.2
    refine wp_iaload rfl (kf_103 X.1) g5 ?_
    refine wp_goto (tn := 31) rfl rfl ?_
    refine wp_iret rfl rfl ?_
    show Wp X _ 91 5 [vr 89, vi x1, vu, vu, vu, vu] [vi (h 103 ((50 * x1) + (h 89 23)))] _ _
    refine wp_istore (L2 := [vr 89, vi x1, vi (h 103 ((50 * x1) + (h 89 23))), vu, vu, vu]) rfl (Nat.le_of_ble_eq_true rfl) rfl ?_
    refine wp_aload rfl rfl ?_
    refine wp_getI (j := 24) rfl (congrArg Prod.fst (kf_89 X.1)) rfl ?_
    refine wp_iconst rfl ?_
    refine wp_iceq (tn := 33) rfl rfl (fun c6 => ?_) (fun c6 => ?_)
    · replace H := H.1 c6
      refine wp_iconst rfl ?_
      exact wp_zret rfl rfl (by decide) H
    · replace H := H.2 c6
      refine wp_iload rfl rfl ?_
      refine wp_iconst rfl ?_
      refine wp_iceq (tn := 35) rfl rfl (fun c7 => ?_) (fun c7 => ?_)
      · replace H := H.1 c7
        refine wp_aload rfl rfl ?_
        refine wp_dupR rfl ?_
        refine wp_getI (j := 23) rfl (congrArg Prod.fst (kf_89 X.1)) rfl ?_
        refine wp_iconst rfl ?_
        refine wp_iadd rfl ?_
        have g8 := H.1
        replace H := H.2
        refine Wp.topI (y := ((h 89 23) + 1)) (w32_I g8) ?_
        refine wp_putI (j := 23) rfl (congrArg Prod.fst (kf_89 X.1)) rfl rfl rfl ?_
        refine wp_aload rfl rfl ?_
        refine wp_iload rfl rfl ?_
        refine wp_iload rfl rfl ?_
        refine wp_iconst rfl ?_
        refine wp_icneF (tn := 57) rfl rfl c7 ?_
        refine wp_iconst rfl ?_
        refine wp_goto (tn := 68) rfl rfl ?_
        refine wp_iload rfl rfl ?_
        refine wp_iconst rfl ?_
        refine wp_icneF (tn := 78) rfl rfl c7 ?_
        refine wp_iconst rfl ?_
        refine wp_goto (tn := 80) rfl rfl ?_
        refine wp_call (k := 90) (ρ2 := 1) (L2 := [vr 89, vi x1, vi 1, vi 5, vu]) rfl rfl rfl (Nat.le_of_ble_eq_true rfl) (Nat.le_of_ble_eq_true rfl) (Nat.le_of_ble_eq_true rfl) (rcv_V rfl (congrArg Prod.fst (kf_89 X.1))) rfl ?_
        refine wp_aload rfl rfl ?_
        refine wp_iload rfl rfl ?_
        refine wp_call (k := 88) (ρ2 := 0) (L2 := [vr 89, vi x1]) rfl rfl rfl (Nat.le_of_ble_eq_true rfl) (Nat.le_of_ble_eq_true rfl) (Nat.le_of_ble_eq_true rfl) (rcv_V rfl (congrArg Prod.fst (kf_89 X.1))) rfl ?_
        refine wp_aload rfl rfl ?_
        refine wp_getI (j := 23) rfl (congrArg Prod.fst (kf_89 X.1)) rfl ?_
        refine Wp.topI (y := ((h 89 23) + 1)) upd2_s ?_
        refine wp_aload rfl rfl ?_
        refine wp_getR (r := 103) rfl (congrArg Prod.fst (kf_89 X.1)) rfl ?_
        refine wp_iload rfl rfl ?_
        refine wp_iaload rfl (kf_104 X.1) ⟨g1.1, g1.2⟩ ?_
        refine Wp.topI (y := (h 104 x1)) (congrFun (upd2_ne (by decide)) _) ?_
        refine wp_icge (tn := 30) rfl rfl (fun c9 => ?_) (fun c9 => ?_)
        · replace H := H.1 c9
          refine wp_iconst rfl ?_
          refine wp_iret rfl rfl ?_
          show Wp X _ 90 5 [vr 89, vi x1, vi 1, vi 5, vu] [vi (-1)] _ _
          refine wp_iconst rfl ?_
          refine wp_isub rfl ?_
          refine Wp.topI (y := (-49)) (by decide) ?_
          refine wp_istore (L2 := [vr 89, vi x1, vi 1, vi 5, vi (-49)]) rfl (Nat.le_of_ble_eq_true rfl) rfl ?_
          refine wp_iload rfl rfl ?_
          refine wp_i2l rfl ?_
          refine wp_iload rfl rfl ?_
          refine wp_i2l rfl ?_
          refine wp_iload rfl rfl ?_
          refine wp_i2l rfl ?_
          refine wp_call (k := 48) (ρ2 := 0) (L2 := [vl (-49), vu, vl 1, vu, vl 5, vu]) rfl rfl rfl (Nat.le_of_ble_eq_true rfl) (Nat.le_of_ble_eq_true rfl) (Nat.le_of_ble_eq_true rfl) (rcv_S rfl) rfl ?_
          refine wp_lload rfl rfl ?_
          refine wp_lload rfl rfl ?_
          refine wp_lcmp rfl ?_
          refine wp_iflt (tn := 17) rfl rfl (fun c10 => ?_) (fun c10 => ?_)
          · replace H := H.1 c10
            refine wp_iconst rfl ?_
            refine wp_zret rfl rfl (by decide) ?_
            show Wp X _ 90 20 [vr 89, vi x1, vi 1, vi 5, vi (-49)] [vi 0] _ _
            refine wp_ifneF (tn := 25) rfl rfl (by decide) ?_
            refine wp_iconst rfl ?_
            refine wp_iret rfl rfl ?_
            show Wp X _ 91 83 [vr 89, vi x1, vi (h 103 ((50 * x1) + (h 89 23))), vu, vu, vu] [vi (-1)] _ _
            refine wp_istore (L2 := [vr 89, vi x1, vi (h 103 ((50 * x1) + (h 89 23))), vi (-1), vu, vu]) rfl (Nat.le_of_ble_eq_true rfl) rfl ?_
            refine wp_iload rfl rfl ?_
            refine wp_istore (L2 := [vr 89, vi x1, vi (h 103 ((50 * x1) + (h 89 23))), vi (-1), vi (-1), vu]) rfl (Nat.le_of_ble_eq_true rfl) rfl ?_
            refine wp_iconst rfl ?_
            refine wp_istore (L2 := [vr 89, vi x1, vi (h 103 ((50 * x1) + (h 89 23))), vi (-1), vi (-1), vi 0]) rfl (Nat.le_of_ble_eq_true rfl) rfl ?_
            refine wp_iload rfl rfl ?_
            refine wp_ifltT (tn := 151) rfl rfl (by decide) ?_
            refine wp_iload rfl rfl ?_
            refine wp_ifltT (tn := 165) rfl rfl (by decide) ?_
            refine wp_iconst rfl ?_
            exact wp_zret rfl rfl (by decide) H
          · replace H := H.2 c10
            refine wp_lload rfl rfl ?_
            refine wp_lload rfl rfl ?_
            refine wp_lcmp rfl ?_
            refine wp_ifgt (tn := 17) rfl rfl (fun c11 => ?_) (fun c11 => ?_)
            · replace H := H.1 c11
              refine wp_iconst rfl ?_
              refine wp_zret rfl rfl (by decide) ?_
              show Wp X _ 90 20 [vr 89, vi x1, vi 1, vi 5, vi (-49)] [vi 0] _ _
              refine wp_ifneF (tn := 25) rfl rfl (by decide) ?_
              refine wp_iconst rfl ?_
              refine wp_iret rfl rfl ?_
              show Wp X _ 91 83 [vr 89, vi x1, vi (h 103 ((50 * x1) + (h 89 23))), vu, vu, vu] [vi (-1)] _ _
              refine wp_istore (L2 := [vr 89, vi x1, vi (h 103 ((50 * x1) + (h 89 23))), vi (-1), vu, vu]) rfl (Nat.le_of_ble_eq_true rfl) rfl ?_
              refine wp_iload rfl rfl ?_
              refine wp_istore (L2 := [vr 89, vi x1, vi (h 103 ((50 * x1) + (h 89 23))), vi (-1), vi (-1), vu]) rfl (Nat.le_of_ble_eq_true rfl) rfl ?_
              refine wp_iconst rfl ?_
              refine wp_istore (L2 := [vr 89, vi x1, vi (h 103 ((50 * x1) + (h 89 23))), vi (-1), vi (-1), vi 0]) rfl (Nat.le_of_ble_eq_true rfl) rfl ?_
              refine wp_iload rfl rfl ?_
              refine wp_ifltT (tn := 151) rfl rfl (by decide) ?_
              refine wp_iload rfl rfl ?_
              refine wp_ifltT (tn := 165) rfl rfl (by decide) ?_
              refine wp_iconst rfl ?_
              exact wp_zret rfl rfl (by decide) H
            · replace H := H.2 c11
              refine wp_iconst rfl ?_
              refine wp_goto (tn := 18) rfl rfl ?_
              refine wp_zret rfl rfl (by decide) ?_
              show Wp X _ 90 20 [vr 89, vi x1, vi 1, vi 5, vi (-49)] [vi 1] _ _
              refine wp_ifneT (tn := 25) rfl rfl (by decide) ?_
              refine wp_aload rfl rfl ?_
              refine wp_dupR rfl ?_
              refine wp_getI (j := 23) rfl (congrArg Prod.fst (kf_89 X.1)) rfl ?_
              refine Wp.topI (y := ((h 89 23) + 1)) upd2_s ?_
              refine wp_iconst rfl ?_
              refine wp_iadd rfl ?_
              have g12 := H.1
              replace H := H.2
              refine Wp.topI (y := (((h 89 23) + 1) + 1)) (w32_I g12) ?_
              refine wp_putI (j := 23) rfl (congrArg Prod.fst (kf_89 X.1)) rfl rfl rfl ?_
              refine wp_iload rfl rfl ?_
              refine wp_iret rfl rfl ?_
              show Wp X _ 91 83 [vr 89, vi x1, vi (h 103 ((50 * x1) + (h 89 23))), vu, vu, vu] [vi (-49)] _ _
              refine wp_istore (L2 := [vr 89, vi x1, vi (h 103 ((50 * x1) + (h 89 23))), vi (-49), vu, vu]) rfl (Nat.le_of_ble_eq_true rfl) rfl ?_
              refine wp_iload rfl rfl ?_
              refine wp_istore (L2 := [vr 89, vi x1, vi (h 103 ((50 * x1) + (h 89 23))), vi (-49), vi (-49), vu]) rfl (Nat.le_of_ble_eq_true rfl) rfl ?_
              refine wp_iconst rfl ?_
              refine wp_istore (L2 := [vr 89, vi x1, vi (h 103 ((50 * x1) + (h 89 23))), vi (-49), vi (-49), vi 0]) rfl (Nat.le_of_ble_eq_true rfl) rfl ?_
              refine wp_iload rfl rfl ?_
              refine wp_ifltT (tn := 151) rfl rfl (by decide) ?_
              refine wp_iload rfl rfl ?_
              refine wp_ifltT (tn := 165) rfl rfl (by decide) ?_
              refine wp_iconst rfl ?_
              exact wp_zret rfl rfl (by decide) H
        · replace H := H.2 c9
          refine wp_aload rfl rfl ?_
          refine wp_getR (r := 102) rfl (congrArg Prod.fst (kf_89 X.1)) rfl ?_
          refine wp_iconst rfl ?_
          refine wp_iload rfl rfl ?_
          refine wp_imul rfl ?_
          refine Wp.topI (y := (50 * x1)) (w32_I (by clear H; unfold R32; omega)) ?_
          refine wp_aload rfl rfl ?_
          refine wp_getI (j := 23) rfl (congrArg Prod.fst (kf_89 X.1)) rfl ?_
          refine Wp.topI (y := ((h 89 23) + 1)) upd2_s ?_
          refine wp_iadd rfl ?_
          have g13 := H.1
          replace H := H.2
          refine Wp.topI (y := ((50 * x1) + ((h 89 23) + 1))) (w32_I g13) ?_
          have g14 := H.1
          replace H := H.2
          refine wp_iaload rfl (kf_103 X.1) g14 ?_
          refine Wp.topI (y := (h 103 ((50 * x1) + ((h 89 23) + 1)))) (congrFun (upd2_ne (by decide)) _) ?_
          refine wp_goto (tn := 31) rfl rfl ?_
          refine wp_iret rfl rfl ?_
          show Wp X _ 90 5 [vr 89, vi x1, vi 1, vi 5, vu] [vi (h 103 ((50 * x1) + ((h 89 23) + 1)))] _ _
          refine wp_iconst rfl ?_
          refine wp_isub rfl ?_
          have g15 := H.1
          replace H := H.2
          refine Wp.topI (y := ((h 103 ((50 * x1) + ((h 89 23) + 1))) - 48)) (w32_I g15) ?_
          refine wp_istore (L2 := [vr 89, vi x1, vi 1, vi 5, vi ((h 103 ((50 * x1) + ((h 89 23) + 1))) - 48)]) rfl (Nat.le_of_ble_eq_true rfl) rfl ?_
          refine wp_iload rfl rfl ?_
          refine wp_i2l rfl ?_
          refine wp_iload rfl rfl ?_
          refine wp_i2l rfl ?_
          refine wp_iload rfl rfl ?_
          refine wp_i2l rfl ?_
          refine wp_call (k := 48) (ρ2 := 0) (L2 := [vl ((h 103 ((50 * x1) + ((h 89 23) + 1))) - 48), vu, vl 1, vu, vl 5, vu]) rfl rfl rfl (Nat.le_of_ble_eq_true rfl) (Nat.le_of_ble_eq_true rfl) (Nat.le_of_ble_eq_true rfl) (rcv_S rfl) rfl ?_
          refine wp_lload rfl rfl ?_
          refine wp_lload rfl rfl ?_
          refine wp_lcmp rfl ?_
          refine wp_iflt (tn := 17) rfl rfl (fun c16 => ?_) (fun c16 => ?_)
          · replace H := H.1 c16
            refine wp_iconst rfl ?_
            refine wp_zret rfl rfl (by decide) ?_
            show Wp X _ 90 20 [vr 89, vi x1, vi 1, vi 5, vi ((h 103 ((50 * x1) + ((h 89 23) + 1))) - 48)] [vi 0] _ _
            refine wp_ifneF (tn := 25) rfl rfl (by decide) ?_
            refine wp_iconst rfl ?_
            refine wp_iret rfl rfl ?_
            show Wp X _ 91 83 [vr 89, vi x1, vi (h 103 ((50 * x1) + (h 89 23))), vu, vu, vu] [vi (-1)] _ _
            refine wp_istore (L2 := [vr 89, vi x1, vi (h 103 ((50 * x1) + (h 89 23))), vi (-1), vu, vu]) rfl (Nat.le_of_ble_eq_true rfl) rfl ?_
            refine wp_iload rfl rfl ?_
            refine wp_istore (L2 := [vr 89, vi x1, vi (h 103 ((50 * x1) + (h 89 23))), vi (-1), vi (-1), vu]) rfl (Nat.le_of_ble_eq_true rfl) rfl ?_
            refine wp_iconst rfl ?_
            refine wp_istore (L2 := [vr 89, vi x1, vi (h 103 ((50 * x1) + (h 89 23))), vi (-1), vi (-1), vi 0]) rfl (Nat.le_of_ble_eq_true rfl) rfl ?_
            refine wp_iload rfl rfl ?_
            refine wp_ifltT (tn := 151) rfl rfl (by decide) ?_
            refine wp_iload rfl rfl ?_
            refine wp_ifltT (tn := 165) rfl rfl (by decide) ?_
            refine wp_iconst rfl ?_
            exact wp_zret rfl rfl (by decide) H
          · replace H := H.2 c16
            refine wp_lload rfl rfl ?_
            refine wp_lload rfl rfl ?_
            refine wp_lcmp rfl ?_
            refine wp_ifgt (tn := 17) rfl rfl (fun c17 => ?_) (fun c17 => ?_)
            · replace H := H.1 c17
              refine wp_iconst rfl ?_
              refine wp_zret rfl rfl (by decide) ?_
              show Wp X _ 90 20 [vr 89, vi x1, vi 1, vi 5, vi ((h 103 ((50 * x1) + ((h 89 23) + 1))) - 48)] [vi 0] _ _
              refine wp_ifneF (tn := 25) rfl rfl (by decide) ?_
              refine wp_iconst rfl ?_
              refine wp_iret rfl rfl ?_
              show Wp X _ 91 83 [vr 89, vi x1, vi (h 103 ((50 * x1) + (h 89 23))), vu, vu, vu] [vi (-1)] _ _
              refine wp_istore (L2 := [vr 89, vi x1, vi (h 103 ((50 * x1) + (h 89 23))), vi (-1), vu, vu]) rfl (Nat.le_of_ble_eq_true rfl) rfl ?_
              refine wp_iload rfl rfl ?_
              refine wp_istore (L2 := [vr 89, vi x1, vi (h 103 ((50 * x1) + (h 89 23))), vi (-1), vi (-1), vu]) rfl (Nat.le_of_ble_eq_true rfl) rfl ?_
              refine wp_iconst rfl ?_
              refine wp_istore (L2 := [vr 89, vi x1, vi (h 103 ((50 * x1) + (h 89 23))), vi (-1), vi (-1), vi 0]) rfl (Nat.le_of_ble_eq_true rfl) rfl ?_
              refine wp_iload rfl rfl ?_
              refine wp_ifltT (tn := 151) rfl rfl (by decide) ?_
              refine wp_iload rfl rfl ?_
              refine wp_ifltT (tn := 165) rfl rfl (by decide) ?_
              refine wp_iconst rfl ?_
              exact wp_zret rfl rfl (by decide) H
            · replace H := H.2 c17
              refine wp_iconst rfl ?_
              refine wp_goto (tn := 18) rfl rfl ?_
              refine wp_zret rfl rfl (by decide) ?_
              show Wp X _ 90 20 [vr 89, vi x1, vi 1, vi 5, vi ((h 103 ((50 * x1) + ((h 89 23) + 1))) - 48)] [vi 1] _ _
              refine wp_ifneT (tn := 25) rfl rfl (by decide) ?_
              refine wp_aload rfl rfl ?_
              refine wp_dupR rfl ?_
              refine wp_getI (j := 23) rfl (congrArg Prod.fst (kf_89 X.1)) rfl ?_
              refine Wp.topI (y := ((h 89 23) + 1)) upd2_s ?_
              refine wp_iconst rfl ?_
              refine wp_iadd rfl ?_
              have g18 := H.1
              replace H := H.2
              refine Wp.topI (y := (((h 89 23) + 1) + 1)) (w32_I g18) ?_
              refine wp_putI (j := 23) rfl (congrArg Prod.fst (kf_89 X.1)) rfl rfl rfl ?_
              refine wp_iload rfl rfl ?_
              refine wp_iret rfl rfl ?_
              show Wp X _ 91 83 [vr 89, vi x1, vi (h 103 ((50 * x1) + (h 89 23))), vu, vu, vu] [vi ((h 103 ((50 * x1) + ((h 89 23) + 1))) - 48)] _ _
              refine wp_istore (L2 := [vr 89, vi x1, vi (h 103 ((50 * x1) + (h 89 23))), vi ((h 103 ((50 * x1) + ((h 89 23) + 1))) - 48), vu, vu]) rfl (Nat.le_of_ble_eq_true rfl) rfl ?_
              refine wp_iload rfl rfl ?_
              refine wp_istore (L2 := [vr 89, vi x1, vi (h 103 ((50 * x1) + (h 89 23))), vi ((h 103 ((50 * x1) + ((h 89 23) + 1))) - 48), vi ((h 103 ((50 * x1) + ((h 89 23) + 1))) - 48), vu]) rfl (Nat.le_of_ble_eq_true rfl) rfl ?_
              refine wp_iconst rfl ?_
              refine wp_istore (L2 := [vr 89, vi x1, vi (h 103 ((50 * x1) + (h 89 23))), vi ((h 103 ((50 * x1) + ((h 89 23) + 1))) - 48), vi ((h 103 ((50 * x1) + ((h 89 23) + 1))) - 48), vi 0]) rfl (Nat.le_of_ble_eq_true rfl) rfl ?_
              refine wp_iload rfl rfl ?_
              refine wp_iflt (tn := 151) rfl rfl (fun c19 => ?_) (fun c19 => ?_)
              · replace H := H.1 c19
                refine wp_iload rfl rfl ?_
                refine wp_ifltT (tn := 165) rfl rfl c19 ?_
                refine wp_iconst rfl ?_
                exact wp_zret rfl rfl (by decide) H
              · replace H := H.2 c19
                refine wp_iload rfl rfl ?_
                refine wp_iconst rfl ?_
                refine wp_icneF (tn := 151) rfl rfl c7 ?_
                refine wp_aload rfl rfl ?_
                refine wp_iload rfl rfl ?_
                refine wp_iconst rfl ?_
                refine wp_call (k := 89) (ρ2 := 1) (L2 := [vr 89, vi x1, vi 47, vu]) rfl rfl rfl (Nat.le_of_ble_eq_true rfl) (Nat.le_of_ble_eq_true rfl) (Nat.le_of_ble_eq_true rfl) (rcv_V rfl (congrArg Prod.fst (kf_89 X.1))) rfl ?_
                refine wp_aload rfl rfl ?_
                refine wp_iload rfl rfl ?_
                refine wp_call (k := 88) (ρ2 := 0) (L2 := [vr 89, vi x1]) rfl rfl rfl (Nat.le_of_ble_eq_true rfl) (Nat.le_of_ble_eq_true rfl) (Nat.le_of_ble_eq_true rfl) (rcv_V rfl (congrArg Prod.fst (kf_89 X.1))) rfl ?_
                refine wp_aload rfl rfl ?_
                refine wp_getI (j := 23) rfl (congrArg Prod.fst (kf_89 X.1)) rfl ?_
                refine Wp.topI (y := (((h 89 23) + 1) + 1)) upd2_s ?_
                refine wp_aload rfl rfl ?_
                refine wp_getR (r := 103) rfl (congrArg Prod.fst (kf_89 X.1)) rfl ?_
                refine wp_iload rfl rfl ?_
                refine wp_iaload rfl (kf_104 X.1) ⟨g1.1, g1.2⟩ ?_
                refine Wp.topI (y := (h 104 x1)) (congrFun ((upd2_ne (by decide)).trans (upd2_ne (by decide))) _) ?_
                refine wp_icge (tn := 30) rfl rfl (fun c20 => ?_) (fun c20 => ?_)
                · replace H := H.1 c20
                  refine wp_iconst rfl ?_
                  refine wp_iret rfl rfl ?_
                  show Wp X _ 89 5 [vr 89, vi x1, vi 47, vu] [vi (-1)] _ _
                  refine wp_iload rfl rfl ?_
                  refine wp_icneT (tn := 13) rfl rfl (by decide) ?_
                  refine wp_iconst rfl ?_
                  refine wp_istore (L2 := [vr 89, vi x1, vi 47, vi 0]) rfl (Nat.le_of_ble_eq_true rfl) rfl ?_
                  refine wp_aload rfl rfl ?_
                  refine wp_dupR rfl ?_
                  refine wp_getI (j := 23) rfl (congrArg Prod.fst (kf_89 X.1)) rfl ?_
                  refine Wp.topI (y := (((h 89 23) + 1) + 1)) upd2_s ?_
                  refine wp_iload rfl rfl ?_
                  refine wp_ifeqT (tn := 28) rfl rfl (by decide) ?_
                  refine wp_iconst rfl ?_
                  refine wp_iadd rfl ?_
                  have g21 := H.1
                  replace H := H.2
                  refine Wp.topI (y := ((((h 89 23) + 1) + 1) + 0)) (w32_I g21) ?_
                  refine wp_putI (j := 23) rfl (congrArg Prod.fst (kf_89 X.1)) rfl rfl rfl ?_
                  refine wp_iload rfl rfl ?_
                  refine wp_zret rfl rfl (by decide) ?_
                  show Wp X _ 91 107 [vr 89, vi x1, vi (h 103 ((50 * x1) + (h 89 23))), vi ((h 103 ((50 * x1) + ((h 89 23) + 1))) - 48), vi ((h 103 ((50 * x1) + ((h 89 23) + 1))) - 48), vi 0] [vi 0] _ _
                  refine wp_ifeqT (tn := 120) rfl rfl (by decide) ?_
                  refine wp_iconst rfl ?_
                  refine wp_istore (L2 := [vr 89, vi x1, vi (h 103 ((50 * x1) + (h 89 23))), vi ((h 103 ((50 * x1) + ((h 89 23) + 1))) - 48), vi (-1), vi 0]) rfl (Nat.le_of_ble_eq_true rfl) rfl ?_
                  refine wp_iload rfl rfl ?_
                  refine wp_ifltT (tn := 148) rfl rfl (by decide) ?_
                  refine wp_iconst rfl ?_
                  refine wp_istore (L2 := [vr 89, vi x1, vi (h 103 ((50 * x1) + (h 89 23))), vi ((h 103 ((50 * x1) + ((h 89 23) + 1))) - 48), vi (-1), vi (-1)]) rfl (Nat.le_of_ble_eq_true rfl) rfl ?_
                  refine wp_iload rfl rfl ?_
                  refine wp_ifltF (tn := 165) rfl rfl c19 ?_
                  refine wp_iload rfl rfl ?_
                  refine wp_ifltT (tn := 165) rfl rfl (by decide) ?_
                  refine wp_iconst rfl ?_
                  exact wp_zret rfl rfl (by decide) H
                · replace H := H.2 c20
                  refine wp_aload rfl rfl ?_
                  refine wp_getR (r := 102) rfl (congrArg Prod.fst (kf_89 X.1)) rfl ?_
                  refine wp_iconst rfl ?_
                  refine wp_iload rfl rfl ?_
                  refine wp_imul rfl ?_
                  refine Wp.topI (y := (50 * x1)) (w32_I (by clear H; unfold R32; omega)) ?_
                  refine wp_aload rfl rfl ?_
                  refine wp_getI (j := 23) rfl (congrArg Prod.fst (kf_89 X.1)) rfl ?_
                  refine Wp.topI (y := (((h 89 23) + 1) + 1)) upd2_s ?_
                  refine wp_iadd rfl ?_
                  have g22 := H.1
                  replace H := H.2
                  refine Wp.topI (y := ((50 * x1) + (((h 89 23) + 1) + 1))) (w32_I g22) ?_
                  have g23 := H.1
                  replace H := H.2
                  refine wp_iaload rfl (kf_103 X.1) g23 ?_
                  refine Wp.topI (y := (h 103 ((50 * x1) + (((h 89 23) + 1) + 1)))) (congrFun ((upd2_ne (by decide)).trans (upd2_ne (by decide))) _) ?_
                  refine wp_goto (tn := 31) rfl rfl ?_
                  refine wp_iret rfl rfl ?_
                  show Wp X _ 89 5 [vr 89, vi x1, vi 47, vu] [vi (h 103 ((50 * x1) + (((h 89 23) + 1) + 1)))] _ _
                  refine wp_iload rfl rfl ?_
                  refine wp_icne (tn := 13) rfl rfl (fun c24 => ?_) (fun c24 => ?_)
                  · replace H := H.1 c24
                    refine wp_iconst rfl ?_
                    refine wp_istore (L2 := [vr 89, vi x1, vi 47, vi 0]) rfl (Nat.le_of_ble_eq_true rfl) rfl ?_
                    refine wp_aload rfl rfl ?_
                    refine wp_dupR rfl ?_
                    refine wp_getI (j := 23) rfl (congrArg Prod.fst (kf_89 X.1)) rfl ?_
                    refine Wp.topI (y := (((h 89 23) + 1) + 1)) upd2_s ?_
                    refine wp_iload rfl rfl ?_
                    refine wp_ifeqT (tn := 28) rfl rfl (by decide) ?_
                    refine wp_iconst rfl ?_
                    refine wp_iadd rfl ?_
                    have g25 := H.1
                    replace H := H.2
                    refine Wp.topI (y := ((((h 89 23) + 1) + 1) + 0)) (w32_I g25) ?_
                    refine wp_putI (j := 23) rfl (congrArg Prod.fst (kf_89 X.1)) rfl rfl rfl ?_
                    refine wp_iload rfl rfl ?_
                    refine wp_zret rfl rfl (by decide) ?_
                    show Wp X _ 91 107 [vr 89, vi x1, vi (h 103 ((50 * x1) + (h 89 23))), vi ((h 103 ((50 * x1) + ((h 89 23) + 1))) - 48), vi ((h 103 ((50 * x1) + ((h 89 23) + 1))) - 48), vi 0] [vi 0] _ _
                    refine wp_ifeqT (tn := 120) rfl rfl (by decide) ?_
                    refine wp_iconst rfl ?_
                    refine wp_istore (L2 := [vr 89, vi x1, vi (h 103 ((50 * x1) + (h 89 23))), vi ((h 103 ((50 * x1) + ((h 89 23) + 1))) - 48), vi (-1), vi 0]) rfl (Nat.le_of_ble_eq_true rfl) rfl ?_
                    refine wp_iload rfl rfl ?_
                    refine wp_ifltT (tn := 148) rfl rfl (by decide) ?_
                    refine wp_iconst rfl ?_
                    refine wp_istore (L2 := [vr 89, vi x1, vi (h 103 ((50 * x1) + (h 89 23))), vi ((h 103 ((50 * x1) + ((h 89 23) + 1))) - 48), vi (-1), vi (-1)]) rfl (Nat.le_of_ble_eq_true rfl) rfl ?_
                    refine wp_iload rfl rfl ?_
                    refine wp_ifltF (tn := 165) rfl rfl c19 ?_
                    refine wp_iload rfl rfl ?_
                    refine wp_ifltT (tn := 165) rfl rfl (by decide) ?_
                    refine wp_iconst rfl ?_
                    exact wp_zret rfl rfl (by decide) H
                  · replace H := H.2 c24
                    refine wp_iconst rfl ?_
                    refine wp_goto (tn := 14) rfl rfl ?_
                    refine wp_istore (L2 := [vr 89, vi x1, vi 47, vi 1]) rfl (Nat.le_of_ble_eq_true rfl) rfl ?_
                    refine wp_aload rfl rfl ?_
                    refine wp_dupR rfl ?_
                    refine wp_getI (j := 23) rfl (congrArg Prod.fst (kf_89 X.1)) rfl ?_
                    refine Wp.topI (y := (((h 89 23) + 1) + 1)) upd2_s ?_
                    refine wp_iload rfl rfl ?_
                    refine wp_ifeqF (tn := 28) rfl rfl (by decide) ?_
                    refine wp_iconst rfl ?_
                    refine wp_goto (tn := 29) rfl rfl ?_
                    refine wp_iadd rfl ?_
                    have g26 := H.1
                    replace H := H.2
                    refine Wp.topI (y := ((((h 89 23) + 1) + 1) + 1)) (w32_I g26) ?_
                    refine wp_putI (j := 23) rfl (congrArg Prod.fst (kf_89 X.1)) rfl rfl rfl ?_
                    refine wp_iload rfl rfl ?_
                    refine wp_zret rfl rfl (by decide) ?_
                    show Wp X _ 91 107 [vr 89, vi x1, vi (h 103 ((50 * x1) + (h 89 23))), vi ((h 103 ((50 * x1) + ((h 89 23) + 1))) - 48), vi ((h 103 ((50 * x1) + ((h 89 23) + 1))) - 48), vi 0] [vi 1] _ _
                    refine wp_ifeqF (tn := 120) rfl rfl (by decide) ?_
                    refine wp_aload rfl rfl ?_
                    refine wp_iload rfl rfl ?_
                    refine wp_iload rfl rfl ?_
                    refine wp_iconst rfl ?_
                    refine wp_call (k := 90) (ρ2 := 1) (L2 := [vr 89, vi x1, vi ((h 103 ((50 * x1) + ((h 89 23) + 1))) - 48), vi 5, vu]) rfl rfl rfl (Nat.le_of_ble_eq_true rfl) (Nat.le_of_ble_eq_true rfl) (Nat.le_of_ble_eq_true rfl) (rcv_V rfl (congrArg Prod.fst (kf_89 X.1))) rfl ?_
                    refine wp_aload rfl rfl ?_
                    refine wp_iload rfl rfl ?_
                    refine wp_call (k := 88) (ρ2 := 0) (L2 := [vr 89, vi x1]) rfl rfl rfl (Nat.le_of_ble_eq_true rfl) (Nat.le_of_ble_eq_true rfl) (Nat.le_of_ble_eq_true rfl) (rcv_V rfl (congrArg Prod.fst (kf_89 X.1))) rfl ?_
                    refine wp_aload rfl rfl ?_
                    refine wp_getI (j := 23) rfl (congrArg Prod.fst (kf_89 X.1)) rfl ?_
                    refine Wp.topI (y := ((((h 89 23) + 1) + 1) + 1)) upd2_s ?_
                    refine wp_aload rfl rfl ?_
                    refine wp_getR (r := 103) rfl (congrArg Prod.fst (kf_89 X.1)) rfl ?_
                    refine wp_iload rfl rfl ?_
                    refine wp_iaload rfl (kf_104 X.1) ⟨g1.1, g1.2⟩ ?_
                    refine Wp.topI (y := (h 104 x1)) (congrFun ((upd2_ne (by decide)).trans ((upd2_ne (by decide)).trans (upd2_ne (by decide)))) _) ?_
                    refine wp_icge (tn := 30) rfl rfl (fun c27 => ?_) (fun c27 => ?_)
                    · replace H := H.1 c27
                      refine wp_iconst rfl ?_
                      refine wp_iret rfl rfl ?_
                      show Wp X _ 90 5 [vr 89, vi x1, vi ((h 103 ((50 * x1) + ((h 89 23) + 1))) - 48), vi 5, vu] [vi (-1)] _ _
                      refine wp_iconst rfl ?_
                      refine wp_isub rfl ?_
                      refine Wp.topI (y := (-49)) (by decide) ?_
                      refine wp_istore (L2 := [vr 89, vi x1, vi ((h 103 ((50 * x1) + ((h 89 23) + 1))) - 48), vi 5, vi (-49)]) rfl (Nat.le_of_ble_eq_true rfl) rfl ?_
                      refine wp_iload rfl rfl ?_
                      refine wp_i2l rfl ?_
                      refine wp_iload rfl rfl ?_
                      refine wp_i2l rfl ?_
                      refine wp_iload rfl rfl ?_
                      refine wp_i2l rfl ?_
                      refine wp_call (k := 48) (ρ2 := 0) (L2 := [vl (-49), vu, vl ((h 103 ((50 * x1) + ((h 89 23) + 1))) - 48), vu, vl 5, vu]) rfl rfl rfl (Nat.le_of_ble_eq_true rfl) (Nat.le_of_ble_eq_true rfl) (Nat.le_of_ble_eq_true rfl) (rcv_S rfl) rfl ?_
                      refine wp_lload rfl rfl ?_
                      refine wp_lload rfl rfl ?_
                      refine wp_lcmp rfl ?_
                      refine wp_iflt (tn := 17) rfl rfl (fun c28 => ?_) (fun c28 => ?_)
                      · replace H := H.1 c28
                        refine wp_iconst rfl ?_
                        refine wp_zret rfl rfl (by decide) ?_
                        show Wp X _ 90 20 [vr 89, vi x1, vi ((h 103 ((50 * x1) + ((h 89 23) + 1))) - 48), vi 5, vi (-49)] [vi 0] _ _
                        refine wp_ifneF (tn := 25) rfl rfl (by decide) ?_
                        refine wp_iconst rfl ?_
                        refine wp_iret rfl rfl ?_
                        show Wp X _ 91 117 [vr 89, vi x1, vi (h 103 ((50 * x1) + (h 89 23))), vi ((h 103 ((50 * x1) + ((h 89 23) + 1))) - 48), vi ((h 103 ((50 * x1) + ((h 89 23) + 1))) - 48), vi 0] [vi (-1)] _ _
                        refine wp_goto (tn := 121) rfl rfl ?_
                        refine wp_istore (L2 := [vr 89, vi x1, vi (h 103 ((50 * x1) + (h 89 23))), vi ((h 103 ((50 * x1) + ((h 89 23) + 1))) - 48), vi (-1), vi 0]) rfl (Nat.le_of_ble_eq_true rfl) rfl ?_
                        refine wp_iload rfl rfl ?_
                        refine wp_ifltT (tn := 148) rfl rfl (by decide) ?_
                        refine wp_iconst rfl ?_
                        refine wp_istore (L2 := [vr 89, vi x1, vi (h 103 ((50 * x1) + (h 89 23))), vi ((h 103 ((50 * x1) + ((h 89 23) + 1))) - 48), vi (-1), vi (-1)]) rfl (Nat.le_of_ble_eq_true rfl) rfl ?_
                        refine wp_iload rfl rfl ?_
                        refine wp_ifltF (tn := 165) rfl rfl c19 ?_
                        refine wp_iload rfl rfl ?_
                        refine wp_ifltT (tn := 165) rfl rfl (by decide) ?_
                        refine wp_iconst rfl ?_
                        exact wp_zret rfl rfl (by decide) H
                      · replace H := H.2 c28
                        refine wp_lload rfl rfl ?_
                        refine wp_lload rfl rfl ?_
                        refine wp_lcmp rfl ?_
                        refine wp_ifgt (tn := 17) rfl rfl (fun c29 => ?_) (fun c29 => ?_)
                        · replace H := H.1 c29
                          refine wp_iconst rfl ?_
                          refine wp_zret rfl rfl (by decide) ?_
                          show Wp X _ 90 20 [vr 89, vi x1, vi ((h 103 ((50 * x1) + ((h 89 23) + 1))) - 48), vi 5, vi (-49)] [vi 0] _ _
                          refine wp_ifneF (tn := 25) rfl rfl (by decide) ?_
                          refine wp_iconst rfl ?_
                          refine wp_iret rfl rfl ?_
                          show Wp X _ 91 117 [vr 89, vi x1, vi (h 103 ((50 * x1) + (h 89 23))), vi ((h 103 ((50 * x1) + ((h 89 23) + 1))) - 48), vi ((h 103 ((50 * x1) + ((h 89 23) + 1))) - 48), vi 0] [vi (-1)] _ _
                          refine wp_goto (tn := 121) rfl rfl ?_
                          refine wp_istore (L2 := [vr 89, vi x1, vi (h 103 ((50 * x1) + (h 89 23))), vi ((h 103 ((50 * x1) + ((h 89 23) + 1))) - 48), vi (-1), vi 0]) rfl (Nat.le_of_ble_eq_true rfl) rfl ?_
                          refine wp_iload rfl rfl ?_
                          refine wp_ifltT (tn := 148) rfl rfl (by decide) ?_
                          refine wp_iconst rfl ?_
                          refine wp_istore (L2 := [vr 89, vi x1, vi (h 103 ((50 * x1) + (h 89 23))), vi ((h 103 ((50 * x1) + ((h 89 23) + 1))) - 48), vi (-1), vi (-1)]) rfl (Nat.le_of_ble_eq_true rfl) rfl ?_
                          refine wp_iload rfl rfl ?_
                          refine wp_ifltF (tn := 165) rfl rfl c19 ?_
                          refine wp_iload rfl rfl ?_
                          refine wp_ifltT (tn := 165) rfl rfl (by decide) ?_
                          refine wp_iconst rfl ?_
                          exact wp_zret rfl rfl (by decide) H
                        · replace H := H.2 c29
                          refine wp_iconst rfl ?_
                          refine wp_goto (tn := 18) rfl rfl ?_
                          refine wp_zret rfl rfl (by decide) ?_
                          show Wp X _ 90 20 [vr 89, vi x1, vi ((h 103 ((50 * x1) + ((h 89 23) + 1))) - 48), vi 5, vi (-49)] [vi 1] _ _
                          refine wp_ifneT (tn := 25) rfl rfl (by decide) ?_
                          refine wp_aload rfl rfl ?_
                          refine wp_dupR rfl ?_
                          refine wp_getI (j := 23) rfl (congrArg Prod.fst (kf_89 X.1)) rfl ?_
                          refine Wp.topI (y := ((((h 89 23) + 1) + 1) + 1)) upd2_s ?_
                          refine wp_iconst rfl ?_
                          refine wp_iadd rfl ?_
                          have g30 := H.1
                          replace H := H.2
                          refine Wp.topI (y := (((((h 89 23) + 1) + 1) + 1) + 1)) (w32_I g30) ?_
                          refine wp_putI (j := 23) rfl (congrArg Prod.fst (kf_89 X.1)) rfl rfl rfl ?_
                          refine wp_iload rfl rfl ?_
                          refine wp_iret rfl rfl ?_
                          show Wp X _ 91 117 [vr 89, vi x1, vi (h 103 ((50 * x1) + (h 89 23))), vi ((h 103 ((50 * x1) + ((h 89 23) + 1))) - 48), vi ((h 103 ((50 * x1) + ((h 89 23) + 1))) - 48), vi 0] [vi (-49)] _ _
                          refine wp_goto (tn := 121) rfl rfl ?_
                          refine wp_istore (L2 := [vr 89, vi x1, vi (h 103 ((50 * x1) + (h 89 23))), vi ((h 103 ((50 * x1) + ((h 89 23) + 1))) - 48), vi (-49), vi 0]) rfl (Nat.le_of_ble_eq_true rfl) rfl ?_
                          refine wp_iload rfl rfl ?_
                          refine wp_ifltT (tn := 148) rfl rfl (by decide) ?_
                          refine wp_iconst rfl ?_
                          refine wp_istore (L2 := [vr 89, vi x1, vi (h 103 ((50 * x1) + (h 89 23))), vi ((h 103 ((50 * x1) + ((h 89 23) + 1))) - 48), vi (-49), vi (-1)]) rfl (Nat.le_of_ble_eq_true rfl) rfl ?_
                          refine wp_iload rfl rfl ?_
                          refine wp_ifltF (tn := 165) rfl rfl c19 ?_
                          refine wp_iload rfl rfl ?_
                          refine wp_ifltT (tn := 165) rfl rfl (by decide) ?_
                          refine wp_iconst rfl ?_
                          exact wp_zret rfl rfl (by decide) H
                    · replace H := H.2 c27
                      refine wp_aload rfl rfl ?_
                      refine wp_getR (r := 102) rfl (congrArg Prod.fst (kf_89 X.1)) rfl ?_
                      refine wp_iconst rfl ?_
                      refine wp_iload rfl rfl ?_
                      refine wp_imul rfl ?_
                      refine Wp.topI (y := (50 * x1)) (w32_I (by clear H; unfold R32; omega)) ?_
                      refine wp_aload rfl rfl ?_
                      refine wp_getI (j := 23) rfl (congrArg Prod.fst (kf_89 X.1)) rfl ?_
                      refine Wp.topI (y := ((((h 89 23) + 1) + 1) + 1)) upd2_s ?_
                      refine wp_iadd rfl ?_
                      have g31 := H.1
                      replace H := H.2
                      refine Wp.topI (y := ((50 * x1) + ((((h 89 23) + 1) + 1) + 1))) (w32_I g31) ?_
                      have g32 := H.1
                      replace H := H.2
                      refine wp_iaload rfl (kf_103 X.1) g32 ?_
                      refine Wp.topI (y := (h 103 ((50 * x1) + ((((h 89 23) + 1) + 1) + 1)))) (congrFun ((upd2_ne (by decide)).trans ((upd2_ne (by decide)).trans (upd2_ne (by decide)))) _) ?_
                      refine wp_goto (tn := 31) rfl rfl ?_
                      refine wp_iret rfl rfl ?_
                      show Wp X _ 90 5 [vr 89, vi x1, vi ((h 103 ((50 * x1) + ((h 89 23) + 1))) - 48), vi 5, vu] [vi (h 103 ((50 * x1) + ((((h 89 23) + 1) + 1) + 1)))] _ _
                      refine wp_iconst rfl ?_
                      refine wp_isub rfl ?_
                      have g33 := H.1
                      replace H := H.2
                      refine Wp.topI (y := ((h 103 ((50 * x1) + ((((h 89 23) + 1) + 1) + 1))) - 48)) (w32_I g33) ?_
                      refine wp_istore (L2 := [vr 89, vi x1, vi ((h 103 ((50 * x1) + ((h 89 23) + 1))) - 48), vi 5, vi ((h 103 ((50 * x1) + ((((h 89 23) + 1) + 1) + 1))) - 48)]) rfl (Nat.le_of_ble_eq_true rfl) rfl ?_
                      refine wp_iload rfl rfl ?_
                      refine wp_i2l rfl ?_
                      refine wp_iload rfl rfl ?_
                      refine wp_i2l rfl ?_
                      refine wp_iload rfl rfl ?_
                      refine wp_i2l rfl ?_
                      refine wp_call (k := 48) (ρ2 := 0) (L2 := [vl ((h 103 ((50 * x1) + ((((h 89 23) + 1) + 1) + 1))) - 48), vu, vl ((h 103 ((50 * x1) + ((h 89 23) + 1))) - 48), vu, vl 5, vu]) rfl rfl rfl (Nat.le_of_ble_eq_true rfl) (Nat.le_of_ble_eq_true rfl) (Nat.le_of_ble_eq_true rfl) (rcv_S rfl) rfl ?_
                      refine wp_lload rfl rfl ?_
                      refine wp_lload rfl rfl ?_
                      refine wp_lcmp rfl ?_
                      refine wp_iflt (tn := 17) rfl rfl (fun c34 => ?_) (fun c34 => ?_)
                      · replace H := H.1 c34
                        refine wp_iconst rfl ?_
                        refine wp_zret rfl rfl (by decide) ?_
                        show Wp X _ 90 20 [vr 89, vi x1, vi ((h 103 ((50 * x1) + ((h 89 23) + 1))) - 48), vi 5, vi ((h 103 ((50 * x1) + ((((h 89 23) + 1) + 1) + 1))) - 48)] [vi 0] _ _
                        refine wp_ifneF (tn := 25) rfl rfl (by decide) ?_
                        refine wp_iconst rfl ?_
                        refine wp_iret rfl rfl ?_
                        show Wp X _ 91 117 [vr 89, vi x1, vi (h 103 ((50 * x1) + (h 89 23))), vi ((h 103 ((50 * x1) + ((h 89 23) + 1))) - 48), vi ((h 103 ((50 * x1) + ((h 89 23) + 1))) - 48), vi 0] [vi (-1)] _ _
                        refine wp_goto (tn := 121) rfl rfl ?_
                        refine wp_istore (L2 := [vr 89, vi x1, vi (h 103 ((50 * x1) + (h 89 23))), vi ((h 103 ((50 * x1) + ((h 89 23) + 1))) - 48), vi (-1), vi 0]) rfl (Nat.le_of_ble_eq_true rfl) rfl ?_
                        refine wp_iload rfl rfl ?_
                        refine wp_ifltT (tn := 148) rfl rfl (by decide) ?_
                        refine wp_iconst rfl ?_
                        refine wp_istore (L2 := [vr 89, vi x1, vi (h 103 ((50 * x1) + (h 89 23))), vi ((h 103 ((50 * x1) + ((h 89 23) + 1))) - 48), vi (-1), vi (-1)]) rfl (Nat.le_of_ble_eq_true rfl) rfl ?_
                        refine wp_iload rfl rfl ?_
                        refine wp_ifltF (tn := 165) rfl rfl c19 ?_
                        refine wp_iload rfl rfl ?_
                        refine wp_ifltT (tn := 165) rfl rfl (by decide) ?_
                        refine wp_iconst rfl ?_
                        exact wp_zret rfl rfl (by decide) H
                      · replace H := H.2 c34
                        refine wp_lload rfl rfl ?_
                        refine wp_lload rfl rfl ?_
                        refine wp_lcmp rfl ?_
                        refine wp_ifgt (tn := 17) rfl rfl (fun c35 => ?_) (fun c35 => ?_)
                        · replace H := H.1 c35
                          refine wp_iconst rfl ?_
                          refine wp_zret rfl rfl (by decide) ?_
                          show Wp X _ 90 20 [vr 89, vi x1, vi ((h 103 ((50 * x1) + ((h 89 23) + 1))) - 48), vi 5, vi ((h 103 ((50 * x1) + ((((h 89 23) + 1) + 1) + 1))) - 48)] [vi 0] _ _
                          refine wp_ifneF (tn := 25) rfl rfl (by decide) ?_
                          refine wp_iconst rfl ?_
                          refine wp_iret rfl rfl ?_
                          show Wp X _ 91 117 [vr 89, vi x1, vi (h 103 ((50 * x1) + (h 89 23))), vi ((h 103 ((50 * x1) + ((h 89 23) + 1))) - 48), vi ((h 103 ((50 * x1) + ((h 89 23) + 1))) - 48), vi 0] [vi (-1)] _ _
                          refine wp_goto (tn := 121) rfl rfl ?_
                          refine wp_istore (L2 := [vr 89, vi x1, vi (h 103 ((50 * x1) + (h 89 23))), vi ((h 103 ((50 * x1) + ((h 89 23) + 1))) - 48), vi (-1), vi 0]) rfl (Nat.le_of_ble_eq_true rfl) rfl ?_
                          refine wp_iload rfl rfl ?_
                          refine wp_ifltT (tn := 148) rfl rfl (by decide) ?_
                          refine wp_iconst rfl ?_
                          refine wp_istore (L2 := [vr 89, vi x1, vi (h 103 ((50 * x1) + (h 89 23))), vi ((h 103 ((50 * x1) + ((h 89 23) + 1))) - 48), vi (-1), vi (-1)]) rfl (Nat.le_of_ble_eq_true rfl) rfl ?_
                          refine wp_iload rfl rfl ?_
                          refine wp_ifltF (tn := 165) rfl rfl c19 ?_
                          refine wp_iload rfl rfl ?_
                          refine wp_ifltT (tn := 165) rfl rfl (by decide) ?_
                          refine wp_iconst rfl ?_
                          exact wp_zret rfl rfl (by decide) H
                        · replace H := H.2 c35
                          refine wp_iconst rfl ?_
                          refine wp_goto (tn := 18) rfl rfl ?_
                          refine wp_zret rfl rfl (by decide) ?_
                          show Wp X _ 90 20 [vr 89, vi x1, vi ((h 103 ((50 * x1) + ((h 89 23) + 1))) - 48), vi 5, vi ((h 103 ((50 * x1) + ((((h 89 23) + 1) + 1) + 1))) - 48)] [vi 1] _ _
                          refine wp_ifneT (tn := 25) rfl rfl (by decide) ?_
                          refine wp_aload rfl rfl ?_
                          refine wp_dupR rfl ?_
                          refine wp_getI (j := 23) rfl (congrArg Prod.fst (kf_89 X.1)) rfl ?_
                          refine Wp.topI (y := ((((h 89 23) + 1) + 1) + 1)) upd2_s ?_
                          refine wp_iconst rfl ?_
                          refine wp_iadd rfl ?_
                          have g36 := H.1
                          replace H := H.2
                          refine Wp.topI (y := (((((h 89 23) + 1) + 1) + 1) + 1)) (w32_I g36) ?_
                          refine wp_putI (j := 23) rfl (congrArg Prod.fst (kf_89 X.1)) rfl rfl rfl ?_
                          refine wp_iload rfl rfl ?_
                          refine wp_iret rfl rfl ?_
                          show Wp X _ 91 117 [vr 89, vi x1, vi (h 103 ((50 * x1) + (h 89 23))), vi ((h 103 ((50 * x1) + ((h 89 23) + 1))) - 48), vi ((h 103 ((50 * x1) + ((h 89 23) + 1))) - 48), vi 0] [vi ((h 103 ((50 * x1) + ((((h 89 23) + 1) + 1) + 1))) - 48)] _ _
                          refine wp_goto (tn := 121) rfl rfl ?_
                          refine wp_istore (L2 := [vr 89, vi x1, vi (h 103 ((50 * x1) + (h 89 23))), vi ((h 103 ((50 * x1) + ((h 89 23) + 1))) - 48), vi ((h 103 ((50 * x1) + ((((h 89 23) + 1) + 1) + 1))) - 48), vi 0]) rfl (Nat.le_of_ble_eq_true rfl) rfl ?_
                          refine wp_iload rfl rfl ?_
                          refine wp_iflt (tn := 148) rfl rfl (fun c37 => ?_) (fun c37 => ?_)
                          · replace H := H.1 c37
                            refine wp_iconst rfl ?_
                            refine wp_istore (L2 := [vr 89, vi x1, vi (h 103 ((50 * x1) + (h 89 23))), vi ((h 103 ((50 * x1) + ((h 89 23) + 1))) - 48), vi ((h 103 ((50 * x1) + ((((h 89 23) + 1) + 1) + 1))) - 48), vi (-1)]) rfl (Nat.le_of_ble_eq_true rfl) rfl ?_
                            refine wp_iload rfl rfl ?_
                            refine wp_ifltF (tn := 165) rfl rfl c19 ?_
                            refine wp_iload rfl rfl ?_
                            refine wp_ifltT (tn := 165) rfl rfl c37 ?_
                            refine wp_iconst rfl ?_
                            exact wp_zret rfl rfl (by decide) H
                          · replace H := H.2 c37
                            refine wp_aload rfl rfl ?_
                            refine wp_iload rfl rfl ?_
                            refine wp_iconst rfl ?_
                            refine wp_call (k := 89) (ρ2 := 1) (L2 := [vr 89, vi x1, vi 62, vu]) rfl rfl rfl (Nat.le_of_ble_eq_true rfl) (Nat.le_of_ble_eq_true rfl) (Nat.le_of_ble_eq_true rfl) (rcv_V rfl (congrArg Prod.fst (kf_89 X.1))) rfl ?_
                            refine wp_aload rfl rfl ?_
                            refine wp_iload rfl rfl ?_
                            refine wp_call (k := 88) (ρ2 := 0) (L2 := [vr 89, vi x1]) rfl rfl rfl (Nat.le_of_ble_eq_true rfl) (Nat.le_of_ble_eq_true rfl) (Nat.le_of_ble_eq_true rfl) (rcv_V rfl (congrArg Prod.fst (kf_89 X.1))) rfl ?_
                            refine wp_aload rfl rfl ?_
                            refine wp_getI (j := 23) rfl (congrArg Prod.fst (kf_89 X.1)) rfl ?_
                            refine Wp.topI (y := (((((h 89 23) + 1) + 1) + 1) + 1)) upd2_s ?_
                            refine wp_aload rfl rfl ?_
                            refine wp_getR (r := 103) rfl (congrArg Prod.fst (kf_89 X.1)) rfl ?_
                            refine wp_iload rfl rfl ?_
                            refine wp_iaload rfl (kf_104 X.1) ⟨g1.1, g1.2⟩ ?_
                            refine Wp.topI (y := (h 104 x1)) (congrFun ((upd2_ne (by decide)).trans ((upd2_ne (by decide)).trans ((upd2_ne (by decide)).trans (upd2_ne (by decide))))) _) ?_
                            refine wp_icge (tn := 30) rfl rfl (fun c38 => ?_) (fun c38 => ?_)
                            · replace H := H.1 c38
                              refine wp_iconst rfl ?_
                              refine wp_iret rfl rfl ?_
                              show Wp X _ 89 5 [vr 89, vi x1, vi 62, vu] [vi (-1)] _ _
                              refine wp_iload rfl rfl ?_
                              refine wp_icneT (tn := 13) rfl rfl (by decide) ?_
                              refine wp_iconst rfl ?_
                              refine wp_istore (L2 := [vr 89, vi x1, vi 62, vi 0]) rfl (Nat.le_of_ble_eq_true rfl) rfl ?_
                              refine wp_aload rfl rfl ?_
                              refine wp_dupR rfl ?_
                              refine wp_getI (j := 23) rfl (congrArg Prod.fst (kf_89 X.1)) rfl ?_
                              refine Wp.topI (y := (((((h 89 23) + 1) + 1) + 1) + 1)) upd2_s ?_
                              refine wp_iload rfl rfl ?_
                              refine wp_ifeqT (tn := 28) rfl rfl (by decide) ?_
                              refine wp_iconst rfl ?_
                              refine wp_iadd rfl ?_
                              have g39 := H.1
                              replace H := H.2
                              refine Wp.topI (y := ((((((h 89 23) + 1) + 1) + 1) + 1) + 0)) (w32_I g39) ?_
                              refine wp_putI (j := 23) rfl (congrArg Prod.fst (kf_89 X.1)) rfl rfl rfl ?_
                              refine wp_iload rfl rfl ?_
                              refine wp_zret rfl rfl (by decide) ?_
                              show Wp X _ 91 135 [vr 89, vi x1, vi (h 103 ((50 * x1) + (h 89 23))), vi ((h 103 ((50 * x1) + ((h 89 23) + 1))) - 48), vi ((h 103 ((50 * x1) + ((((h 89 23) + 1) + 1) + 1))) - 48), vi 0] [vi 0] _ _
                              refine wp_ifeqT (tn := 148) rfl rfl (by decide) ?_
                              refine wp_iconst rfl ?_
                              refine wp_istore (L2 := [vr 89, vi x1, vi (h 103 ((50 * x1) + (h 89 23))), vi ((h 103 ((50 * x1) + ((h 89 23) + 1))) - 48), vi ((h 103 ((50 * x1) + ((((h 89 23) + 1) + 1) + 1))) - 48), vi (-1)]) rfl (Nat.le_of_ble_eq_true rfl) rfl ?_
                              refine wp_iload rfl rfl ?_
                              refine wp_ifltF (tn := 165) rfl rfl c19 ?_
                              refine wp_iload rfl rfl ?_
                              refine wp_ifltF (tn := 165) rfl rfl c37 ?_
                              refine wp_iload rfl rfl ?_
                              refine wp_ifgeF (tn := 167) rfl rfl (by decide) ?_
                              refine wp_iconst rfl ?_
                              exact wp_zret rfl rfl (by decide) H
                            · replace H := H.2 c38
                              refine wp_aload rfl rfl ?_
                              refine wp_getR (r := 102) rfl (congrArg Prod.fst (kf_89 X.1)) rfl ?_
                              refine wp_iconst rfl ?_
                              refine wp_iload rfl rfl ?_
                              refine wp_imul rfl ?_
                              refine Wp.topI (y := (50 * x1)) (w32_I (by clear H; unfold R32; omega)) ?_
                              refine wp_aload rfl rfl ?_
                              refine wp_getI (j := 23) rfl (congrArg Prod.fst (kf_89 X.1)) rfl ?_
                              refine Wp.topI (y := (((((h 89 23) + 1) + 1) + 1) + 1)) upd2_s ?_
                              refine wp_iadd rfl ?_
                              have g40 := H.1
                              replace H := H.2
                              refine Wp.topI (y := ((50 * x1) + (((((h 89 23) + 1) + 1) + 1) + 1))) (w32_I g40) ?_
                              have g41 := H.1
                              replace H := H.2
                              refine wp_iaload rfl (kf_103 X.1) g41 ?_
                              refine Wp.topI (y := (h 103 ((50 * x1) + (((((h 89 23) + 1) + 1) + 1) + 1)))) (congrFun ((upd2_ne (by decide)).trans ((upd2_ne (by decide)).trans ((upd2_ne (by decide)).trans (upd2_ne (by decide))))) _) ?_
                              refine wp_goto (tn := 31) rfl rfl ?_
                              refine wp_iret rfl rfl ?_
                              show Wp X _ 89 5 [vr 89, vi x1, vi 62, vu] [vi (h 103 ((50 * x1) + (((((h 89 23) + 1) + 1) + 1) + 1)))] _ _
                              refine wp_iload rfl rfl ?_
                              refine wp_icne (tn := 13) rfl rfl (fun c42 => ?_) (fun c42 => ?_)
                              · replace H := H.1 c42
                                refine wp_iconst rfl ?_
                                refine wp_istore (L2 := [vr 89, vi x1, vi 62, vi 0]) rfl (Nat.le_of_ble_eq_true rfl) rfl ?_
                                refine wp_aload rfl rfl ?_
                                refine wp_dupR rfl ?_
                                refine wp_getI (j := 23) rfl (congrArg Prod.fst (kf_89 X.1)) rfl ?_
                                refine Wp.topI (y := (((((h 89 23) + 1) + 1) + 1) + 1)) upd2_s ?_
                                refine wp_iload rfl rfl ?_
                                refine wp_ifeqT (tn := 28) rfl rfl (by decide) ?_
                                refine wp_iconst rfl ?_
                                refine wp_iadd rfl ?_
                                have g43 := H.1
                                replace H := H.2
                                refine Wp.topI (y := ((((((h 89 23) + 1) + 1) + 1) + 1) + 0)) (w32_I g43) ?_
                                refine wp_putI (j := 23) rfl (congrArg Prod.fst (kf_89 X.1)) rfl rfl rfl ?_
                                refine wp_iload rfl rfl ?_
                                refine wp_zret rfl rfl (by decide) ?_
                                show Wp X _ 91 135 [vr 89, vi x1, vi (h 103 ((50 * x1) + (h 89 23))), vi ((h 103 ((50 * x1) + ((h 89 23) + 1))) - 48), vi ((h 103 ((50 * x1) + ((((h 89 23) + 1) + 1) + 1))) - 48), vi 0] [vi 0] _ _
                                refine wp_ifeqT (tn := 148) rfl rfl (by decide) ?_
                                refine wp_iconst rfl ?_
                                refine wp_istore (L2 := [vr 89, vi x1, vi (h 103 ((50 * x1) + (h 89 23))), vi ((h 103 ((50 * x1) + ((h 89 23) + 1))) - 48), vi ((h 103 ((50 * x1) + ((((h 89 23) + 1) + 1) + 1))) - 48), vi (-1)]) rfl (Nat.le_of_ble_eq_true rfl) rfl ?_
                                refine wp_iload rfl rfl ?_
                                refine wp_ifltF (tn := 165) rfl rfl c19 ?_
                                refine wp_iload rfl rfl ?_
                                refine wp_ifltF (tn := 165) rfl rfl c37 ?_
                                refine wp_iload rfl rfl ?_
                                refine wp_ifgeF (tn := 167) rfl rfl (by decide) ?_
                                refine wp_iconst rfl ?_
                                exact wp_zret rfl rfl (by decide) H
                              · replace H := H.2 c42
                                refine wp_iconst rfl ?_
                                refine wp_goto (tn := 14) rfl rfl ?_
                                refine wp_istore (L2 := [vr 89, vi x1, vi 62, vi 1]) rfl (Nat.le_of_ble_eq_true rfl) rfl ?_
                                refine wp_aload rfl rfl ?_
                                refine wp_dupR rfl ?_
                                refine wp_getI (j := 23) rfl (congrArg Prod.fst (kf_89 X.1)) rfl ?_
                                refine Wp.topI (y := (((((h 89 23) + 1) + 1) + 1) + 1)) upd2_s ?_
                                refine wp_iload rfl rfl ?_
                                refine wp_ifeqF (tn := 28) rfl rfl (by decide) ?_
                                refine wp_iconst rfl ?_
                                refine wp_goto (tn := 29) rfl rfl ?_
                                refine wp_iadd rfl ?_
                                have g44 := H.1
                                replace H := H.2
                                refine Wp.topI (y := ((((((h 89 23) + 1) + 1) + 1) + 1) + 1)) (w32_I g44) ?_
                                refine wp_putI (j := 23) rfl (congrArg Prod.fst (kf_89 X.1)) rfl rfl rfl ?_
                                refine wp_iload rfl rfl ?_
                                refine wp_zret rfl rfl (by decide) ?_
                                show Wp X _ 91 135 [vr 89, vi x1, vi (h 103 ((50 * x1) + (h 89 23))), vi ((h 103 ((50 * x1) + ((h 89 23) + 1))) - 48), vi ((h 103 ((50 * x1) + ((((h 89 23) + 1) + 1) + 1))) - 48), vi 0] [vi 1] _ _
                                refine wp_ifeqF (tn := 148) rfl rfl (by decide) ?_
                                refine wp_aload rfl rfl ?_
                                refine wp_iload rfl rfl ?_
                                refine wp_iconst rfl ?_
                                refine wp_iconst rfl ?_
                                refine wp_call (k := 90) (ρ2 := 1) (L2 := [vr 89, vi x1, vi 0, vi 3, vu]) rfl rfl rfl (Nat.le_of_ble_eq_true rfl) (Nat.le_of_ble_eq_true rfl) (Nat.le_of_ble_eq_true rfl) (rcv_V rfl (congrArg Prod.fst (kf_89 X.1))) rfl ?_
                                refine wp_aload rfl rfl ?_
                                refine wp_iload rfl rfl ?_
                                refine wp_call (k := 88) (ρ2 := 0) (L2 := [vr 89, vi x1]) rfl rfl rfl (Nat.le_of_ble_eq_true rfl) (Nat.le_of_ble_eq_true rfl) (Nat.le_of_ble_eq_true rfl) (rcv_V rfl (congrArg Prod.fst (kf_89 X.1))) rfl ?_
                                refine wp_aload rfl rfl ?_
                                refine wp_getI (j := 23) rfl (congrArg Prod.fst (kf_89 X.1)) rfl ?_
                                refine Wp.topI (y := ((((((h 89 23) + 1) + 1) + 1) + 1) + 1)) upd2_s ?_
                                refine wp_aload rfl rfl ?_
                                refine wp_getR (r := 103) rfl (congrArg Prod.fst (kf_89 X.1)) rfl ?_
                                refine wp_iload rfl rfl ?_
                                refine wp_iaload rfl (kf_104 X.1) ⟨g1.1, g1.2⟩ ?_
                                refine Wp.topI (y := (h 104 x1)) (congrFun ((upd2_ne (by decide)).trans ((upd2_ne (by decide)).trans ((upd2_ne (by decide)).trans ((upd2_ne (by decide)).trans (upd2_ne (by decide)))))) _) ?_
                                refine wp_icge (tn := 30) rfl rfl (fun c45 => ?_) (fun c45 => ?_)
                                · replace H := H.1 c45
                                  refine wp_iconst rfl ?_
                                  refine wp_iret rfl rfl ?_
                                  show Wp X _ 90 5 [vr 89, vi x1, vi 0, vi 3, vu] [vi (-1)] _ _
                                  refine wp_iconst rfl ?_
                                  refine wp_isub rfl ?_
                                  refine Wp.topI (y := (-49)) (by decide) ?_
                                  refine wp_istore (L2 := [vr 89, vi x1, vi 0, vi 3, vi (-49)]) rfl (Nat.le_of_ble_eq_true rfl) rfl ?_
                                  refine wp_iload rfl rfl ?_
                                  refine wp_i2l rfl ?_
                                  refine wp_iload rfl rfl ?_
                                  refine wp_i2l rfl ?_
                                  refine wp_iload rfl rfl ?_
                                  refine wp_i2l rfl ?_
                                  refine wp_call (k := 48) (ρ2 := 0) (L2 := [vl (-49), vu, vl 0, vu, vl 3, vu]) rfl rfl rfl (Nat.le_of_ble_eq_true rfl) (Nat.le_of_ble_eq_true rfl) (Nat.le_of_ble_eq_true rfl) (rcv_S rfl) rfl ?_
                                  refine wp_lload rfl rfl ?_
                                  refine wp_lload rfl rfl ?_
                                  refine wp_lcmp rfl ?_
                                  refine wp_iflt (tn := 17) rfl rfl (fun c46 => ?_) (fun c46 => ?_)
                                  · replace H := H.1 c46
                                    refine wp_iconst rfl ?_
                                    refine wp_zret rfl rfl (by decide) ?_
                                    show Wp X _ 90 20 [vr 89, vi x1, vi 0, vi 3, vi (-49)] [vi 0] _ _
                                    refine wp_ifneF (tn := 25) rfl rfl (by decide) ?_
                                    refine wp_iconst rfl ?_
                                    refine wp_iret rfl rfl ?_
                                    show Wp X _ 91 145 [vr 89, vi x1, vi (h 103 ((50 * x1) + (h 89 23))), vi ((h 103 ((50 * x1) + ((h 89 23) + 1))) - 48), vi ((h 103 ((50 * x1) + ((((h 89 23) + 1) + 1) + 1))) - 48), vi 0] [vi (-1)] _ _
                                    refine wp_goto (tn := 149) rfl rfl ?_
                                    refine wp_istore (L2 := [vr 89, vi x1, vi (h 103 ((50 * x1) + (h 89 23))), vi ((h 103 ((50 * x1) + ((h 89 23) + 1))) - 48), vi ((h 103 ((50 * x1) + ((((h 89 23) + 1) + 1) + 1))) - 48), vi (-1)]) rfl (Nat.le_of_ble_eq_true rfl) rfl ?_
                                    refine wp_iload rfl rfl ?_
                                    refine wp_ifltF (tn := 165) rfl rfl c19 ?_
                                    refine wp_iload rfl rfl ?_
                                    refine wp_ifltF (tn := 165) rfl rfl c37 ?_
                                    refine wp_iload rfl rfl ?_
                                    refine wp_ifgeF (tn := 167) rfl rfl (by decide) ?_
                                    refine wp_iconst rfl ?_
                                    exact wp_zret rfl rfl (by decide) H
                                  · replace H := H.2 c46
                                    refine wp_lload rfl rfl ?_
                                    refine wp_lload rfl rfl ?_
                                    refine wp_lcmp rfl ?_
                                    refine wp_ifgt (tn := 17) rfl rfl (fun c47 => ?_) (fun c47 => ?_)
                                    · replace H := H.1 c47
                                      refine wp_iconst rfl ?_
                                      refine wp_zret rfl rfl (by decide) ?_
                                      show Wp X _ 90 20 [vr 89, vi x1, vi 0, vi 3, vi (-49)] [vi 0] _ _
                                      refine wp_ifneF (tn := 25) rfl rfl (by decide) ?_
                                      refine wp_iconst rfl ?_
                                      refine wp_iret rfl rfl ?_
                                      show Wp X _ 91 145 [vr 89, vi x1, vi (h 103 ((50 * x1) + (h 89 23))), vi ((h 103 ((50 * x1) + ((h 89 23) + 1))) - 48), vi ((h 103 ((50 * x1) + ((((h 89 23) + 1) + 1) + 1))) - 48), vi 0] [vi (-1)] _ _
                                      refine wp_goto (tn := 149) rfl rfl ?_
                                      refine wp_istore (L2 := [vr 89, vi x1, vi (h 103 ((50 * x1) + (h 89 23))), vi ((h 103 ((50 * x1) + ((h 89 23) + 1))) - 48), vi ((h 103 ((50 * x1) + ((((h 89 23) + 1) + 1) + 1))) - 48), vi (-1)]) rfl (Nat.le_of_ble_eq_true rfl) rfl ?_
                                      refine wp_iload rfl rfl ?_
                                      refine wp_ifltF (tn := 165) rfl rfl c19 ?_
                                      refine wp_iload rfl rfl ?_
                                      refine wp_ifltF (tn := 165) rfl rfl c37 ?_
                                      refine wp_iload rfl rfl ?_
                                      refine wp_ifgeF (tn := 167) rfl rfl (by decide) ?_
                                      refine wp_iconst rfl ?_
                                      exact wp_zret rfl rfl (by decide) H
                                    · replace H := H.2 c47
                                      refine wp_iconst rfl ?_
                                      refine wp_goto (tn := 18) rfl rfl ?_
                                      refine wp_zret rfl rfl (by decide) ?_
                                      show Wp X _ 90 20 [vr 89, vi x1, vi 0, vi 3, vi (-49)] [vi 1] _ _
                                      refine wp_ifneT (tn := 25) rfl rfl (by decide) ?_
                                      refine wp_aload rfl rfl ?_
                                      refine wp_dupR rfl ?_
                                      refine wp_getI (j := 23) rfl (congrArg Prod.fst (kf_89 X.1)) rfl ?_
                                      refine Wp.topI (y := ((((((h 89 23) + 1) + 1) + 1) + 1) + 1)) upd2_s ?_
                                      refine wp_iconst rfl ?_
                                      refine wp_iadd rfl ?_
                                      have g48 := H.1
                                      replace H := H.2
                                      refine Wp.topI (y := (((((((h 89 23) + 1) + 1) + 1) + 1) + 1) + 1)) (w32_I g48) ?_
                                      refine wp_putI (j := 23) rfl (congrArg Prod.fst (kf_89 X.1)) rfl rfl rfl ?_
                                      refine wp_iload rfl rfl ?_
                                      refine wp_iret rfl rfl ?_
                                      show Wp X _ 91 145 [vr 89, vi x1, vi (h 103 ((50 * x1) + (h 89 23))), vi ((h 103 ((50 * x1) + ((h 89 23) + 1))) - 48), vi ((h 103 ((50 * x1) + ((((h 89 23) + 1) + 1) + 1))) - 48), vi 0] [vi (-49)] _ _
                                      refine wp_goto (tn := 149) rfl rfl ?_
                                      refine wp_istore (L2 := [vr 89, vi x1, vi (h 103 ((50 * x1) + (h 89 23))), vi ((h 103 ((50 * x1) + ((h 89 23) + 1))) - 48), vi ((h 103 ((50 * x1) + ((((h 89 23) + 1) + 1) + 1))) - 48), vi (-49)]) rfl (Nat.le_of_ble_eq_true rfl) rfl ?_
                                      refine wp_iload rfl rfl ?_
                                      refine wp_ifltF (tn := 165) rfl rfl c19 ?_
                                      refine wp_iload rfl rfl ?_
                                      refine wp_ifltF (tn := 165) rfl rfl c37 ?_
                                      refine wp_iload rfl rfl ?_
                                      refine wp_ifgeF (tn := 167) rfl rfl (by decide) ?_
                                      refine wp_iconst rfl ?_
                                      exact wp_zret rfl rfl (by decide) H
                                · replace H := H.2 c45
                                  refine wp_aload rfl rfl ?_
                                  refine wp_getR (r := 102) rfl (congrArg Prod.fst (kf_89 X.1)) rfl ?_
                                  refine wp_iconst rfl ?_
                                  refine wp_iload rfl rfl ?_
                                  refine wp_imul rfl ?_
                                  refine Wp.topI (y := (50 * x1)) (w32_I (by clear H; unfold R32; omega)) ?_
                                  refine wp_aload rfl rfl ?_
                                  refine wp_getI (j := 23) rfl (congrArg Prod.fst (kf_89 X.1)) rfl ?_
                                  refine Wp.topI (y := ((((((h 89 23) + 1) + 1) + 1) + 1) + 1)) upd2_s ?_
                                  refine wp_iadd rfl ?_
                                  have g49 := H.1
                                  replace H := H.2
                                  refine Wp.topI (y := ((50 * x1) + ((((((h 89 23) + 1) + 1) + 1) + 1) + 1))) (w32_I g49) ?_
                                  have g50 := H.1
                                  replace H := H.2
                                  refine wp_iaload rfl (kf_103 X.1) g50 ?_
                                  refine Wp.topI (y := (h 103 ((50 * x1) + ((((((h 89 23) + 1) + 1) + 1) + 1) + 1)))) (congrFun ((upd2_ne (by decide)).trans ((upd2_ne (by decide)).trans ((upd2_ne (by decide)).trans ((upd2_ne (by decide)).trans (upd2_ne (by decide)))))) _) ?_
                                  refine wp_goto (tn := 31) rfl rfl ?_
                                  refine wp_iret rfl rfl ?_
                                  show Wp X _ 90 5 [vr 89, vi x1, vi 0, vi 3, vu] [vi (h 103 ((50 * x1) + ((((((h 89 23) + 1) + 1) + 1) + 1) + 1)))] _ _
                                  refine wp_iconst rfl ?_
                                  refine wp_isub rfl ?_
                                  have g51 := H.1
                                  replace H := H.2
                                  refine Wp.topI (y := ((h 103 ((50 * x1) + ((((((h 89 23) + 1) + 1) + 1) + 1) + 1))) - 48)) (w32_I g51) ?_
                                  refine wp_istore (L2 := [vr 89, vi x1, vi 0, vi 3, vi ((h 103 ((50 * x1) + ((((((h 89 23) + 1) + 1) + 1) + 1) + 1))) - 48)]) rfl (Nat.le_of_ble_eq_true rfl) rfl ?_
                                  refine wp_iload rfl rfl ?_
                                  refine wp_i2l rfl ?_
                                  refine wp_iload rfl rfl ?_
                                  refine wp_i2l rfl ?_
                                  refine wp_iload rfl rfl ?_
                                  refine wp_i2l rfl ?_
                                  refine wp_call (k := 48) (ρ2 := 0) (L2 := [vl ((h 103 ((50 * x1) + ((((((h 89 23) + 1) + 1) + 1) + 1) + 1))) - 48), vu, vl 0, vu, vl 3, vu]) rfl rfl rfl (Nat.le_of_ble_eq_true rfl) (Nat.le_of_ble_eq_true rfl) (Nat.le_of_ble_eq_true rfl) (rcv_S rfl) rfl ?_
                                  refine wp_lload rfl rfl ?_
                                  refine wp_lload rfl rfl ?_
                                  refine wp_lcmp rfl ?_
                                  refine wp_iflt (tn := 17) rfl rfl (fun c52 => ?_) (fun c52 => ?_)
                                  · replace H := H.1 c52
                                    refine wp_iconst rfl ?_
                                    refine wp_zret rfl rfl (by decide) ?_
                                    show Wp X _ 90 20 [vr 89, vi x1, vi 0, vi 3, vi ((h 103 ((50 * x1) + ((((((h 89 23) + 1) + 1) + 1) + 1) + 1))) - 48)] [vi 0] _ _
                                    refine wp_ifneF (tn := 25) rfl rfl (by decide) ?_
                                    refine wp_iconst rfl ?_
                                    refine wp_iret rfl rfl ?_
                                    show Wp X _ 91 145 [vr 89, vi x1, vi (h 103 ((50 * x1) + (h 89 23))), vi ((h 103 ((50 * x1) + ((h 89 23) + 1))) - 48), vi ((h 103 ((50 * x1) + ((((h 89 23) + 1) + 1) + 1))) - 48), vi 0] [vi (-1)] _ _
                                    refine wp_goto (tn := 149) rfl rfl ?_
                                    refine wp_istore (L2 := [vr 89, vi x1, vi (h 103 ((50 * x1) + (h 89 23))), vi ((h 103 ((50 * x1) + ((h 89 23) + 1))) - 48), vi ((h 103 ((50 * x1) + ((((h 89 23) + 1) + 1) + 1))) - 48), vi (-1)]) rfl (Nat.le_of_ble_eq_true rfl) rfl ?_
                                    refine wp_iload rfl rfl ?_
                                    refine wp_ifltF (tn := 165) rfl rfl c19 ?_
                                    refine wp_iload rfl rfl ?_
                                    refine wp_ifltF (tn := 165) rfl rfl c37 ?_
                                    refine wp_iload rfl rfl ?_
                                    refine wp_ifgeF (tn := 167) rfl rfl (by decide) ?_
                                    refine wp_iconst rfl ?_
                                    exact wp_zret rfl rfl (by decide) H
                                  · replace H := H.2 c52
                                    refine wp_lload rfl rfl ?_
                                    refine wp_lload rfl rfl ?_
                                    refine wp_lcmp rfl ?_
                                    refine wp_ifgt (tn := 17) rfl rfl (fun c53 => ?_) (fun c53 => ?_)
                                    · replace H := H.1 c53
                                      refine wp_iconst rfl ?_
                                      refine wp_zret rfl rfl (by decide) ?_
                                      show Wp X _ 90 20 [vr 89, vi x1, vi 0, vi 3, vi ((h 103 ((50 * x1) + ((((((h 89 23) + 1) + 1) + 1) + 1) + 1))) - 48)] [vi 0] _ _
                                      refine wp_ifneF (tn := 25) rfl rfl (by decide) ?_
                                      refine wp_iconst rfl ?_
                                      refine wp_iret rfl rfl ?_
                                      show Wp X _ 91 145 [vr 89, vi x1, vi (h 103 ((50 * x1) + (h 89 23))), vi ((h 103 ((50 * x1) + ((h 89 23) + 1))) - 48), vi ((h 103 ((50 * x1) + ((((h 89 23) + 1) + 1) + 1))) - 48), vi 0] [vi (-1)] _ _
                                      refine wp_goto (tn := 149) rfl rfl ?_
                                      refine wp_istore (L2 := [vr 89, vi x1, vi (h 103 ((50 * x1) + (h 89 23))), vi ((h 103 ((50 * x1) + ((h 89 23) + 1))) - 48), vi ((h 103 ((50 * x1) + ((((h 89 23) + 1) + 1) + 1))) - 48), vi (-1)]) rfl (Nat.le_of_ble_eq_true rfl) rfl ?_
                                      refine wp_iload rfl rfl ?_
                                      refine wp_ifltF (tn := 165) rfl rfl c19 ?_
                                      refine wp_iload rfl rfl ?_
                                      refine wp_ifltF (tn := 165) rfl rfl c37 ?_
                                      refine wp_iload rfl rfl ?_
                                      refine wp_ifgeF (tn := 167) rfl rfl (by decide) ?_
                                      refine wp_iconst rfl ?_
                                      exact wp_zret rfl rfl (by decide) H
                                    · replace H := H.2 c53
                                      refine wp_iconst rfl ?_
                                      refine wp_goto (tn := 18) rfl rfl ?_
                                      refine wp_zret rfl rfl (by decide) ?_
                                      show Wp X _ 90 20 [vr 89, vi x1, vi 0, vi 3, vi ((h 103 ((50 * x1) + ((((((h 89 23) + 1) + 1) + 1) + 1) + 1))) - 48)] [vi 1] _ _
                                      refine wp_ifneT (tn := 25) rfl rfl (by decide) ?_
                                      refine wp_aload rfl rfl ?_
                                      refine wp_dupR rfl ?_
                                      refine wp_getI (j := 23) rfl (congrArg Prod.fst (kf_89 X.1)) rfl ?_
                                      refine Wp.topI (y := ((((((h 89 23) + 1) + 1) + 1) + 1) + 1)) upd2_s ?_
                                      refine wp_iconst rfl ?_
                                      refine wp_iadd rfl ?_
                                      have g54 := H.1
                                      replace H := H.2
                                      refine Wp.topI (y := (((((((h 89 23) + 1) + 1) + 1) + 1) + 1) + 1)) (w32_I g54) ?_
                                      refine wp_putI (j := 23) rfl (congrArg Prod.fst (kf_89 X.1)) rfl rfl rfl ?_
                                      refine wp_iload rfl rfl ?_
                                      refine wp_iret rfl rfl ?_
                                      show Wp X _ 91 145 [vr 89, vi x1, vi (h 103 ((50 * x1) + (h 89 23))), vi ((h 103 ((50 * x1) + ((h 89 23) + 1))) - 48), vi ((h 103 ((50 * x1) + ((((h 89 23) + 1) + 1) + 1))) - 48), vi 0] [vi ((h 103 ((50 * x1) + ((((((h 89 23) + 1) + 1) + 1) + 1) + 1))) - 48)] _ _
                                      refine wp_goto (tn := 149) rfl rfl ?_
                                      refine wp_istore (L2 := [vr 89, vi x1, vi (h 103 ((50 * x1) + (h 89 23))), vi ((h 103 ((50 * x1) + ((h 89 23) + 1))) - 48), vi ((h 103 ((50 * x1) + ((((h 89 23) + 1) + 1) + 1))) - 48), vi ((h 103 ((50 * x1) + ((((((h 89 23) + 1) + 1) + 1) + 1) + 1))) - 48)]) rfl (Nat.le_of_ble_eq_true rfl) rfl ?_
                                      refine wp_iload rfl rfl ?_
                                      refine wp_ifltF (tn := 165) rfl rfl c19 ?_
                                      refine wp_iload rfl rfl ?_
                                      refine wp_ifltF (tn := 165) rfl rfl c37 ?_
                                      refine wp_iload rfl rfl ?_
                                      refine wp_ifge (tn := 167) rfl rfl (fun c55 => ?_) (fun c55 => ?_)
                                      · replace H := H.1 c55
                                        refine wp_aload rfl rfl ?_
                                        refine wp_getR (r := 104) rfl (congrArg Prod.fst (kf_89 X.1)) rfl ?_
                                        refine wp_aload rfl rfl ?_
                                        refine wp_getI (j := 24) rfl (congrArg Prod.fst (kf_89 X.1)) rfl ?_
                                        refine Wp.topI (y := (h 89 24)) ((upd2_o (by decide)).trans ((upd2_o (by decide)).trans ((upd2_o (by decide)).trans ((upd2_o (by decide)).trans ((upd2_o (by decide)).trans (upd2_o (by decide))))))) ?_
                                        refine wp_iload rfl rfl ?_
                                        have g56 := H.1
                                        replace H := H.2
                                        refine wp_iastore rfl (kf_105 X.1) g56 ?_
                                        refine wp_aload rfl rfl ?_
                                        refine wp_getR (r := 105) rfl (congrArg Prod.fst (kf_89 X.1)) rfl ?_
                                        refine wp_aload rfl rfl ?_
                                        refine wp_getI (j := 24) rfl (congrArg Prod.fst (kf_89 X.1)) rfl ?_
                                        refine Wp.topI (y := (h 89 24)) ((congrFun (upd2_ne (by decide)) _).trans ((upd2_o (by decide)).trans ((upd2_o (by decide)).trans ((upd2_o (by decide)).trans ((upd2_o (by decide)).trans ((upd2_o (by decide)).trans (upd2_o (by decide)))))))) ?_
                                        refine wp_iload rfl rfl ?_
                                        refine wp_iastore rfl (kf_106 X.1) ⟨g56.1, g56.2⟩ ?_
                                        refine wp_aload rfl rfl ?_
                                        refine wp_getR (r := 106) rfl (congrArg Prod.fst (kf_89 X.1)) rfl ?_
                                        refine wp_aload rfl rfl ?_
                                        refine wp_getI (j := 24) rfl (congrArg Prod.fst (kf_89 X.1)) rfl ?_
                                        refine Wp.topI (y := (h 89 24)) ((congrFun ((upd2_ne (by decide)).trans (upd2_ne (by decide))) _).trans ((upd2_o (by decide)).trans ((upd2_o (by decide)).trans ((upd2_o (by decide)).trans ((upd2_o (by decide)).trans ((upd2_o (by decide)).trans (upd2_o (by decide)))))))) ?_
                                        refine wp_iload rfl rfl ?_
                                        refine wp_iastore rfl (kf_107 X.1) ⟨g56.1, g56.2⟩ ?_
                                        refine wp_aload rfl rfl ?_
                                        refine wp_getR (r := 107) rfl (congrArg Prod.fst (kf_89 X.1)) rfl ?_
                                        refine wp_aload rfl rfl ?_
                                        refine wp_getI (j := 24) rfl (congrArg Prod.fst (kf_89 X.1)) rfl ?_
                                        refine Wp.topI (y := (h 89 24)) ((congrFun ((upd2_ne (by decide)).trans ((upd2_ne (by decide)).trans (upd2_ne (by decide)))) _).trans ((upd2_o (by decide)).trans ((upd2_o (by decide)).trans ((upd2_o (by decide)).trans ((upd2_o (by decide)).trans ((upd2_o (by decide)).trans (upd2_o (by decide)))))))) ?_
                                        refine wp_iload rfl rfl ?_
                                        refine wp_iastore rfl (kf_108 X.1) ⟨g56.1, g56.2⟩ ?_
                                        refine wp_aload rfl rfl ?_
                                        refine wp_dupR rfl ?_
                                        refine wp_getI (j := 24) rfl (congrArg Prod.fst (kf_89 X.1)) rfl ?_
                                        refine Wp.topI (y := (h 89 24)) ((congrFun ((upd2_ne (by decide)).trans ((upd2_ne (by decide)).trans ((upd2_ne (by decide)).trans (upd2_ne (by decide))))) _).trans ((upd2_o (by decide)).trans ((upd2_o (by decide)).trans ((upd2_o (by decide)).trans ((upd2_o (by decide)).trans ((upd2_o (by decide)).trans (upd2_o (by decide)))))))) ?_
                                        refine wp_iconst rfl ?_
                                        refine wp_iadd rfl ?_
                                        refine Wp.topI (y := ((h 89 24) + 1)) (w32_I (by clear H; unfold R32; omega)) ?_
                                        refine wp_putI (j := 24) rfl (congrArg Prod.fst (kf_89 X.1)) rfl rfl rfl ?_
                                        refine wp_iconst rfl ?_
                                        exact wp_zret rfl rfl (by decide) H
                                      · replace H := H.2 c55
                                        refine wp_iconst rfl ?_
                                        exact wp_zret rfl rfl (by decide) H
      · replace H := H.2 c7
        refine wp_iload rfl rfl ?_
        refine wp_iconst rfl ?_
        refine wp_iceq (tn := 35) rfl rfl (fun c57 => ?_) (fun c57 => ?_)
        · replace H := H.1 c57
          refine wp_aload rfl rfl ?_
          refine wp_dupR rfl ?_
          refine wp_getI (j := 23) rfl (congrArg Prod.fst (kf_89 X.1)) rfl ?_
          refine wp_iconst rfl ?_
          refine wp_iadd rfl ?_
          have g58 := H.1
          replace H := H.2
          refine Wp.topI (y := ((h 89 23) + 1)) (w32_I g58) ?_
          refine wp_putI (j := 23) rfl (congrArg Prod.fst (kf_89 X.1)) rfl rfl rfl ?_
          refine wp_aload rfl rfl ?_
          refine wp_iload rfl rfl ?_
          refine wp_iload rfl rfl ?_
          refine wp_iconst rfl ?_
          refine wp_icneT (tn := 57) rfl rfl c7 ?_
          refine wp_iload rfl rfl ?_
          refine wp_iconst rfl ?_
          refine wp_icneF (tn := 67) rfl rfl c57 ?_
          refine wp_iconst rfl ?_
          refine wp_goto (tn := 68) rfl rfl ?_
          refine wp_iload rfl rfl ?_
          refine wp_iconst rfl ?_
          refine wp_icneT (tn := 78) rfl rfl c7 ?_
          refine wp_iconst rfl ?_
          refine wp_call (k := 90) (ρ2 := 1) (L2 := [vr 89, vi x1, vi 2, vi 9, vu]) rfl rfl rfl (Nat.le_of_ble_eq_true rfl) (Nat.le_of_ble_eq_true rfl) (Nat.le_of_ble_eq_true rfl) (rcv_V rfl (congrArg Prod.fst (kf_89 X.1))) rfl ?_
          refine wp_aload rfl rfl ?_
          refine wp_iload rfl rfl ?_
          refine wp_call (k := 88) (ρ2 := 0) (L2 := [vr 89, vi x1]) rfl rfl rfl (Nat.le_of_ble_eq_true rfl) (Nat.le_of_ble_eq_true rfl) (Nat.le_of_ble_eq_true rfl) (rcv_V rfl (congrArg Prod.fst (kf_89 X.1))) rfl ?_
          refine wp_aload rfl rfl ?_
          refine wp_getI (j := 23) rfl (congrArg Prod.fst (kf_89 X.1)) rfl ?_
          refine Wp.topI (y := ((h 89 23) + 1)) upd2_s ?_
          refine wp_aload rfl rfl ?_
          refine wp_getR (r := 103) rfl (congrArg Prod.fst (kf_89 X.1)) rfl ?_
          refine wp_iload rfl rfl ?_
          refine wp_iaload rfl (kf_104 X.1) ⟨g1.1, g1.2⟩ ?_
          refine Wp.topI (y := (h 104 x1)) (congrFun (upd2_ne (by decide)) _) ?_
          refine wp_icge (tn := 30) rfl rfl (fun c59 => ?_) (fun c59 => ?_)
          · replace H := H.1 c59
            refine wp_iconst rfl ?_
            refine wp_iret rfl rfl ?_
            show Wp X _ 90 5 [vr 89, vi x1, vi 2, vi 9, vu] [vi (-1)] _ _
            refine wp_iconst rfl ?_
            refine wp_isub rfl ?_
            refine Wp.topI (y := (-49)) (by decide) ?_
            refine wp_istore (L2 := [vr 89, vi x1, vi 2, vi 9, vi (-49)]) rfl (Nat.le_of_ble_eq_true rfl) rfl ?_
            refine wp_iload rfl rfl ?_
            refine wp_i2l rfl ?_
            refine wp_iload rfl rfl ?_
            refine wp_i2l rfl ?_
            refine wp_iload rfl rfl ?_
            refine wp_i2l rfl ?_
            refine wp_call (k := 48) (ρ2 := 0) (L2 := [vl (-49), vu, vl 2, vu, vl 9, vu]) rfl rfl rfl (Nat.le_of_ble_eq_true rfl) (Nat.le_of_ble_eq_true rfl) (Nat.le_of_ble_eq_true rfl) (rcv_S rfl) rfl ?_
            refine wp_lload rfl rfl ?_
            refine wp_lload rfl rfl ?_
            refine wp_lcmp rfl ?_
            refine wp_iflt (tn := 17) rfl rfl (fun c60 => ?_) (fun c60 => ?_)
            · replace H := H.1 c60
              refine wp_iconst rfl ?_
              refine wp_zret rfl rfl (by decide) ?_
              show Wp X _ 90 20 [vr 89, vi x1, vi 2, vi 9, vi (-49)] [vi 0] _ _
              refine wp_ifneF (tn := 25) rfl rfl (by decide) ?_
              refine wp_iconst rfl ?_
              refine wp_iret rfl rfl ?_
              show Wp X _ 91 83 [vr 89, vi x1, vi (h 103 ((50 * x1) + (h 89 23))), vu, vu, vu] [vi (-1)] _ _
              refine wp_istore (L2 := [vr 89, vi x1, vi (h 103 ((50 * x1) + (h 89 23))), vi (-1), vu, vu]) rfl (Nat.le_of_ble_eq_true rfl) rfl ?_
              refine wp_iload rfl rfl ?_
              refine wp_istore (L2 := [vr 89, vi x1, vi (h 103 ((50 * x1) + (h 89 23))), vi (-1), vi (-1), vu]) rfl (Nat.le_of_ble_eq_true rfl) rfl ?_
              refine wp_iconst rfl ?_
              refine wp_istore (L2 := [vr 89, vi x1, vi (h 103 ((50 * x1) + (h 89 23))), vi (-1), vi (-1), vi 0]) rfl (Nat.le_of_ble_eq_true rfl) rfl ?_
              refine wp_iload rfl rfl ?_
              refine wp_ifltT (tn := 151) rfl rfl (by decide) ?_
              refine wp_iload rfl rfl ?_
              refine wp_ifltT (tn := 165) rfl rfl (by decide) ?_
              refine wp_iconst rfl ?_
              exact wp_zret rfl rfl (by decide) H
            · replace H := H.2 c60
              refine wp_lload rfl rfl ?_
              refine wp_lload rfl rfl ?_
              refine wp_lcmp rfl ?_
              refine wp_ifgt (tn := 17) rfl rfl (fun c61 => ?_) (fun c61 => ?_)
              · replace H := H.1 c61
                refine wp_iconst rfl ?_
                refine wp_zret rfl rfl (by decide) ?_
                show Wp X _ 90 20 [vr 89, vi x1, vi 2, vi 9, vi (-49)] [vi 0] _ _
                refine wp_ifneF (tn := 25) rfl rfl (by decide) ?_
                refine wp_iconst rfl ?_
                refine wp_iret rfl rfl ?_
                show Wp X _ 91 83 [vr 89, vi x1, vi (h 103 ((50 * x1) + (h 89 23))), vu, vu, vu] [vi (-1)] _ _
                refine wp_istore (L2 := [vr 89, vi x1, vi (h 103 ((50 * x1) + (h 89 23))), vi (-1), vu, vu]) rfl (Nat.le_of_ble_eq_true rfl) rfl ?_
                refine wp_iload rfl rfl ?_
                refine wp_istore (L2 := [vr 89, vi x1, vi (h 103 ((50 * x1) + (h 89 23))), vi (-1), vi (-1), vu]) rfl (Nat.le_of_ble_eq_true rfl) rfl ?_
                refine wp_iconst rfl ?_
                refine wp_istore (L2 := [vr 89, vi x1, vi (h 103 ((50 * x1) + (h 89 23))), vi (-1), vi (-1), vi 0]) rfl (Nat.le_of_ble_eq_true rfl) rfl ?_
                refine wp_iload rfl rfl ?_
                refine wp_ifltT (tn := 151) rfl rfl (by decide) ?_
                refine wp_iload rfl rfl ?_
                refine wp_ifltT (tn := 165) rfl rfl (by decide) ?_
                refine wp_iconst rfl ?_
                exact wp_zret rfl rfl (by decide) H
              · replace H := H.2 c61
                refine wp_iconst rfl ?_
                refine wp_goto (tn := 18) rfl rfl ?_
                refine wp_zret rfl rfl (by decide) ?_
                show Wp X _ 90 20 [vr 89, vi x1, vi 2, vi 9, vi (-49)] [vi 1] _ _
                refine wp_ifneT (tn := 25) rfl rfl (by decide) ?_
                refine wp_aload rfl rfl ?_
                refine wp_dupR rfl ?_
                refine wp_getI (j := 23) rfl (congrArg Prod.fst (kf_89 X.1)) rfl ?_
                refine Wp.topI (y := ((h 89 23) + 1)) upd2_s ?_
                refine wp_iconst rfl ?_
                refine wp_iadd rfl ?_
                have g62 := H.1
                replace H := H.2
                refine Wp.topI (y := (((h 89 23) + 1) + 1)) (w32_I g62) ?_
                refine wp_putI (j := 23) rfl (congrArg Prod.fst (kf_89 X.1)) rfl rfl rfl ?_
                refine wp_iload rfl rfl ?_
                refine wp_iret rfl rfl ?_
                show Wp X _ 91 83 [vr 89, vi x1, vi (h 103 ((50 * x1) + (h 89 23))), vu, vu, vu] [vi (-49)] _ _
                refine wp_istore (L2 := [vr 89, vi x1, vi (h 103 ((50 * x1) + (h 89 23))), vi (-49), vu, vu]) rfl (Nat.le_of_ble_eq_true rfl) rfl ?_
                refine wp_iload rfl rfl ?_
                refine wp_istore (L2 := [vr 89, vi x1, vi (h 103 ((50 * x1) + (h 89 23))), vi (-49), vi (-49), vu]) rfl (Nat.le_of_ble_eq_true rfl) rfl ?_
                refine wp_iconst rfl ?_
                refine wp_istore (L2 := [vr 89, vi x1, vi (h 103 ((50 * x1) + (h 89 23))), vi (-49), vi (-49), vi 0]) rfl (Nat.le_of_ble_eq_true rfl) rfl ?_
                refine wp_iload rfl rfl ?_
                refine wp_ifltT (tn := 151) rfl rfl (by decide) ?_
                refine wp_iload rfl rfl ?_
                refine wp_ifltT (tn := 165) rfl rfl (by decide) ?_
                refine wp_iconst rfl ?_
                exact wp_zret rfl rfl (by decide) H
          · replace H := H.2 c59
            refine wp_aload rfl rfl ?_
            refine wp_getR (r := 102) rfl (congrArg Prod.fst (kf_89 X.1)) rfl ?_
            refine wp_iconst rfl ?_
            refine wp_iload rfl rfl ?_
            refine wp_imul rfl ?_
            refine Wp.topI (y := (50 * x1)) (w32_I (by clear H; unfold R32; omega)) ?_
            refine wp_aload rfl rfl ?_
            refine wp_getI (j := 23) rfl (congrArg Prod.fst (kf_89 X.1)) rfl ?_
            refine Wp.topI (y := ((h 89 23) + 1)) upd2_s ?_
            refine wp_iadd rfl ?_
            have g63 := H.1
            replace H := H.2
            refine Wp.topI (y := ((50 * x1) + ((h 89 23) + 1))) (w32_I g63) ?_
            have g64 := H.1
            replace H := H.2
            refine wp_iaload rfl (kf_103 X.1) g64 ?_
            refine Wp.topI (y := (h 103 ((50 * x1) + ((h 89 23) + 1)))) (congrFun (upd2_ne (by decide)) _) ?_
            refine wp_goto (tn := 31) rfl rfl ?_
            refine wp_iret rfl rfl ?_
            show Wp X _ 90 5 [vr 89, vi x1, vi 2, vi 9, vu] [vi (h 103 ((50 * x1) + ((h 89 23) + 1)))] _ _
            refine wp_iconst rfl ?_
            refine wp_isub rfl ?_
            have g65 := H.1
            replace H := H.2
            refine Wp.topI (y := ((h 103 ((50 * x1) + ((h 89 23) + 1))) - 48)) (w32_I g65) ?_
            refine wp_istore (L2 := [vr 89, vi x1, vi 2, vi 9, vi ((h 103 ((50 * x1) + ((h 89 23) + 1))) - 48)]) rfl (Nat.le_of_ble_eq_true rfl) rfl ?_
            refine wp_iload rfl rfl ?_
            refine wp_i2l rfl ?_
            refine wp_iload rfl rfl ?_
            refine wp_i2l rfl ?_
            refine wp_iload rfl rfl ?_
            refine wp_i2l rfl ?_
            refine wp_call (k := 48) (ρ2 := 0) (L2 := [vl ((h 103 ((50 * x1) + ((h 89 23) + 1))) - 48), vu, vl 2, vu, vl 9, vu]) rfl rfl rfl (Nat.le_of_ble_eq_true rfl) (Nat.le_of_ble_eq_true rfl) (Nat.le_of_ble_eq_true rfl) (rcv_S rfl) rfl ?_
            refine wp_lload rfl rfl ?_
            refine wp_lload rfl rfl ?_
            refine wp_lcmp rfl ?_
            refine wp_iflt (tn := 17) rfl rfl (fun c66 => ?_) (fun c66 => ?_)
            · replace H := H.1 c66
              refine wp_iconst rfl ?_
              refine wp_zret rfl rfl (by decide) ?_
              show Wp X _ 90 20 [vr 89, vi x1, vi 2, vi 9, vi ((h 103 ((50 * x1) + ((h 89 23) + 1))) - 48)] [vi 0] _ _
              refine wp_ifneF (tn := 25) rfl rfl (by decide) ?_
              refine wp_iconst rfl ?_
              refine wp_iret rfl rfl ?_
              show Wp X _ 91 83 [vr 89, vi x1, vi (h 103 ((50 * x1) + (h 89 23))), vu, vu, vu] [vi (-1)] _ _
              refine wp_istore (L2 := [vr 89, vi x1, vi (h 103 ((50 * x1) + (h 89 23))), vi (-1), vu, vu]) rfl (Nat.le_of_ble_eq_true rfl) rfl ?_
              refine wp_iload rfl rfl ?_
              refine wp_istore (L2 := [vr 89, vi x1, vi (h 103 ((50 * x1) + (h 89 23))), vi (-1), vi (-1), vu]) rfl (Nat.le_of_ble_eq_true rfl) rfl ?_
              refine wp_iconst rfl ?_
              refine wp_istore (L2 := [vr 89, vi x1, vi (h 103 ((50 * x1) + (h 89 23))), vi (-1), vi (-1), vi 0]) rfl (Nat.le_of_ble_eq_true rfl) rfl ?_
              refine wp_iload rfl rfl ?_
              refine wp_ifltT (tn := 151) rfl rfl (by decide) ?_
              refine wp_iload rfl rfl ?_
              refine wp_ifltT (tn := 165) rfl rfl (by decide) ?_
              refine wp_iconst rfl ?_
              exact wp_zret rfl rfl (by decide) H
            · replace H := H.2 c66
              refine wp_lload rfl rfl ?_
              refine wp_lload rfl rfl ?_
              refine wp_lcmp rfl ?_
              refine wp_ifgt (tn := 17) rfl rfl (fun c67 => ?_) (fun c67 => ?_)
              · replace H := H.1 c67
                refine wp_iconst rfl ?_
                refine wp_zret rfl rfl (by decide) ?_
                show Wp X _ 90 20 [vr 89, vi x1, vi 2, vi 9, vi ((h 103 ((50 * x1) + ((h 89 23) + 1))) - 48)] [vi 0] _ _
                refine wp_ifneF (tn := 25) rfl rfl (by decide) ?_
                refine wp_iconst rfl ?_
                refine wp_iret rfl rfl ?_
                show Wp X _ 91 83 [vr 89, vi x1, vi (h 103 ((50 * x1) + (h 89 23))), vu, vu, vu] [vi (-1)] _ _
                refine wp_istore (L2 := [vr 89, vi x1, vi (h 103 ((50 * x1) + (h 89 23))), vi (-1), vu, vu]) rfl (Nat.le_of_ble_eq_true rfl) rfl ?_
                refine wp_iload rfl rfl ?_
                refine wp_istore (L2 := [vr 89, vi x1, vi (h 103 ((50 * x1) + (h 89 23))), vi (-1), vi (-1), vu]) rfl (Nat.le_of_ble_eq_true rfl) rfl ?_
                refine wp_iconst rfl ?_
                refine wp_istore (L2 := [vr 89, vi x1, vi (h 103 ((50 * x1) + (h 89 23))), vi (-1), vi (-1), vi 0]) rfl (Nat.le_of_ble_eq_true rfl) rfl ?_
                refine wp_iload rfl rfl ?_
                refine wp_ifltT (tn := 151) rfl rfl (by decide) ?_
                refine wp_iload rfl rfl ?_
                refine wp_ifltT (tn := 165) rfl rfl (by decide) ?_
                refine wp_iconst rfl ?_
                exact wp_zret rfl rfl (by decide) H
              · replace H := H.2 c67
                refine wp_iconst rfl ?_
                refine wp_goto (tn := 18) rfl rfl ?_
                refine wp_zret rfl rfl (by decide) ?_
                show Wp X _ 90 20 [vr 89, vi x1, vi 2, vi 9, vi ((h 103 ((50 * x1) + ((h 89 23) + 1))) - 48)] [vi 1] _ _
                refine wp_ifneT (tn := 25) rfl rfl (by decide) ?_
                refine wp_aload rfl rfl ?_
                refine wp_dupR rfl ?_
                refine wp_getI (j := 23) rfl (congrArg Prod.fst (kf_89 X.1)) rfl ?_
                refine Wp.topI (y := ((h 89 23) + 1)) upd2_s ?_
                refine wp_iconst rfl ?_
                refine wp_iadd rfl ?_
                have g68 := H.1
                replace H := H.2
                refine Wp.topI (y := (((h 89 23) + 1) + 1)) (w32_I g68) ?_
                refine wp_putI (j := 23) rfl (congrArg Prod.fst (kf_89 X.1)) rfl rfl rfl ?_
                refine wp_iload rfl rfl ?_
                refine wp_iret rfl rfl ?_
                show Wp X _ 91 83 [vr 89, vi x1, vi (h 103 ((50 * x1) + (h 89 23))), vu, vu, vu] [vi ((h 103 ((50 * x1) + ((h 89 23) + 1))) - 48)] _ _
                refine wp_istore (L2 := [vr 89, vi x1, vi (h 103 ((50 * x1) + (h 89 23))), vi ((h 103 ((50 * x1) + ((h 89 23) + 1))) - 48), vu, vu]) rfl (Nat.le_of_ble_eq_true rfl) rfl ?_
                refine wp_iload rfl rfl ?_
                refine wp_istore (L2 := [vr 89, vi x1, vi (h 103 ((50 * x1) + (h 89 23))), vi ((h 103 ((50 * x1) + ((h 89 23) + 1))) - 48), vi ((h 103 ((50 * x1) + ((h 89 23) + 1))) - 48), vu]) rfl (Nat.le_of_ble_eq_true rfl) rfl ?_
                refine wp_iconst rfl ?_
                refine wp_istore (L2 := [vr 89, vi x1, vi (h 103 ((50 * x1) + (h 89 23))), vi ((h 103 ((50 * x1) + ((h 89 23) + 1))) - 48), vi ((h 103 ((50 * x1) + ((h 89 23) + 1))) - 48), vi 0]) rfl (Nat.le_of_ble_eq_true rfl) rfl ?_
                refine wp_iload rfl rfl ?_
                refine wp_iflt (tn := 151) rfl rfl (fun c69 => ?_) (fun c69 => ?_)
                · replace H := H.1 c69
                  refine wp_iload rfl rfl ?_
                  refine wp_ifltT (tn := 165) rfl rfl c69 ?_
                  refine wp_iconst rfl ?_
                  exact wp_zret rfl rfl (by decide) H
                · replace H := H.2 c69
                  refine wp_iload rfl rfl ?_
                  refine wp_iconst rfl ?_
                  refine wp_icneT (tn := 151) rfl rfl c7 ?_
                  refine wp_iload rfl rfl ?_
                  refine wp_ifltF (tn := 165) rfl rfl c69 ?_
                  refine wp_iload rfl rfl ?_
                  refine wp_ifltF (tn := 165) rfl rfl c69 ?_
                  refine wp_iload rfl rfl ?_
                  refine wp_ifgeT (tn := 167) rfl rfl (by decide) ?_
                  refine wp_aload rfl rfl ?_
                  refine wp_getR (r := 104) rfl (congrArg Prod.fst (kf_89 X.1)) rfl ?_
                  refine wp_aload rfl rfl ?_
                  refine wp_getI (j := 24) rfl (congrArg Prod.fst (kf_89 X.1)) rfl ?_
                  refine Wp.topI (y := (h 89 24)) ((upd2_o (by decide)).trans (upd2_o (by decide))) ?_
                  refine wp_iload rfl rfl ?_
                  have g70 := H.1
                  replace H := H.2
                  refine wp_iastore rfl (kf_105 X.1) g70 ?_
                  refine wp_aload rfl rfl ?_
                  refine wp_getR (r := 105) rfl (congrArg Prod.fst (kf_89 X.1)) rfl ?_
                  refine wp_aload rfl rfl ?_
                  refine wp_getI (j := 24) rfl (congrArg Prod.fst (kf_89 X.1)) rfl ?_
                  refine Wp.topI (y := (h 89 24)) ((congrFun (upd2_ne (by decide)) _).trans ((upd2_o (by decide)).trans (upd2_o (by decide)))) ?_
                  refine wp_iload rfl rfl ?_
                  refine wp_iastore rfl (kf_106 X.1) ⟨g70.1, g70.2⟩ ?_
                  refine wp_aload rfl rfl ?_
                  refine wp_getR (r := 106) rfl (congrArg Prod.fst (kf_89 X.1)) rfl ?_
                  refine wp_aload rfl rfl ?_
                  refine wp_getI (j := 24) rfl (congrArg Prod.fst (kf_89 X.1)) rfl ?_
                  refine Wp.topI (y := (h 89 24)) ((congrFun ((upd2_ne (by decide)).trans (upd2_ne (by decide))) _).trans ((upd2_o (by decide)).trans (upd2_o (by decide)))) ?_
                  refine wp_iload rfl rfl ?_
                  refine wp_iastore rfl (kf_107 X.1) ⟨g70.1, g70.2⟩ ?_
                  refine wp_aload rfl rfl ?_
                  refine wp_getR (r := 107) rfl (congrArg Prod.fst (kf_89 X.1)) rfl ?_
                  refine wp_aload rfl rfl ?_
                  refine wp_getI (j := 24) rfl (congrArg Prod.fst (kf_89 X.1)) rfl ?_
                  refine Wp.topI (y := (h 89 24)) ((congrFun ((upd2_ne (by decide)).trans ((upd2_ne (by decide)).trans (upd2_ne (by decide)))) _).trans ((upd2_o (by decide)).trans (upd2_o (by decide)))) ?_
                  refine wp_iload rfl rfl ?_
                  refine wp_iastore rfl (kf_108 X.1) ⟨g70.1, g70.2⟩ ?_
                  refine wp_aload rfl rfl ?_
                  refine wp_dupR rfl ?_
                  refine wp_getI (j := 24) rfl (congrArg Prod.fst (kf_89 X.1)) rfl ?_
                  refine Wp.topI (y := (h 89 24)) ((congrFun ((upd2_ne (by decide)).trans ((upd2_ne (by decide)).trans ((upd2_ne (by decide)).trans (upd2_ne (by decide))))) _).trans ((upd2_o (by decide)).trans (upd2_o (by decide)))) ?_
                  refine wp_iconst rfl ?_
                  refine wp_iadd rfl ?_
                  refine Wp.topI (y := ((h 89 24) + 1)) (w32_I (by clear H; unfold R32; omega)) ?_
                  refine wp_putI (j := 24) rfl (congrArg Prod.fst (kf_89 X.1)) rfl rfl rfl ?_
                  refine wp_iconst rfl ?_
                  exact wp_zret rfl rfl (by decide) H
        · replace H := H.2 c57
          refine wp_iload rfl rfl ?_
          refine wp_iconst rfl ?_
          refine wp_iceq (tn := 35) rfl rfl (fun c71 => ?_) (fun c71 => ?_)
          · replace H := H.1 c71
            refine wp_aload rfl rfl ?_
            refine wp_dupR rfl ?_
            refine wp_getI (j := 23) rfl (congrArg Prod.fst (kf_89 X.1)) rfl ?_
            refine wp_iconst rfl ?_
            refine wp_iadd rfl ?_
            have g72 := H.1
            replace H := H.2
            refine Wp.topI (y := ((h 89 23) + 1)) (w32_I g72) ?_
            refine wp_putI (j := 23) rfl (congrArg Prod.fst (kf_89 X.1)) rfl rfl rfl ?_
            refine wp_aload rfl rfl ?_
            refine wp_iload rfl rfl ?_
            refine wp_iload rfl rfl ?_
            refine wp_iconst rfl ?_
            refine wp_icneT (tn := 57) rfl rfl c7 ?_
            refine wp_iload rfl rfl ?_
            refine wp_iconst rfl ?_
            refine wp_icneT (tn := 67) rfl rfl c57 ?_
            refine wp_iconst rfl ?_
            refine wp_iload rfl rfl ?_
            refine wp_iconst rfl ?_
            refine wp_icneT (tn := 78) rfl rfl c7 ?_
            refine wp_iconst rfl ?_
            refine wp_call (k := 90) (ρ2 := 1) (L2 := [vr 89, vi x1, vi 3, vi 9, vu]) rfl rfl rfl (Nat.le_of_ble_eq_true rfl) (Nat.le_of_ble_eq_true rfl) (Nat.le_of_ble_eq_true rfl) (rcv_V rfl (congrArg Prod.fst (kf_89 X.1))) rfl ?_
            refine wp_aload rfl rfl ?_
            refine wp_iload rfl rfl ?_
            refine wp_call (k := 88) (ρ2 := 0) (L2 := [vr 89, vi x1]) rfl rfl rfl (Nat.le_of_ble_eq_true rfl) (Nat.le_of_ble_eq_true rfl) (Nat.le_of_ble_eq_true rfl) (rcv_V rfl (congrArg Prod.fst (kf_89 X.1))) rfl ?_
            refine wp_aload rfl rfl ?_
            refine wp_getI (j := 23) rfl (congrArg Prod.fst (kf_89 X.1)) rfl ?_
            refine Wp.topI (y := ((h 89 23) + 1)) upd2_s ?_
            refine wp_aload rfl rfl ?_
            refine wp_getR (r := 103) rfl (congrArg Prod.fst (kf_89 X.1)) rfl ?_
            refine wp_iload rfl rfl ?_
            refine wp_iaload rfl (kf_104 X.1) ⟨g1.1, g1.2⟩ ?_
            refine Wp.topI (y := (h 104 x1)) (congrFun (upd2_ne (by decide)) _) ?_
            refine wp_icge (tn := 30) rfl rfl (fun c73 => ?_) (fun c73 => ?_)
            · replace H := H.1 c73
              refine wp_iconst rfl ?_
              refine wp_iret rfl rfl ?_
              show Wp X _ 90 5 [vr 89, vi x1, vi 3, vi 9, vu] [vi (-1)] _ _
              refine wp_iconst rfl ?_
              refine wp_isub rfl ?_
              refine Wp.topI (y := (-49)) (by decide) ?_
              refine wp_istore (L2 := [vr 89, vi x1, vi 3, vi 9, vi (-49)]) rfl (Nat.le_of_ble_eq_true rfl) rfl ?_
              refine wp_iload rfl rfl ?_
              refine wp_i2l rfl ?_
              refine wp_iload rfl rfl ?_
              refine wp_i2l rfl ?_
              refine wp_iload rfl rfl ?_
              refine wp_i2l rfl ?_
              refine wp_call (k := 48) (ρ2 := 0) (L2 := [vl (-49), vu, vl 3, vu, vl 9, vu]) rfl rfl rfl (Nat.le_of_ble_eq_true rfl) (Nat.le_of_ble_eq_true rfl) (Nat.le_of_ble_eq_true rfl) (rcv_S rfl) rfl ?_
              refine wp_lload rfl rfl ?_
              refine wp_lload rfl rfl ?_
              refine wp_lcmp rfl ?_
              refine wp_iflt (tn := 17) rfl rfl (fun c74 => ?_) (fun c74 => ?_)
              · replace H := H.1 c74
                refine wp_iconst rfl ?_
                refine wp_zret rfl rfl (by decide) ?_
                show Wp X _ 90 20 [vr 89, vi x1, vi 3, vi 9, vi (-49)] [vi 0] _ _
                refine wp_ifneF (tn := 25) rfl rfl (by decide) ?_
                refine wp_iconst rfl ?_
                refine wp_iret rfl rfl ?_
                show Wp X _ 91 83 [vr 89, vi x1, vi (h 103 ((50 * x1) + (h 89 23))), vu, vu, vu] [vi (-1)] _ _
                refine wp_istore (L2 := [vr 89, vi x1, vi (h 103 ((50 * x1) + (h 89 23))), vi (-1), vu, vu]) rfl (Nat.le_of_ble_eq_true rfl) rfl ?_
                refine wp_iload rfl rfl ?_
                refine wp_istore (L2 := [vr 89, vi x1, vi (h 103 ((50 * x1) + (h 89 23))), vi (-1), vi (-1), vu]) rfl (Nat.le_of_ble_eq_true rfl) rfl ?_
                refine wp_iconst rfl ?_
                refine wp_istore (L2 := [vr 89, vi x1, vi (h 103 ((50 * x1) + (h 89 23))), vi (-1), vi (-1), vi 0]) rfl (Nat.le_of_ble_eq_true rfl) rfl ?_
                refine wp_iload rfl rfl ?_
                refine wp_ifltT (tn := 151) rfl rfl (by decide) ?_
                refine wp_iload rfl rfl ?_
                refine wp_ifltT (tn := 165) rfl rfl (by decide) ?_
                refine wp_iconst rfl ?_
                exact wp_zret rfl rfl (by decide) H
              · replace H := H.2 c74
                refine wp_lload rfl rfl ?_
                refine wp_lload rfl rfl ?_
                refine wp_lcmp rfl ?_
                refine wp_ifgt (tn := 17) rfl rfl (fun c75 => ?_) (fun c75 => ?_)
                · replace H := H.1 c75
                  refine wp_iconst rfl ?_
                  refine wp_zret rfl rfl (by decide) ?_
                  show Wp X _ 90 20 [vr 89, vi x1, vi 3, vi 9, vi (-49)] [vi 0] _ _
                  refine wp_ifneF (tn := 25) rfl rfl (by decide) ?_
                  refine wp_iconst rfl ?_
                  refine wp_iret rfl rfl ?_
                  show Wp X _ 91 83 [vr 89, vi x1, vi (h 103 ((50 * x1) + (h 89 23))), vu, vu, vu] [vi (-1)] _ _
                  refine wp_istore (L2 := [vr 89, vi x1, vi (h 103 ((50 * x1) + (h 89 23))), vi (-1), vu, vu]) rfl (Nat.le_of_ble_eq_true rfl) rfl ?_
                  refine wp_iload rfl rfl ?_
                  refine wp_istore (L2 := [vr 89, vi x1, vi (h 103 ((50 * x1) + (h 89 23))), vi (-1), vi (-1), vu]) rfl (Nat.le_of_ble_eq_true rfl) rfl ?_
                  refine wp_iconst rfl ?_
                  refine wp_istore (L2 := [vr 89, vi x1, vi (h 103 ((50 * x1) + (h 89 23))), vi (-1), vi (-1), vi 0]) rfl (Nat.le_of_ble_eq_true rfl) rfl ?_
                  refine wp_iload rfl rfl ?_
                  refine wp_ifltT (tn := 151) rfl rfl (by decide) ?_
                  refine wp_iload rfl rfl ?_
                  refine wp_ifltT (tn := 165) rfl rfl (by decide) ?_
                  refine wp_iconst rfl ?_
                  exact wp_zret rfl rfl (by decide) H
                · replace H := H.2 c75
                  refine wp_iconst rfl ?_
                  refine wp_goto (tn := 18) rfl rfl ?_
                  refine wp_zret rfl rfl (by decide) ?_
                  show Wp X _ 90 20 [vr 89, vi x1, vi 3, vi 9, vi (-49)] [vi 1] _ _
                  refine wp_ifneT (tn := 25) rfl rfl (by decide) ?_
                  refine wp_aload rfl rfl ?_
                  refine wp_dupR rfl ?_
                  refine wp_getI (j := 23) rfl (congrArg Prod.fst (kf_89 X.1)) rfl ?_
                  refine Wp.topI (y := ((h 89 23) + 1)) upd2_s ?_
                  refine wp_iconst rfl ?_
                  refine wp_iadd rfl ?_
                  have g76 := H.1
                  replace H := H.2
                  refine Wp.topI (y := (((h 89 23) + 1) + 1)) (w32_I g76) ?_
                  refine wp_putI (j := 23) rfl (congrArg Prod.fst (kf_89 X.1)) rfl rfl rfl ?_
                  refine wp_iload rfl rfl ?_
                  refine wp_iret rfl rfl ?_
                  show Wp X _ 91 83 [vr 89, vi x1, vi (h 103 ((50 * x1) + (h 89 23))), vu, vu, vu] [vi (-49)] _ _
                  refine wp_istore (L2 := [vr 89, vi x1, vi (h 103 ((50 * x1) + (h 89 23))), vi (-49), vu, vu]) rfl (Nat.le_of_ble_eq_true rfl) rfl ?_
                  refine wp_iload rfl rfl ?_
                  refine wp_istore (L2 := [vr 89, vi x1, vi (h 103 ((50 * x1) + (h 89 23))), vi (-49), vi (-49), vu]) rfl (Nat.le_of_ble_eq_true rfl) rfl ?_
                  refine wp_iconst rfl ?_
                  refine wp_istore (L2 := [vr 89, vi x1, vi (h 103 ((50 * x1) + (h 89 23))), vi (-49), vi (-49), vi 0]) rfl (Nat.le_of_ble_eq_true rfl) rfl ?_
                  refine wp_iload rfl rfl ?_
                  refine wp_ifltT (tn := 151) rfl rfl (by decide) ?_
                  refine wp_iload rfl rfl ?_
                  refine wp_ifltT (tn := 165) rfl rfl (by decide) ?_
                  refine wp_iconst rfl ?_
                  exact wp_zret rfl rfl (by decide) H
            · replace H := H.2 c73
              refine wp_aload rfl rfl ?_
              refine wp_getR (r := 102) rfl (congrArg Prod.fst (kf_89 X.1)) rfl ?_
              refine wp_iconst rfl ?_
              refine wp_iload rfl rfl ?_
              refine wp_imul rfl ?_
              refine Wp.topI (y := (50 * x1)) (w32_I (by clear H; unfold R32; omega)) ?_
              refine wp_aload rfl rfl ?_
              refine wp_getI (j := 23) rfl (congrArg Prod.fst (kf_89 X.1)) rfl ?_
              refine Wp.topI (y := ((h 89 23) + 1)) upd2_s ?_
              refine wp_iadd rfl ?_
              have g77 := H.1
              replace H := H.2
              refine Wp.topI (y := ((50 * x1) + ((h 89 23) + 1))) (w32_I g77) ?_
              have g78 := H.1
              replace H := H.2
              refine wp_iaload rfl (kf_103 X.1) g78 ?_
              refine Wp.topI (y := (h 103 ((50 * x1) + ((h 89 23) + 1)))) (congrFun (upd2_ne (by decide)) _) ?_
              refine wp_goto (tn := 31) rfl rfl ?_
              refine wp_iret rfl rfl ?_
              show Wp X _ 90 5 [vr 89, vi x1, vi 3, vi 9, vu] [vi (h 103 ((50 * x1) + ((h 89 23) + 1)))] _ _
              refine wp_iconst rfl ?_
              refine wp_isub rfl ?_
              have g79 := H.1
              replace H := H.2
              refine Wp.topI (y := ((h 103 ((50 * x1) + ((h 89 23) + 1))) - 48)) (w32_I g79) ?_
              refine wp_istore (L2 := [vr 89, vi x1, vi 3, vi 9, vi ((h 103 ((50 * x1) + ((h 89 23) + 1))) - 48)]) rfl (Nat.le_of_ble_eq_true rfl) rfl ?_
              refine wp_iload rfl rfl ?_
              refine wp_i2l rfl ?_
              refine wp_iload rfl rfl ?_
              refine wp_i2l rfl ?_
              refine wp_iload rfl rfl ?_
              refine wp_i2l rfl ?_
              refine wp_call (k := 48) (ρ2 := 0) (L2 := [vl ((h 103 ((50 * x1) + ((h 89 23) + 1))) - 48), vu, vl 3, vu, vl 9, vu]) rfl rfl rfl (Nat.le_of_ble_eq_true rfl) (Nat.le_of_ble_eq_true rfl) (Nat.le_of_ble_eq_true rfl) (rcv_S rfl) rfl ?_
              refine wp_lload rfl rfl ?_
              refine wp_lload rfl rfl ?_
              refine wp_lcmp rfl ?_
              refine wp_iflt (tn := 17) rfl rfl (fun c80 => ?_) (fun c80 => ?_)
              · replace H := H.1 c80
                refine wp_iconst rfl ?_
                refine wp_zret rfl rfl (by decide) ?_
                show Wp X _ 90 20 [vr 89, vi x1, vi 3, vi 9, vi ((h 103 ((50 * x1) + ((h 89 23) + 1))) - 48)] [vi 0] _ _
                refine wp_ifneF (tn := 25) rfl rfl (by decide) ?_
                refine wp_iconst rfl ?_
                refine wp_iret rfl rfl ?_
                show Wp X _ 91 83 [vr 89, vi x1, vi (h 103 ((50 * x1) + (h 89 23))), vu, vu, vu] [vi (-1)] _ _
                refine wp_istore (L2 := [vr 89, vi x1, vi (h 103 ((50 * x1) + (h 89 23))), vi (-1), vu, vu]) rfl (Nat.le_of_ble_eq_true rfl) rfl ?_
                refine wp_iload rfl rfl ?_
                refine wp_istore (L2 := [vr 89, vi x1, vi (h 103 ((50 * x1) + (h 89 23))), vi (-1), vi (-1), vu]) rfl (Nat.le_of_ble_eq_true rfl) rfl ?_
                refine wp_iconst rfl ?_
                refine wp_istore (L2 := [vr 89, vi x1, vi (h 103 ((50 * x1) + (h 89 23))), vi (-1), vi (-1), vi 0]) rfl (Nat.le_of_ble_eq_true rfl) rfl ?_
                refine wp_iload rfl rfl ?_
                refine wp_ifltT (tn := 151) rfl rfl (by decide) ?_
                refine wp_iload rfl rfl ?_
                refine wp_ifltT (tn := 165) rfl rfl (by decide) ?_
                refine wp_iconst rfl ?_
                exact wp_zret rfl rfl (by decide) H
              · replace H := H.2 c80
                refine wp_lload rfl rfl ?_
                refine wp_lload rfl rfl ?_
                refine wp_lcmp rfl ?_
                refine wp_ifgt (tn := 17) rfl rfl (fun c81 => ?_) (fun c81 => ?_)
                · replace H := H.1 c81
                  refine wp_iconst rfl ?_
                  refine wp_zret rfl rfl (by decide) ?_
                  show Wp X _ 90 20 [vr 89, vi x1, vi 3, vi 9, vi ((h 103 ((50 * x1) + ((h 89 23) + 1))) - 48)] [vi 0] _ _
                  refine wp_ifneF (tn := 25) rfl rfl (by decide) ?_
                  refine wp_iconst rfl ?_
                  refine wp_iret rfl rfl ?_
                  show Wp X _ 91 83 [vr 89, vi x1, vi (h 103 ((50 * x1) + (h 89 23))), vu, vu, vu] [vi (-1)] _ _
                  refine wp_istore (L2 := [vr 89, vi x1, vi (h 103 ((50 * x1) + (h 89 23))), vi (-1), vu, vu]) rfl (Nat.le_of_ble_eq_true rfl) rfl ?_
                  refine wp_iload rfl rfl ?_
                  refine wp_istore (L2 := [vr 89, vi x1, vi (h 103 ((50 * x1) + (h 89 23))), vi (-1), vi (-1), vu]) rfl (Nat.le_of_ble_eq_true rfl) rfl ?_
                  refine wp_iconst rfl ?_
                  refine wp_istore (L2 := [vr 89, vi x1, vi (h 103 ((50 * x1) + (h 89 23))), vi (-1), vi (-1), vi 0]) rfl (Nat.le_of_ble_eq_true rfl) rfl ?_
                  refine wp_iload rfl rfl ?_
                  refine wp_ifltT (tn := 151) rfl rfl (by decide) ?_
                  refine wp_iload rfl rfl ?_
                  refine wp_ifltT (tn := 165) rfl rfl (by decide) ?_
                  refine wp_iconst rfl ?_
                  exact wp_zret rfl rfl (by decide) H
                · replace H := H.2 c81
                  refine wp_iconst rfl ?_
                  refine wp_goto (tn := 18) rfl rfl ?_
                  refine wp_zret rfl rfl (by decide) ?_
                  show Wp X _ 90 20 [vr 89, vi x1, vi 3, vi 9, vi ((h 103 ((50 * x1) + ((h 89 23) + 1))) - 48)] [vi 1] _ _
                  refine wp_ifneT (tn := 25) rfl rfl (by decide) ?_
                  refine wp_aload rfl rfl ?_
                  refine wp_dupR rfl ?_
                  refine wp_getI (j := 23) rfl (congrArg Prod.fst (kf_89 X.1)) rfl ?_
                  refine Wp.topI (y := ((h 89 23) + 1)) upd2_s ?_
                  refine wp_iconst rfl ?_
                  refine wp_iadd rfl ?_
                  have g82 := H.1
                  replace H := H.2
                  refine Wp.topI (y := (((h 89 23) + 1) + 1)) (w32_I g82) ?_
                  refine wp_putI (j := 23) rfl (congrArg Prod.fst (kf_89 X.1)) rfl rfl rfl ?_
                  refine wp_iload rfl rfl ?_
                  refine wp_iret rfl rfl ?_
                  show Wp X _ 91 83 [vr 89, vi x1, vi (h 103 ((50 * x1) + (h 89 23))), vu, vu, vu] [vi ((h 103 ((50 * x1) + ((h 89 23) + 1))) - 48)] _ _
                  refine wp_istore (L2 := [vr 89, vi x1, vi (h 103 ((50 * x1) + (h 89 23))), vi ((h 103 ((50 * x1) + ((h 89 23) + 1))) - 48), vu, vu]) rfl (Nat.le_of_ble_eq_true rfl) rfl ?_
                  refine wp_iload rfl rfl ?_
                  refine wp_istore (L2 := [vr 89, vi x1, vi (h 103 ((50 * x1) + (h 89 23))), vi ((h 103 ((50 * x1) + ((h 89 23) + 1))) - 48), vi ((h 103 ((50 * x1) + ((h 89 23) + 1))) - 48), vu]) rfl (Nat.le_of_ble_eq_true rfl) rfl ?_
                  refine wp_iconst rfl ?_
                  refine wp_istore (L2 := [vr 89, vi x1, vi (h 103 ((50 * x1) + (h 89 23))), vi ((h 103 ((50 * x1) + ((h 89 23) + 1))) - 48), vi ((h 103 ((50 * x1) + ((h 89 23) + 1))) - 48), vi 0]) rfl (Nat.le_of_ble_eq_true rfl) rfl ?_
                  refine wp_iload rfl rfl ?_
                  refine wp_iflt (tn := 151) rfl rfl (fun c83 => ?_) (fun c83 => ?_)
                  · replace H := H.1 c83
                    refine wp_iload rfl rfl ?_
                    refine wp_ifltT (tn := 165) rfl rfl c83 ?_
                    refine wp_iconst rfl ?_
                    exact wp_zret rfl rfl (by decide) H
                  · replace H := H.2 c83
                    refine wp_iload rfl rfl ?_
                    refine wp_iconst rfl ?_
                    refine wp_icneT (tn := 151) rfl rfl c7 ?_
                    refine wp_iload rfl rfl ?_
                    refine wp_ifltF (tn := 165) rfl rfl c83 ?_
                    refine wp_iload rfl rfl ?_
                    refine wp_ifltF (tn := 165) rfl rfl c83 ?_
                    refine wp_iload rfl rfl ?_
                    refine wp_ifgeT (tn := 167) rfl rfl (by decide) ?_
                    refine wp_aload rfl rfl ?_
                    refine wp_getR (r := 104) rfl (congrArg Prod.fst (kf_89 X.1)) rfl ?_
                    refine wp_aload rfl rfl ?_
                    refine wp_getI (j := 24) rfl (congrArg Prod.fst (kf_89 X.1)) rfl ?_
                    refine Wp.topI (y := (h 89 24)) ((upd2_o (by decide)).trans (upd2_o (by decide))) ?_
                    refine wp_iload rfl rfl ?_
                    have g84 := H.1
                    replace H := H.2
                    refine wp_iastore rfl (kf_105 X.1) g84 ?_
                    refine wp_aload rfl rfl ?_
                    refine wp_getR (r := 105) rfl (congrArg Prod.fst (kf_89 X.1)) rfl ?_
                    refine wp_aload rfl rfl ?_
                    refine wp_getI (j := 24) rfl (congrArg Prod.fst (kf_89 X.1)) rfl ?_
                    refine Wp.topI (y := (h 89 24)) ((congrFun (upd2_ne (by decide)) _).trans ((upd2_o (by decide)).trans (upd2_o (by decide)))) ?_
                    refine wp_iload rfl rfl ?_
                    refine wp_iastore rfl (kf_106 X.1) ⟨g84.1, g84.2⟩ ?_
                    refine wp_aload rfl rfl ?_
                    refine wp_getR (r := 106) rfl (congrArg Prod.fst (kf_89 X.1)) rfl ?_
                    refine wp_aload rfl rfl ?_
                    refine wp_getI (j := 24) rfl (congrArg Prod.fst (kf_89 X.1)) rfl ?_
                    refine Wp.topI (y := (h 89 24)) ((congrFun ((upd2_ne (by decide)).trans (upd2_ne (by decide))) _).trans ((upd2_o (by decide)).trans (upd2_o (by decide)))) ?_
                    refine wp_iload rfl rfl ?_
                    refine wp_iastore rfl (kf_107 X.1) ⟨g84.1, g84.2⟩ ?_
                    refine wp_aload rfl rfl ?_
                    refine wp_getR (r := 107) rfl (congrArg Prod.fst (kf_89 X.1)) rfl ?_
                    refine wp_aload rfl rfl ?_
                    refine wp_getI (j := 24) rfl (congrArg Prod.fst (kf_89 X.1)) rfl ?_
                    refine Wp.topI (y := (h 89 24)) ((congrFun ((upd2_ne (by decide)).trans ((upd2_ne (by decide)).trans (upd2_ne (by decide)))) _).trans ((upd2_o (by decide)).trans (upd2_o (by decide)))) ?_
                    refine wp_iload rfl rfl ?_
                    refine wp_iastore rfl (kf_108 X.1) ⟨g84.1, g84.2⟩ ?_
                    refine wp_aload rfl rfl ?_
                    refine wp_dupR rfl ?_
                    refine wp_getI (j := 24) rfl (congrArg Prod.fst (kf_89 X.1)) rfl ?_
                    refine Wp.topI (y := (h 89 24)) ((congrFun ((upd2_ne (by decide)).trans ((upd2_ne (by decide)).trans ((upd2_ne (by decide)).trans (upd2_ne (by decide))))) _).trans ((upd2_o (by decide)).trans (upd2_o (by decide)))) ?_
                    refine wp_iconst rfl ?_
                    refine wp_iadd rfl ?_
                    refine Wp.topI (y := ((h 89 24) + 1)) (w32_I (by clear H; unfold R32; omega)) ?_
                    refine wp_putI (j := 24) rfl (congrArg Prod.fst (kf_89 X.1)) rfl rfl rfl ?_
                    refine wp_iconst rfl ?_
                    exact wp_zret rfl rfl (by decide) H
          · replace H := H.2 c71
            refine wp_iconst rfl ?_
            exact wp_zret rfl rfl (by decide) H
