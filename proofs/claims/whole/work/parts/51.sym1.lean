-- ===== the methods run symbolically, 1 (by program: wip/whole/gen_sym.py) =====
/-- WarnLines.group()I, from 0 -/
theorem S1_6_0 {X : Nat × (Int → Int)} {h : HP} {Q : bQ}  (H : (((h 8 8) < 20 → Wp X 1 152 0 [vr 8] [] h (fun v h' => Wp X 2 1 22 [vr 6] (psh v []) h' Q)) ∧ (20 ≤ (h 8 8) → Q (some (vi (-4))) h))) : Wp X 2 1 0 [vr 6] [] h Q := by
  refine wp_aload rfl rfl ?_
  refine wp_getR (r := 7) rfl (congrArg Prod.fst (kf_6 X.1)) rfl ?_
  refine wp_call (k := 142) (ρ2 := 0) (L2 := [vr 8]) rfl rfl rfl (Nat.le_of_ble_eq_true rfl) (Nat.le_of_ble_eq_true rfl) (Nat.le_of_ble_eq_true rfl) (rcv_V rfl (congrArg Prod.fst (kf_8 X.1))) rfl ?_
  refine wp_aload rfl rfl ?_
  refine wp_getI (j := 8) rfl (congrArg Prod.fst (kf_8 X.1)) rfl ?_
  refine wp_iret rfl rfl ?_
  show Wp X _ 1 7 [vr 6] [vi (h 8 8)] _ _
  refine wp_iconst rfl ?_
  refine wp_iclt (tn := 15) rfl rfl (fun c1 => ?_) (fun c1 => ?_)
  · replace H := H.1 c1
    refine wp_aload rfl rfl ?_
    refine wp_getR (r := 7) rfl (congrArg Prod.fst (kf_6 X.1)) rfl ?_
    exact wp_call (k := 152) (ρ2 := 1) (L2 := [vr 8]) rfl rfl rfl (Nat.le_of_ble_eq_true rfl) (Nat.le_of_ble_eq_true rfl) (Nat.le_of_ble_eq_true rfl) (rcv_V rfl (congrArg Prod.fst (kf_8 X.1))) rfl H
  · replace H := H.2 c1
    refine wp_iconst rfl ?_
    exact wp_iret rfl rfl H
/-- WarnLines.group()I, from 22 -/
theorem S1_6_22 {X : Nat × (Int → Int)} {h : HP} {Q : bQ}  (H : ((R32 ((h 8 8) - 1)) ∧ Q (some (vi ((h 8 8) - 1))) h)) : Wp X 2 1 22 [vr 6] [] h Q := by
  refine wp_aload rfl rfl ?_
  refine wp_getR (r := 7) rfl (congrArg Prod.fst (kf_6 X.1)) rfl ?_
  refine wp_call (k := 142) (ρ2 := 0) (L2 := [vr 8]) rfl rfl rfl (Nat.le_of_ble_eq_true rfl) (Nat.le_of_ble_eq_true rfl) (Nat.le_of_ble_eq_true rfl) (rcv_V rfl (congrArg Prod.fst (kf_8 X.1))) rfl ?_
  refine wp_aload rfl rfl ?_
  refine wp_getI (j := 8) rfl (congrArg Prod.fst (kf_8 X.1)) rfl ?_
  refine wp_iret rfl rfl ?_
  show Wp X _ 1 29 [vr 6] [vi (h 8 8)] _ _
  refine wp_iconst rfl ?_
  refine wp_isub rfl ?_
  have g1 := H.1
  replace H := H.2
  refine Wp.topI (y := ((h 8 8) - 1)) (w32_I g1) ?_
  exact wp_iret rfl rfl H
/-- WarnLines.told(IIII)I, from 0 -/
theorem S2_6_0 {X : Nat × (Int → Int)} {h : HP} {Q : bQ} (x1 : Int) (x2 : Int) (x3 : Int) (x4 : Int) (H : ((x1 < 0 → Q (some (vi (-2))) h) ∧ (0 ≤ x1 → (((h 8 8) ≤ x1 → Q (some (vi (-2))) h) ∧ (x1 < (h 8 8) → ((x2 < 0 → Q (some (vi (-2))) h) ∧ (0 ≤ x2 → ((x2 ≤ 4 → ((x3 < (-1) → Q (some (vi (-2))) h) ∧ ((-1) ≤ x3 → ((x3 ≤ 999 → (((h 8 7) ≤ 0 → ((x4 < 0 → Q (some (vi (-2))) h) ∧ (0 ≤ x4 → ((999 < x4 → Q (some (vi (-2))) h) ∧ (x4 ≤ 999 → ((0 ≤ (h 8 7) ∧ (h 8 7) < 100) ∧ Wp X 5 32 0 [vr 6, vu] [] (upd2 (upd2 (upd2 (upd2 (upd2 h 9 (h 8 7) x1) 10 (h 8 7) x2) 11 (h 8 7) x3) 12 (h 8 7) x4) 8 7 ((h 8 7) + 1)) (fun v h' => Wp X 6 2 71 [vr 6, vi x1, vi x2, vi x3, vi x4] (psh v []) h' Q))))))) ∧ (0 < (h 8 7) → ((R32 ((h 8 7) - 1)) ∧ ((0 ≤ ((h 8 7) - 1) ∧ ((h 8 7) - 1) < 100) ∧ ((x4 < (h 12 ((h 8 7) - 1)) → Q (some (vi (-2))) h) ∧ ((h 12 ((h 8 7) - 1)) ≤ x4 → ((999 < x4 → Q (some (vi (-2))) h) ∧ (x4 ≤ 999 → ((100 ≤ (h 8 7) → Q (some (vi (-4))) h) ∧ ((h 8 7) < 100 → Wp X 5 32 0 [vr 6, vu] [] (upd2 (upd2 (upd2 (upd2 (upd2 h 9 (h 8 7) x1) 10 (h 8 7) x2) 11 (h 8 7) x3) 12 (h 8 7) x4) 8 7 ((h 8 7) + 1)) (fun v h' => Wp X 6 2 71 [vr 6, vi x1, vi x2, vi x3, vi x4] (psh v []) h' Q)))))))))))) ∧ (999 < x3 → Q (some (vi (-2))) h))))) ∧ (4 < x2 → Q (some (vi (-2))) h))))))))) : Wp X 6 2 0 [vr 6, vi x1, vi x2, vi x3, vi x4] [] h Q := by
  refine wp_aload rfl rfl ?_
  refine wp_getR (r := 7) rfl (congrArg Prod.fst (kf_6 X.1)) rfl ?_
  refine wp_iload rfl rfl ?_
  refine wp_call (k := 145) (ρ2 := 0) (L2 := [vr 8, vi x1]) rfl rfl rfl (Nat.le_of_ble_eq_true rfl) (Nat.le_of_ble_eq_true rfl) (Nat.le_of_ble_eq_true rfl) (rcv_V rfl (congrArg Prod.fst (kf_8 X.1))) rfl ?_
  refine wp_iload rfl rfl ?_
  refine wp_iflt (tn := 16) rfl rfl (fun c1 => ?_) (fun c1 => ?_)
  · replace H := H.1 c1
    refine wp_iconst rfl ?_
    refine wp_zret rfl rfl (by decide) ?_
    show Wp X _ 2 8 [vr 6, vi x1, vi x2, vi x3, vi x4] [vi 0] _ _
    refine wp_ifeqT (tn := 39) rfl rfl (by decide) ?_
    refine wp_iconst rfl ?_
    exact wp_iret rfl rfl H
  · replace H := H.2 c1
    refine wp_iload rfl rfl ?_
    refine wp_aload rfl rfl ?_
    refine wp_getI (j := 8) rfl (congrArg Prod.fst (kf_8 X.1)) rfl ?_
    refine wp_icge (tn := 16) rfl rfl (fun c2 => ?_) (fun c2 => ?_)
    · replace H := H.1 c2
      refine wp_iconst rfl ?_
      refine wp_zret rfl rfl (by decide) ?_
      show Wp X _ 2 8 [vr 6, vi x1, vi x2, vi x3, vi x4] [vi 0] _ _
      refine wp_ifeqT (tn := 39) rfl rfl (by decide) ?_
      refine wp_iconst rfl ?_
      exact wp_iret rfl rfl H
    · replace H := H.2 c2
      refine wp_iconst rfl ?_
      refine wp_goto (tn := 17) rfl rfl ?_
      refine wp_zret rfl rfl (by decide) ?_
      show Wp X _ 2 8 [vr 6, vi x1, vi x2, vi x3, vi x4] [vi 1] _ _
      refine wp_ifeqF (tn := 39) rfl rfl (by decide) ?_
      refine wp_iload rfl rfl ?_
      refine wp_iconst rfl ?_
      refine wp_iconst rfl ?_
      refine wp_call (k := 40) (ρ2 := 0) (L2 := [vi x2, vi 0, vi 4]) rfl rfl rfl (Nat.le_of_ble_eq_true rfl) (Nat.le_of_ble_eq_true rfl) (Nat.le_of_ble_eq_true rfl) (rcv_S rfl) rfl ?_
      refine wp_iload rfl rfl ?_
      refine wp_iload rfl rfl ?_
      refine wp_iclt (tn := 10) rfl rfl (fun c3 => ?_) (fun c3 => ?_)
      · replace H := H.1 c3
        refine wp_iconst rfl ?_
        refine wp_goto (tn := 15) rfl rfl ?_
        refine wp_zret rfl rfl (by decide) ?_
        show Wp X _ 2 17 [vr 6, vi x1, vi x2, vi x3, vi x4] [vi 1] _ _
        refine wp_ifneT (tn := 39) rfl rfl (by decide) ?_
        refine wp_iconst rfl ?_
        exact wp_iret rfl rfl H
      · replace H := H.2 c3
        refine wp_iload rfl rfl ?_
        refine wp_iload rfl rfl ?_
        refine wp_icle (tn := 14) rfl rfl (fun c4 => ?_) (fun c4 => ?_)
        · replace H := H.1 c4
          refine wp_iconst rfl ?_
          refine wp_zret rfl rfl (by decide) ?_
          show Wp X _ 2 17 [vr 6, vi x1, vi x2, vi x3, vi x4] [vi 0] _ _
          refine wp_ifneF (tn := 39) rfl rfl (by decide) ?_
          refine wp_iload rfl rfl ?_
          refine wp_call (k := 41) (ρ2 := 1) (L2 := [vi x3]) rfl rfl rfl (Nat.le_of_ble_eq_true rfl) (Nat.le_of_ble_eq_true rfl) (Nat.le_of_ble_eq_true rfl) (rcv_S rfl) rfl ?_
          refine wp_iload rfl rfl ?_
          refine wp_iconst rfl ?_
          refine wp_iconst rfl ?_
          refine wp_call (k := 40) (ρ2 := 0) (L2 := [vi x3, vi (-1), vi 999]) rfl rfl rfl (Nat.le_of_ble_eq_true rfl) (Nat.le_of_ble_eq_true rfl) (Nat.le_of_ble_eq_true rfl) (rcv_S rfl) rfl ?_
          refine wp_iload rfl rfl ?_
          refine wp_iload rfl rfl ?_
          refine wp_iclt (tn := 10) rfl rfl (fun c5 => ?_) (fun c5 => ?_)
          · replace H := H.1 c5
            refine wp_iconst rfl ?_
            refine wp_goto (tn := 15) rfl rfl ?_
            refine wp_zret rfl rfl (by decide) ?_
            show Wp X _ 41 8 [vi x3] [vi 1] _ _
            refine wp_ifneT (tn := 15) rfl rfl (by decide) ?_
            refine wp_iconst rfl ?_
            refine wp_zret rfl rfl (by decide) ?_
            show Wp X _ 2 24 [vr 6, vi x1, vi x2, vi x3, vi x4] [vi 0] _ _
            refine wp_ifeqT (tn := 39) rfl rfl (by decide) ?_
            refine wp_iconst rfl ?_
            exact wp_iret rfl rfl H
          · replace H := H.2 c5
            refine wp_iload rfl rfl ?_
            refine wp_iload rfl rfl ?_
            refine wp_icle (tn := 14) rfl rfl (fun c6 => ?_) (fun c6 => ?_)
            · replace H := H.1 c6
              refine wp_iconst rfl ?_
              refine wp_zret rfl rfl (by decide) ?_
              show Wp X _ 41 8 [vi x3] [vi 0] _ _
              refine wp_ifneF (tn := 15) rfl rfl (by decide) ?_
              refine wp_iconst rfl ?_
              refine wp_goto (tn := 16) rfl rfl ?_
              refine wp_zret rfl rfl (by decide) ?_
              show Wp X _ 2 24 [vr 6, vi x1, vi x2, vi x3, vi x4] [vi 1] _ _
              refine wp_ifeqF (tn := 39) rfl rfl (by decide) ?_
              refine wp_aload rfl rfl ?_
              refine wp_getR (r := 7) rfl (congrArg Prod.fst (kf_6 X.1)) rfl ?_
              refine wp_iload rfl rfl ?_
              refine wp_call (k := 147) (ρ2 := 0) (L2 := [vr 8, vi x4, vu]) rfl rfl rfl (Nat.le_of_ble_eq_true rfl) (Nat.le_of_ble_eq_true rfl) (Nat.le_of_ble_eq_true rfl) (rcv_V rfl (congrArg Prod.fst (kf_8 X.1))) rfl ?_
              refine wp_aload rfl rfl ?_
              refine wp_getI (j := 7) rfl (congrArg Prod.fst (kf_8 X.1)) rfl ?_
              refine wp_ifle (tn := 21) rfl rfl (fun c7 => ?_) (fun c7 => ?_)
              · replace H := H.1 c7
                refine wp_iconst rfl ?_
                refine wp_istore (L2 := [vr 8, vi x4, vi 0]) rfl (Nat.le_of_ble_eq_true rfl) rfl ?_
                refine wp_iload rfl rfl ?_
                refine wp_iload rfl rfl ?_
                refine wp_iclt (tn := 39) rfl rfl (fun c8 => ?_) (fun c8 => ?_)
                · replace H := H.1 c8
                  refine wp_iconst rfl ?_
                  refine wp_zret rfl rfl (by decide) ?_
                  show Wp X _ 2 36 [vr 6, vi x1, vi x2, vi x3, vi x4] [vi 0] _ _
                  refine wp_ifneF (tn := 42) rfl rfl (by decide) ?_
                  refine wp_iconst rfl ?_
                  exact wp_iret rfl rfl H
                · replace H := H.2 c8
                  refine wp_iload rfl rfl ?_
                  refine wp_iconst rfl ?_
                  refine wp_icgt (tn := 39) rfl rfl (fun c9 => ?_) (fun c9 => ?_)
                  · replace H := H.1 c9
                    refine wp_iconst rfl ?_
                    refine wp_zret rfl rfl (by decide) ?_
                    show Wp X _ 2 36 [vr 6, vi x1, vi x2, vi x3, vi x4] [vi 0] _ _
                    refine wp_ifneF (tn := 42) rfl rfl (by decide) ?_
                    refine wp_iconst rfl ?_
                    exact wp_iret rfl rfl H
                  · replace H := H.2 c9
                    refine wp_iconst rfl ?_
                    refine wp_goto (tn := 40) rfl rfl ?_
                    refine wp_zret rfl rfl (by decide) ?_
                    show Wp X _ 2 36 [vr 6, vi x1, vi x2, vi x3, vi x4] [vi 1] _ _
                    refine wp_ifneT (tn := 42) rfl rfl (by decide) ?_
                    refine wp_aload rfl rfl ?_
                    refine wp_getR (r := 7) rfl (congrArg Prod.fst (kf_6 X.1)) rfl ?_
                    refine wp_call (k := 146) (ρ2 := 0) (L2 := [vr 8]) rfl rfl rfl (Nat.le_of_ble_eq_true rfl) (Nat.le_of_ble_eq_true rfl) (Nat.le_of_ble_eq_true rfl) (rcv_V rfl (congrArg Prod.fst (kf_8 X.1))) rfl ?_
                    refine wp_aload rfl rfl ?_
                    refine wp_getI (j := 7) rfl (congrArg Prod.fst (kf_8 X.1)) rfl ?_
                    refine wp_iconst rfl ?_
                    refine wp_icgeF (tn := 13) rfl rfl (by clear H; omega) ?_
                    refine wp_iconst rfl ?_
                    refine wp_goto (tn := 14) rfl rfl ?_
                    refine wp_zret rfl rfl (by decide) ?_
                    show Wp X _ 2 49 [vr 6, vi x1, vi x2, vi x3, vi x4] [vi 1] _ _
                    refine wp_ifneT (tn := 55) rfl rfl (by decide) ?_
                    refine wp_aload rfl rfl ?_
                    refine wp_getR (r := 7) rfl (congrArg Prod.fst (kf_6 X.1)) rfl ?_
                    refine wp_iload rfl rfl ?_
                    refine wp_iload rfl rfl ?_
                    refine wp_iload rfl rfl ?_
                    refine wp_iload rfl rfl ?_
                    refine wp_call (k := 153) (ρ2 := 1) (L2 := [vr 8, vi x1, vi x2, vi x3, vi x4]) rfl rfl rfl (Nat.le_of_ble_eq_true rfl) (Nat.le_of_ble_eq_true rfl) (Nat.le_of_ble_eq_true rfl) (rcv_V rfl (congrArg Prod.fst (kf_8 X.1))) rfl ?_
                    refine wp_aload rfl rfl ?_
                    refine wp_iload rfl rfl ?_
                    refine wp_call (k := 145) (ρ2 := 0) (L2 := [vr 8, vi x1]) rfl rfl rfl (Nat.le_of_ble_eq_true rfl) (Nat.le_of_ble_eq_true rfl) (Nat.le_of_ble_eq_true rfl) (rcv_V rfl (congrArg Prod.fst (kf_8 X.1))) rfl ?_
                    refine wp_iload rfl rfl ?_
                    refine wp_ifltF (tn := 16) rfl rfl c1 ?_
                    refine wp_iload rfl rfl ?_
                    refine wp_aload rfl rfl ?_
                    refine wp_getI (j := 8) rfl (congrArg Prod.fst (kf_8 X.1)) rfl ?_
                    refine wp_icgeF (tn := 16) rfl rfl c2 ?_
                    refine wp_iconst rfl ?_
                    refine wp_goto (tn := 17) rfl rfl ?_
                    refine wp_zret rfl rfl (by decide) ?_
                    show Wp X _ 153 5 [vr 8, vi x1, vi x2, vi x3, vi x4] [vi 1] _ _
                    refine wp_ifeqF (tn := 66) rfl rfl (by decide) ?_
                    refine wp_aload rfl rfl ?_
                    refine wp_call (k := 146) (ρ2 := 0) (L2 := [vr 8]) rfl rfl rfl (Nat.le_of_ble_eq_true rfl) (Nat.le_of_ble_eq_true rfl) (Nat.le_of_ble_eq_true rfl) (rcv_V rfl (congrArg Prod.fst (kf_8 X.1))) rfl ?_
                    refine wp_aload rfl rfl ?_
                    refine wp_getI (j := 7) rfl (congrArg Prod.fst (kf_8 X.1)) rfl ?_
                    refine wp_iconst rfl ?_
                    refine wp_icgeF (tn := 13) rfl rfl (by clear H; omega) ?_
                    refine wp_iconst rfl ?_
                    refine wp_goto (tn := 14) rfl rfl ?_
                    refine wp_zret rfl rfl (by decide) ?_
                    show Wp X _ 153 12 [vr 8, vi x1, vi x2, vi x3, vi x4] [vi 1] _ _
                    refine wp_ifeqF (tn := 66) rfl rfl (by decide) ?_
                    refine wp_aload rfl rfl ?_
                    refine wp_getR (r := 8) rfl (congrArg Prod.fst (kf_8 X.1)) rfl ?_
                    refine wp_aload rfl rfl ?_
                    refine wp_getI (j := 7) rfl (congrArg Prod.fst (kf_8 X.1)) rfl ?_
                    refine wp_iload rfl rfl ?_
                    have g10 := H.1
                    replace H := H.2
                    refine wp_iastore rfl (kf_9 X.1) g10 ?_
                    refine wp_aload rfl rfl ?_
                    refine wp_getR (r := 9) rfl (congrArg Prod.fst (kf_8 X.1)) rfl ?_
                    refine wp_aload rfl rfl ?_
                    refine wp_getI (j := 7) rfl (congrArg Prod.fst (kf_8 X.1)) rfl ?_
                    refine Wp.topI (y := (h 8 7)) (congrFun (upd2_ne (by decide)) _) ?_
                    refine wp_iload rfl rfl ?_
                    refine wp_iastore rfl (kf_10 X.1) ⟨g10.1, g10.2⟩ ?_
                    refine wp_aload rfl rfl ?_
                    refine wp_getR (r := 10) rfl (congrArg Prod.fst (kf_8 X.1)) rfl ?_
                    refine wp_aload rfl rfl ?_
                    refine wp_getI (j := 7) rfl (congrArg Prod.fst (kf_8 X.1)) rfl ?_
                    refine Wp.topI (y := (h 8 7)) (congrFun ((upd2_ne (by decide)).trans (upd2_ne (by decide))) _) ?_
                    refine wp_iload rfl rfl ?_
                    refine wp_iastore rfl (kf_11 X.1) ⟨g10.1, g10.2⟩ ?_
                    refine wp_aload rfl rfl ?_
                    refine wp_getR (r := 11) rfl (congrArg Prod.fst (kf_8 X.1)) rfl ?_
                    refine wp_aload rfl rfl ?_
                    refine wp_getI (j := 7) rfl (congrArg Prod.fst (kf_8 X.1)) rfl ?_
                    refine Wp.topI (y := (h 8 7)) (congrFun ((upd2_ne (by decide)).trans ((upd2_ne (by decide)).trans (upd2_ne (by decide)))) _) ?_
                    refine wp_iload rfl rfl ?_
                    refine wp_iastore rfl (kf_12 X.1) ⟨g10.1, g10.2⟩ ?_
                    refine wp_aload rfl rfl ?_
                    refine wp_dupR rfl ?_
                    refine wp_getI (j := 7) rfl (congrArg Prod.fst (kf_8 X.1)) rfl ?_
                    refine Wp.topI (y := (h 8 7)) (congrFun ((upd2_ne (by decide)).trans ((upd2_ne (by decide)).trans ((upd2_ne (by decide)).trans (upd2_ne (by decide))))) _) ?_
                    refine wp_iconst rfl ?_
                    refine wp_iadd rfl ?_
                    refine Wp.topI (y := ((h 8 7) + 1)) (w32_I (by clear H; unfold R32; omega)) ?_
                    refine wp_putI (j := 7) rfl (congrArg Prod.fst (kf_8 X.1)) rfl rfl rfl ?_
                    refine wp_vret rfl rfl ?_
                    show Wp X _ 2 67 [vr 6, vi x1, vi x2, vi x3, vi x4] [] _ _
                    refine wp_aload rfl rfl ?_
                    exact wp_call (k := 32) (ρ2 := 5) (L2 := [vr 6, vu]) rfl rfl rfl (Nat.le_of_ble_eq_true rfl) (Nat.le_of_ble_eq_true rfl) (Nat.le_of_ble_eq_true rfl) (rcv_V rfl (congrArg Prod.fst (kf_6 X.1))) rfl H
              · replace H := H.2 c7
                refine wp_aload rfl rfl ?_
                refine wp_getR (r := 11) rfl (congrArg Prod.fst (kf_8 X.1)) rfl ?_
                refine wp_aload rfl rfl ?_
                refine wp_getI (j := 7) rfl (congrArg Prod.fst (kf_8 X.1)) rfl ?_
                refine wp_iconst rfl ?_
                refine wp_isub rfl ?_
                have g11 := H.1
                replace H := H.2
                refine Wp.topI (y := ((h 8 7) - 1)) (w32_I g11) ?_
                have g12 := H.1
                replace H := H.2
                refine wp_iaload rfl (kf_12 X.1) g12 ?_
                refine wp_goto (tn := 22) rfl rfl ?_
                refine wp_istore (L2 := [vr 8, vi x4, vi (h 12 ((h 8 7) - 1))]) rfl (Nat.le_of_ble_eq_true rfl) rfl ?_
                refine wp_iload rfl rfl ?_
                refine wp_iload rfl rfl ?_
                refine wp_iclt (tn := 39) rfl rfl (fun c13 => ?_) (fun c13 => ?_)
                · replace H := H.1 c13
                  refine wp_iconst rfl ?_
                  refine wp_zret rfl rfl (by decide) ?_
                  show Wp X _ 2 36 [vr 6, vi x1, vi x2, vi x3, vi x4] [vi 0] _ _
                  refine wp_ifneF (tn := 42) rfl rfl (by decide) ?_
                  refine wp_iconst rfl ?_
                  exact wp_iret rfl rfl H
                · replace H := H.2 c13
                  refine wp_iload rfl rfl ?_
                  refine wp_iconst rfl ?_
                  refine wp_icgt (tn := 39) rfl rfl (fun c14 => ?_) (fun c14 => ?_)
                  · replace H := H.1 c14
                    refine wp_iconst rfl ?_
                    refine wp_zret rfl rfl (by decide) ?_
                    show Wp X _ 2 36 [vr 6, vi x1, vi x2, vi x3, vi x4] [vi 0] _ _
                    refine wp_ifneF (tn := 42) rfl rfl (by decide) ?_
                    refine wp_iconst rfl ?_
                    exact wp_iret rfl rfl H
                  · replace H := H.2 c14
                    refine wp_iconst rfl ?_
                    refine wp_goto (tn := 40) rfl rfl ?_
                    refine wp_zret rfl rfl (by decide) ?_
                    show Wp X _ 2 36 [vr 6, vi x1, vi x2, vi x3, vi x4] [vi 1] _ _
                    refine wp_ifneT (tn := 42) rfl rfl (by decide) ?_
                    refine wp_aload rfl rfl ?_
                    refine wp_getR (r := 7) rfl (congrArg Prod.fst (kf_6 X.1)) rfl ?_
                    refine wp_call (k := 146) (ρ2 := 0) (L2 := [vr 8]) rfl rfl rfl (Nat.le_of_ble_eq_true rfl) (Nat.le_of_ble_eq_true rfl) (Nat.le_of_ble_eq_true rfl) (rcv_V rfl (congrArg Prod.fst (kf_8 X.1))) rfl ?_
                    refine wp_aload rfl rfl ?_
                    refine wp_getI (j := 7) rfl (congrArg Prod.fst (kf_8 X.1)) rfl ?_
                    refine wp_iconst rfl ?_
                    refine wp_icge (tn := 13) rfl rfl (fun c15 => ?_) (fun c15 => ?_)
                    · replace H := H.1 c15
                      refine wp_iconst rfl ?_
                      refine wp_zret rfl rfl (by decide) ?_
                      show Wp X _ 2 49 [vr 6, vi x1, vi x2, vi x3, vi x4] [vi 0] _ _
                      refine wp_ifneF (tn := 55) rfl rfl (by decide) ?_
                      refine wp_iconst rfl ?_
                      exact wp_iret rfl rfl H
                    · replace H := H.2 c15
                      refine wp_iconst rfl ?_
                      refine wp_goto (tn := 14) rfl rfl ?_
                      refine wp_zret rfl rfl (by decide) ?_
                      show Wp X _ 2 49 [vr 6, vi x1, vi x2, vi x3, vi x4] [vi 1] _ _
                      refine wp_ifneT (tn := 55) rfl rfl (by decide) ?_
                      refine wp_aload rfl rfl ?_
                      refine wp_getR (r := 7) rfl (congrArg Prod.fst (kf_6 X.1)) rfl ?_
                      refine wp_iload rfl rfl ?_
                      refine wp_iload rfl rfl ?_
                      refine wp_iload rfl rfl ?_
                      refine wp_iload rfl rfl ?_
                      refine wp_call (k := 153) (ρ2 := 1) (L2 := [vr 8, vi x1, vi x2, vi x3, vi x4]) rfl rfl rfl (Nat.le_of_ble_eq_true rfl) (Nat.le_of_ble_eq_true rfl) (Nat.le_of_ble_eq_true rfl) (rcv_V rfl (congrArg Prod.fst (kf_8 X.1))) rfl ?_
                      refine wp_aload rfl rfl ?_
                      refine wp_iload rfl rfl ?_
                      refine wp_call (k := 145) (ρ2 := 0) (L2 := [vr 8, vi x1]) rfl rfl rfl (Nat.le_of_ble_eq_true rfl) (Nat.le_of_ble_eq_true rfl) (Nat.le_of_ble_eq_true rfl) (rcv_V rfl (congrArg Prod.fst (kf_8 X.1))) rfl ?_
                      refine wp_iload rfl rfl ?_
                      refine wp_ifltF (tn := 16) rfl rfl c1 ?_
                      refine wp_iload rfl rfl ?_
                      refine wp_aload rfl rfl ?_
                      refine wp_getI (j := 8) rfl (congrArg Prod.fst (kf_8 X.1)) rfl ?_
                      refine wp_icgeF (tn := 16) rfl rfl c2 ?_
                      refine wp_iconst rfl ?_
                      refine wp_goto (tn := 17) rfl rfl ?_
                      refine wp_zret rfl rfl (by decide) ?_
                      show Wp X _ 153 5 [vr 8, vi x1, vi x2, vi x3, vi x4] [vi 1] _ _
                      refine wp_ifeqF (tn := 66) rfl rfl (by decide) ?_
                      refine wp_aload rfl rfl ?_
                      refine wp_call (k := 146) (ρ2 := 0) (L2 := [vr 8]) rfl rfl rfl (Nat.le_of_ble_eq_true rfl) (Nat.le_of_ble_eq_true rfl) (Nat.le_of_ble_eq_true rfl) (rcv_V rfl (congrArg Prod.fst (kf_8 X.1))) rfl ?_
                      refine wp_aload rfl rfl ?_
                      refine wp_getI (j := 7) rfl (congrArg Prod.fst (kf_8 X.1)) rfl ?_
                      refine wp_iconst rfl ?_
                      refine wp_icgeF (tn := 13) rfl rfl c15 ?_
                      refine wp_iconst rfl ?_
                      refine wp_goto (tn := 14) rfl rfl ?_
                      refine wp_zret rfl rfl (by decide) ?_
                      show Wp X _ 153 12 [vr 8, vi x1, vi x2, vi x3, vi x4] [vi 1] _ _
                      refine wp_ifeqF (tn := 66) rfl rfl (by decide) ?_
                      refine wp_aload rfl rfl ?_
                      refine wp_getR (r := 8) rfl (congrArg Prod.fst (kf_8 X.1)) rfl ?_
                      refine wp_aload rfl rfl ?_
                      refine wp_getI (j := 7) rfl (congrArg Prod.fst (kf_8 X.1)) rfl ?_
                      refine wp_iload rfl rfl ?_
                      refine wp_iastore rfl (kf_9 X.1) ⟨(by clear H; omega), c15⟩ ?_
                      refine wp_aload rfl rfl ?_
                      refine wp_getR (r := 9) rfl (congrArg Prod.fst (kf_8 X.1)) rfl ?_
                      refine wp_aload rfl rfl ?_
                      refine wp_getI (j := 7) rfl (congrArg Prod.fst (kf_8 X.1)) rfl ?_
                      refine Wp.topI (y := (h 8 7)) (congrFun (upd2_ne (by decide)) _) ?_
                      refine wp_iload rfl rfl ?_
                      refine wp_iastore rfl (kf_10 X.1) ⟨(by clear H; omega), c15⟩ ?_
                      refine wp_aload rfl rfl ?_
                      refine wp_getR (r := 10) rfl (congrArg Prod.fst (kf_8 X.1)) rfl ?_
                      refine wp_aload rfl rfl ?_
                      refine wp_getI (j := 7) rfl (congrArg Prod.fst (kf_8 X.1)) rfl ?_
                      refine Wp.topI (y := (h 8 7)) (congrFun ((upd2_ne (by decide)).trans (upd2_ne (by decide))) _) ?_
                      refine wp_iload rfl rfl ?_
                      refine wp_iastore rfl (kf_11 X.1) ⟨(by clear H; omega), c15⟩ ?_
                      refine wp_aload rfl rfl ?_
                      refine wp_getR (r := 11) rfl (congrArg Prod.fst (kf_8 X.1)) rfl ?_
                      refine wp_aload rfl rfl ?_
                      refine wp_getI (j := 7) rfl (congrArg Prod.fst (kf_8 X.1)) rfl ?_
                      refine Wp.topI (y := (h 8 7)) (congrFun ((upd2_ne (by decide)).trans ((upd2_ne (by decide)).trans (upd2_ne (by decide)))) _) ?_
                      refine wp_iload rfl rfl ?_
                      refine wp_iastore rfl (kf_12 X.1) ⟨(by clear H; omega), c15⟩ ?_
                      refine wp_aload rfl rfl ?_
                      refine wp_dupR rfl ?_
                      refine wp_getI (j := 7) rfl (congrArg Prod.fst (kf_8 X.1)) rfl ?_
                      refine Wp.topI (y := (h 8 7)) (congrFun ((upd2_ne (by decide)).trans ((upd2_ne (by decide)).trans ((upd2_ne (by decide)).trans (upd2_ne (by decide))))) _) ?_
                      refine wp_iconst rfl ?_
                      refine wp_iadd rfl ?_
                      refine Wp.topI (y := ((h 8 7) + 1)) (w32_I (by clear H; unfold R32; omega)) ?_
                      refine wp_putI (j := 7) rfl (congrArg Prod.fst (kf_8 X.1)) rfl rfl rfl ?_
                      refine wp_vret rfl rfl ?_
                      show Wp X _ 2 67 [vr 6, vi x1, vi x2, vi x3, vi x4] [] _ _
                      refine wp_aload rfl rfl ?_
                      exact wp_call (k := 32) (ρ2 := 5) (L2 := [vr 6, vu]) rfl rfl rfl (Nat.le_of_ble_eq_true rfl) (Nat.le_of_ble_eq_true rfl) (Nat.le_of_ble_eq_true rfl) (rcv_V rfl (congrArg Prod.fst (kf_6 X.1))) rfl H
            · replace H := H.2 c6
              refine wp_iconst rfl ?_
              refine wp_goto (tn := 15) rfl rfl ?_
              refine wp_zret rfl rfl (by decide) ?_
              show Wp X _ 41 8 [vi x3] [vi 1] _ _
              refine wp_ifneT (tn := 15) rfl rfl (by decide) ?_
              refine wp_iconst rfl ?_
              refine wp_zret rfl rfl (by decide) ?_
              show Wp X _ 2 24 [vr 6, vi x1, vi x2, vi x3, vi x4] [vi 0] _ _
              refine wp_ifeqT (tn := 39) rfl rfl (by decide) ?_
              refine wp_iconst rfl ?_
              exact wp_iret rfl rfl H
        · replace H := H.2 c4
          refine wp_iconst rfl ?_
          refine wp_goto (tn := 15) rfl rfl ?_
          refine wp_zret rfl rfl (by decide) ?_
          show Wp X _ 2 17 [vr 6, vi x1, vi x2, vi x3, vi x4] [vi 1] _ _
          refine wp_ifneT (tn := 39) rfl rfl (by decide) ?_
          refine wp_iconst rfl ?_
          exact wp_iret rfl rfl H
/-- WarnLines.told(IIII)I, from 71 -/
theorem S2_6_71 {X : Nat × (Int → Int)} {h : HP} {Q : bQ} (zx1 : aV) (zx2 : aV) (zx3 : aV) (zx4 : aV) (H : Q (some (vi (h 8 7))) h) : Wp X 6 2 71 [vr 6, zx1, zx2, zx3, zx4] [] h Q := by
  refine wp_aload rfl rfl ?_
  refine wp_getR (r := 7) rfl (congrArg Prod.fst (kf_6 X.1)) rfl ?_
  refine wp_call (k := 143) (ρ2 := 0) (L2 := [vr 8]) rfl rfl rfl (Nat.le_of_ble_eq_true rfl) (Nat.le_of_ble_eq_true rfl) (Nat.le_of_ble_eq_true rfl) (rcv_V rfl (congrArg Prod.fst (kf_8 X.1))) rfl ?_
  refine wp_aload rfl rfl ?_
  refine wp_getI (j := 7) rfl (congrArg Prod.fst (kf_8 X.1)) rfl ?_
  refine wp_iret rfl rfl ?_
  show Wp X _ 2 78 [vr 6, zx1, zx2, zx3, zx4] [vi (h 8 7)] _ _
  exact wp_iret rfl rfl H
/-- WarnLines.read(III)I, from 0 -/
theorem S3_6_0 {X : Nat × (Int → Int)} {h : HP} {Q : bQ} (x1 : Int) (x2 : Int) (x3 : Int) (H : ((x1 < 0 → Q (some (vi (-2))) h) ∧ (0 ≤ x1 → ((x1 ≤ 3 → ((x2 < 0 → Q (some (vi (-2))) h) ∧ (0 ≤ x2 → (((h 8 8) ≤ x2 → Q (some (vi (-2))) h) ∧ (x2 < (h 8 8) → (((h 8 7) ≤ 0 → ((x3 < 0 → Q (some (vi (-2))) h) ∧ (0 ≤ x3 → ((999 < x3 → Q (some (vi (-2))) h) ∧ (x3 ≤ 999 → ((x1 = 0 → (((h 81 1) ≠ (-1) → Wp X 6 3 59 [vr 6, vi 0, vi x2, vi x3, vr 81, vi 0] [] h Q) ∧ ((h 81 1) = (-1) → Q (some (vi (-11))) (upd2 h 6 10 1)))) ∧ (x1 = 1 → (((h 83 1) ≠ (-1) → Wp X 6 3 59 [vr 6, vi 1, vi x2, vi x3, vr 83, vi 0] [] h Q) ∧ ((h 83 1) = (-1) → Q (some (vi (-11))) (upd2 h 6 10 1)))) ∧ (x1 = 2 → (((h 85 1) ≠ (-1) → Wp X 6 3 59 [vr 6, vi 2, vi x2, vi x3, vr 85, vi 0] [] h Q) ∧ ((h 85 1) = (-1) → Q (some (vi (-11))) (upd2 h 6 10 1)))) ∧ (x1 = 3 → (((h 87 1) ≠ (-1) → Wp X 6 3 59 [vr 6, vi 3, vi x2, vi x3, vr 87, vi 0] [] h Q) ∧ ((h 87 1) = (-1) → Q (some (vi (-11))) (upd2 h 6 10 1)))))))))) ∧ (0 < (h 8 7) → ((R32 ((h 8 7) - 1)) ∧ ((0 ≤ ((h 8 7) - 1) ∧ ((h 8 7) - 1) < 100) ∧ ((x3 < (h 12 ((h 8 7) - 1)) → Q (some (vi (-2))) h) ∧ ((h 12 ((h 8 7) - 1)) ≤ x3 → ((999 < x3 → Q (some (vi (-2))) h) ∧ (x3 ≤ 999 → ((x1 = 0 → (((h 81 1) ≠ (-1) → Wp X 6 3 59 [vr 6, vi 0, vi x2, vi x3, vr 81, vi 0] [] h Q) ∧ ((h 81 1) = (-1) → Q (some (vi (-11))) (upd2 h 6 10 1)))) ∧ (x1 = 1 → (((h 83 1) ≠ (-1) → Wp X 6 3 59 [vr 6, vi 1, vi x2, vi x3, vr 83, vi 0] [] h Q) ∧ ((h 83 1) = (-1) → Q (some (vi (-11))) (upd2 h 6 10 1)))) ∧ (x1 = 2 → (((h 85 1) ≠ (-1) → Wp X 6 3 59 [vr 6, vi 2, vi x2, vi x3, vr 85, vi 0] [] h Q) ∧ ((h 85 1) = (-1) → Q (some (vi (-11))) (upd2 h 6 10 1)))) ∧ (x1 = 3 → (((h 87 1) ≠ (-1) → Wp X 6 3 59 [vr 6, vi 3, vi x2, vi x3, vr 87, vi 0] [] h Q) ∧ ((h 87 1) = (-1) → Q (some (vi (-11))) (upd2 h 6 10 1)))))))))))))))))) ∧ (3 < x1 → Q (some (vi (-2))) h))))) : Wp X 6 3 0 [vr 6, vi x1, vi x2, vi x3, vu, vu] [] h Q := by
  refine wp_iload rfl rfl ?_
  refine wp_iconst rfl ?_
  refine wp_iconst rfl ?_
  refine wp_call (k := 40) (ρ2 := 0) (L2 := [vi x1, vi 0, vi 3]) rfl rfl rfl (Nat.le_of_ble_eq_true rfl) (Nat.le_of_ble_eq_true rfl) (Nat.le_of_ble_eq_true rfl) (rcv_S rfl) rfl ?_
  refine wp_iload rfl rfl ?_
  refine wp_iload rfl rfl ?_
  refine wp_iclt (tn := 10) rfl rfl (fun c1 => ?_) (fun c1 => ?_)
  · replace H := H.1 c1
    refine wp_iconst rfl ?_
    refine wp_goto (tn := 15) rfl rfl ?_
    refine wp_zret rfl rfl (by decide) ?_
    show Wp X _ 3 6 [vr 6, vi x1, vi x2, vi x3, vu, vu] [vi 1] _ _
    refine wp_ifneT (tn := 31) rfl rfl (by decide) ?_
    refine wp_iconst rfl ?_
    exact wp_iret rfl rfl H
  · replace H := H.2 c1
    refine wp_iload rfl rfl ?_
    refine wp_iload rfl rfl ?_
    refine wp_icle (tn := 14) rfl rfl (fun c2 => ?_) (fun c2 => ?_)
    · replace H := H.1 c2
      refine wp_iconst rfl ?_
      refine wp_zret rfl rfl (by decide) ?_
      show Wp X _ 3 6 [vr 6, vi x1, vi x2, vi x3, vu, vu] [vi 0] _ _
      refine wp_ifneF (tn := 31) rfl rfl (by decide) ?_
      refine wp_aload rfl rfl ?_
      refine wp_getR (r := 7) rfl (congrArg Prod.fst (kf_6 X.1)) rfl ?_
      refine wp_iload rfl rfl ?_
      refine wp_call (k := 145) (ρ2 := 0) (L2 := [vr 8, vi x2]) rfl rfl rfl (Nat.le_of_ble_eq_true rfl) (Nat.le_of_ble_eq_true rfl) (Nat.le_of_ble_eq_true rfl) (rcv_V rfl (congrArg Prod.fst (kf_8 X.1))) rfl ?_
      refine wp_iload rfl rfl ?_
      refine wp_iflt (tn := 16) rfl rfl (fun c3 => ?_) (fun c3 => ?_)
      · replace H := H.1 c3
        refine wp_iconst rfl ?_
        refine wp_zret rfl rfl (by decide) ?_
        show Wp X _ 3 17 [vr 6, vi x1, vi x2, vi x3, vu, vu] [vi 0] _ _
        refine wp_ifeqT (tn := 31) rfl rfl (by decide) ?_
        refine wp_iconst rfl ?_
        exact wp_iret rfl rfl H
      · replace H := H.2 c3
        refine wp_iload rfl rfl ?_
        refine wp_aload rfl rfl ?_
        refine wp_getI (j := 8) rfl (congrArg Prod.fst (kf_8 X.1)) rfl ?_
        refine wp_icge (tn := 16) rfl rfl (fun c4 => ?_) (fun c4 => ?_)
        · replace H := H.1 c4
          refine wp_iconst rfl ?_
          refine wp_zret rfl rfl (by decide) ?_
          show Wp X _ 3 17 [vr 6, vi x1, vi x2, vi x3, vu, vu] [vi 0] _ _
          refine wp_ifeqT (tn := 31) rfl rfl (by decide) ?_
          refine wp_iconst rfl ?_
          exact wp_iret rfl rfl H
        · replace H := H.2 c4
          refine wp_iconst rfl ?_
          refine wp_goto (tn := 17) rfl rfl ?_
          refine wp_zret rfl rfl (by decide) ?_
          show Wp X _ 3 17 [vr 6, vi x1, vi x2, vi x3, vu, vu] [vi 1] _ _
          refine wp_ifeqF (tn := 31) rfl rfl (by decide) ?_
          refine wp_aload rfl rfl ?_
          refine wp_getR (r := 7) rfl (congrArg Prod.fst (kf_6 X.1)) rfl ?_
          refine wp_iload rfl rfl ?_
          refine wp_call (k := 147) (ρ2 := 0) (L2 := [vr 8, vi x3, vu]) rfl rfl rfl (Nat.le_of_ble_eq_true rfl) (Nat.le_of_ble_eq_true rfl) (Nat.le_of_ble_eq_true rfl) (rcv_V rfl (congrArg Prod.fst (kf_8 X.1))) rfl ?_
          refine wp_aload rfl rfl ?_
          refine wp_getI (j := 7) rfl (congrArg Prod.fst (kf_8 X.1)) rfl ?_
          refine wp_ifle (tn := 21) rfl rfl (fun c5 => ?_) (fun c5 => ?_)
          · replace H := H.1 c5
            refine wp_iconst rfl ?_
            refine wp_istore (L2 := [vr 8, vi x3, vi 0]) rfl (Nat.le_of_ble_eq_true rfl) rfl ?_
            refine wp_iload rfl rfl ?_
            refine wp_iload rfl rfl ?_
            refine wp_iclt (tn := 39) rfl rfl (fun c6 => ?_) (fun c6 => ?_)
            · replace H := H.1 c6
              refine wp_iconst rfl ?_
              refine wp_zret rfl rfl (by decide) ?_
              show Wp X _ 3 28 [vr 6, vi x1, vi x2, vi x3, vu, vu] [vi 0] _ _
              refine wp_ifneF (tn := 34) rfl rfl (by decide) ?_
              refine wp_iconst rfl ?_
              exact wp_iret rfl rfl H
            · replace H := H.2 c6
              refine wp_iload rfl rfl ?_
              refine wp_iconst rfl ?_
              refine wp_icgt (tn := 39) rfl rfl (fun c7 => ?_) (fun c7 => ?_)
              · replace H := H.1 c7
                refine wp_iconst rfl ?_
                refine wp_zret rfl rfl (by decide) ?_
                show Wp X _ 3 28 [vr 6, vi x1, vi x2, vi x3, vu, vu] [vi 0] _ _
                refine wp_ifneF (tn := 34) rfl rfl (by decide) ?_
                refine wp_iconst rfl ?_
                exact wp_iret rfl rfl H
              · replace H := H.2 c7
                refine wp_iconst rfl ?_
                refine wp_goto (tn := 40) rfl rfl ?_
                refine wp_zret rfl rfl (by decide) ?_
                show Wp X _ 3 28 [vr 6, vi x1, vi x2, vi x3, vu, vu] [vi 1] _ _
                refine wp_ifneT (tn := 34) rfl rfl (by decide) ?_
                refine wp_aload rfl rfl ?_
                refine wp_getR (r := 79) rfl (congrArg Prod.fst (kf_6 X.1)) rfl ?_
                refine wp_iload rfl rfl ?_
                rcases (show x1 = 0 ∨ x1 = 1 ∨ x1 = 2 ∨ x1 = 3 by have := (show 0 ≤ x1 ∧ x1 < 4 from ⟨c1, (by clear H; omega)⟩); clear H; omega) with rfl | rfl | rfl | rfl
                · replace H := H.1 rfl
                  refine wp_aaload (r := 80) rfl (kf_80 X.1) (by decide) (by decide) rfl ?_
                  refine wp_astore (L2 := [vr 6, vi 0, vi x2, vi x3, vr 81, vu]) rfl (Nat.le_of_ble_eq_true rfl) rfl ?_
                  refine wp_aload rfl rfl ?_
                  refine wp_call (k := 220) (ρ2 := 0) (L2 := [vr 81]) rfl rfl rfl (Nat.le_of_ble_eq_true rfl) (Nat.le_of_ble_eq_true rfl) (Nat.le_of_ble_eq_true rfl) (rcv_V rfl (congrArg Prod.fst (kf_81 X.1))) rfl ?_
                  refine wp_aload rfl rfl ?_
                  refine wp_getI (j := 1) rfl (congrArg Prod.fst (kf_81 X.1)) rfl ?_
                  refine wp_iconst rfl ?_
                  refine wp_icne (tn := 12) rfl rfl (fun c8 => ?_) (fun c8 => ?_)
                  · replace H := H.1 c8
                    refine wp_iconst rfl ?_
                    refine wp_zret rfl rfl (by decide) ?_
                    show Wp X _ 3 47 [vr 6, vi 0, vi x2, vi x3, vr 81, vu] [vi 0] _ _
                    refine wp_ifeqT (tn := 56) rfl rfl (by decide) ?_
                    refine wp_iconst rfl ?_
                    refine wp_istore (L2 := [vr 6, vi 0, vi x2, vi x3, vr 81, vi 0]) rfl (Nat.le_of_ble_eq_true rfl) rfl ?_
                    exact H
                  · replace H := H.2 c8
                    refine wp_iconst rfl ?_
                    refine wp_goto (tn := 13) rfl rfl ?_
                    refine wp_zret rfl rfl (by decide) ?_
                    show Wp X _ 3 47 [vr 6, vi 0, vi x2, vi x3, vr 81, vu] [vi 1] _ _
                    refine wp_ifeqF (tn := 56) rfl rfl (by decide) ?_
                    refine wp_aload rfl rfl ?_
                    refine wp_iconst rfl ?_
                    refine wp_call (k := 38) (ρ2 := 0) (L2 := [vr 6, vi 1]) rfl rfl rfl (Nat.le_of_ble_eq_true rfl) (Nat.le_of_ble_eq_true rfl) (Nat.le_of_ble_eq_true rfl) (rcv_V rfl (congrArg Prod.fst (kf_6 X.1))) rfl ?_
                    refine wp_aload rfl rfl ?_
                    refine wp_iload rfl rfl ?_
                    refine wp_putI (j := 10) rfl (congrArg Prod.fst (kf_6 X.1)) rfl rfl rfl ?_
                    refine wp_iconst rfl ?_
                    refine wp_iload rfl rfl ?_
                    refine wp_isub rfl ?_
                    refine Wp.topI (y := (-11)) (by decide) ?_
                    refine wp_iret rfl rfl ?_
                    show Wp X _ 3 55 [vr 6, vi 0, vi x2, vi x3, vr 81, vu] [vi (-11)] _ _
                    exact wp_iret rfl rfl H
                · replace H := H.2.1 rfl
                  refine wp_aaload (r := 82) rfl (kf_80 X.1) (by decide) (by decide) rfl ?_
                  refine wp_astore (L2 := [vr 6, vi 1, vi x2, vi x3, vr 83, vu]) rfl (Nat.le_of_ble_eq_true rfl) rfl ?_
                  refine wp_aload rfl rfl ?_
                  refine wp_call (k := 220) (ρ2 := 0) (L2 := [vr 83]) rfl rfl rfl (Nat.le_of_ble_eq_true rfl) (Nat.le_of_ble_eq_true rfl) (Nat.le_of_ble_eq_true rfl) (rcv_V rfl (congrArg Prod.fst (kf_83 X.1))) rfl ?_
                  refine wp_aload rfl rfl ?_
                  refine wp_getI (j := 1) rfl (congrArg Prod.fst (kf_83 X.1)) rfl ?_
                  refine wp_iconst rfl ?_
                  refine wp_icne (tn := 12) rfl rfl (fun c9 => ?_) (fun c9 => ?_)
                  · replace H := H.1 c9
                    refine wp_iconst rfl ?_
                    refine wp_zret rfl rfl (by decide) ?_
                    show Wp X _ 3 47 [vr 6, vi 1, vi x2, vi x3, vr 83, vu] [vi 0] _ _
                    refine wp_ifeqT (tn := 56) rfl rfl (by decide) ?_
                    refine wp_iconst rfl ?_
                    refine wp_istore (L2 := [vr 6, vi 1, vi x2, vi x3, vr 83, vi 0]) rfl (Nat.le_of_ble_eq_true rfl) rfl ?_
                    exact H
                  · replace H := H.2 c9
                    refine wp_iconst rfl ?_
                    refine wp_goto (tn := 13) rfl rfl ?_
                    refine wp_zret rfl rfl (by decide) ?_
                    show Wp X _ 3 47 [vr 6, vi 1, vi x2, vi x3, vr 83, vu] [vi 1] _ _
                    refine wp_ifeqF (tn := 56) rfl rfl (by decide) ?_
                    refine wp_aload rfl rfl ?_
                    refine wp_iconst rfl ?_
                    refine wp_call (k := 38) (ρ2 := 0) (L2 := [vr 6, vi 1]) rfl rfl rfl (Nat.le_of_ble_eq_true rfl) (Nat.le_of_ble_eq_true rfl) (Nat.le_of_ble_eq_true rfl) (rcv_V rfl (congrArg Prod.fst (kf_6 X.1))) rfl ?_
                    refine wp_aload rfl rfl ?_
                    refine wp_iload rfl rfl ?_
                    refine wp_putI (j := 10) rfl (congrArg Prod.fst (kf_6 X.1)) rfl rfl rfl ?_
                    refine wp_iconst rfl ?_
                    refine wp_iload rfl rfl ?_
                    refine wp_isub rfl ?_
                    refine Wp.topI (y := (-11)) (by decide) ?_
                    refine wp_iret rfl rfl ?_
                    show Wp X _ 3 55 [vr 6, vi 1, vi x2, vi x3, vr 83, vu] [vi (-11)] _ _
                    exact wp_iret rfl rfl H
                · replace H := H.2.2.1 rfl
                  refine wp_aaload (r := 84) rfl (kf_80 X.1) (by decide) (by decide) rfl ?_
                  refine wp_astore (L2 := [vr 6, vi 2, vi x2, vi x3, vr 85, vu]) rfl (Nat.le_of_ble_eq_true rfl) rfl ?_
                  refine wp_aload rfl rfl ?_
                  refine wp_call (k := 220) (ρ2 := 0) (L2 := [vr 85]) rfl rfl rfl (Nat.le_of_ble_eq_true rfl) (Nat.le_of_ble_eq_true rfl) (Nat.le_of_ble_eq_true rfl) (rcv_V rfl (congrArg Prod.fst (kf_85 X.1))) rfl ?_
                  refine wp_aload rfl rfl ?_
                  refine wp_getI (j := 1) rfl (congrArg Prod.fst (kf_85 X.1)) rfl ?_
                  refine wp_iconst rfl ?_
                  refine wp_icne (tn := 12) rfl rfl (fun c10 => ?_) (fun c10 => ?_)
                  · replace H := H.1 c10
                    refine wp_iconst rfl ?_
                    refine wp_zret rfl rfl (by decide) ?_
                    show Wp X _ 3 47 [vr 6, vi 2, vi x2, vi x3, vr 85, vu] [vi 0] _ _
                    refine wp_ifeqT (tn := 56) rfl rfl (by decide) ?_
                    refine wp_iconst rfl ?_
                    refine wp_istore (L2 := [vr 6, vi 2, vi x2, vi x3, vr 85, vi 0]) rfl (Nat.le_of_ble_eq_true rfl) rfl ?_
                    exact H
                  · replace H := H.2 c10
                    refine wp_iconst rfl ?_
                    refine wp_goto (tn := 13) rfl rfl ?_
                    refine wp_zret rfl rfl (by decide) ?_
                    show Wp X _ 3 47 [vr 6, vi 2, vi x2, vi x3, vr 85, vu] [vi 1] _ _
                    refine wp_ifeqF (tn := 56) rfl rfl (by decide) ?_
                    refine wp_aload rfl rfl ?_
                    refine wp_iconst rfl ?_
                    refine wp_call (k := 38) (ρ2 := 0) (L2 := [vr 6, vi 1]) rfl rfl rfl (Nat.le_of_ble_eq_true rfl) (Nat.le_of_ble_eq_true rfl) (Nat.le_of_ble_eq_true rfl) (rcv_V rfl (congrArg Prod.fst (kf_6 X.1))) rfl ?_
                    refine wp_aload rfl rfl ?_
                    refine wp_iload rfl rfl ?_
                    refine wp_putI (j := 10) rfl (congrArg Prod.fst (kf_6 X.1)) rfl rfl rfl ?_
                    refine wp_iconst rfl ?_
                    refine wp_iload rfl rfl ?_
                    refine wp_isub rfl ?_
                    refine Wp.topI (y := (-11)) (by decide) ?_
                    refine wp_iret rfl rfl ?_
                    show Wp X _ 3 55 [vr 6, vi 2, vi x2, vi x3, vr 85, vu] [vi (-11)] _ _
                    exact wp_iret rfl rfl H
                · replace H := H.2.2.2 rfl
                  refine wp_aaload (r := 86) rfl (kf_80 X.1) (by decide) (by decide) rfl ?_
                  refine wp_astore (L2 := [vr 6, vi 3, vi x2, vi x3, vr 87, vu]) rfl (Nat.le_of_ble_eq_true rfl) rfl ?_
                  refine wp_aload rfl rfl ?_
                  refine wp_call (k := 220) (ρ2 := 0) (L2 := [vr 87]) rfl rfl rfl (Nat.le_of_ble_eq_true rfl) (Nat.le_of_ble_eq_true rfl) (Nat.le_of_ble_eq_true rfl) (rcv_V rfl (congrArg Prod.fst (kf_87 X.1))) rfl ?_
                  refine wp_aload rfl rfl ?_
                  refine wp_getI (j := 1) rfl (congrArg Prod.fst (kf_87 X.1)) rfl ?_
                  refine wp_iconst rfl ?_
                  refine wp_icne (tn := 12) rfl rfl (fun c11 => ?_) (fun c11 => ?_)
                  · replace H := H.1 c11
                    refine wp_iconst rfl ?_
                    refine wp_zret rfl rfl (by decide) ?_
                    show Wp X _ 3 47 [vr 6, vi 3, vi x2, vi x3, vr 87, vu] [vi 0] _ _
                    refine wp_ifeqT (tn := 56) rfl rfl (by decide) ?_
                    refine wp_iconst rfl ?_
                    refine wp_istore (L2 := [vr 6, vi 3, vi x2, vi x3, vr 87, vi 0]) rfl (Nat.le_of_ble_eq_true rfl) rfl ?_
                    exact H
                  · replace H := H.2 c11
                    refine wp_iconst rfl ?_
                    refine wp_goto (tn := 13) rfl rfl ?_
                    refine wp_zret rfl rfl (by decide) ?_
                    show Wp X _ 3 47 [vr 6, vi 3, vi x2, vi x3, vr 87, vu] [vi 1] _ _
                    refine wp_ifeqF (tn := 56) rfl rfl (by decide) ?_
                    refine wp_aload rfl rfl ?_
                    refine wp_iconst rfl ?_
                    refine wp_call (k := 38) (ρ2 := 0) (L2 := [vr 6, vi 1]) rfl rfl rfl (Nat.le_of_ble_eq_true rfl) (Nat.le_of_ble_eq_true rfl) (Nat.le_of_ble_eq_true rfl) (rcv_V rfl (congrArg Prod.fst (kf_6 X.1))) rfl ?_
                    refine wp_aload rfl rfl ?_
                    refine wp_iload rfl rfl ?_
                    refine wp_putI (j := 10) rfl (congrArg Prod.fst (kf_6 X.1)) rfl rfl rfl ?_
                    refine wp_iconst rfl ?_
                    refine wp_iload rfl rfl ?_
                    refine wp_isub rfl ?_
                    refine Wp.topI (y := (-11)) (by decide) ?_
                    refine wp_iret rfl rfl ?_
                    show Wp X _ 3 55 [vr 6, vi 3, vi x2, vi x3, vr 87, vu] [vi (-11)] _ _
                    exact wp_iret rfl rfl H
          · replace H := H.2 c5
            refine wp_aload rfl rfl ?_
            refine wp_getR (r := 11) rfl (congrArg Prod.fst (kf_8 X.1)) rfl ?_
            refine wp_aload rfl rfl ?_
            refine wp_getI (j := 7) rfl (congrArg Prod.fst (kf_8 X.1)) rfl ?_
            refine wp_iconst rfl ?_
            refine wp_isub rfl ?_
            have g12 := H.1
            replace H := H.2
            refine Wp.topI (y := ((h 8 7) - 1)) (w32_I g12) ?_
            have g13 := H.1
            replace H := H.2
            refine wp_iaload rfl (kf_12 X.1) g13 ?_
            refine wp_goto (tn := 22) rfl rfl ?_
            refine wp_istore (L2 := [vr 8, vi x3, vi (h 12 ((h 8 7) - 1))]) rfl (Nat.le_of_ble_eq_true rfl) rfl ?_
            refine wp_iload rfl rfl ?_
            refine wp_iload rfl rfl ?_
            refine wp_iclt (tn := 39) rfl rfl (fun c14 => ?_) (fun c14 => ?_)
            · replace H := H.1 c14
              refine wp_iconst rfl ?_
              refine wp_zret rfl rfl (by decide) ?_
              show Wp X _ 3 28 [vr 6, vi x1, vi x2, vi x3, vu, vu] [vi 0] _ _
              refine wp_ifneF (tn := 34) rfl rfl (by decide) ?_
              refine wp_iconst rfl ?_
              exact wp_iret rfl rfl H
            · replace H := H.2 c14
              refine wp_iload rfl rfl ?_
              refine wp_iconst rfl ?_
              refine wp_icgt (tn := 39) rfl rfl (fun c15 => ?_) (fun c15 => ?_)
              · replace H := H.1 c15
                refine wp_iconst rfl ?_
                refine wp_zret rfl rfl (by decide) ?_
                show Wp X _ 3 28 [vr 6, vi x1, vi x2, vi x3, vu, vu] [vi 0] _ _
                refine wp_ifneF (tn := 34) rfl rfl (by decide) ?_
                refine wp_iconst rfl ?_
                exact wp_iret rfl rfl H
              · replace H := H.2 c15
                refine wp_iconst rfl ?_
                refine wp_goto (tn := 40) rfl rfl ?_
                refine wp_zret rfl rfl (by decide) ?_
                show Wp X _ 3 28 [vr 6, vi x1, vi x2, vi x3, vu, vu] [vi 1] _ _
                refine wp_ifneT (tn := 34) rfl rfl (by decide) ?_
                refine wp_aload rfl rfl ?_
                refine wp_getR (r := 79) rfl (congrArg Prod.fst (kf_6 X.1)) rfl ?_
                refine wp_iload rfl rfl ?_
                rcases (show x1 = 0 ∨ x1 = 1 ∨ x1 = 2 ∨ x1 = 3 by have := (show 0 ≤ x1 ∧ x1 < 4 from ⟨c1, (by clear H; omega)⟩); clear H; omega) with rfl | rfl | rfl | rfl
                · replace H := H.1 rfl
                  refine wp_aaload (r := 80) rfl (kf_80 X.1) (by decide) (by decide) rfl ?_
                  refine wp_astore (L2 := [vr 6, vi 0, vi x2, vi x3, vr 81, vu]) rfl (Nat.le_of_ble_eq_true rfl) rfl ?_
                  refine wp_aload rfl rfl ?_
                  refine wp_call (k := 220) (ρ2 := 0) (L2 := [vr 81]) rfl rfl rfl (Nat.le_of_ble_eq_true rfl) (Nat.le_of_ble_eq_true rfl) (Nat.le_of_ble_eq_true rfl) (rcv_V rfl (congrArg Prod.fst (kf_81 X.1))) rfl ?_
                  refine wp_aload rfl rfl ?_
                  refine wp_getI (j := 1) rfl (congrArg Prod.fst (kf_81 X.1)) rfl ?_
                  refine wp_iconst rfl ?_
                  refine wp_icne (tn := 12) rfl rfl (fun c16 => ?_) (fun c16 => ?_)
                  · replace H := H.1 c16
                    refine wp_iconst rfl ?_
                    refine wp_zret rfl rfl (by decide) ?_
                    show Wp X _ 3 47 [vr 6, vi 0, vi x2, vi x3, vr 81, vu] [vi 0] _ _
                    refine wp_ifeqT (tn := 56) rfl rfl (by decide) ?_
                    refine wp_iconst rfl ?_
                    refine wp_istore (L2 := [vr 6, vi 0, vi x2, vi x3, vr 81, vi 0]) rfl (Nat.le_of_ble_eq_true rfl) rfl ?_
                    exact H
                  · replace H := H.2 c16
                    refine wp_iconst rfl ?_
                    refine wp_goto (tn := 13) rfl rfl ?_
                    refine wp_zret rfl rfl (by decide) ?_
                    show Wp X _ 3 47 [vr 6, vi 0, vi x2, vi x3, vr 81, vu] [vi 1] _ _
                    refine wp_ifeqF (tn := 56) rfl rfl (by decide) ?_
                    refine wp_aload rfl rfl ?_
                    refine wp_iconst rfl ?_
                    refine wp_call (k := 38) (ρ2 := 0) (L2 := [vr 6, vi 1]) rfl rfl rfl (Nat.le_of_ble_eq_true rfl) (Nat.le_of_ble_eq_true rfl) (Nat.le_of_ble_eq_true rfl) (rcv_V rfl (congrArg Prod.fst (kf_6 X.1))) rfl ?_
                    refine wp_aload rfl rfl ?_
                    refine wp_iload rfl rfl ?_
                    refine wp_putI (j := 10) rfl (congrArg Prod.fst (kf_6 X.1)) rfl rfl rfl ?_
                    refine wp_iconst rfl ?_
                    refine wp_iload rfl rfl ?_
                    refine wp_isub rfl ?_
                    refine Wp.topI (y := (-11)) (by decide) ?_
                    refine wp_iret rfl rfl ?_
                    show Wp X _ 3 55 [vr 6, vi 0, vi x2, vi x3, vr 81, vu] [vi (-11)] _ _
                    exact wp_iret rfl rfl H
                · replace H := H.2.1 rfl
                  refine wp_aaload (r := 82) rfl (kf_80 X.1) (by decide) (by decide) rfl ?_
                  refine wp_astore (L2 := [vr 6, vi 1, vi x2, vi x3, vr 83, vu]) rfl (Nat.le_of_ble_eq_true rfl) rfl ?_
                  refine wp_aload rfl rfl ?_
                  refine wp_call (k := 220) (ρ2 := 0) (L2 := [vr 83]) rfl rfl rfl (Nat.le_of_ble_eq_true rfl) (Nat.le_of_ble_eq_true rfl) (Nat.le_of_ble_eq_true rfl) (rcv_V rfl (congrArg Prod.fst (kf_83 X.1))) rfl ?_
                  refine wp_aload rfl rfl ?_
                  refine wp_getI (j := 1) rfl (congrArg Prod.fst (kf_83 X.1)) rfl ?_
                  refine wp_iconst rfl ?_
                  refine wp_icne (tn := 12) rfl rfl (fun c17 => ?_) (fun c17 => ?_)
                  · replace H := H.1 c17
                    refine wp_iconst rfl ?_
                    refine wp_zret rfl rfl (by decide) ?_
                    show Wp X _ 3 47 [vr 6, vi 1, vi x2, vi x3, vr 83, vu] [vi 0] _ _
                    refine wp_ifeqT (tn := 56) rfl rfl (by decide) ?_
                    refine wp_iconst rfl ?_
                    refine wp_istore (L2 := [vr 6, vi 1, vi x2, vi x3, vr 83, vi 0]) rfl (Nat.le_of_ble_eq_true rfl) rfl ?_
                    exact H
                  · replace H := H.2 c17
                    refine wp_iconst rfl ?_
                    refine wp_goto (tn := 13) rfl rfl ?_
                    refine wp_zret rfl rfl (by decide) ?_
                    show Wp X _ 3 47 [vr 6, vi 1, vi x2, vi x3, vr 83, vu] [vi 1] _ _
                    refine wp_ifeqF (tn := 56) rfl rfl (by decide) ?_
                    refine wp_aload rfl rfl ?_
                    refine wp_iconst rfl ?_
                    refine wp_call (k := 38) (ρ2 := 0) (L2 := [vr 6, vi 1]) rfl rfl rfl (Nat.le_of_ble_eq_true rfl) (Nat.le_of_ble_eq_true rfl) (Nat.le_of_ble_eq_true rfl) (rcv_V rfl (congrArg Prod.fst (kf_6 X.1))) rfl ?_
                    refine wp_aload rfl rfl ?_
                    refine wp_iload rfl rfl ?_
                    refine wp_putI (j := 10) rfl (congrArg Prod.fst (kf_6 X.1)) rfl rfl rfl ?_
                    refine wp_iconst rfl ?_
                    refine wp_iload rfl rfl ?_
                    refine wp_isub rfl ?_
                    refine Wp.topI (y := (-11)) (by decide) ?_
                    refine wp_iret rfl rfl ?_
                    show Wp X _ 3 55 [vr 6, vi 1, vi x2, vi x3, vr 83, vu] [vi (-11)] _ _
                    exact wp_iret rfl rfl H
                · replace H := H.2.2.1 rfl
                  refine wp_aaload (r := 84) rfl (kf_80 X.1) (by decide) (by decide) rfl ?_
                  refine wp_astore (L2 := [vr 6, vi 2, vi x2, vi x3, vr 85, vu]) rfl (Nat.le_of_ble_eq_true rfl) rfl ?_
                  refine wp_aload rfl rfl ?_
                  refine wp_call (k := 220) (ρ2 := 0) (L2 := [vr 85]) rfl rfl rfl (Nat.le_of_ble_eq_true rfl) (Nat.le_of_ble_eq_true rfl) (Nat.le_of_ble_eq_true rfl) (rcv_V rfl (congrArg Prod.fst (kf_85 X.1))) rfl ?_
                  refine wp_aload rfl rfl ?_
                  refine wp_getI (j := 1) rfl (congrArg Prod.fst (kf_85 X.1)) rfl ?_
                  refine wp_iconst rfl ?_
                  refine wp_icne (tn := 12) rfl rfl (fun c18 => ?_) (fun c18 => ?_)
                  · replace H := H.1 c18
                    refine wp_iconst rfl ?_
                    refine wp_zret rfl rfl (by decide) ?_
                    show Wp X _ 3 47 [vr 6, vi 2, vi x2, vi x3, vr 85, vu] [vi 0] _ _
                    refine wp_ifeqT (tn := 56) rfl rfl (by decide) ?_
                    refine wp_iconst rfl ?_
                    refine wp_istore (L2 := [vr 6, vi 2, vi x2, vi x3, vr 85, vi 0]) rfl (Nat.le_of_ble_eq_true rfl) rfl ?_
                    exact H
                  · replace H := H.2 c18
                    refine wp_iconst rfl ?_
                    refine wp_goto (tn := 13) rfl rfl ?_
                    refine wp_zret rfl rfl (by decide) ?_
                    show Wp X _ 3 47 [vr 6, vi 2, vi x2, vi x3, vr 85, vu] [vi 1] _ _
                    refine wp_ifeqF (tn := 56) rfl rfl (by decide) ?_
                    refine wp_aload rfl rfl ?_
                    refine wp_iconst rfl ?_
                    refine wp_call (k := 38) (ρ2 := 0) (L2 := [vr 6, vi 1]) rfl rfl rfl (Nat.le_of_ble_eq_true rfl) (Nat.le_of_ble_eq_true rfl) (Nat.le_of_ble_eq_true rfl) (rcv_V rfl (congrArg Prod.fst (kf_6 X.1))) rfl ?_
                    refine wp_aload rfl rfl ?_
                    refine wp_iload rfl rfl ?_
                    refine wp_putI (j := 10) rfl (congrArg Prod.fst (kf_6 X.1)) rfl rfl rfl ?_
                    refine wp_iconst rfl ?_
                    refine wp_iload rfl rfl ?_
                    refine wp_isub rfl ?_
                    refine Wp.topI (y := (-11)) (by decide) ?_
                    refine wp_iret rfl rfl ?_
                    show Wp X _ 3 55 [vr 6, vi 2, vi x2, vi x3, vr 85, vu] [vi (-11)] _ _
                    exact wp_iret rfl rfl H
                · replace H := H.2.2.2 rfl
                  refine wp_aaload (r := 86) rfl (kf_80 X.1) (by decide) (by decide) rfl ?_
                  refine wp_astore (L2 := [vr 6, vi 3, vi x2, vi x3, vr 87, vu]) rfl (Nat.le_of_ble_eq_true rfl) rfl ?_
                  refine wp_aload rfl rfl ?_
                  refine wp_call (k := 220) (ρ2 := 0) (L2 := [vr 87]) rfl rfl rfl (Nat.le_of_ble_eq_true rfl) (Nat.le_of_ble_eq_true rfl) (Nat.le_of_ble_eq_true rfl) (rcv_V rfl (congrArg Prod.fst (kf_87 X.1))) rfl ?_
                  refine wp_aload rfl rfl ?_
                  refine wp_getI (j := 1) rfl (congrArg Prod.fst (kf_87 X.1)) rfl ?_
                  refine wp_iconst rfl ?_
                  refine wp_icne (tn := 12) rfl rfl (fun c19 => ?_) (fun c19 => ?_)
                  · replace H := H.1 c19
                    refine wp_iconst rfl ?_
                    refine wp_zret rfl rfl (by decide) ?_
                    show Wp X _ 3 47 [vr 6, vi 3, vi x2, vi x3, vr 87, vu] [vi 0] _ _
                    refine wp_ifeqT (tn := 56) rfl rfl (by decide) ?_
                    refine wp_iconst rfl ?_
                    refine wp_istore (L2 := [vr 6, vi 3, vi x2, vi x3, vr 87, vi 0]) rfl (Nat.le_of_ble_eq_true rfl) rfl ?_
                    exact H
                  · replace H := H.2 c19
                    refine wp_iconst rfl ?_
                    refine wp_goto (tn := 13) rfl rfl ?_
                    refine wp_zret rfl rfl (by decide) ?_
                    show Wp X _ 3 47 [vr 6, vi 3, vi x2, vi x3, vr 87, vu] [vi 1] _ _
                    refine wp_ifeqF (tn := 56) rfl rfl (by decide) ?_
                    refine wp_aload rfl rfl ?_
                    refine wp_iconst rfl ?_
                    refine wp_call (k := 38) (ρ2 := 0) (L2 := [vr 6, vi 1]) rfl rfl rfl (Nat.le_of_ble_eq_true rfl) (Nat.le_of_ble_eq_true rfl) (Nat.le_of_ble_eq_true rfl) (rcv_V rfl (congrArg Prod.fst (kf_6 X.1))) rfl ?_
                    refine wp_aload rfl rfl ?_
                    refine wp_iload rfl rfl ?_
                    refine wp_putI (j := 10) rfl (congrArg Prod.fst (kf_6 X.1)) rfl rfl rfl ?_
                    refine wp_iconst rfl ?_
                    refine wp_iload rfl rfl ?_
                    refine wp_isub rfl ?_
                    refine Wp.topI (y := (-11)) (by decide) ?_
                    refine wp_iret rfl rfl ?_
                    show Wp X _ 3 55 [vr 6, vi 3, vi x2, vi x3, vr 87, vu] [vi (-11)] _ _
                    exact wp_iret rfl rfl H
    · replace H := H.2 c2
      refine wp_iconst rfl ?_
      refine wp_goto (tn := 15) rfl rfl ?_
      refine wp_zret rfl rfl (by decide) ?_
      show Wp X _ 3 6 [vr 6, vi x1, vi x2, vi x3, vu, vu] [vi 1] _ _
      refine wp_ifneT (tn := 31) rfl rfl (by decide) ?_
      refine wp_iconst rfl ?_
      exact wp_iret rfl rfl H
/-- WarnLines.read(III)I, from 59 -/
theorem S3_6_59a {X : Nat × (Int → Int)} {h : HP} {Q : bQ} (zx1 : aV) (x2 : Int) (x3 : Int) (x5 : Int) (H : ((5 ≤ x5 → Wp X 5 32 0 [vr 6, vu] [] h (fun v h' => Wp X 6 3 126 [vr 6, zx1, vi x2, vi x3, vr 81, vi x5] (psh v []) h' Q)) ∧ (x5 < 5 → (((h 81 2) ≤ x5 → Wp X 5 32 0 [vr 6, vu] [] h (fun v h' => Wp X 6 3 126 [vr 6, zx1, vi x2, vi x3, vr 81, vi x5] (psh v []) h' Q)) ∧ (x5 < (h 81 2) → ((100 ≤ (h 8 7) → Wp X 5 32 0 [vr 6, vu] [] h (fun v h' => Wp X 6 3 126 [vr 6, zx1, vi x2, vi x3, vr 81, vi x5] (psh v []) h' Q)) ∧ ((h 8 7) < 100 → ((x5 < 0 → ((x2 < 0 → ((R32 (x5 + 1)) ∧ Wp X 6 3 59 [vr 6, zx1, vi x2, vi x3, vr 81, vi (x5 + 1)] [] h Q)) ∧ (0 ≤ x2 → (((h 8 8) ≤ x2 → ((R32 (x5 + 1)) ∧ Wp X 6 3 59 [vr 6, zx1, vi x2, vi x3, vr 81, vi (x5 + 1)] [] h Q)) ∧ (x2 < (h 8 8) → ((0 ≤ (h 8 7) ∧ (h 8 7) < 100) ∧ ((R32 (x5 + 1)) ∧ Wp X 6 3 59 [vr 6, zx1, vi x2, vi x3, vr 81, vi (x5 + 1)] [] (upd2 (upd2 (upd2 (upd2 (upd2 h 9 (h 8 7) x2) 10 (h 8 7) x5) 11 (h 8 7) 0) 12 (h 8 7) x3) 8 7 ((h 8 7) + 1)) Q))))))) ∧ (0 ≤ x5 → ((R32 ((h 81 2) - 1)) ∧ ((((h 81 2) - 1) < x5 → ((x2 < 0 → Wp X 6 3 59 [vr 6, zx1, vi x2, vi x3, vr 81, vi (x5 + 1)] [] h Q) ∧ (0 ≤ x2 → (((h 8 8) ≤ x2 → Wp X 6 3 59 [vr 6, zx1, vi x2, vi x3, vr 81, vi (x5 + 1)] [] h Q) ∧ (x2 < (h 8 8) → ((0 ≤ (h 8 7) ∧ (h 8 7) < 100) ∧ Wp X 6 3 59 [vr 6, zx1, vi x2, vi x3, vr 81, vi (x5 + 1)] [] (upd2 (upd2 (upd2 (upd2 (upd2 h 9 (h 8 7) x2) 10 (h 8 7) x5) 11 (h 8 7) 0) 12 (h 8 7) x3) 8 7 ((h 8 7) + 1)) Q)))))) ∧ (x5 ≤ ((h 81 2) - 1) → (((h 82 x5) < (-1) → Wp X 5 32 0 [vr 6, vu] [] h (fun v h' => Wp X 6 3 126 [vr 6, zx1, vi x2, vi x3, vr 81, vi x5] (psh v []) h' Q)) ∧ ((-1) ≤ (h 82 x5) → (((h 82 x5) ≤ 999 → ((x2 < 0 → Wp X 6 3 59 [vr 6, zx1, vi x2, vi x3, vr 81, vi (x5 + 1)] [] h Q) ∧ (0 ≤ x2 → (((h 8 8) ≤ x2 → Wp X 6 3 59 [vr 6, zx1, vi x2, vi x3, vr 81, vi (x5 + 1)] [] h Q) ∧ (x2 < (h 8 8) → ((0 ≤ (h 8 7) ∧ (h 8 7) < 100) ∧ Wp X 6 3 59 [vr 6, zx1, vi x2, vi x3, vr 81, vi (x5 + 1)] [] (upd2 (upd2 (upd2 (upd2 (upd2 h 9 (h 8 7) x2) 10 (h 8 7) x5) 11 (h 8 7) (h 82 x5)) 12 (h 8 7) x3) 8 7 ((h 8 7) + 1)) Q)))))) ∧ (999 < (h 82 x5) → Wp X 5 32 0 [vr 6, vu] [] h (fun v h' => Wp X 6 3 126 [vr 6, zx1, vi x2, vi x3, vr 81, vi x5] (psh v []) h' Q))))))))))))))))) : Wp X 6 3 59 [vr 6, zx1, vi x2, vi x3, vr 81, vi x5] [] h Q := by
  refine wp_iload rfl rfl ?_
  refine wp_iconst rfl ?_
  refine wp_icge (tn := 122) rfl rfl (fun c1 => ?_) (fun c1 => ?_)
  · replace H := H.1 c1
    refine wp_aload rfl rfl ?_
    exact wp_call (k := 32) (ρ2 := 5) (L2 := [vr 6, vu]) rfl rfl rfl (Nat.le_of_ble_eq_true rfl) (Nat.le_of_ble_eq_true rfl) (Nat.le_of_ble_eq_true rfl) (rcv_V rfl (congrArg Prod.fst (kf_6 X.1))) rfl H
  · replace H := H.2 c1
    refine wp_iload rfl rfl ?_
    refine wp_aload rfl rfl ?_
    refine wp_call (k := 222) (ρ2 := 0) (L2 := [vr 81]) rfl rfl rfl (Nat.le_of_ble_eq_true rfl) (Nat.le_of_ble_eq_true rfl) (Nat.le_of_ble_eq_true rfl) (rcv_V rfl (congrArg Prod.fst (kf_81 X.1))) rfl ?_
    refine wp_aload rfl rfl ?_
    refine wp_getI (j := 2) rfl (congrArg Prod.fst (kf_81 X.1)) rfl ?_
    refine wp_iret rfl rfl ?_
    show Wp X _ 3 72 [vr 6, zx1, vi x2, vi x3, vr 81, vi x5] [vi (h 81 2), vi x5] _ _
    refine wp_icge (tn := 122) rfl rfl (fun c2 => ?_) (fun c2 => ?_)
    · replace H := H.1 c2
      refine wp_aload rfl rfl ?_
      exact wp_call (k := 32) (ρ2 := 5) (L2 := [vr 6, vu]) rfl rfl rfl (Nat.le_of_ble_eq_true rfl) (Nat.le_of_ble_eq_true rfl) (Nat.le_of_ble_eq_true rfl) (rcv_V rfl (congrArg Prod.fst (kf_6 X.1))) rfl H
    · replace H := H.2 c2
      refine wp_aload rfl rfl ?_
      refine wp_getR (r := 7) rfl (congrArg Prod.fst (kf_6 X.1)) rfl ?_
      refine wp_call (k := 146) (ρ2 := 0) (L2 := [vr 8]) rfl rfl rfl (Nat.le_of_ble_eq_true rfl) (Nat.le_of_ble_eq_true rfl) (Nat.le_of_ble_eq_true rfl) (rcv_V rfl (congrArg Prod.fst (kf_8 X.1))) rfl ?_
      refine wp_aload rfl rfl ?_
      refine wp_getI (j := 7) rfl (congrArg Prod.fst (kf_8 X.1)) rfl ?_
      refine wp_iconst rfl ?_
      refine wp_icge (tn := 13) rfl rfl (fun c3 => ?_) (fun c3 => ?_)
      · replace H := H.1 c3
        refine wp_iconst rfl ?_
        refine wp_zret rfl rfl (by decide) ?_
        show Wp X _ 3 82 [vr 6, zx1, vi x2, vi x3, vr 81, vi x5] [vi 0] _ _
        refine wp_ifeqT (tn := 122) rfl rfl (by decide) ?_
        refine wp_aload rfl rfl ?_
        exact wp_call (k := 32) (ρ2 := 5) (L2 := [vr 6, vu]) rfl rfl rfl (Nat.le_of_ble_eq_true rfl) (Nat.le_of_ble_eq_true rfl) (Nat.le_of_ble_eq_true rfl) (rcv_V rfl (congrArg Prod.fst (kf_6 X.1))) rfl H
      · replace H := H.2 c3
        refine wp_iconst rfl ?_
        refine wp_goto (tn := 14) rfl rfl ?_
        refine wp_zret rfl rfl (by decide) ?_
        show Wp X _ 3 82 [vr 6, zx1, vi x2, vi x3, vr 81, vi x5] [vi 1] _ _
        refine wp_ifeqF (tn := 122) rfl rfl (by decide) ?_
        refine wp_aload rfl rfl ?_
        refine wp_iload rfl rfl ?_
        refine wp_call (k := 227) (ρ2 := 1) (L2 := [vr 81, vi x5]) rfl rfl rfl (Nat.le_of_ble_eq_true rfl) (Nat.le_of_ble_eq_true rfl) (Nat.le_of_ble_eq_true rfl) (rcv_V rfl (congrArg Prod.fst (kf_81 X.1))) rfl ?_
        refine wp_aload rfl rfl ?_
        refine wp_iload rfl rfl ?_
        refine wp_iconst rfl ?_
        refine wp_call (k := 226) (ρ2 := 0) (L2 := [vr 81, vi x5, vi 1]) rfl rfl rfl (Nat.le_of_ble_eq_true rfl) (Nat.le_of_ble_eq_true rfl) (Nat.le_of_ble_eq_true rfl) (rcv_V rfl (congrArg Prod.fst (kf_81 X.1))) rfl ?_
        refine wp_iload rfl rfl ?_
        refine wp_iflt (tn := 22) rfl rfl (fun c4 => ?_) (fun c4 => ?_)
        · replace H := H.1 c4
          refine wp_iconst rfl ?_
          refine wp_zret rfl rfl (by decide) ?_
          show Wp X _ 227 6 [vr 81, vi x5] [vi 0] _ _
          refine wp_ifeqT (tn := 18) rfl rfl (by decide) ?_
          refine wp_iconst rfl ?_
          refine wp_iret rfl rfl ?_
          show Wp X _ 3 92 [vr 6, zx1, vi x2, vi x3, vr 81, vi x5] [vi 0] _ _
          refine wp_call (k := 41) (ρ2 := 1) (L2 := [vi 0]) rfl rfl rfl (Nat.le_of_ble_eq_true rfl) (Nat.le_of_ble_eq_true rfl) (Nat.le_of_ble_eq_true rfl) (rcv_S rfl) rfl ?_
          refine wp_iload rfl rfl ?_
          refine wp_iconst rfl ?_
          refine wp_iconst rfl ?_
          refine wp_call (k := 40) (ρ2 := 0) (L2 := [vi 0, vi (-1), vi 999]) rfl rfl rfl (Nat.le_of_ble_eq_true rfl) (Nat.le_of_ble_eq_true rfl) (Nat.le_of_ble_eq_true rfl) (rcv_S rfl) rfl ?_
          refine wp_iload rfl rfl ?_
          refine wp_iload rfl rfl ?_
          refine wp_icltF (tn := 10) rfl rfl (by decide) ?_
          refine wp_iload rfl rfl ?_
          refine wp_iload rfl rfl ?_
          refine wp_icleT (tn := 14) rfl rfl (by decide) ?_
          refine wp_iconst rfl ?_
          refine wp_zret rfl rfl (by decide) ?_
          show Wp X _ 41 8 [vi 0] [vi 0] _ _
          refine wp_ifneF (tn := 15) rfl rfl (by decide) ?_
          refine wp_iconst rfl ?_
          refine wp_goto (tn := 16) rfl rfl ?_
          refine wp_zret rfl rfl (by decide) ?_
          show Wp X _ 3 95 [vr 6, zx1, vi x2, vi x3, vr 81, vi x5] [vi 1] _ _
          refine wp_ifeqF (tn := 122) rfl rfl (by decide) ?_
          refine wp_aload rfl rfl ?_
          refine wp_getR (r := 7) rfl (congrArg Prod.fst (kf_6 X.1)) rfl ?_
          refine wp_iload rfl rfl ?_
          refine wp_iload rfl rfl ?_
          refine wp_aload rfl rfl ?_
          refine wp_iload rfl rfl ?_
          refine wp_call (k := 227) (ρ2 := 1) (L2 := [vr 81, vi x5]) rfl rfl rfl (Nat.le_of_ble_eq_true rfl) (Nat.le_of_ble_eq_true rfl) (Nat.le_of_ble_eq_true rfl) (rcv_V rfl (congrArg Prod.fst (kf_81 X.1))) rfl ?_
          refine wp_aload rfl rfl ?_
          refine wp_iload rfl rfl ?_
          refine wp_iconst rfl ?_
          refine wp_call (k := 226) (ρ2 := 0) (L2 := [vr 81, vi x5, vi 1]) rfl rfl rfl (Nat.le_of_ble_eq_true rfl) (Nat.le_of_ble_eq_true rfl) (Nat.le_of_ble_eq_true rfl) (rcv_V rfl (congrArg Prod.fst (kf_81 X.1))) rfl ?_
          refine wp_iload rfl rfl ?_
          refine wp_ifltT (tn := 22) rfl rfl c4 ?_
          refine wp_iconst rfl ?_
          refine wp_zret rfl rfl (by decide) ?_
          show Wp X _ 227 6 [vr 81, vi x5] [vi 0] _ _
          refine wp_ifeqT (tn := 18) rfl rfl (by decide) ?_
          refine wp_iconst rfl ?_
          refine wp_iret rfl rfl ?_
          show Wp X _ 3 112 [vr 6, zx1, vi x2, vi x3, vr 81, vi x5] [vi 0, vi x5, vi x2, vr 8] _ _
          refine wp_iload rfl rfl ?_
          refine wp_call (k := 153) (ρ2 := 1) (L2 := [vr 8, vi x2, vi x5, vi 0, vi x3]) rfl rfl rfl (Nat.le_of_ble_eq_true rfl) (Nat.le_of_ble_eq_true rfl) (Nat.le_of_ble_eq_true rfl) (rcv_V rfl (congrArg Prod.fst (kf_8 X.1))) rfl ?_
          refine wp_aload rfl rfl ?_
          refine wp_iload rfl rfl ?_
          refine wp_call (k := 145) (ρ2 := 0) (L2 := [vr 8, vi x2]) rfl rfl rfl (Nat.le_of_ble_eq_true rfl) (Nat.le_of_ble_eq_true rfl) (Nat.le_of_ble_eq_true rfl) (rcv_V rfl (congrArg Prod.fst (kf_8 X.1))) rfl ?_
          refine wp_iload rfl rfl ?_
          refine wp_iflt (tn := 16) rfl rfl (fun c5 => ?_) (fun c5 => ?_)
          · replace H := H.1 c5
            refine wp_iconst rfl ?_
            refine wp_zret rfl rfl (by decide) ?_
            show Wp X _ 153 5 [vr 8, vi x2, vi x5, vi 0, vi x3] [vi 0] _ _
            refine wp_ifeqT (tn := 66) rfl rfl (by decide) ?_
            refine wp_vret rfl rfl ?_
            show Wp X _ 3 116 [vr 6, zx1, vi x2, vi x3, vr 81, vi x5] [] _ _
            have g6 := H.1
            replace H := H.2
            refine wp_iincR (L2 := [vr 6, zx1, vi x2, vi x3, vr 81, vi (x5 + 1)]) rfl rfl g6 rfl ?_
            refine wp_goto (tn := 59) rfl rfl ?_
            exact H
          · replace H := H.2 c5
            refine wp_iload rfl rfl ?_
            refine wp_aload rfl rfl ?_
            refine wp_getI (j := 8) rfl (congrArg Prod.fst (kf_8 X.1)) rfl ?_
            refine wp_icge (tn := 16) rfl rfl (fun c7 => ?_) (fun c7 => ?_)
            · replace H := H.1 c7
              refine wp_iconst rfl ?_
              refine wp_zret rfl rfl (by decide) ?_
              show Wp X _ 153 5 [vr 8, vi x2, vi x5, vi 0, vi x3] [vi 0] _ _
              refine wp_ifeqT (tn := 66) rfl rfl (by decide) ?_
              refine wp_vret rfl rfl ?_
              show Wp X _ 3 116 [vr 6, zx1, vi x2, vi x3, vr 81, vi x5] [] _ _
              have g8 := H.1
              replace H := H.2
              refine wp_iincR (L2 := [vr 6, zx1, vi x2, vi x3, vr 81, vi (x5 + 1)]) rfl rfl g8 rfl ?_
              refine wp_goto (tn := 59) rfl rfl ?_
              exact H
            · replace H := H.2 c7
              refine wp_iconst rfl ?_
              refine wp_goto (tn := 17) rfl rfl ?_
              refine wp_zret rfl rfl (by decide) ?_
              show Wp X _ 153 5 [vr 8, vi x2, vi x5, vi 0, vi x3] [vi 1] _ _
              refine wp_ifeqF (tn := 66) rfl rfl (by decide) ?_
              refine wp_aload rfl rfl ?_
              refine wp_call (k := 146) (ρ2 := 0) (L2 := [vr 8]) rfl rfl rfl (Nat.le_of_ble_eq_true rfl) (Nat.le_of_ble_eq_true rfl) (Nat.le_of_ble_eq_true rfl) (rcv_V rfl (congrArg Prod.fst (kf_8 X.1))) rfl ?_
              refine wp_aload rfl rfl ?_
              refine wp_getI (j := 7) rfl (congrArg Prod.fst (kf_8 X.1)) rfl ?_
              refine wp_iconst rfl ?_
              refine wp_icgeF (tn := 13) rfl rfl c3 ?_
              refine wp_iconst rfl ?_
              refine wp_goto (tn := 14) rfl rfl ?_
              refine wp_zret rfl rfl (by decide) ?_
              show Wp X _ 153 12 [vr 8, vi x2, vi x5, vi 0, vi x3] [vi 1] _ _
              refine wp_ifeqF (tn := 66) rfl rfl (by decide) ?_
              refine wp_aload rfl rfl ?_
              refine wp_getR (r := 8) rfl (congrArg Prod.fst (kf_8 X.1)) rfl ?_
              refine wp_aload rfl rfl ?_
              refine wp_getI (j := 7) rfl (congrArg Prod.fst (kf_8 X.1)) rfl ?_
              refine wp_iload rfl rfl ?_
              have g9 := H.1
              replace H := H.2
              refine wp_iastore rfl (kf_9 X.1) g9 ?_
              refine wp_aload rfl rfl ?_
              refine wp_getR (r := 9) rfl (congrArg Prod.fst (kf_8 X.1)) rfl ?_
              refine wp_aload rfl rfl ?_
              refine wp_getI (j := 7) rfl (congrArg Prod.fst (kf_8 X.1)) rfl ?_
              refine Wp.topI (y := (h 8 7)) (congrFun (upd2_ne (by decide)) _) ?_
              refine wp_iload rfl rfl ?_
              refine wp_iastore rfl (kf_10 X.1) ⟨g9.1, g9.2⟩ ?_
              refine wp_aload rfl rfl ?_
              refine wp_getR (r := 10) rfl (congrArg Prod.fst (kf_8 X.1)) rfl ?_
              refine wp_aload rfl rfl ?_
              refine wp_getI (j := 7) rfl (congrArg Prod.fst (kf_8 X.1)) rfl ?_
              refine Wp.topI (y := (h 8 7)) (congrFun ((upd2_ne (by decide)).trans (upd2_ne (by decide))) _) ?_
              refine wp_iload rfl rfl ?_
              refine wp_iastore rfl (kf_11 X.1) ⟨g9.1, g9.2⟩ ?_
              refine wp_aload rfl rfl ?_
              refine wp_getR (r := 11) rfl (congrArg Prod.fst (kf_8 X.1)) rfl ?_
              refine wp_aload rfl rfl ?_
              refine wp_getI (j := 7) rfl (congrArg Prod.fst (kf_8 X.1)) rfl ?_
              refine Wp.topI (y := (h 8 7)) (congrFun ((upd2_ne (by decide)).trans ((upd2_ne (by decide)).trans (upd2_ne (by decide)))) _) ?_
              refine wp_iload rfl rfl ?_
              refine wp_iastore rfl (kf_12 X.1) ⟨g9.1, g9.2⟩ ?_
              refine wp_aload rfl rfl ?_
              refine wp_dupR rfl ?_
              refine wp_getI (j := 7) rfl (congrArg Prod.fst (kf_8 X.1)) rfl ?_
              refine Wp.topI (y := (h 8 7)) (congrFun ((upd2_ne (by decide)).trans ((upd2_ne (by decide)).trans ((upd2_ne (by decide)).trans (upd2_ne (by decide))))) _) ?_
              refine wp_iconst rfl ?_
              refine wp_iadd rfl ?_
              refine Wp.topI (y := ((h 8 7) + 1)) (w32_I (by clear H; unfold R32; omega)) ?_
              refine wp_putI (j := 7) rfl (congrArg Prod.fst (kf_8 X.1)) rfl rfl rfl ?_
              refine wp_vret rfl rfl ?_
              show Wp X _ 3 116 [vr 6, zx1, vi x2, vi x3, vr 81, vi x5] [] _ _
              have g10 := H.1
              replace H := H.2
              refine wp_iincR (L2 := [vr 6, zx1, vi x2, vi x3, vr 81, vi (x5 + 1)]) rfl rfl g10 rfl ?_
              refine wp_goto (tn := 59) rfl rfl ?_
              exact H
        · replace H := H.2 c4
          refine wp_iload rfl rfl ?_
          refine wp_ifltF (tn := 22) rfl rfl (by decide) ?_
          refine wp_iload rfl rfl ?_
          refine wp_aload rfl rfl ?_
          refine wp_getI (j := 2) rfl (congrArg Prod.fst (kf_81 X.1)) rfl ?_
          refine wp_iload rfl rfl ?_
          refine wp_isub rfl ?_
          have g11 := H.1
          replace H := H.2
          refine Wp.topI (y := ((h 81 2) - 1)) (w32_I g11) ?_
          refine wp_icgt (tn := 22) rfl rfl (fun c12 => ?_) (fun c12 => ?_)
          · replace H := H.1 c12
            refine wp_iconst rfl ?_
            refine wp_zret rfl rfl (by decide) ?_
            show Wp X _ 227 6 [vr 81, vi x5] [vi 0] _ _
            refine wp_ifeqT (tn := 18) rfl rfl (by decide) ?_
            refine wp_iconst rfl ?_
            refine wp_iret rfl rfl ?_
            show Wp X _ 3 92 [vr 6, zx1, vi x2, vi x3, vr 81, vi x5] [vi 0] _ _
            refine wp_call (k := 41) (ρ2 := 1) (L2 := [vi 0]) rfl rfl rfl (Nat.le_of_ble_eq_true rfl) (Nat.le_of_ble_eq_true rfl) (Nat.le_of_ble_eq_true rfl) (rcv_S rfl) rfl ?_
            refine wp_iload rfl rfl ?_
            refine wp_iconst rfl ?_
            refine wp_iconst rfl ?_
            refine wp_call (k := 40) (ρ2 := 0) (L2 := [vi 0, vi (-1), vi 999]) rfl rfl rfl (Nat.le_of_ble_eq_true rfl) (Nat.le_of_ble_eq_true rfl) (Nat.le_of_ble_eq_true rfl) (rcv_S rfl) rfl ?_
            refine wp_iload rfl rfl ?_
            refine wp_iload rfl rfl ?_
            refine wp_icltF (tn := 10) rfl rfl (by decide) ?_
            refine wp_iload rfl rfl ?_
            refine wp_iload rfl rfl ?_
            refine wp_icleT (tn := 14) rfl rfl (by decide) ?_
            refine wp_iconst rfl ?_
            refine wp_zret rfl rfl (by decide) ?_
            show Wp X _ 41 8 [vi 0] [vi 0] _ _
            refine wp_ifneF (tn := 15) rfl rfl (by decide) ?_
            refine wp_iconst rfl ?_
            refine wp_goto (tn := 16) rfl rfl ?_
            refine wp_zret rfl rfl (by decide) ?_
            show Wp X _ 3 95 [vr 6, zx1, vi x2, vi x3, vr 81, vi x5] [vi 1] _ _
            refine wp_ifeqF (tn := 122) rfl rfl (by decide) ?_
            refine wp_aload rfl rfl ?_
            refine wp_getR (r := 7) rfl (congrArg Prod.fst (kf_6 X.1)) rfl ?_
            refine wp_iload rfl rfl ?_
            refine wp_iload rfl rfl ?_
            refine wp_aload rfl rfl ?_
            refine wp_iload rfl rfl ?_
            refine wp_call (k := 227) (ρ2 := 1) (L2 := [vr 81, vi x5]) rfl rfl rfl (Nat.le_of_ble_eq_true rfl) (Nat.le_of_ble_eq_true rfl) (Nat.le_of_ble_eq_true rfl) (rcv_V rfl (congrArg Prod.fst (kf_81 X.1))) rfl ?_
            refine wp_aload rfl rfl ?_
            refine wp_iload rfl rfl ?_
            refine wp_iconst rfl ?_
            refine wp_call (k := 226) (ρ2 := 0) (L2 := [vr 81, vi x5, vi 1]) rfl rfl rfl (Nat.le_of_ble_eq_true rfl) (Nat.le_of_ble_eq_true rfl) (Nat.le_of_ble_eq_true rfl) (rcv_V rfl (congrArg Prod.fst (kf_81 X.1))) rfl ?_
            refine wp_iload rfl rfl ?_
            refine wp_ifltF (tn := 22) rfl rfl c4 ?_
            refine wp_iload rfl rfl ?_
            refine wp_ifltF (tn := 22) rfl rfl (by decide) ?_
            refine wp_iload rfl rfl ?_
            refine wp_aload rfl rfl ?_
            refine wp_getI (j := 2) rfl (congrArg Prod.fst (kf_81 X.1)) rfl ?_
            refine wp_iload rfl rfl ?_
            refine wp_isub rfl ?_
            refine Wp.topI (y := ((h 81 2) - 1)) (w32_I g11) ?_
            refine wp_icgtT (tn := 22) rfl rfl c12 ?_
            refine wp_iconst rfl ?_
            refine wp_zret rfl rfl (by decide) ?_
            show Wp X _ 227 6 [vr 81, vi x5] [vi 0] _ _
            refine wp_ifeqT (tn := 18) rfl rfl (by decide) ?_
            refine wp_iconst rfl ?_
            refine wp_iret rfl rfl ?_
            show Wp X _ 3 112 [vr 6, zx1, vi x2, vi x3, vr 81, vi x5] [vi 0, vi x5, vi x2, vr 8] _ _
            refine wp_iload rfl rfl ?_
            refine wp_call (k := 153) (ρ2 := 1) (L2 := [vr 8, vi x2, vi x5, vi 0, vi x3]) rfl rfl rfl (Nat.le_of_ble_eq_true rfl) (Nat.le_of_ble_eq_true rfl) (Nat.le_of_ble_eq_true rfl) (rcv_V rfl (congrArg Prod.fst (kf_8 X.1))) rfl ?_
            refine wp_aload rfl rfl ?_
            refine wp_iload rfl rfl ?_
            refine wp_call (k := 145) (ρ2 := 0) (L2 := [vr 8, vi x2]) rfl rfl rfl (Nat.le_of_ble_eq_true rfl) (Nat.le_of_ble_eq_true rfl) (Nat.le_of_ble_eq_true rfl) (rcv_V rfl (congrArg Prod.fst (kf_8 X.1))) rfl ?_
            refine wp_iload rfl rfl ?_
            refine wp_iflt (tn := 16) rfl rfl (fun c13 => ?_) (fun c13 => ?_)
            · replace H := H.1 c13
              refine wp_iconst rfl ?_
              refine wp_zret rfl rfl (by decide) ?_
              show Wp X _ 153 5 [vr 8, vi x2, vi x5, vi 0, vi x3] [vi 0] _ _
              refine wp_ifeqT (tn := 66) rfl rfl (by decide) ?_
              refine wp_vret rfl rfl ?_
              show Wp X _ 3 116 [vr 6, zx1, vi x2, vi x3, vr 81, vi x5] [] _ _
              refine wp_iincR (L2 := [vr 6, zx1, vi x2, vi x3, vr 81, vi (x5 + 1)]) rfl rfl (by clear H; unfold R32; omega) rfl ?_
              refine wp_goto (tn := 59) rfl rfl ?_
              exact H
            · replace H := H.2 c13
              refine wp_iload rfl rfl ?_
              refine wp_aload rfl rfl ?_
              refine wp_getI (j := 8) rfl (congrArg Prod.fst (kf_8 X.1)) rfl ?_
              refine wp_icge (tn := 16) rfl rfl (fun c14 => ?_) (fun c14 => ?_)
              · replace H := H.1 c14
                refine wp_iconst rfl ?_
                refine wp_zret rfl rfl (by decide) ?_
                show Wp X _ 153 5 [vr 8, vi x2, vi x5, vi 0, vi x3] [vi 0] _ _
                refine wp_ifeqT (tn := 66) rfl rfl (by decide) ?_
                refine wp_vret rfl rfl ?_
                show Wp X _ 3 116 [vr 6, zx1, vi x2, vi x3, vr 81, vi x5] [] _ _
                refine wp_iincR (L2 := [vr 6, zx1, vi x2, vi x3, vr 81, vi (x5 + 1)]) rfl rfl (by clear H; unfold R32; omega) rfl ?_
                refine wp_goto (tn := 59) rfl rfl ?_
                exact H
              · replace H := H.2 c14
                refine wp_iconst rfl ?_
                refine wp_goto (tn := 17) rfl rfl ?_
                refine wp_zret rfl rfl (by decide) ?_
                show Wp X _ 153 5 [vr 8, vi x2, vi x5, vi 0, vi x3] [vi 1] _ _
                refine wp_ifeqF (tn := 66) rfl rfl (by decide) ?_
                refine wp_aload rfl rfl ?_
                refine wp_call (k := 146) (ρ2 := 0) (L2 := [vr 8]) rfl rfl rfl (Nat.le_of_ble_eq_true rfl) (Nat.le_of_ble_eq_true rfl) (Nat.le_of_ble_eq_true rfl) (rcv_V rfl (congrArg Prod.fst (kf_8 X.1))) rfl ?_
                refine wp_aload rfl rfl ?_
                refine wp_getI (j := 7) rfl (congrArg Prod.fst (kf_8 X.1)) rfl ?_
                refine wp_iconst rfl ?_
                refine wp_icgeF (tn := 13) rfl rfl c3 ?_
                refine wp_iconst rfl ?_
                refine wp_goto (tn := 14) rfl rfl ?_
                refine wp_zret rfl rfl (by decide) ?_
                show Wp X _ 153 12 [vr 8, vi x2, vi x5, vi 0, vi x3] [vi 1] _ _
                refine wp_ifeqF (tn := 66) rfl rfl (by decide) ?_
                refine wp_aload rfl rfl ?_
                refine wp_getR (r := 8) rfl (congrArg Prod.fst (kf_8 X.1)) rfl ?_
                refine wp_aload rfl rfl ?_
                refine wp_getI (j := 7) rfl (congrArg Prod.fst (kf_8 X.1)) rfl ?_
                refine wp_iload rfl rfl ?_
                have g15 := H.1
                replace H := H.2
                refine wp_iastore rfl (kf_9 X.1) g15 ?_
                refine wp_aload rfl rfl ?_
                refine wp_getR (r := 9) rfl (congrArg Prod.fst (kf_8 X.1)) rfl ?_
                refine wp_aload rfl rfl ?_
                refine wp_getI (j := 7) rfl (congrArg Prod.fst (kf_8 X.1)) rfl ?_
                refine Wp.topI (y := (h 8 7)) (congrFun (upd2_ne (by decide)) _) ?_
                refine wp_iload rfl rfl ?_
                refine wp_iastore rfl (kf_10 X.1) ⟨g15.1, g15.2⟩ ?_
                refine wp_aload rfl rfl ?_
                refine wp_getR (r := 10) rfl (congrArg Prod.fst (kf_8 X.1)) rfl ?_
                refine wp_aload rfl rfl ?_
                refine wp_getI (j := 7) rfl (congrArg Prod.fst (kf_8 X.1)) rfl ?_
                refine Wp.topI (y := (h 8 7)) (congrFun ((upd2_ne (by decide)).trans (upd2_ne (by decide))) _) ?_
                refine wp_iload rfl rfl ?_
                refine wp_iastore rfl (kf_11 X.1) ⟨g15.1, g15.2⟩ ?_
                refine wp_aload rfl rfl ?_
                refine wp_getR (r := 11) rfl (congrArg Prod.fst (kf_8 X.1)) rfl ?_
                refine wp_aload rfl rfl ?_
                refine wp_getI (j := 7) rfl (congrArg Prod.fst (kf_8 X.1)) rfl ?_
                refine Wp.topI (y := (h 8 7)) (congrFun ((upd2_ne (by decide)).trans ((upd2_ne (by decide)).trans (upd2_ne (by decide)))) _) ?_
                refine wp_iload rfl rfl ?_
                refine wp_iastore rfl (kf_12 X.1) ⟨g15.1, g15.2⟩ ?_
                refine wp_aload rfl rfl ?_
                refine wp_dupR rfl ?_
                refine wp_getI (j := 7) rfl (congrArg Prod.fst (kf_8 X.1)) rfl ?_
                refine Wp.topI (y := (h 8 7)) (congrFun ((upd2_ne (by decide)).trans ((upd2_ne (by decide)).trans ((upd2_ne (by decide)).trans (upd2_ne (by decide))))) _) ?_
                refine wp_iconst rfl ?_
                refine wp_iadd rfl ?_
                refine Wp.topI (y := ((h 8 7) + 1)) (w32_I (by clear H; unfold R32; omega)) ?_
                refine wp_putI (j := 7) rfl (congrArg Prod.fst (kf_8 X.1)) rfl rfl rfl ?_
                refine wp_vret rfl rfl ?_
                show Wp X _ 3 116 [vr 6, zx1, vi x2, vi x3, vr 81, vi x5] [] _ _
                refine wp_iincR (L2 := [vr 6, zx1, vi x2, vi x3, vr 81, vi (x5 + 1)]) rfl rfl (by clear H; unfold R32; omega) rfl ?_
                refine wp_goto (tn := 59) rfl rfl ?_
                exact H
          · replace H := H.2 c12
            refine wp_iconst rfl ?_
            refine wp_goto (tn := 23) rfl rfl ?_
            refine wp_zret rfl rfl (by decide) ?_
            show Wp X _ 227 6 [vr 81, vi x5] [vi 1] _ _
            refine wp_ifeqF (tn := 18) rfl rfl (by decide) ?_
            refine wp_aload rfl rfl ?_
            refine wp_getR (r := 81) rfl (congrArg Prod.fst (kf_81 X.1)) rfl ?_
            refine wp_iload rfl rfl ?_
            refine wp_iaload rfl (kf_82 X.1) ⟨c4, (by clear H; omega)⟩ ?_
            refine wp_goto (tn := 19) rfl rfl ?_
            refine wp_iret rfl rfl ?_
            show Wp X _ 3 92 [vr 6, zx1, vi x2, vi x3, vr 81, vi x5] [vi (h 82 x5)] _ _
            refine wp_call (k := 41) (ρ2 := 1) (L2 := [vi (h 82 x5)]) rfl rfl rfl (Nat.le_of_ble_eq_true rfl) (Nat.le_of_ble_eq_true rfl) (Nat.le_of_ble_eq_true rfl) (rcv_S rfl) rfl ?_
            refine wp_iload rfl rfl ?_
            refine wp_iconst rfl ?_
            refine wp_iconst rfl ?_
            refine wp_call (k := 40) (ρ2 := 0) (L2 := [vi (h 82 x5), vi (-1), vi 999]) rfl rfl rfl (Nat.le_of_ble_eq_true rfl) (Nat.le_of_ble_eq_true rfl) (Nat.le_of_ble_eq_true rfl) (rcv_S rfl) rfl ?_
            refine wp_iload rfl rfl ?_
            refine wp_iload rfl rfl ?_
            refine wp_iclt (tn := 10) rfl rfl (fun c16 => ?_) (fun c16 => ?_)
            · replace H := H.1 c16
              refine wp_iconst rfl ?_
              refine wp_goto (tn := 15) rfl rfl ?_
              refine wp_zret rfl rfl (by decide) ?_
              show Wp X _ 41 8 [vi (h 82 x5)] [vi 1] _ _
              refine wp_ifneT (tn := 15) rfl rfl (by decide) ?_
              refine wp_iconst rfl ?_
              refine wp_zret rfl rfl (by decide) ?_
              show Wp X _ 3 95 [vr 6, zx1, vi x2, vi x3, vr 81, vi x5] [vi 0] _ _
              refine wp_ifeqT (tn := 122) rfl rfl (by decide) ?_
              refine wp_aload rfl rfl ?_
              exact wp_call (k := 32) (ρ2 := 5) (L2 := [vr 6, vu]) rfl rfl rfl (Nat.le_of_ble_eq_true rfl) (Nat.le_of_ble_eq_true rfl) (Nat.le_of_ble_eq_true rfl) (rcv_V rfl (congrArg Prod.fst (kf_6 X.1))) rfl H
            · replace H := H.2 c16
              refine wp_iload rfl rfl ?_
              refine wp_iload rfl rfl ?_
              refine wp_icle (tn := 14) rfl rfl (fun c17 => ?_) (fun c17 => ?_)
              · replace H := H.1 c17
                refine wp_iconst rfl ?_
                refine wp_zret rfl rfl (by decide) ?_
                show Wp X _ 41 8 [vi (h 82 x5)] [vi 0] _ _
                refine wp_ifneF (tn := 15) rfl rfl (by decide) ?_
                refine wp_iconst rfl ?_
                refine wp_goto (tn := 16) rfl rfl ?_
                refine wp_zret rfl rfl (by decide) ?_
                show Wp X _ 3 95 [vr 6, zx1, vi x2, vi x3, vr 81, vi x5] [vi 1] _ _
                refine wp_ifeqF (tn := 122) rfl rfl (by decide) ?_
                refine wp_aload rfl rfl ?_
                refine wp_getR (r := 7) rfl (congrArg Prod.fst (kf_6 X.1)) rfl ?_
                refine wp_iload rfl rfl ?_
                refine wp_iload rfl rfl ?_
                refine wp_aload rfl rfl ?_
                refine wp_iload rfl rfl ?_
                refine wp_call (k := 227) (ρ2 := 1) (L2 := [vr 81, vi x5]) rfl rfl rfl (Nat.le_of_ble_eq_true rfl) (Nat.le_of_ble_eq_true rfl) (Nat.le_of_ble_eq_true rfl) (rcv_V rfl (congrArg Prod.fst (kf_81 X.1))) rfl ?_
                refine wp_aload rfl rfl ?_
                refine wp_iload rfl rfl ?_
                refine wp_iconst rfl ?_
                refine wp_call (k := 226) (ρ2 := 0) (L2 := [vr 81, vi x5, vi 1]) rfl rfl rfl (Nat.le_of_ble_eq_true rfl) (Nat.le_of_ble_eq_true rfl) (Nat.le_of_ble_eq_true rfl) (rcv_V rfl (congrArg Prod.fst (kf_81 X.1))) rfl ?_
                refine wp_iload rfl rfl ?_
                refine wp_ifltF (tn := 22) rfl rfl c4 ?_
                refine wp_iload rfl rfl ?_
                refine wp_ifltF (tn := 22) rfl rfl (by decide) ?_
                refine wp_iload rfl rfl ?_
                refine wp_aload rfl rfl ?_
                refine wp_getI (j := 2) rfl (congrArg Prod.fst (kf_81 X.1)) rfl ?_
                refine wp_iload rfl rfl ?_
                refine wp_isub rfl ?_
                refine Wp.topI (y := ((h 81 2) - 1)) (w32_I g11) ?_
                refine wp_icgtF (tn := 22) rfl rfl c12 ?_
                refine wp_iconst rfl ?_
                refine wp_goto (tn := 23) rfl rfl ?_
                refine wp_zret rfl rfl (by decide) ?_
                show Wp X _ 227 6 [vr 81, vi x5] [vi 1] _ _
                refine wp_ifeqF (tn := 18) rfl rfl (by decide) ?_
                refine wp_aload rfl rfl ?_
                refine wp_getR (r := 81) rfl (congrArg Prod.fst (kf_81 X.1)) rfl ?_
                refine wp_iload rfl rfl ?_
                refine wp_iaload rfl (kf_82 X.1) ⟨c4, (by clear H; omega)⟩ ?_
                refine wp_goto (tn := 19) rfl rfl ?_
                refine wp_iret rfl rfl ?_
                show Wp X _ 3 112 [vr 6, zx1, vi x2, vi x3, vr 81, vi x5] [vi (h 82 x5), vi x5, vi x2, vr 8] _ _
                refine wp_iload rfl rfl ?_
                refine wp_call (k := 153) (ρ2 := 1) (L2 := [vr 8, vi x2, vi x5, vi (h 82 x5), vi x3]) rfl rfl rfl (Nat.le_of_ble_eq_true rfl) (Nat.le_of_ble_eq_true rfl) (Nat.le_of_ble_eq_true rfl) (rcv_V rfl (congrArg Prod.fst (kf_8 X.1))) rfl ?_
                refine wp_aload rfl rfl ?_
                refine wp_iload rfl rfl ?_
                refine wp_call (k := 145) (ρ2 := 0) (L2 := [vr 8, vi x2]) rfl rfl rfl (Nat.le_of_ble_eq_true rfl) (Nat.le_of_ble_eq_true rfl) (Nat.le_of_ble_eq_true rfl) (rcv_V rfl (congrArg Prod.fst (kf_8 X.1))) rfl ?_
                refine wp_iload rfl rfl ?_
                refine wp_iflt (tn := 16) rfl rfl (fun c18 => ?_) (fun c18 => ?_)
                · replace H := H.1 c18
                  refine wp_iconst rfl ?_
                  refine wp_zret rfl rfl (by decide) ?_
                  show Wp X _ 153 5 [vr 8, vi x2, vi x5, vi (h 82 x5), vi x3] [vi 0] _ _
                  refine wp_ifeqT (tn := 66) rfl rfl (by decide) ?_
                  refine wp_vret rfl rfl ?_
                  show Wp X _ 3 116 [vr 6, zx1, vi x2, vi x3, vr 81, vi x5] [] _ _
                  refine wp_iincR (L2 := [vr 6, zx1, vi x2, vi x3, vr 81, vi (x5 + 1)]) rfl rfl (by clear H; unfold R32; omega) rfl ?_
                  refine wp_goto (tn := 59) rfl rfl ?_
                  exact H
                · replace H := H.2 c18
                  refine wp_iload rfl rfl ?_
                  refine wp_aload rfl rfl ?_
                  refine wp_getI (j := 8) rfl (congrArg Prod.fst (kf_8 X.1)) rfl ?_
                  refine wp_icge (tn := 16) rfl rfl (fun c19 => ?_) (fun c19 => ?_)
                  · replace H := H.1 c19
                    refine wp_iconst rfl ?_
                    refine wp_zret rfl rfl (by decide) ?_
                    show Wp X _ 153 5 [vr 8, vi x2, vi x5, vi (h 82 x5), vi x3] [vi 0] _ _
                    refine wp_ifeqT (tn := 66) rfl rfl (by decide) ?_
                    refine wp_vret rfl rfl ?_
                    show Wp X _ 3 116 [vr 6, zx1, vi x2, vi x3, vr 81, vi x5] [] _ _
                    refine wp_iincR (L2 := [vr 6, zx1, vi x2, vi x3, vr 81, vi (x5 + 1)]) rfl rfl (by clear H; unfold R32; omega) rfl ?_
                    refine wp_goto (tn := 59) rfl rfl ?_
                    exact H
                  · replace H := H.2 c19
                    refine wp_iconst rfl ?_
                    refine wp_goto (tn := 17) rfl rfl ?_
                    refine wp_zret rfl rfl (by decide) ?_
                    show Wp X _ 153 5 [vr 8, vi x2, vi x5, vi (h 82 x5), vi x3] [vi 1] _ _
                    refine wp_ifeqF (tn := 66) rfl rfl (by decide) ?_
                    refine wp_aload rfl rfl ?_
                    refine wp_call (k := 146) (ρ2 := 0) (L2 := [vr 8]) rfl rfl rfl (Nat.le_of_ble_eq_true rfl) (Nat.le_of_ble_eq_true rfl) (Nat.le_of_ble_eq_true rfl) (rcv_V rfl (congrArg Prod.fst (kf_8 X.1))) rfl ?_
                    refine wp_aload rfl rfl ?_
                    refine wp_getI (j := 7) rfl (congrArg Prod.fst (kf_8 X.1)) rfl ?_
                    refine wp_iconst rfl ?_
                    refine wp_icgeF (tn := 13) rfl rfl c3 ?_
                    refine wp_iconst rfl ?_
                    refine wp_goto (tn := 14) rfl rfl ?_
                    refine wp_zret rfl rfl (by decide) ?_
                    show Wp X _ 153 12 [vr 8, vi x2, vi x5, vi (h 82 x5), vi x3] [vi 1] _ _
                    refine wp_ifeqF (tn := 66) rfl rfl (by decide) ?_
                    refine wp_aload rfl rfl ?_
                    refine wp_getR (r := 8) rfl (congrArg Prod.fst (kf_8 X.1)) rfl ?_
                    refine wp_aload rfl rfl ?_
                    refine wp_getI (j := 7) rfl (congrArg Prod.fst (kf_8 X.1)) rfl ?_
                    refine wp_iload rfl rfl ?_
                    have g20 := H.1
                    replace H := H.2
                    refine wp_iastore rfl (kf_9 X.1) g20 ?_
                    refine wp_aload rfl rfl ?_
                    refine wp_getR (r := 9) rfl (congrArg Prod.fst (kf_8 X.1)) rfl ?_
                    refine wp_aload rfl rfl ?_
                    refine wp_getI (j := 7) rfl (congrArg Prod.fst (kf_8 X.1)) rfl ?_
                    refine Wp.topI (y := (h 8 7)) (congrFun (upd2_ne (by decide)) _) ?_
                    refine wp_iload rfl rfl ?_
                    refine wp_iastore rfl (kf_10 X.1) ⟨g20.1, g20.2⟩ ?_
                    refine wp_aload rfl rfl ?_
                    refine wp_getR (r := 10) rfl (congrArg Prod.fst (kf_8 X.1)) rfl ?_
                    refine wp_aload rfl rfl ?_
                    refine wp_getI (j := 7) rfl (congrArg Prod.fst (kf_8 X.1)) rfl ?_
                    refine Wp.topI (y := (h 8 7)) (congrFun ((upd2_ne (by decide)).trans (upd2_ne (by decide))) _) ?_
                    refine wp_iload rfl rfl ?_
                    refine wp_iastore rfl (kf_11 X.1) ⟨g20.1, g20.2⟩ ?_
                    refine wp_aload rfl rfl ?_
                    refine wp_getR (r := 11) rfl (congrArg Prod.fst (kf_8 X.1)) rfl ?_
                    refine wp_aload rfl rfl ?_
                    refine wp_getI (j := 7) rfl (congrArg Prod.fst (kf_8 X.1)) rfl ?_
                    refine Wp.topI (y := (h 8 7)) (congrFun ((upd2_ne (by decide)).trans ((upd2_ne (by decide)).trans (upd2_ne (by decide)))) _) ?_
                    refine wp_iload rfl rfl ?_
                    refine wp_iastore rfl (kf_12 X.1) ⟨g20.1, g20.2⟩ ?_
                    refine wp_aload rfl rfl ?_
                    refine wp_dupR rfl ?_
                    refine wp_getI (j := 7) rfl (congrArg Prod.fst (kf_8 X.1)) rfl ?_
                    refine Wp.topI (y := (h 8 7)) (congrFun ((upd2_ne (by decide)).trans ((upd2_ne (by decide)).trans ((upd2_ne (by decide)).trans (upd2_ne (by decide))))) _) ?_
                    refine wp_iconst rfl ?_
                    refine wp_iadd rfl ?_
                    refine Wp.topI (y := ((h 8 7) + 1)) (w32_I (by clear H; unfold R32; omega)) ?_
                    refine wp_putI (j := 7) rfl (congrArg Prod.fst (kf_8 X.1)) rfl rfl rfl ?_
                    refine wp_vret rfl rfl ?_
                    show Wp X _ 3 116 [vr 6, zx1, vi x2, vi x3, vr 81, vi x5] [] _ _
                    refine wp_iincR (L2 := [vr 6, zx1, vi x2, vi x3, vr 81, vi (x5 + 1)]) rfl rfl (by clear H; unfold R32; omega) rfl ?_
                    refine wp_goto (tn := 59) rfl rfl ?_
                    exact H
              · replace H := H.2 c17
                refine wp_iconst rfl ?_
                refine wp_goto (tn := 15) rfl rfl ?_
                refine wp_zret rfl rfl (by decide) ?_
                show Wp X _ 41 8 [vi (h 82 x5)] [vi 1] _ _
                refine wp_ifneT (tn := 15) rfl rfl (by decide) ?_
                refine wp_iconst rfl ?_
                refine wp_zret rfl rfl (by decide) ?_
                show Wp X _ 3 95 [vr 6, zx1, vi x2, vi x3, vr 81, vi x5] [vi 0] _ _
                refine wp_ifeqT (tn := 122) rfl rfl (by decide) ?_
                refine wp_aload rfl rfl ?_
                exact wp_call (k := 32) (ρ2 := 5) (L2 := [vr 6, vu]) rfl rfl rfl (Nat.le_of_ble_eq_true rfl) (Nat.le_of_ble_eq_true rfl) (Nat.le_of_ble_eq_true rfl) (rcv_V rfl (congrArg Prod.fst (kf_6 X.1))) rfl H
/-- WarnLines.read(III)I, from 59 -/
theorem S3_6_59b {X : Nat × (Int → Int)} {h : HP} {Q : bQ} (zx1 : aV) (x2 : Int) (x3 : Int) (x5 : Int) (H : ((5 ≤ x5 → Wp X 5 32 0 [vr 6, vu] [] h (fun v h' => Wp X 6 3 126 [vr 6, zx1, vi x2, vi x3, vr 83, vi x5] (psh v []) h' Q)) ∧ (x5 < 5 → (((h 83 2) ≤ x5 → Wp X 5 32 0 [vr 6, vu] [] h (fun v h' => Wp X 6 3 126 [vr 6, zx1, vi x2, vi x3, vr 83, vi x5] (psh v []) h' Q)) ∧ (x5 < (h 83 2) → ((100 ≤ (h 8 7) → Wp X 5 32 0 [vr 6, vu] [] h (fun v h' => Wp X 6 3 126 [vr 6, zx1, vi x2, vi x3, vr 83, vi x5] (psh v []) h' Q)) ∧ ((h 8 7) < 100 → ((x5 < 0 → ((x2 < 0 → ((R32 (x5 + 1)) ∧ Wp X 6 3 59 [vr 6, zx1, vi x2, vi x3, vr 83, vi (x5 + 1)] [] h Q)) ∧ (0 ≤ x2 → (((h 8 8) ≤ x2 → ((R32 (x5 + 1)) ∧ Wp X 6 3 59 [vr 6, zx1, vi x2, vi x3, vr 83, vi (x5 + 1)] [] h Q)) ∧ (x2 < (h 8 8) → ((0 ≤ (h 8 7) ∧ (h 8 7) < 100) ∧ ((R32 (x5 + 1)) ∧ Wp X 6 3 59 [vr 6, zx1, vi x2, vi x3, vr 83, vi (x5 + 1)] [] (upd2 (upd2 (upd2 (upd2 (upd2 h 9 (h 8 7) x2) 10 (h 8 7) x5) 11 (h 8 7) 0) 12 (h 8 7) x3) 8 7 ((h 8 7) + 1)) Q))))))) ∧ (0 ≤ x5 → ((R32 ((h 83 2) - 1)) ∧ ((((h 83 2) - 1) < x5 → ((x2 < 0 → Wp X 6 3 59 [vr 6, zx1, vi x2, vi x3, vr 83, vi (x5 + 1)] [] h Q) ∧ (0 ≤ x2 → (((h 8 8) ≤ x2 → Wp X 6 3 59 [vr 6, zx1, vi x2, vi x3, vr 83, vi (x5 + 1)] [] h Q) ∧ (x2 < (h 8 8) → ((0 ≤ (h 8 7) ∧ (h 8 7) < 100) ∧ Wp X 6 3 59 [vr 6, zx1, vi x2, vi x3, vr 83, vi (x5 + 1)] [] (upd2 (upd2 (upd2 (upd2 (upd2 h 9 (h 8 7) x2) 10 (h 8 7) x5) 11 (h 8 7) 0) 12 (h 8 7) x3) 8 7 ((h 8 7) + 1)) Q)))))) ∧ (x5 ≤ ((h 83 2) - 1) → (((h 84 x5) < (-1) → Wp X 5 32 0 [vr 6, vu] [] h (fun v h' => Wp X 6 3 126 [vr 6, zx1, vi x2, vi x3, vr 83, vi x5] (psh v []) h' Q)) ∧ ((-1) ≤ (h 84 x5) → (((h 84 x5) ≤ 999 → ((x2 < 0 → Wp X 6 3 59 [vr 6, zx1, vi x2, vi x3, vr 83, vi (x5 + 1)] [] h Q) ∧ (0 ≤ x2 → (((h 8 8) ≤ x2 → Wp X 6 3 59 [vr 6, zx1, vi x2, vi x3, vr 83, vi (x5 + 1)] [] h Q) ∧ (x2 < (h 8 8) → ((0 ≤ (h 8 7) ∧ (h 8 7) < 100) ∧ Wp X 6 3 59 [vr 6, zx1, vi x2, vi x3, vr 83, vi (x5 + 1)] [] (upd2 (upd2 (upd2 (upd2 (upd2 h 9 (h 8 7) x2) 10 (h 8 7) x5) 11 (h 8 7) (h 84 x5)) 12 (h 8 7) x3) 8 7 ((h 8 7) + 1)) Q)))))) ∧ (999 < (h 84 x5) → Wp X 5 32 0 [vr 6, vu] [] h (fun v h' => Wp X 6 3 126 [vr 6, zx1, vi x2, vi x3, vr 83, vi x5] (psh v []) h' Q))))))))))))))))) : Wp X 6 3 59 [vr 6, zx1, vi x2, vi x3, vr 83, vi x5] [] h Q := by
  refine wp_iload rfl rfl ?_
  refine wp_iconst rfl ?_
  refine wp_icge (tn := 122) rfl rfl (fun c1 => ?_) (fun c1 => ?_)
  · replace H := H.1 c1
    refine wp_aload rfl rfl ?_
    exact wp_call (k := 32) (ρ2 := 5) (L2 := [vr 6, vu]) rfl rfl rfl (Nat.le_of_ble_eq_true rfl) (Nat.le_of_ble_eq_true rfl) (Nat.le_of_ble_eq_true rfl) (rcv_V rfl (congrArg Prod.fst (kf_6 X.1))) rfl H
  · replace H := H.2 c1
    refine wp_iload rfl rfl ?_
    refine wp_aload rfl rfl ?_
    refine wp_call (k := 222) (ρ2 := 0) (L2 := [vr 83]) rfl rfl rfl (Nat.le_of_ble_eq_true rfl) (Nat.le_of_ble_eq_true rfl) (Nat.le_of_ble_eq_true rfl) (rcv_V rfl (congrArg Prod.fst (kf_83 X.1))) rfl ?_
    refine wp_aload rfl rfl ?_
    refine wp_getI (j := 2) rfl (congrArg Prod.fst (kf_83 X.1)) rfl ?_
    refine wp_iret rfl rfl ?_
    show Wp X _ 3 72 [vr 6, zx1, vi x2, vi x3, vr 83, vi x5] [vi (h 83 2), vi x5] _ _
    refine wp_icge (tn := 122) rfl rfl (fun c2 => ?_) (fun c2 => ?_)
    · replace H := H.1 c2
      refine wp_aload rfl rfl ?_
      exact wp_call (k := 32) (ρ2 := 5) (L2 := [vr 6, vu]) rfl rfl rfl (Nat.le_of_ble_eq_true rfl) (Nat.le_of_ble_eq_true rfl) (Nat.le_of_ble_eq_true rfl) (rcv_V rfl (congrArg Prod.fst (kf_6 X.1))) rfl H
    · replace H := H.2 c2
      refine wp_aload rfl rfl ?_
      refine wp_getR (r := 7) rfl (congrArg Prod.fst (kf_6 X.1)) rfl ?_
      refine wp_call (k := 146) (ρ2 := 0) (L2 := [vr 8]) rfl rfl rfl (Nat.le_of_ble_eq_true rfl) (Nat.le_of_ble_eq_true rfl) (Nat.le_of_ble_eq_true rfl) (rcv_V rfl (congrArg Prod.fst (kf_8 X.1))) rfl ?_
      refine wp_aload rfl rfl ?_
      refine wp_getI (j := 7) rfl (congrArg Prod.fst (kf_8 X.1)) rfl ?_
      refine wp_iconst rfl ?_
      refine wp_icge (tn := 13) rfl rfl (fun c3 => ?_) (fun c3 => ?_)
      · replace H := H.1 c3
        refine wp_iconst rfl ?_
        refine wp_zret rfl rfl (by decide) ?_
        show Wp X _ 3 82 [vr 6, zx1, vi x2, vi x3, vr 83, vi x5] [vi 0] _ _
        refine wp_ifeqT (tn := 122) rfl rfl (by decide) ?_
        refine wp_aload rfl rfl ?_
        exact wp_call (k := 32) (ρ2 := 5) (L2 := [vr 6, vu]) rfl rfl rfl (Nat.le_of_ble_eq_true rfl) (Nat.le_of_ble_eq_true rfl) (Nat.le_of_ble_eq_true rfl) (rcv_V rfl (congrArg Prod.fst (kf_6 X.1))) rfl H
      · replace H := H.2 c3
        refine wp_iconst rfl ?_
        refine wp_goto (tn := 14) rfl rfl ?_
        refine wp_zret rfl rfl (by decide) ?_
        show Wp X _ 3 82 [vr 6, zx1, vi x2, vi x3, vr 83, vi x5] [vi 1] _ _
        refine wp_ifeqF (tn := 122) rfl rfl (by decide) ?_
        refine wp_aload rfl rfl ?_
        refine wp_iload rfl rfl ?_
        refine wp_call (k := 227) (ρ2 := 1) (L2 := [vr 83, vi x5]) rfl rfl rfl (Nat.le_of_ble_eq_true rfl) (Nat.le_of_ble_eq_true rfl) (Nat.le_of_ble_eq_true rfl) (rcv_V rfl (congrArg Prod.fst (kf_83 X.1))) rfl ?_
        refine wp_aload rfl rfl ?_
        refine wp_iload rfl rfl ?_
        refine wp_iconst rfl ?_
        refine wp_call (k := 226) (ρ2 := 0) (L2 := [vr 83, vi x5, vi 1]) rfl rfl rfl (Nat.le_of_ble_eq_true rfl) (Nat.le_of_ble_eq_true rfl) (Nat.le_of_ble_eq_true rfl) (rcv_V rfl (congrArg Prod.fst (kf_83 X.1))) rfl ?_
        refine wp_iload rfl rfl ?_
        refine wp_iflt (tn := 22) rfl rfl (fun c4 => ?_) (fun c4 => ?_)
        · replace H := H.1 c4
          refine wp_iconst rfl ?_
          refine wp_zret rfl rfl (by decide) ?_
          show Wp X _ 227 6 [vr 83, vi x5] [vi 0] _ _
          refine wp_ifeqT (tn := 18) rfl rfl (by decide) ?_
          refine wp_iconst rfl ?_
          refine wp_iret rfl rfl ?_
          show Wp X _ 3 92 [vr 6, zx1, vi x2, vi x3, vr 83, vi x5] [vi 0] _ _
          refine wp_call (k := 41) (ρ2 := 1) (L2 := [vi 0]) rfl rfl rfl (Nat.le_of_ble_eq_true rfl) (Nat.le_of_ble_eq_true rfl) (Nat.le_of_ble_eq_true rfl) (rcv_S rfl) rfl ?_
          refine wp_iload rfl rfl ?_
          refine wp_iconst rfl ?_
          refine wp_iconst rfl ?_
          refine wp_call (k := 40) (ρ2 := 0) (L2 := [vi 0, vi (-1), vi 999]) rfl rfl rfl (Nat.le_of_ble_eq_true rfl) (Nat.le_of_ble_eq_true rfl) (Nat.le_of_ble_eq_true rfl) (rcv_S rfl) rfl ?_
          refine wp_iload rfl rfl ?_
          refine wp_iload rfl rfl ?_
          refine wp_icltF (tn := 10) rfl rfl (by decide) ?_
          refine wp_iload rfl rfl ?_
          refine wp_iload rfl rfl ?_
          refine wp_icleT (tn := 14) rfl rfl (by decide) ?_
          refine wp_iconst rfl ?_
          refine wp_zret rfl rfl (by decide) ?_
          show Wp X _ 41 8 [vi 0] [vi 0] _ _
          refine wp_ifneF (tn := 15) rfl rfl (by decide) ?_
          refine wp_iconst rfl ?_
          refine wp_goto (tn := 16) rfl rfl ?_
          refine wp_zret rfl rfl (by decide) ?_
          show Wp X _ 3 95 [vr 6, zx1, vi x2, vi x3, vr 83, vi x5] [vi 1] _ _
          refine wp_ifeqF (tn := 122) rfl rfl (by decide) ?_
          refine wp_aload rfl rfl ?_
          refine wp_getR (r := 7) rfl (congrArg Prod.fst (kf_6 X.1)) rfl ?_
          refine wp_iload rfl rfl ?_
          refine wp_iload rfl rfl ?_
          refine wp_aload rfl rfl ?_
          refine wp_iload rfl rfl ?_
          refine wp_call (k := 227) (ρ2 := 1) (L2 := [vr 83, vi x5]) rfl rfl rfl (Nat.le_of_ble_eq_true rfl) (Nat.le_of_ble_eq_true rfl) (Nat.le_of_ble_eq_true rfl) (rcv_V rfl (congrArg Prod.fst (kf_83 X.1))) rfl ?_
          refine wp_aload rfl rfl ?_
          refine wp_iload rfl rfl ?_
          refine wp_iconst rfl ?_
          refine wp_call (k := 226) (ρ2 := 0) (L2 := [vr 83, vi x5, vi 1]) rfl rfl rfl (Nat.le_of_ble_eq_true rfl) (Nat.le_of_ble_eq_true rfl) (Nat.le_of_ble_eq_true rfl) (rcv_V rfl (congrArg Prod.fst (kf_83 X.1))) rfl ?_
          refine wp_iload rfl rfl ?_
          refine wp_ifltT (tn := 22) rfl rfl c4 ?_
          refine wp_iconst rfl ?_
          refine wp_zret rfl rfl (by decide) ?_
          show Wp X _ 227 6 [vr 83, vi x5] [vi 0] _ _
          refine wp_ifeqT (tn := 18) rfl rfl (by decide) ?_
          refine wp_iconst rfl ?_
          refine wp_iret rfl rfl ?_
          show Wp X _ 3 112 [vr 6, zx1, vi x2, vi x3, vr 83, vi x5] [vi 0, vi x5, vi x2, vr 8] _ _
          refine wp_iload rfl rfl ?_
          refine wp_call (k := 153) (ρ2 := 1) (L2 := [vr 8, vi x2, vi x5, vi 0, vi x3]) rfl rfl rfl (Nat.le_of_ble_eq_true rfl) (Nat.le_of_ble_eq_true rfl) (Nat.le_of_ble_eq_true rfl) (rcv_V rfl (congrArg Prod.fst (kf_8 X.1))) rfl ?_
          refine wp_aload rfl rfl ?_
          refine wp_iload rfl rfl ?_
          refine wp_call (k := 145) (ρ2 := 0) (L2 := [vr 8, vi x2]) rfl rfl rfl (Nat.le_of_ble_eq_true rfl) (Nat.le_of_ble_eq_true rfl) (Nat.le_of_ble_eq_true rfl) (rcv_V rfl (congrArg Prod.fst (kf_8 X.1))) rfl ?_
          refine wp_iload rfl rfl ?_
          refine wp_iflt (tn := 16) rfl rfl (fun c5 => ?_) (fun c5 => ?_)
          · replace H := H.1 c5
            refine wp_iconst rfl ?_
            refine wp_zret rfl rfl (by decide) ?_
            show Wp X _ 153 5 [vr 8, vi x2, vi x5, vi 0, vi x3] [vi 0] _ _
            refine wp_ifeqT (tn := 66) rfl rfl (by decide) ?_
            refine wp_vret rfl rfl ?_
            show Wp X _ 3 116 [vr 6, zx1, vi x2, vi x3, vr 83, vi x5] [] _ _
            have g6 := H.1
            replace H := H.2
            refine wp_iincR (L2 := [vr 6, zx1, vi x2, vi x3, vr 83, vi (x5 + 1)]) rfl rfl g6 rfl ?_
            refine wp_goto (tn := 59) rfl rfl ?_
            exact H
          · replace H := H.2 c5
            refine wp_iload rfl rfl ?_
            refine wp_aload rfl rfl ?_
            refine wp_getI (j := 8) rfl (congrArg Prod.fst (kf_8 X.1)) rfl ?_
            refine wp_icge (tn := 16) rfl rfl (fun c7 => ?_) (fun c7 => ?_)
            · replace H := H.1 c7
              refine wp_iconst rfl ?_
              refine wp_zret rfl rfl (by decide) ?_
              show Wp X _ 153 5 [vr 8, vi x2, vi x5, vi 0, vi x3] [vi 0] _ _
              refine wp_ifeqT (tn := 66) rfl rfl (by decide) ?_
              refine wp_vret rfl rfl ?_
              show Wp X _ 3 116 [vr 6, zx1, vi x2, vi x3, vr 83, vi x5] [] _ _
              have g8 := H.1
              replace H := H.2
              refine wp_iincR (L2 := [vr 6, zx1, vi x2, vi x3, vr 83, vi (x5 + 1)]) rfl rfl g8 rfl ?_
              refine wp_goto (tn := 59) rfl rfl ?_
              exact H
            · replace H := H.2 c7
              refine wp_iconst rfl ?_
              refine wp_goto (tn := 17) rfl rfl ?_
              refine wp_zret rfl rfl (by decide) ?_
              show Wp X _ 153 5 [vr 8, vi x2, vi x5, vi 0, vi x3] [vi 1] _ _
              refine wp_ifeqF (tn := 66) rfl rfl (by decide) ?_
              refine wp_aload rfl rfl ?_
              refine wp_call (k := 146) (ρ2 := 0) (L2 := [vr 8]) rfl rfl rfl (Nat.le_of_ble_eq_true rfl) (Nat.le_of_ble_eq_true rfl) (Nat.le_of_ble_eq_true rfl) (rcv_V rfl (congrArg Prod.fst (kf_8 X.1))) rfl ?_
              refine wp_aload rfl rfl ?_
              refine wp_getI (j := 7) rfl (congrArg Prod.fst (kf_8 X.1)) rfl ?_
              refine wp_iconst rfl ?_
              refine wp_icgeF (tn := 13) rfl rfl c3 ?_
              refine wp_iconst rfl ?_
              refine wp_goto (tn := 14) rfl rfl ?_
              refine wp_zret rfl rfl (by decide) ?_
              show Wp X _ 153 12 [vr 8, vi x2, vi x5, vi 0, vi x3] [vi 1] _ _
              refine wp_ifeqF (tn := 66) rfl rfl (by decide) ?_
              refine wp_aload rfl rfl ?_
              refine wp_getR (r := 8) rfl (congrArg Prod.fst (kf_8 X.1)) rfl ?_
              refine wp_aload rfl rfl ?_
              refine wp_getI (j := 7) rfl (congrArg Prod.fst (kf_8 X.1)) rfl ?_
              refine wp_iload rfl rfl ?_
              have g9 := H.1
              replace H := H.2
              refine wp_iastore rfl (kf_9 X.1) g9 ?_
              refine wp_aload rfl rfl ?_
              refine wp_getR (r := 9) rfl (congrArg Prod.fst (kf_8 X.1)) rfl ?_
              refine wp_aload rfl rfl ?_
              refine wp_getI (j := 7) rfl (congrArg Prod.fst (kf_8 X.1)) rfl ?_
              refine Wp.topI (y := (h 8 7)) (congrFun (upd2_ne (by decide)) _) ?_
              refine wp_iload rfl rfl ?_
              refine wp_iastore rfl (kf_10 X.1) ⟨g9.1, g9.2⟩ ?_
              refine wp_aload rfl rfl ?_
              refine wp_getR (r := 10) rfl (congrArg Prod.fst (kf_8 X.1)) rfl ?_
              refine wp_aload rfl rfl ?_
              refine wp_getI (j := 7) rfl (congrArg Prod.fst (kf_8 X.1)) rfl ?_
              refine Wp.topI (y := (h 8 7)) (congrFun ((upd2_ne (by decide)).trans (upd2_ne (by decide))) _) ?_
              refine wp_iload rfl rfl ?_
              refine wp_iastore rfl (kf_11 X.1) ⟨g9.1, g9.2⟩ ?_
              refine wp_aload rfl rfl ?_
              refine wp_getR (r := 11) rfl (congrArg Prod.fst (kf_8 X.1)) rfl ?_
              refine wp_aload rfl rfl ?_
              refine wp_getI (j := 7) rfl (congrArg Prod.fst (kf_8 X.1)) rfl ?_
              refine Wp.topI (y := (h 8 7)) (congrFun ((upd2_ne (by decide)).trans ((upd2_ne (by decide)).trans (upd2_ne (by decide)))) _) ?_
              refine wp_iload rfl rfl ?_
              refine wp_iastore rfl (kf_12 X.1) ⟨g9.1, g9.2⟩ ?_
              refine wp_aload rfl rfl ?_
              refine wp_dupR rfl ?_
              refine wp_getI (j := 7) rfl (congrArg Prod.fst (kf_8 X.1)) rfl ?_
              refine Wp.topI (y := (h 8 7)) (congrFun ((upd2_ne (by decide)).trans ((upd2_ne (by decide)).trans ((upd2_ne (by decide)).trans (upd2_ne (by decide))))) _) ?_
              refine wp_iconst rfl ?_
              refine wp_iadd rfl ?_
              refine Wp.topI (y := ((h 8 7) + 1)) (w32_I (by clear H; unfold R32; omega)) ?_
              refine wp_putI (j := 7) rfl (congrArg Prod.fst (kf_8 X.1)) rfl rfl rfl ?_
              refine wp_vret rfl rfl ?_
              show Wp X _ 3 116 [vr 6, zx1, vi x2, vi x3, vr 83, vi x5] [] _ _
              have g10 := H.1
              replace H := H.2
              refine wp_iincR (L2 := [vr 6, zx1, vi x2, vi x3, vr 83, vi (x5 + 1)]) rfl rfl g10 rfl ?_
              refine wp_goto (tn := 59) rfl rfl ?_
              exact H
        · replace H := H.2 c4
          refine wp_iload rfl rfl ?_
          refine wp_ifltF (tn := 22) rfl rfl (by decide) ?_
          refine wp_iload rfl rfl ?_
          refine wp_aload rfl rfl ?_
          refine wp_getI (j := 2) rfl (congrArg Prod.fst (kf_83 X.1)) rfl ?_
          refine wp_iload rfl rfl ?_
          refine wp_isub rfl ?_
          have g11 := H.1
          replace H := H.2
          refine Wp.topI (y := ((h 83 2) - 1)) (w32_I g11) ?_
          refine wp_icgt (tn := 22) rfl rfl (fun c12 => ?_) (fun c12 => ?_)
          · replace H := H.1 c12
            refine wp_iconst rfl ?_
            refine wp_zret rfl rfl (by decide) ?_
            show Wp X _ 227 6 [vr 83, vi x5] [vi 0] _ _
            refine wp_ifeqT (tn := 18) rfl rfl (by decide) ?_
            refine wp_iconst rfl ?_
            refine wp_iret rfl rfl ?_
            show Wp X _ 3 92 [vr 6, zx1, vi x2, vi x3, vr 83, vi x5] [vi 0] _ _
            refine wp_call (k := 41) (ρ2 := 1) (L2 := [vi 0]) rfl rfl rfl (Nat.le_of_ble_eq_true rfl) (Nat.le_of_ble_eq_true rfl) (Nat.le_of_ble_eq_true rfl) (rcv_S rfl) rfl ?_
            refine wp_iload rfl rfl ?_
            refine wp_iconst rfl ?_
            refine wp_iconst rfl ?_
            refine wp_call (k := 40) (ρ2 := 0) (L2 := [vi 0, vi (-1), vi 999]) rfl rfl rfl (Nat.le_of_ble_eq_true rfl) (Nat.le_of_ble_eq_true rfl) (Nat.le_of_ble_eq_true rfl) (rcv_S rfl) rfl ?_
            refine wp_iload rfl rfl ?_
            refine wp_iload rfl rfl ?_
            refine wp_icltF (tn := 10) rfl rfl (by decide) ?_
            refine wp_iload rfl rfl ?_
            refine wp_iload rfl rfl ?_
            refine wp_icleT (tn := 14) rfl rfl (by decide) ?_
            refine wp_iconst rfl ?_
            refine wp_zret rfl rfl (by decide) ?_
            show Wp X _ 41 8 [vi 0] [vi 0] _ _
            refine wp_ifneF (tn := 15) rfl rfl (by decide) ?_
            refine wp_iconst rfl ?_
            refine wp_goto (tn := 16) rfl rfl ?_
            refine wp_zret rfl rfl (by decide) ?_
            show Wp X _ 3 95 [vr 6, zx1, vi x2, vi x3, vr 83, vi x5] [vi 1] _ _
            refine wp_ifeqF (tn := 122) rfl rfl (by decide) ?_
            refine wp_aload rfl rfl ?_
            refine wp_getR (r := 7) rfl (congrArg Prod.fst (kf_6 X.1)) rfl ?_
            refine wp_iload rfl rfl ?_
            refine wp_iload rfl rfl ?_
            refine wp_aload rfl rfl ?_
            refine wp_iload rfl rfl ?_
            refine wp_call (k := 227) (ρ2 := 1) (L2 := [vr 83, vi x5]) rfl rfl rfl (Nat.le_of_ble_eq_true rfl) (Nat.le_of_ble_eq_true rfl) (Nat.le_of_ble_eq_true rfl) (rcv_V rfl (congrArg Prod.fst (kf_83 X.1))) rfl ?_
            refine wp_aload rfl rfl ?_
            refine wp_iload rfl rfl ?_
            refine wp_iconst rfl ?_
            refine wp_call (k := 226) (ρ2 := 0) (L2 := [vr 83, vi x5, vi 1]) rfl rfl rfl (Nat.le_of_ble_eq_true rfl) (Nat.le_of_ble_eq_true rfl) (Nat.le_of_ble_eq_true rfl) (rcv_V rfl (congrArg Prod.fst (kf_83 X.1))) rfl ?_
            refine wp_iload rfl rfl ?_
            refine wp_ifltF (tn := 22) rfl rfl c4 ?_
            refine wp_iload rfl rfl ?_
            refine wp_ifltF (tn := 22) rfl rfl (by decide) ?_
            refine wp_iload rfl rfl ?_
            refine wp_aload rfl rfl ?_
            refine wp_getI (j := 2) rfl (congrArg Prod.fst (kf_83 X.1)) rfl ?_
            refine wp_iload rfl rfl ?_
            refine wp_isub rfl ?_
            refine Wp.topI (y := ((h 83 2) - 1)) (w32_I g11) ?_
            refine wp_icgtT (tn := 22) rfl rfl c12 ?_
            refine wp_iconst rfl ?_
            refine wp_zret rfl rfl (by decide) ?_
            show Wp X _ 227 6 [vr 83, vi x5] [vi 0] _ _
            refine wp_ifeqT (tn := 18) rfl rfl (by decide) ?_
            refine wp_iconst rfl ?_
            refine wp_iret rfl rfl ?_
            show Wp X _ 3 112 [vr 6, zx1, vi x2, vi x3, vr 83, vi x5] [vi 0, vi x5, vi x2, vr 8] _ _
            refine wp_iload rfl rfl ?_
            refine wp_call (k := 153) (ρ2 := 1) (L2 := [vr 8, vi x2, vi x5, vi 0, vi x3]) rfl rfl rfl (Nat.le_of_ble_eq_true rfl) (Nat.le_of_ble_eq_true rfl) (Nat.le_of_ble_eq_true rfl) (rcv_V rfl (congrArg Prod.fst (kf_8 X.1))) rfl ?_
            refine wp_aload rfl rfl ?_
            refine wp_iload rfl rfl ?_
            refine wp_call (k := 145) (ρ2 := 0) (L2 := [vr 8, vi x2]) rfl rfl rfl (Nat.le_of_ble_eq_true rfl) (Nat.le_of_ble_eq_true rfl) (Nat.le_of_ble_eq_true rfl) (rcv_V rfl (congrArg Prod.fst (kf_8 X.1))) rfl ?_
            refine wp_iload rfl rfl ?_
            refine wp_iflt (tn := 16) rfl rfl (fun c13 => ?_) (fun c13 => ?_)
            · replace H := H.1 c13
              refine wp_iconst rfl ?_
              refine wp_zret rfl rfl (by decide) ?_
              show Wp X _ 153 5 [vr 8, vi x2, vi x5, vi 0, vi x3] [vi 0] _ _
              refine wp_ifeqT (tn := 66) rfl rfl (by decide) ?_
              refine wp_vret rfl rfl ?_
              show Wp X _ 3 116 [vr 6, zx1, vi x2, vi x3, vr 83, vi x5] [] _ _
              refine wp_iincR (L2 := [vr 6, zx1, vi x2, vi x3, vr 83, vi (x5 + 1)]) rfl rfl (by clear H; unfold R32; omega) rfl ?_
              refine wp_goto (tn := 59) rfl rfl ?_
              exact H
            · replace H := H.2 c13
              refine wp_iload rfl rfl ?_
              refine wp_aload rfl rfl ?_
              refine wp_getI (j := 8) rfl (congrArg Prod.fst (kf_8 X.1)) rfl ?_
              refine wp_icge (tn := 16) rfl rfl (fun c14 => ?_) (fun c14 => ?_)
              · replace H := H.1 c14
                refine wp_iconst rfl ?_
                refine wp_zret rfl rfl (by decide) ?_
                show Wp X _ 153 5 [vr 8, vi x2, vi x5, vi 0, vi x3] [vi 0] _ _
                refine wp_ifeqT (tn := 66) rfl rfl (by decide) ?_
                refine wp_vret rfl rfl ?_
                show Wp X _ 3 116 [vr 6, zx1, vi x2, vi x3, vr 83, vi x5] [] _ _
                refine wp_iincR (L2 := [vr 6, zx1, vi x2, vi x3, vr 83, vi (x5 + 1)]) rfl rfl (by clear H; unfold R32; omega) rfl ?_
                refine wp_goto (tn := 59) rfl rfl ?_
                exact H
              · replace H := H.2 c14
                refine wp_iconst rfl ?_
                refine wp_goto (tn := 17) rfl rfl ?_
                refine wp_zret rfl rfl (by decide) ?_
                show Wp X _ 153 5 [vr 8, vi x2, vi x5, vi 0, vi x3] [vi 1] _ _
                refine wp_ifeqF (tn := 66) rfl rfl (by decide) ?_
                refine wp_aload rfl rfl ?_
                refine wp_call (k := 146) (ρ2 := 0) (L2 := [vr 8]) rfl rfl rfl (Nat.le_of_ble_eq_true rfl) (Nat.le_of_ble_eq_true rfl) (Nat.le_of_ble_eq_true rfl) (rcv_V rfl (congrArg Prod.fst (kf_8 X.1))) rfl ?_
                refine wp_aload rfl rfl ?_
                refine wp_getI (j := 7) rfl (congrArg Prod.fst (kf_8 X.1)) rfl ?_
                refine wp_iconst rfl ?_
                refine wp_icgeF (tn := 13) rfl rfl c3 ?_
                refine wp_iconst rfl ?_
                refine wp_goto (tn := 14) rfl rfl ?_
                refine wp_zret rfl rfl (by decide) ?_
                show Wp X _ 153 12 [vr 8, vi x2, vi x5, vi 0, vi x3] [vi 1] _ _
                refine wp_ifeqF (tn := 66) rfl rfl (by decide) ?_
                refine wp_aload rfl rfl ?_
                refine wp_getR (r := 8) rfl (congrArg Prod.fst (kf_8 X.1)) rfl ?_
                refine wp_aload rfl rfl ?_
                refine wp_getI (j := 7) rfl (congrArg Prod.fst (kf_8 X.1)) rfl ?_
                refine wp_iload rfl rfl ?_
                have g15 := H.1
                replace H := H.2
                refine wp_iastore rfl (kf_9 X.1) g15 ?_
                refine wp_aload rfl rfl ?_
                refine wp_getR (r := 9) rfl (congrArg Prod.fst (kf_8 X.1)) rfl ?_
                refine wp_aload rfl rfl ?_
                refine wp_getI (j := 7) rfl (congrArg Prod.fst (kf_8 X.1)) rfl ?_
                refine Wp.topI (y := (h 8 7)) (congrFun (upd2_ne (by decide)) _) ?_
                refine wp_iload rfl rfl ?_
                refine wp_iastore rfl (kf_10 X.1) ⟨g15.1, g15.2⟩ ?_
                refine wp_aload rfl rfl ?_
                refine wp_getR (r := 10) rfl (congrArg Prod.fst (kf_8 X.1)) rfl ?_
                refine wp_aload rfl rfl ?_
                refine wp_getI (j := 7) rfl (congrArg Prod.fst (kf_8 X.1)) rfl ?_
                refine Wp.topI (y := (h 8 7)) (congrFun ((upd2_ne (by decide)).trans (upd2_ne (by decide))) _) ?_
                refine wp_iload rfl rfl ?_
                refine wp_iastore rfl (kf_11 X.1) ⟨g15.1, g15.2⟩ ?_
                refine wp_aload rfl rfl ?_
                refine wp_getR (r := 11) rfl (congrArg Prod.fst (kf_8 X.1)) rfl ?_
                refine wp_aload rfl rfl ?_
                refine wp_getI (j := 7) rfl (congrArg Prod.fst (kf_8 X.1)) rfl ?_
                refine Wp.topI (y := (h 8 7)) (congrFun ((upd2_ne (by decide)).trans ((upd2_ne (by decide)).trans (upd2_ne (by decide)))) _) ?_
                refine wp_iload rfl rfl ?_
                refine wp_iastore rfl (kf_12 X.1) ⟨g15.1, g15.2⟩ ?_
                refine wp_aload rfl rfl ?_
                refine wp_dupR rfl ?_
                refine wp_getI (j := 7) rfl (congrArg Prod.fst (kf_8 X.1)) rfl ?_
                refine Wp.topI (y := (h 8 7)) (congrFun ((upd2_ne (by decide)).trans ((upd2_ne (by decide)).trans ((upd2_ne (by decide)).trans (upd2_ne (by decide))))) _) ?_
                refine wp_iconst rfl ?_
                refine wp_iadd rfl ?_
                refine Wp.topI (y := ((h 8 7) + 1)) (w32_I (by clear H; unfold R32; omega)) ?_
                refine wp_putI (j := 7) rfl (congrArg Prod.fst (kf_8 X.1)) rfl rfl rfl ?_
                refine wp_vret rfl rfl ?_
                show Wp X _ 3 116 [vr 6, zx1, vi x2, vi x3, vr 83, vi x5] [] _ _
                refine wp_iincR (L2 := [vr 6, zx1, vi x2, vi x3, vr 83, vi (x5 + 1)]) rfl rfl (by clear H; unfold R32; omega) rfl ?_
                refine wp_goto (tn := 59) rfl rfl ?_
                exact H
          · replace H := H.2 c12
            refine wp_iconst rfl ?_
            refine wp_goto (tn := 23) rfl rfl ?_
            refine wp_zret rfl rfl (by decide) ?_
            show Wp X _ 227 6 [vr 83, vi x5] [vi 1] _ _
            refine wp_ifeqF (tn := 18) rfl rfl (by decide) ?_
            refine wp_aload rfl rfl ?_
            refine wp_getR (r := 83) rfl (congrArg Prod.fst (kf_83 X.1)) rfl ?_
            refine wp_iload rfl rfl ?_
            refine wp_iaload rfl (kf_84 X.1) ⟨c4, (by clear H; omega)⟩ ?_
            refine wp_goto (tn := 19) rfl rfl ?_
            refine wp_iret rfl rfl ?_
            show Wp X _ 3 92 [vr 6, zx1, vi x2, vi x3, vr 83, vi x5] [vi (h 84 x5)] _ _
            refine wp_call (k := 41) (ρ2 := 1) (L2 := [vi (h 84 x5)]) rfl rfl rfl (Nat.le_of_ble_eq_true rfl) (Nat.le_of_ble_eq_true rfl) (Nat.le_of_ble_eq_true rfl) (rcv_S rfl) rfl ?_
            refine wp_iload rfl rfl ?_
            refine wp_iconst rfl ?_
            refine wp_iconst rfl ?_
            refine wp_call (k := 40) (ρ2 := 0) (L2 := [vi (h 84 x5), vi (-1), vi 999]) rfl rfl rfl (Nat.le_of_ble_eq_true rfl) (Nat.le_of_ble_eq_true rfl) (Nat.le_of_ble_eq_true rfl) (rcv_S rfl) rfl ?_
            refine wp_iload rfl rfl ?_
            refine wp_iload rfl rfl ?_
            refine wp_iclt (tn := 10) rfl rfl (fun c16 => ?_) (fun c16 => ?_)
            · replace H := H.1 c16
              refine wp_iconst rfl ?_
              refine wp_goto (tn := 15) rfl rfl ?_
              refine wp_zret rfl rfl (by decide) ?_
              show Wp X _ 41 8 [vi (h 84 x5)] [vi 1] _ _
              refine wp_ifneT (tn := 15) rfl rfl (by decide) ?_
              refine wp_iconst rfl ?_
              refine wp_zret rfl rfl (by decide) ?_
              show Wp X _ 3 95 [vr 6, zx1, vi x2, vi x3, vr 83, vi x5] [vi 0] _ _
              refine wp_ifeqT (tn := 122) rfl rfl (by decide) ?_
              refine wp_aload rfl rfl ?_
              exact wp_call (k := 32) (ρ2 := 5) (L2 := [vr 6, vu]) rfl rfl rfl (Nat.le_of_ble_eq_true rfl) (Nat.le_of_ble_eq_true rfl) (Nat.le_of_ble_eq_true rfl) (rcv_V rfl (congrArg Prod.fst (kf_6 X.1))) rfl H
            · replace H := H.2 c16
              refine wp_iload rfl rfl ?_
              refine wp_iload rfl rfl ?_
              refine wp_icle (tn := 14) rfl rfl (fun c17 => ?_) (fun c17 => ?_)
              · replace H := H.1 c17
                refine wp_iconst rfl ?_
                refine wp_zret rfl rfl (by decide) ?_
                show Wp X _ 41 8 [vi (h 84 x5)] [vi 0] _ _
                refine wp_ifneF (tn := 15) rfl rfl (by decide) ?_
                refine wp_iconst rfl ?_
                refine wp_goto (tn := 16) rfl rfl ?_
                refine wp_zret rfl rfl (by decide) ?_
                show Wp X _ 3 95 [vr 6, zx1, vi x2, vi x3, vr 83, vi x5] [vi 1] _ _
                refine wp_ifeqF (tn := 122) rfl rfl (by decide) ?_
                refine wp_aload rfl rfl ?_
                refine wp_getR (r := 7) rfl (congrArg Prod.fst (kf_6 X.1)) rfl ?_
                refine wp_iload rfl rfl ?_
                refine wp_iload rfl rfl ?_
                refine wp_aload rfl rfl ?_
                refine wp_iload rfl rfl ?_
                refine wp_call (k := 227) (ρ2 := 1) (L2 := [vr 83, vi x5]) rfl rfl rfl (Nat.le_of_ble_eq_true rfl) (Nat.le_of_ble_eq_true rfl) (Nat.le_of_ble_eq_true rfl) (rcv_V rfl (congrArg Prod.fst (kf_83 X.1))) rfl ?_
                refine wp_aload rfl rfl ?_
                refine wp_iload rfl rfl ?_
                refine wp_iconst rfl ?_
                refine wp_call (k := 226) (ρ2 := 0) (L2 := [vr 83, vi x5, vi 1]) rfl rfl rfl (Nat.le_of_ble_eq_true rfl) (Nat.le_of_ble_eq_true rfl) (Nat.le_of_ble_eq_true rfl) (rcv_V rfl (congrArg Prod.fst (kf_83 X.1))) rfl ?_
                refine wp_iload rfl rfl ?_
                refine wp_ifltF (tn := 22) rfl rfl c4 ?_
                refine wp_iload rfl rfl ?_
                refine wp_ifltF (tn := 22) rfl rfl (by decide) ?_
                refine wp_iload rfl rfl ?_
                refine wp_aload rfl rfl ?_
                refine wp_getI (j := 2) rfl (congrArg Prod.fst (kf_83 X.1)) rfl ?_
                refine wp_iload rfl rfl ?_
                refine wp_isub rfl ?_
                refine Wp.topI (y := ((h 83 2) - 1)) (w32_I g11) ?_
                refine wp_icgtF (tn := 22) rfl rfl c12 ?_
                refine wp_iconst rfl ?_
                refine wp_goto (tn := 23) rfl rfl ?_
                refine wp_zret rfl rfl (by decide) ?_
                show Wp X _ 227 6 [vr 83, vi x5] [vi 1] _ _
                refine wp_ifeqF (tn := 18) rfl rfl (by decide) ?_
                refine wp_aload rfl rfl ?_
                refine wp_getR (r := 83) rfl (congrArg Prod.fst (kf_83 X.1)) rfl ?_
                refine wp_iload rfl rfl ?_
                refine wp_iaload rfl (kf_84 X.1) ⟨c4, (by clear H; omega)⟩ ?_
                refine wp_goto (tn := 19) rfl rfl ?_
                refine wp_iret rfl rfl ?_
                show Wp X _ 3 112 [vr 6, zx1, vi x2, vi x3, vr 83, vi x5] [vi (h 84 x5), vi x5, vi x2, vr 8] _ _
                refine wp_iload rfl rfl ?_
                refine wp_call (k := 153) (ρ2 := 1) (L2 := [vr 8, vi x2, vi x5, vi (h 84 x5), vi x3]) rfl rfl rfl (Nat.le_of_ble_eq_true rfl) (Nat.le_of_ble_eq_true rfl) (Nat.le_of_ble_eq_true rfl) (rcv_V rfl (congrArg Prod.fst (kf_8 X.1))) rfl ?_
                refine wp_aload rfl rfl ?_
                refine wp_iload rfl rfl ?_
                refine wp_call (k := 145) (ρ2 := 0) (L2 := [vr 8, vi x2]) rfl rfl rfl (Nat.le_of_ble_eq_true rfl) (Nat.le_of_ble_eq_true rfl) (Nat.le_of_ble_eq_true rfl) (rcv_V rfl (congrArg Prod.fst (kf_8 X.1))) rfl ?_
                refine wp_iload rfl rfl ?_
                refine wp_iflt (tn := 16) rfl rfl (fun c18 => ?_) (fun c18 => ?_)
                · replace H := H.1 c18
                  refine wp_iconst rfl ?_
                  refine wp_zret rfl rfl (by decide) ?_
                  show Wp X _ 153 5 [vr 8, vi x2, vi x5, vi (h 84 x5), vi x3] [vi 0] _ _
                  refine wp_ifeqT (tn := 66) rfl rfl (by decide) ?_
                  refine wp_vret rfl rfl ?_
                  show Wp X _ 3 116 [vr 6, zx1, vi x2, vi x3, vr 83, vi x5] [] _ _
                  refine wp_iincR (L2 := [vr 6, zx1, vi x2, vi x3, vr 83, vi (x5 + 1)]) rfl rfl (by clear H; unfold R32; omega) rfl ?_
                  refine wp_goto (tn := 59) rfl rfl ?_
                  exact H
                · replace H := H.2 c18
                  refine wp_iload rfl rfl ?_
                  refine wp_aload rfl rfl ?_
                  refine wp_getI (j := 8) rfl (congrArg Prod.fst (kf_8 X.1)) rfl ?_
                  refine wp_icge (tn := 16) rfl rfl (fun c19 => ?_) (fun c19 => ?_)
                  · replace H := H.1 c19
                    refine wp_iconst rfl ?_
                    refine wp_zret rfl rfl (by decide) ?_
                    show Wp X _ 153 5 [vr 8, vi x2, vi x5, vi (h 84 x5), vi x3] [vi 0] _ _
                    refine wp_ifeqT (tn := 66) rfl rfl (by decide) ?_
                    refine wp_vret rfl rfl ?_
                    show Wp X _ 3 116 [vr 6, zx1, vi x2, vi x3, vr 83, vi x5] [] _ _
                    refine wp_iincR (L2 := [vr 6, zx1, vi x2, vi x3, vr 83, vi (x5 + 1)]) rfl rfl (by clear H; unfold R32; omega) rfl ?_
                    refine wp_goto (tn := 59) rfl rfl ?_
                    exact H
                  · replace H := H.2 c19
                    refine wp_iconst rfl ?_
                    refine wp_goto (tn := 17) rfl rfl ?_
                    refine wp_zret rfl rfl (by decide) ?_
                    show Wp X _ 153 5 [vr 8, vi x2, vi x5, vi (h 84 x5), vi x3] [vi 1] _ _
                    refine wp_ifeqF (tn := 66) rfl rfl (by decide) ?_
                    refine wp_aload rfl rfl ?_
                    refine wp_call (k := 146) (ρ2 := 0) (L2 := [vr 8]) rfl rfl rfl (Nat.le_of_ble_eq_true rfl) (Nat.le_of_ble_eq_true rfl) (Nat.le_of_ble_eq_true rfl) (rcv_V rfl (congrArg Prod.fst (kf_8 X.1))) rfl ?_
                    refine wp_aload rfl rfl ?_
                    refine wp_getI (j := 7) rfl (congrArg Prod.fst (kf_8 X.1)) rfl ?_
                    refine wp_iconst rfl ?_
                    refine wp_icgeF (tn := 13) rfl rfl c3 ?_
                    refine wp_iconst rfl ?_
                    refine wp_goto (tn := 14) rfl rfl ?_
                    refine wp_zret rfl rfl (by decide) ?_
                    show Wp X _ 153 12 [vr 8, vi x2, vi x5, vi (h 84 x5), vi x3] [vi 1] _ _
                    refine wp_ifeqF (tn := 66) rfl rfl (by decide) ?_
                    refine wp_aload rfl rfl ?_
                    refine wp_getR (r := 8) rfl (congrArg Prod.fst (kf_8 X.1)) rfl ?_
                    refine wp_aload rfl rfl ?_
                    refine wp_getI (j := 7) rfl (congrArg Prod.fst (kf_8 X.1)) rfl ?_
                    refine wp_iload rfl rfl ?_
                    have g20 := H.1
                    replace H := H.2
                    refine wp_iastore rfl (kf_9 X.1) g20 ?_
                    refine wp_aload rfl rfl ?_
                    refine wp_getR (r := 9) rfl (congrArg Prod.fst (kf_8 X.1)) rfl ?_
                    refine wp_aload rfl rfl ?_
                    refine wp_getI (j := 7) rfl (congrArg Prod.fst (kf_8 X.1)) rfl ?_
                    refine Wp.topI (y := (h 8 7)) (congrFun (upd2_ne (by decide)) _) ?_
                    refine wp_iload rfl rfl ?_
                    refine wp_iastore rfl (kf_10 X.1) ⟨g20.1, g20.2⟩ ?_
                    refine wp_aload rfl rfl ?_
                    refine wp_getR (r := 10) rfl (congrArg Prod.fst (kf_8 X.1)) rfl ?_
                    refine wp_aload rfl rfl ?_
                    refine wp_getI (j := 7) rfl (congrArg Prod.fst (kf_8 X.1)) rfl ?_
                    refine Wp.topI (y := (h 8 7)) (congrFun ((upd2_ne (by decide)).trans (upd2_ne (by decide))) _) ?_
                    refine wp_iload rfl rfl ?_
                    refine wp_iastore rfl (kf_11 X.1) ⟨g20.1, g20.2⟩ ?_
                    refine wp_aload rfl rfl ?_
                    refine wp_getR (r := 11) rfl (congrArg Prod.fst (kf_8 X.1)) rfl ?_
                    refine wp_aload rfl rfl ?_
                    refine wp_getI (j := 7) rfl (congrArg Prod.fst (kf_8 X.1)) rfl ?_
                    refine Wp.topI (y := (h 8 7)) (congrFun ((upd2_ne (by decide)).trans ((upd2_ne (by decide)).trans (upd2_ne (by decide)))) _) ?_
                    refine wp_iload rfl rfl ?_
                    refine wp_iastore rfl (kf_12 X.1) ⟨g20.1, g20.2⟩ ?_
                    refine wp_aload rfl rfl ?_
                    refine wp_dupR rfl ?_
                    refine wp_getI (j := 7) rfl (congrArg Prod.fst (kf_8 X.1)) rfl ?_
                    refine Wp.topI (y := (h 8 7)) (congrFun ((upd2_ne (by decide)).trans ((upd2_ne (by decide)).trans ((upd2_ne (by decide)).trans (upd2_ne (by decide))))) _) ?_
                    refine wp_iconst rfl ?_
                    refine wp_iadd rfl ?_
                    refine Wp.topI (y := ((h 8 7) + 1)) (w32_I (by clear H; unfold R32; omega)) ?_
                    refine wp_putI (j := 7) rfl (congrArg Prod.fst (kf_8 X.1)) rfl rfl rfl ?_
                    refine wp_vret rfl rfl ?_
                    show Wp X _ 3 116 [vr 6, zx1, vi x2, vi x3, vr 83, vi x5] [] _ _
                    refine wp_iincR (L2 := [vr 6, zx1, vi x2, vi x3, vr 83, vi (x5 + 1)]) rfl rfl (by clear H; unfold R32; omega) rfl ?_
                    refine wp_goto (tn := 59) rfl rfl ?_
                    exact H
              · replace H := H.2 c17
                refine wp_iconst rfl ?_
                refine wp_goto (tn := 15) rfl rfl ?_
                refine wp_zret rfl rfl (by decide) ?_
                show Wp X _ 41 8 [vi (h 84 x5)] [vi 1] _ _
                refine wp_ifneT (tn := 15) rfl rfl (by decide) ?_
                refine wp_iconst rfl ?_
                refine wp_zret rfl rfl (by decide) ?_
                show Wp X _ 3 95 [vr 6, zx1, vi x2, vi x3, vr 83, vi x5] [vi 0] _ _
                refine wp_ifeqT (tn := 122) rfl rfl (by decide) ?_
                refine wp_aload rfl rfl ?_
                exact wp_call (k := 32) (ρ2 := 5) (L2 := [vr 6, vu]) rfl rfl rfl (Nat.le_of_ble_eq_true rfl) (Nat.le_of_ble_eq_true rfl) (Nat.le_of_ble_eq_true rfl) (rcv_V rfl (congrArg Prod.fst (kf_6 X.1))) rfl H
/-- WarnLines.read(III)I, from 59 -/
theorem S3_6_59c {X : Nat × (Int → Int)} {h : HP} {Q : bQ} (zx1 : aV) (x2 : Int) (x3 : Int) (x5 : Int) (H : ((5 ≤ x5 → Wp X 5 32 0 [vr 6, vu] [] h (fun v h' => Wp X 6 3 126 [vr 6, zx1, vi x2, vi x3, vr 85, vi x5] (psh v []) h' Q)) ∧ (x5 < 5 → (((h 85 2) ≤ x5 → Wp X 5 32 0 [vr 6, vu] [] h (fun v h' => Wp X 6 3 126 [vr 6, zx1, vi x2, vi x3, vr 85, vi x5] (psh v []) h' Q)) ∧ (x5 < (h 85 2) → ((100 ≤ (h 8 7) → Wp X 5 32 0 [vr 6, vu] [] h (fun v h' => Wp X 6 3 126 [vr 6, zx1, vi x2, vi x3, vr 85, vi x5] (psh v []) h' Q)) ∧ ((h 8 7) < 100 → ((x5 < 0 → ((x2 < 0 → ((R32 (x5 + 1)) ∧ Wp X 6 3 59 [vr 6, zx1, vi x2, vi x3, vr 85, vi (x5 + 1)] [] h Q)) ∧ (0 ≤ x2 → (((h 8 8) ≤ x2 → ((R32 (x5 + 1)) ∧ Wp X 6 3 59 [vr 6, zx1, vi x2, vi x3, vr 85, vi (x5 + 1)] [] h Q)) ∧ (x2 < (h 8 8) → ((0 ≤ (h 8 7) ∧ (h 8 7) < 100) ∧ ((R32 (x5 + 1)) ∧ Wp X 6 3 59 [vr 6, zx1, vi x2, vi x3, vr 85, vi (x5 + 1)] [] (upd2 (upd2 (upd2 (upd2 (upd2 h 9 (h 8 7) x2) 10 (h 8 7) x5) 11 (h 8 7) 0) 12 (h 8 7) x3) 8 7 ((h 8 7) + 1)) Q))))))) ∧ (0 ≤ x5 → ((R32 ((h 85 2) - 1)) ∧ ((((h 85 2) - 1) < x5 → ((x2 < 0 → Wp X 6 3 59 [vr 6, zx1, vi x2, vi x3, vr 85, vi (x5 + 1)] [] h Q) ∧ (0 ≤ x2 → (((h 8 8) ≤ x2 → Wp X 6 3 59 [vr 6, zx1, vi x2, vi x3, vr 85, vi (x5 + 1)] [] h Q) ∧ (x2 < (h 8 8) → ((0 ≤ (h 8 7) ∧ (h 8 7) < 100) ∧ Wp X 6 3 59 [vr 6, zx1, vi x2, vi x3, vr 85, vi (x5 + 1)] [] (upd2 (upd2 (upd2 (upd2 (upd2 h 9 (h 8 7) x2) 10 (h 8 7) x5) 11 (h 8 7) 0) 12 (h 8 7) x3) 8 7 ((h 8 7) + 1)) Q)))))) ∧ (x5 ≤ ((h 85 2) - 1) → (((h 86 x5) < (-1) → Wp X 5 32 0 [vr 6, vu] [] h (fun v h' => Wp X 6 3 126 [vr 6, zx1, vi x2, vi x3, vr 85, vi x5] (psh v []) h' Q)) ∧ ((-1) ≤ (h 86 x5) → (((h 86 x5) ≤ 999 → ((x2 < 0 → Wp X 6 3 59 [vr 6, zx1, vi x2, vi x3, vr 85, vi (x5 + 1)] [] h Q) ∧ (0 ≤ x2 → (((h 8 8) ≤ x2 → Wp X 6 3 59 [vr 6, zx1, vi x2, vi x3, vr 85, vi (x5 + 1)] [] h Q) ∧ (x2 < (h 8 8) → ((0 ≤ (h 8 7) ∧ (h 8 7) < 100) ∧ Wp X 6 3 59 [vr 6, zx1, vi x2, vi x3, vr 85, vi (x5 + 1)] [] (upd2 (upd2 (upd2 (upd2 (upd2 h 9 (h 8 7) x2) 10 (h 8 7) x5) 11 (h 8 7) (h 86 x5)) 12 (h 8 7) x3) 8 7 ((h 8 7) + 1)) Q)))))) ∧ (999 < (h 86 x5) → Wp X 5 32 0 [vr 6, vu] [] h (fun v h' => Wp X 6 3 126 [vr 6, zx1, vi x2, vi x3, vr 85, vi x5] (psh v []) h' Q))))))))))))))))) : Wp X 6 3 59 [vr 6, zx1, vi x2, vi x3, vr 85, vi x5] [] h Q := by
  refine wp_iload rfl rfl ?_
  refine wp_iconst rfl ?_
  refine wp_icge (tn := 122) rfl rfl (fun c1 => ?_) (fun c1 => ?_)
  · replace H := H.1 c1
    refine wp_aload rfl rfl ?_
    exact wp_call (k := 32) (ρ2 := 5) (L2 := [vr 6, vu]) rfl rfl rfl (Nat.le_of_ble_eq_true rfl) (Nat.le_of_ble_eq_true rfl) (Nat.le_of_ble_eq_true rfl) (rcv_V rfl (congrArg Prod.fst (kf_6 X.1))) rfl H
  · replace H := H.2 c1
    refine wp_iload rfl rfl ?_
    refine wp_aload rfl rfl ?_
    refine wp_call (k := 222) (ρ2 := 0) (L2 := [vr 85]) rfl rfl rfl (Nat.le_of_ble_eq_true rfl) (Nat.le_of_ble_eq_true rfl) (Nat.le_of_ble_eq_true rfl) (rcv_V rfl (congrArg Prod.fst (kf_85 X.1))) rfl ?_
    refine wp_aload rfl rfl ?_
    refine wp_getI (j := 2) rfl (congrArg Prod.fst (kf_85 X.1)) rfl ?_
    refine wp_iret rfl rfl ?_
    show Wp X _ 3 72 [vr 6, zx1, vi x2, vi x3, vr 85, vi x5] [vi (h 85 2), vi x5] _ _
    refine wp_icge (tn := 122) rfl rfl (fun c2 => ?_) (fun c2 => ?_)
    · replace H := H.1 c2
      refine wp_aload rfl rfl ?_
      exact wp_call (k := 32) (ρ2 := 5) (L2 := [vr 6, vu]) rfl rfl rfl (Nat.le_of_ble_eq_true rfl) (Nat.le_of_ble_eq_true rfl) (Nat.le_of_ble_eq_true rfl) (rcv_V rfl (congrArg Prod.fst (kf_6 X.1))) rfl H
    · replace H := H.2 c2
      refine wp_aload rfl rfl ?_
      refine wp_getR (r := 7) rfl (congrArg Prod.fst (kf_6 X.1)) rfl ?_
      refine wp_call (k := 146) (ρ2 := 0) (L2 := [vr 8]) rfl rfl rfl (Nat.le_of_ble_eq_true rfl) (Nat.le_of_ble_eq_true rfl) (Nat.le_of_ble_eq_true rfl) (rcv_V rfl (congrArg Prod.fst (kf_8 X.1))) rfl ?_
      refine wp_aload rfl rfl ?_
      refine wp_getI (j := 7) rfl (congrArg Prod.fst (kf_8 X.1)) rfl ?_
      refine wp_iconst rfl ?_
      refine wp_icge (tn := 13) rfl rfl (fun c3 => ?_) (fun c3 => ?_)
      · replace H := H.1 c3
        refine wp_iconst rfl ?_
        refine wp_zret rfl rfl (by decide) ?_
        show Wp X _ 3 82 [vr 6, zx1, vi x2, vi x3, vr 85, vi x5] [vi 0] _ _
        refine wp_ifeqT (tn := 122) rfl rfl (by decide) ?_
        refine wp_aload rfl rfl ?_
        exact wp_call (k := 32) (ρ2 := 5) (L2 := [vr 6, vu]) rfl rfl rfl (Nat.le_of_ble_eq_true rfl) (Nat.le_of_ble_eq_true rfl) (Nat.le_of_ble_eq_true rfl) (rcv_V rfl (congrArg Prod.fst (kf_6 X.1))) rfl H
      · replace H := H.2 c3
        refine wp_iconst rfl ?_
        refine wp_goto (tn := 14) rfl rfl ?_
        refine wp_zret rfl rfl (by decide) ?_
        show Wp X _ 3 82 [vr 6, zx1, vi x2, vi x3, vr 85, vi x5] [vi 1] _ _
        refine wp_ifeqF (tn := 122) rfl rfl (by decide) ?_
        refine wp_aload rfl rfl ?_
        refine wp_iload rfl rfl ?_
        refine wp_call (k := 227) (ρ2 := 1) (L2 := [vr 85, vi x5]) rfl rfl rfl (Nat.le_of_ble_eq_true rfl) (Nat.le_of_ble_eq_true rfl) (Nat.le_of_ble_eq_true rfl) (rcv_V rfl (congrArg Prod.fst (kf_85 X.1))) rfl ?_
        refine wp_aload rfl rfl ?_
        refine wp_iload rfl rfl ?_
        refine wp_iconst rfl ?_
        refine wp_call (k := 226) (ρ2 := 0) (L2 := [vr 85, vi x5, vi 1]) rfl rfl rfl (Nat.le_of_ble_eq_true rfl) (Nat.le_of_ble_eq_true rfl) (Nat.le_of_ble_eq_true rfl) (rcv_V rfl (congrArg Prod.fst (kf_85 X.1))) rfl ?_
        refine wp_iload rfl rfl ?_
        refine wp_iflt (tn := 22) rfl rfl (fun c4 => ?_) (fun c4 => ?_)
        · replace H := H.1 c4
          refine wp_iconst rfl ?_
          refine wp_zret rfl rfl (by decide) ?_
          show Wp X _ 227 6 [vr 85, vi x5] [vi 0] _ _
          refine wp_ifeqT (tn := 18) rfl rfl (by decide) ?_
          refine wp_iconst rfl ?_
          refine wp_iret rfl rfl ?_
          show Wp X _ 3 92 [vr 6, zx1, vi x2, vi x3, vr 85, vi x5] [vi 0] _ _
          refine wp_call (k := 41) (ρ2 := 1) (L2 := [vi 0]) rfl rfl rfl (Nat.le_of_ble_eq_true rfl) (Nat.le_of_ble_eq_true rfl) (Nat.le_of_ble_eq_true rfl) (rcv_S rfl) rfl ?_
          refine wp_iload rfl rfl ?_
          refine wp_iconst rfl ?_
          refine wp_iconst rfl ?_
          refine wp_call (k := 40) (ρ2 := 0) (L2 := [vi 0, vi (-1), vi 999]) rfl rfl rfl (Nat.le_of_ble_eq_true rfl) (Nat.le_of_ble_eq_true rfl) (Nat.le_of_ble_eq_true rfl) (rcv_S rfl) rfl ?_
          refine wp_iload rfl rfl ?_
          refine wp_iload rfl rfl ?_
          refine wp_icltF (tn := 10) rfl rfl (by decide) ?_
          refine wp_iload rfl rfl ?_
          refine wp_iload rfl rfl ?_
          refine wp_icleT (tn := 14) rfl rfl (by decide) ?_
          refine wp_iconst rfl ?_
          refine wp_zret rfl rfl (by decide) ?_
          show Wp X _ 41 8 [vi 0] [vi 0] _ _
          refine wp_ifneF (tn := 15) rfl rfl (by decide) ?_
          refine wp_iconst rfl ?_
          refine wp_goto (tn := 16) rfl rfl ?_
          refine wp_zret rfl rfl (by decide) ?_
          show Wp X _ 3 95 [vr 6, zx1, vi x2, vi x3, vr 85, vi x5] [vi 1] _ _
          refine wp_ifeqF (tn := 122) rfl rfl (by decide) ?_
          refine wp_aload rfl rfl ?_
          refine wp_getR (r := 7) rfl (congrArg Prod.fst (kf_6 X.1)) rfl ?_
          refine wp_iload rfl rfl ?_
          refine wp_iload rfl rfl ?_
          refine wp_aload rfl rfl ?_
          refine wp_iload rfl rfl ?_
          refine wp_call (k := 227) (ρ2 := 1) (L2 := [vr 85, vi x5]) rfl rfl rfl (Nat.le_of_ble_eq_true rfl) (Nat.le_of_ble_eq_true rfl) (Nat.le_of_ble_eq_true rfl) (rcv_V rfl (congrArg Prod.fst (kf_85 X.1))) rfl ?_
          refine wp_aload rfl rfl ?_
          refine wp_iload rfl rfl ?_
          refine wp_iconst rfl ?_
          refine wp_call (k := 226) (ρ2 := 0) (L2 := [vr 85, vi x5, vi 1]) rfl rfl rfl (Nat.le_of_ble_eq_true rfl) (Nat.le_of_ble_eq_true rfl) (Nat.le_of_ble_eq_true rfl) (rcv_V rfl (congrArg Prod.fst (kf_85 X.1))) rfl ?_
          refine wp_iload rfl rfl ?_
          refine wp_ifltT (tn := 22) rfl rfl c4 ?_
          refine wp_iconst rfl ?_
          refine wp_zret rfl rfl (by decide) ?_
          show Wp X _ 227 6 [vr 85, vi x5] [vi 0] _ _
          refine wp_ifeqT (tn := 18) rfl rfl (by decide) ?_
          refine wp_iconst rfl ?_
          refine wp_iret rfl rfl ?_
          show Wp X _ 3 112 [vr 6, zx1, vi x2, vi x3, vr 85, vi x5] [vi 0, vi x5, vi x2, vr 8] _ _
          refine wp_iload rfl rfl ?_
          refine wp_call (k := 153) (ρ2 := 1) (L2 := [vr 8, vi x2, vi x5, vi 0, vi x3]) rfl rfl rfl (Nat.le_of_ble_eq_true rfl) (Nat.le_of_ble_eq_true rfl) (Nat.le_of_ble_eq_true rfl) (rcv_V rfl (congrArg Prod.fst (kf_8 X.1))) rfl ?_
          refine wp_aload rfl rfl ?_
          refine wp_iload rfl rfl ?_
          refine wp_call (k := 145) (ρ2 := 0) (L2 := [vr 8, vi x2]) rfl rfl rfl (Nat.le_of_ble_eq_true rfl) (Nat.le_of_ble_eq_true rfl) (Nat.le_of_ble_eq_true rfl) (rcv_V rfl (congrArg Prod.fst (kf_8 X.1))) rfl ?_
          refine wp_iload rfl rfl ?_
          refine wp_iflt (tn := 16) rfl rfl (fun c5 => ?_) (fun c5 => ?_)
          · replace H := H.1 c5
            refine wp_iconst rfl ?_
            refine wp_zret rfl rfl (by decide) ?_
            show Wp X _ 153 5 [vr 8, vi x2, vi x5, vi 0, vi x3] [vi 0] _ _
            refine wp_ifeqT (tn := 66) rfl rfl (by decide) ?_
            refine wp_vret rfl rfl ?_
            show Wp X _ 3 116 [vr 6, zx1, vi x2, vi x3, vr 85, vi x5] [] _ _
            have g6 := H.1
            replace H := H.2
            refine wp_iincR (L2 := [vr 6, zx1, vi x2, vi x3, vr 85, vi (x5 + 1)]) rfl rfl g6 rfl ?_
            refine wp_goto (tn := 59) rfl rfl ?_
            exact H
          · replace H := H.2 c5
            refine wp_iload rfl rfl ?_
            refine wp_aload rfl rfl ?_
            refine wp_getI (j := 8) rfl (congrArg Prod.fst (kf_8 X.1)) rfl ?_
            refine wp_icge (tn := 16) rfl rfl (fun c7 => ?_) (fun c7 => ?_)
            · replace H := H.1 c7
              refine wp_iconst rfl ?_
              refine wp_zret rfl rfl (by decide) ?_
              show Wp X _ 153 5 [vr 8, vi x2, vi x5, vi 0, vi x3] [vi 0] _ _
              refine wp_ifeqT (tn := 66) rfl rfl (by decide) ?_
              refine wp_vret rfl rfl ?_
              show Wp X _ 3 116 [vr 6, zx1, vi x2, vi x3, vr 85, vi x5] [] _ _
              have g8 := H.1
              replace H := H.2
              refine wp_iincR (L2 := [vr 6, zx1, vi x2, vi x3, vr 85, vi (x5 + 1)]) rfl rfl g8 rfl ?_
              refine wp_goto (tn := 59) rfl rfl ?_
              exact H
            · replace H := H.2 c7
              refine wp_iconst rfl ?_
              refine wp_goto (tn := 17) rfl rfl ?_
              refine wp_zret rfl rfl (by decide) ?_
              show Wp X _ 153 5 [vr 8, vi x2, vi x5, vi 0, vi x3] [vi 1] _ _
              refine wp_ifeqF (tn := 66) rfl rfl (by decide) ?_
              refine wp_aload rfl rfl ?_
              refine wp_call (k := 146) (ρ2 := 0) (L2 := [vr 8]) rfl rfl rfl (Nat.le_of_ble_eq_true rfl) (Nat.le_of_ble_eq_true rfl) (Nat.le_of_ble_eq_true rfl) (rcv_V rfl (congrArg Prod.fst (kf_8 X.1))) rfl ?_
              refine wp_aload rfl rfl ?_
              refine wp_getI (j := 7) rfl (congrArg Prod.fst (kf_8 X.1)) rfl ?_
              refine wp_iconst rfl ?_
              refine wp_icgeF (tn := 13) rfl rfl c3 ?_
              refine wp_iconst rfl ?_
              refine wp_goto (tn := 14) rfl rfl ?_
              refine wp_zret rfl rfl (by decide) ?_
              show Wp X _ 153 12 [vr 8, vi x2, vi x5, vi 0, vi x3] [vi 1] _ _
              refine wp_ifeqF (tn := 66) rfl rfl (by decide) ?_
              refine wp_aload rfl rfl ?_
              refine wp_getR (r := 8) rfl (congrArg Prod.fst (kf_8 X.1)) rfl ?_
              refine wp_aload rfl rfl ?_
              refine wp_getI (j := 7) rfl (congrArg Prod.fst (kf_8 X.1)) rfl ?_
              refine wp_iload rfl rfl ?_
              have g9 := H.1
              replace H := H.2
              refine wp_iastore rfl (kf_9 X.1) g9 ?_
              refine wp_aload rfl rfl ?_
              refine wp_getR (r := 9) rfl (congrArg Prod.fst (kf_8 X.1)) rfl ?_
              refine wp_aload rfl rfl ?_
              refine wp_getI (j := 7) rfl (congrArg Prod.fst (kf_8 X.1)) rfl ?_
              refine Wp.topI (y := (h 8 7)) (congrFun (upd2_ne (by decide)) _) ?_
              refine wp_iload rfl rfl ?_
              refine wp_iastore rfl (kf_10 X.1) ⟨g9.1, g9.2⟩ ?_
              refine wp_aload rfl rfl ?_
              refine wp_getR (r := 10) rfl (congrArg Prod.fst (kf_8 X.1)) rfl ?_
              refine wp_aload rfl rfl ?_
              refine wp_getI (j := 7) rfl (congrArg Prod.fst (kf_8 X.1)) rfl ?_
              refine Wp.topI (y := (h 8 7)) (congrFun ((upd2_ne (by decide)).trans (upd2_ne (by decide))) _) ?_
              refine wp_iload rfl rfl ?_
              refine wp_iastore rfl (kf_11 X.1) ⟨g9.1, g9.2⟩ ?_
              refine wp_aload rfl rfl ?_
              refine wp_getR (r := 11) rfl (congrArg Prod.fst (kf_8 X.1)) rfl ?_
              refine wp_aload rfl rfl ?_
              refine wp_getI (j := 7) rfl (congrArg Prod.fst (kf_8 X.1)) rfl ?_
              refine Wp.topI (y := (h 8 7)) (congrFun ((upd2_ne (by decide)).trans ((upd2_ne (by decide)).trans (upd2_ne (by decide)))) _) ?_
              refine wp_iload rfl rfl ?_
              refine wp_iastore rfl (kf_12 X.1) ⟨g9.1, g9.2⟩ ?_
              refine wp_aload rfl rfl ?_
              refine wp_dupR rfl ?_
              refine wp_getI (j := 7) rfl (congrArg Prod.fst (kf_8 X.1)) rfl ?_
              refine Wp.topI (y := (h 8 7)) (congrFun ((upd2_ne (by decide)).trans ((upd2_ne (by decide)).trans ((upd2_ne (by decide)).trans (upd2_ne (by decide))))) _) ?_
              refine wp_iconst rfl ?_
              refine wp_iadd rfl ?_
              refine Wp.topI (y := ((h 8 7) + 1)) (w32_I (by clear H; unfold R32; omega)) ?_
              refine wp_putI (j := 7) rfl (congrArg Prod.fst (kf_8 X.1)) rfl rfl rfl ?_
              refine wp_vret rfl rfl ?_
              show Wp X _ 3 116 [vr 6, zx1, vi x2, vi x3, vr 85, vi x5] [] _ _
              have g10 := H.1
              replace H := H.2
              refine wp_iincR (L2 := [vr 6, zx1, vi x2, vi x3, vr 85, vi (x5 + 1)]) rfl rfl g10 rfl ?_
              refine wp_goto (tn := 59) rfl rfl ?_
              exact H
        · replace H := H.2 c4
          refine wp_iload rfl rfl ?_
          refine wp_ifltF (tn := 22) rfl rfl (by decide) ?_
          refine wp_iload rfl rfl ?_
          refine wp_aload rfl rfl ?_
          refine wp_getI (j := 2) rfl (congrArg Prod.fst (kf_85 X.1)) rfl ?_
          refine wp_iload rfl rfl ?_
          refine wp_isub rfl ?_
          have g11 := H.1
          replace H := H.2
          refine Wp.topI (y := ((h 85 2) - 1)) (w32_I g11) ?_
          refine wp_icgt (tn := 22) rfl rfl (fun c12 => ?_) (fun c12 => ?_)
          · replace H := H.1 c12
            refine wp_iconst rfl ?_
            refine wp_zret rfl rfl (by decide) ?_
            show Wp X _ 227 6 [vr 85, vi x5] [vi 0] _ _
            refine wp_ifeqT (tn := 18) rfl rfl (by decide) ?_
            refine wp_iconst rfl ?_
            refine wp_iret rfl rfl ?_
            show Wp X _ 3 92 [vr 6, zx1, vi x2, vi x3, vr 85, vi x5] [vi 0] _ _
            refine wp_call (k := 41) (ρ2 := 1) (L2 := [vi 0]) rfl rfl rfl (Nat.le_of_ble_eq_true rfl) (Nat.le_of_ble_eq_true rfl) (Nat.le_of_ble_eq_true rfl) (rcv_S rfl) rfl ?_
            refine wp_iload rfl rfl ?_
            refine wp_iconst rfl ?_
            refine wp_iconst rfl ?_
            refine wp_call (k := 40) (ρ2 := 0) (L2 := [vi 0, vi (-1), vi 999]) rfl rfl rfl (Nat.le_of_ble_eq_true rfl) (Nat.le_of_ble_eq_true rfl) (Nat.le_of_ble_eq_true rfl) (rcv_S rfl) rfl ?_
            refine wp_iload rfl rfl ?_
            refine wp_iload rfl rfl ?_
            refine wp_icltF (tn := 10) rfl rfl (by decide) ?_
            refine wp_iload rfl rfl ?_
            refine wp_iload rfl rfl ?_
            refine wp_icleT (tn := 14) rfl rfl (by decide) ?_
            refine wp_iconst rfl ?_
            refine wp_zret rfl rfl (by decide) ?_
            show Wp X _ 41 8 [vi 0] [vi 0] _ _
            refine wp_ifneF (tn := 15) rfl rfl (by decide) ?_
            refine wp_iconst rfl ?_
            refine wp_goto (tn := 16) rfl rfl ?_
            refine wp_zret rfl rfl (by decide) ?_
            show Wp X _ 3 95 [vr 6, zx1, vi x2, vi x3, vr 85, vi x5] [vi 1] _ _
            refine wp_ifeqF (tn := 122) rfl rfl (by decide) ?_
            refine wp_aload rfl rfl ?_
            refine wp_getR (r := 7) rfl (congrArg Prod.fst (kf_6 X.1)) rfl ?_
            refine wp_iload rfl rfl ?_
            refine wp_iload rfl rfl ?_
            refine wp_aload rfl rfl ?_
            refine wp_iload rfl rfl ?_
            refine wp_call (k := 227) (ρ2 := 1) (L2 := [vr 85, vi x5]) rfl rfl rfl (Nat.le_of_ble_eq_true rfl) (Nat.le_of_ble_eq_true rfl) (Nat.le_of_ble_eq_true rfl) (rcv_V rfl (congrArg Prod.fst (kf_85 X.1))) rfl ?_
            refine wp_aload rfl rfl ?_
            refine wp_iload rfl rfl ?_
            refine wp_iconst rfl ?_
            refine wp_call (k := 226) (ρ2 := 0) (L2 := [vr 85, vi x5, vi 1]) rfl rfl rfl (Nat.le_of_ble_eq_true rfl) (Nat.le_of_ble_eq_true rfl) (Nat.le_of_ble_eq_true rfl) (rcv_V rfl (congrArg Prod.fst (kf_85 X.1))) rfl ?_
            refine wp_iload rfl rfl ?_
            refine wp_ifltF (tn := 22) rfl rfl c4 ?_
            refine wp_iload rfl rfl ?_
            refine wp_ifltF (tn := 22) rfl rfl (by decide) ?_
            refine wp_iload rfl rfl ?_
            refine wp_aload rfl rfl ?_
            refine wp_getI (j := 2) rfl (congrArg Prod.fst (kf_85 X.1)) rfl ?_
            refine wp_iload rfl rfl ?_
            refine wp_isub rfl ?_
            refine Wp.topI (y := ((h 85 2) - 1)) (w32_I g11) ?_
            refine wp_icgtT (tn := 22) rfl rfl c12 ?_
            refine wp_iconst rfl ?_
            refine wp_zret rfl rfl (by decide) ?_
            show Wp X _ 227 6 [vr 85, vi x5] [vi 0] _ _
            refine wp_ifeqT (tn := 18) rfl rfl (by decide) ?_
            refine wp_iconst rfl ?_
            refine wp_iret rfl rfl ?_
            show Wp X _ 3 112 [vr 6, zx1, vi x2, vi x3, vr 85, vi x5] [vi 0, vi x5, vi x2, vr 8] _ _
            refine wp_iload rfl rfl ?_
            refine wp_call (k := 153) (ρ2 := 1) (L2 := [vr 8, vi x2, vi x5, vi 0, vi x3]) rfl rfl rfl (Nat.le_of_ble_eq_true rfl) (Nat.le_of_ble_eq_true rfl) (Nat.le_of_ble_eq_true rfl) (rcv_V rfl (congrArg Prod.fst (kf_8 X.1))) rfl ?_
            refine wp_aload rfl rfl ?_
            refine wp_iload rfl rfl ?_
            refine wp_call (k := 145) (ρ2 := 0) (L2 := [vr 8, vi x2]) rfl rfl rfl (Nat.le_of_ble_eq_true rfl) (Nat.le_of_ble_eq_true rfl) (Nat.le_of_ble_eq_true rfl) (rcv_V rfl (congrArg Prod.fst (kf_8 X.1))) rfl ?_
            refine wp_iload rfl rfl ?_
            refine wp_iflt (tn := 16) rfl rfl (fun c13 => ?_) (fun c13 => ?_)
            · replace H := H.1 c13
              refine wp_iconst rfl ?_
              refine wp_zret rfl rfl (by decide) ?_
              show Wp X _ 153 5 [vr 8, vi x2, vi x5, vi 0, vi x3] [vi 0] _ _
              refine wp_ifeqT (tn := 66) rfl rfl (by decide) ?_
              refine wp_vret rfl rfl ?_
              show Wp X _ 3 116 [vr 6, zx1, vi x2, vi x3, vr 85, vi x5] [] _ _
              refine wp_iincR (L2 := [vr 6, zx1, vi x2, vi x3, vr 85, vi (x5 + 1)]) rfl rfl (by clear H; unfold R32; omega) rfl ?_
              refine wp_goto (tn := 59) rfl rfl ?_
              exact H
            · replace H := H.2 c13
              refine wp_iload rfl rfl ?_
              refine wp_aload rfl rfl ?_
              refine wp_getI (j := 8) rfl (congrArg Prod.fst (kf_8 X.1)) rfl ?_
              refine wp_icge (tn := 16) rfl rfl (fun c14 => ?_) (fun c14 => ?_)
              · replace H := H.1 c14
                refine wp_iconst rfl ?_
                refine wp_zret rfl rfl (by decide) ?_
                show Wp X _ 153 5 [vr 8, vi x2, vi x5, vi 0, vi x3] [vi 0] _ _
                refine wp_ifeqT (tn := 66) rfl rfl (by decide) ?_
                refine wp_vret rfl rfl ?_
                show Wp X _ 3 116 [vr 6, zx1, vi x2, vi x3, vr 85, vi x5] [] _ _
                refine wp_iincR (L2 := [vr 6, zx1, vi x2, vi x3, vr 85, vi (x5 + 1)]) rfl rfl (by clear H; unfold R32; omega) rfl ?_
                refine wp_goto (tn := 59) rfl rfl ?_
                exact H
              · replace H := H.2 c14
                refine wp_iconst rfl ?_
                refine wp_goto (tn := 17) rfl rfl ?_
                refine wp_zret rfl rfl (by decide) ?_
                show Wp X _ 153 5 [vr 8, vi x2, vi x5, vi 0, vi x3] [vi 1] _ _
                refine wp_ifeqF (tn := 66) rfl rfl (by decide) ?_
                refine wp_aload rfl rfl ?_
                refine wp_call (k := 146) (ρ2 := 0) (L2 := [vr 8]) rfl rfl rfl (Nat.le_of_ble_eq_true rfl) (Nat.le_of_ble_eq_true rfl) (Nat.le_of_ble_eq_true rfl) (rcv_V rfl (congrArg Prod.fst (kf_8 X.1))) rfl ?_
                refine wp_aload rfl rfl ?_
                refine wp_getI (j := 7) rfl (congrArg Prod.fst (kf_8 X.1)) rfl ?_
                refine wp_iconst rfl ?_
                refine wp_icgeF (tn := 13) rfl rfl c3 ?_
                refine wp_iconst rfl ?_
                refine wp_goto (tn := 14) rfl rfl ?_
                refine wp_zret rfl rfl (by decide) ?_
                show Wp X _ 153 12 [vr 8, vi x2, vi x5, vi 0, vi x3] [vi 1] _ _
                refine wp_ifeqF (tn := 66) rfl rfl (by decide) ?_
                refine wp_aload rfl rfl ?_
                refine wp_getR (r := 8) rfl (congrArg Prod.fst (kf_8 X.1)) rfl ?_
                refine wp_aload rfl rfl ?_
                refine wp_getI (j := 7) rfl (congrArg Prod.fst (kf_8 X.1)) rfl ?_
                refine wp_iload rfl rfl ?_
                have g15 := H.1
                replace H := H.2
                refine wp_iastore rfl (kf_9 X.1) g15 ?_
                refine wp_aload rfl rfl ?_
                refine wp_getR (r := 9) rfl (congrArg Prod.fst (kf_8 X.1)) rfl ?_
                refine wp_aload rfl rfl ?_
                refine wp_getI (j := 7) rfl (congrArg Prod.fst (kf_8 X.1)) rfl ?_
                refine Wp.topI (y := (h 8 7)) (congrFun (upd2_ne (by decide)) _) ?_
                refine wp_iload rfl rfl ?_
                refine wp_iastore rfl (kf_10 X.1) ⟨g15.1, g15.2⟩ ?_
                refine wp_aload rfl rfl ?_
                refine wp_getR (r := 10) rfl (congrArg Prod.fst (kf_8 X.1)) rfl ?_
                refine wp_aload rfl rfl ?_
                refine wp_getI (j := 7) rfl (congrArg Prod.fst (kf_8 X.1)) rfl ?_
                refine Wp.topI (y := (h 8 7)) (congrFun ((upd2_ne (by decide)).trans (upd2_ne (by decide))) _) ?_
                refine wp_iload rfl rfl ?_
                refine wp_iastore rfl (kf_11 X.1) ⟨g15.1, g15.2⟩ ?_
                refine wp_aload rfl rfl ?_
                refine wp_getR (r := 11) rfl (congrArg Prod.fst (kf_8 X.1)) rfl ?_
                refine wp_aload rfl rfl ?_
                refine wp_getI (j := 7) rfl (congrArg Prod.fst (kf_8 X.1)) rfl ?_
                refine Wp.topI (y := (h 8 7)) (congrFun ((upd2_ne (by decide)).trans ((upd2_ne (by decide)).trans (upd2_ne (by decide)))) _) ?_
                refine wp_iload rfl rfl ?_
                refine wp_iastore rfl (kf_12 X.1) ⟨g15.1, g15.2⟩ ?_
                refine wp_aload rfl rfl ?_
                refine wp_dupR rfl ?_
                refine wp_getI (j := 7) rfl (congrArg Prod.fst (kf_8 X.1)) rfl ?_
                refine Wp.topI (y := (h 8 7)) (congrFun ((upd2_ne (by decide)).trans ((upd2_ne (by decide)).trans ((upd2_ne (by decide)).trans (upd2_ne (by decide))))) _) ?_
                refine wp_iconst rfl ?_
                refine wp_iadd rfl ?_
                refine Wp.topI (y := ((h 8 7) + 1)) (w32_I (by clear H; unfold R32; omega)) ?_
                refine wp_putI (j := 7) rfl (congrArg Prod.fst (kf_8 X.1)) rfl rfl rfl ?_
                refine wp_vret rfl rfl ?_
                show Wp X _ 3 116 [vr 6, zx1, vi x2, vi x3, vr 85, vi x5] [] _ _
                refine wp_iincR (L2 := [vr 6, zx1, vi x2, vi x3, vr 85, vi (x5 + 1)]) rfl rfl (by clear H; unfold R32; omega) rfl ?_
                refine wp_goto (tn := 59) rfl rfl ?_
                exact H
          · replace H := H.2 c12
            refine wp_iconst rfl ?_
            refine wp_goto (tn := 23) rfl rfl ?_
            refine wp_zret rfl rfl (by decide) ?_
            show Wp X _ 227 6 [vr 85, vi x5] [vi 1] _ _
            refine wp_ifeqF (tn := 18) rfl rfl (by decide) ?_
            refine wp_aload rfl rfl ?_
            refine wp_getR (r := 85) rfl (congrArg Prod.fst (kf_85 X.1)) rfl ?_
            refine wp_iload rfl rfl ?_
            refine wp_iaload rfl (kf_86 X.1) ⟨c4, (by clear H; omega)⟩ ?_
            refine wp_goto (tn := 19) rfl rfl ?_
            refine wp_iret rfl rfl ?_
            show Wp X _ 3 92 [vr 6, zx1, vi x2, vi x3, vr 85, vi x5] [vi (h 86 x5)] _ _
            refine wp_call (k := 41) (ρ2 := 1) (L2 := [vi (h 86 x5)]) rfl rfl rfl (Nat.le_of_ble_eq_true rfl) (Nat.le_of_ble_eq_true rfl) (Nat.le_of_ble_eq_true rfl) (rcv_S rfl) rfl ?_
            refine wp_iload rfl rfl ?_
            refine wp_iconst rfl ?_
            refine wp_iconst rfl ?_
            refine wp_call (k := 40) (ρ2 := 0) (L2 := [vi (h 86 x5), vi (-1), vi 999]) rfl rfl rfl (Nat.le_of_ble_eq_true rfl) (Nat.le_of_ble_eq_true rfl) (Nat.le_of_ble_eq_true rfl) (rcv_S rfl) rfl ?_
            refine wp_iload rfl rfl ?_
            refine wp_iload rfl rfl ?_
            refine wp_iclt (tn := 10) rfl rfl (fun c16 => ?_) (fun c16 => ?_)
            · replace H := H.1 c16
              refine wp_iconst rfl ?_
              refine wp_goto (tn := 15) rfl rfl ?_
              refine wp_zret rfl rfl (by decide) ?_
              show Wp X _ 41 8 [vi (h 86 x5)] [vi 1] _ _
              refine wp_ifneT (tn := 15) rfl rfl (by decide) ?_
              refine wp_iconst rfl ?_
              refine wp_zret rfl rfl (by decide) ?_
              show Wp X _ 3 95 [vr 6, zx1, vi x2, vi x3, vr 85, vi x5] [vi 0] _ _
              refine wp_ifeqT (tn := 122) rfl rfl (by decide) ?_
              refine wp_aload rfl rfl ?_
              exact wp_call (k := 32) (ρ2 := 5) (L2 := [vr 6, vu]) rfl rfl rfl (Nat.le_of_ble_eq_true rfl) (Nat.le_of_ble_eq_true rfl) (Nat.le_of_ble_eq_true rfl) (rcv_V rfl (congrArg Prod.fst (kf_6 X.1))) rfl H
            · replace H := H.2 c16
              refine wp_iload rfl rfl ?_
              refine wp_iload rfl rfl ?_
              refine wp_icle (tn := 14) rfl rfl (fun c17 => ?_) (fun c17 => ?_)
              · replace H := H.1 c17
                refine wp_iconst rfl ?_
                refine wp_zret rfl rfl (by decide) ?_
                show Wp X _ 41 8 [vi (h 86 x5)] [vi 0] _ _
                refine wp_ifneF (tn := 15) rfl rfl (by decide) ?_
                refine wp_iconst rfl ?_
                refine wp_goto (tn := 16) rfl rfl ?_
                refine wp_zret rfl rfl (by decide) ?_
                show Wp X _ 3 95 [vr 6, zx1, vi x2, vi x3, vr 85, vi x5] [vi 1] _ _
                refine wp_ifeqF (tn := 122) rfl rfl (by decide) ?_
                refine wp_aload rfl rfl ?_
                refine wp_getR (r := 7) rfl (congrArg Prod.fst (kf_6 X.1)) rfl ?_
                refine wp_iload rfl rfl ?_
                refine wp_iload rfl rfl ?_
                refine wp_aload rfl rfl ?_
                refine wp_iload rfl rfl ?_
                refine wp_call (k := 227) (ρ2 := 1) (L2 := [vr 85, vi x5]) rfl rfl rfl (Nat.le_of_ble_eq_true rfl) (Nat.le_of_ble_eq_true rfl) (Nat.le_of_ble_eq_true rfl) (rcv_V rfl (congrArg Prod.fst (kf_85 X.1))) rfl ?_
                refine wp_aload rfl rfl ?_
                refine wp_iload rfl rfl ?_
                refine wp_iconst rfl ?_
                refine wp_call (k := 226) (ρ2 := 0) (L2 := [vr 85, vi x5, vi 1]) rfl rfl rfl (Nat.le_of_ble_eq_true rfl) (Nat.le_of_ble_eq_true rfl) (Nat.le_of_ble_eq_true rfl) (rcv_V rfl (congrArg Prod.fst (kf_85 X.1))) rfl ?_
                refine wp_iload rfl rfl ?_
                refine wp_ifltF (tn := 22) rfl rfl c4 ?_
                refine wp_iload rfl rfl ?_
                refine wp_ifltF (tn := 22) rfl rfl (by decide) ?_
                refine wp_iload rfl rfl ?_
                refine wp_aload rfl rfl ?_
                refine wp_getI (j := 2) rfl (congrArg Prod.fst (kf_85 X.1)) rfl ?_
                refine wp_iload rfl rfl ?_
                refine wp_isub rfl ?_
                refine Wp.topI (y := ((h 85 2) - 1)) (w32_I g11) ?_
                refine wp_icgtF (tn := 22) rfl rfl c12 ?_
                refine wp_iconst rfl ?_
                refine wp_goto (tn := 23) rfl rfl ?_
                refine wp_zret rfl rfl (by decide) ?_
                show Wp X _ 227 6 [vr 85, vi x5] [vi 1] _ _
                refine wp_ifeqF (tn := 18) rfl rfl (by decide) ?_
                refine wp_aload rfl rfl ?_
                refine wp_getR (r := 85) rfl (congrArg Prod.fst (kf_85 X.1)) rfl ?_
                refine wp_iload rfl rfl ?_
                refine wp_iaload rfl (kf_86 X.1) ⟨c4, (by clear H; omega)⟩ ?_
                refine wp_goto (tn := 19) rfl rfl ?_
                refine wp_iret rfl rfl ?_
                show Wp X _ 3 112 [vr 6, zx1, vi x2, vi x3, vr 85, vi x5] [vi (h 86 x5), vi x5, vi x2, vr 8] _ _
                refine wp_iload rfl rfl ?_
                refine wp_call (k := 153) (ρ2 := 1) (L2 := [vr 8, vi x2, vi x5, vi (h 86 x5), vi x3]) rfl rfl rfl (Nat.le_of_ble_eq_true rfl) (Nat.le_of_ble_eq_true rfl) (Nat.le_of_ble_eq_true rfl) (rcv_V rfl (congrArg Prod.fst (kf_8 X.1))) rfl ?_
                refine wp_aload rfl rfl ?_
                refine wp_iload rfl rfl ?_
                refine wp_call (k := 145) (ρ2 := 0) (L2 := [vr 8, vi x2]) rfl rfl rfl (Nat.le_of_ble_eq_true rfl) (Nat.le_of_ble_eq_true rfl) (Nat.le_of_ble_eq_true rfl) (rcv_V rfl (congrArg Prod.fst (kf_8 X.1))) rfl ?_
                refine wp_iload rfl rfl ?_
                refine wp_iflt (tn := 16) rfl rfl (fun c18 => ?_) (fun c18 => ?_)
                · replace H := H.1 c18
                  refine wp_iconst rfl ?_
                  refine wp_zret rfl rfl (by decide) ?_
                  show Wp X _ 153 5 [vr 8, vi x2, vi x5, vi (h 86 x5), vi x3] [vi 0] _ _
                  refine wp_ifeqT (tn := 66) rfl rfl (by decide) ?_
                  refine wp_vret rfl rfl ?_
                  show Wp X _ 3 116 [vr 6, zx1, vi x2, vi x3, vr 85, vi x5] [] _ _
                  refine wp_iincR (L2 := [vr 6, zx1, vi x2, vi x3, vr 85, vi (x5 + 1)]) rfl rfl (by clear H; unfold R32; omega) rfl ?_
                  refine wp_goto (tn := 59) rfl rfl ?_
                  exact H
                · replace H := H.2 c18
                  refine wp_iload rfl rfl ?_
                  refine wp_aload rfl rfl ?_
                  refine wp_getI (j := 8) rfl (congrArg Prod.fst (kf_8 X.1)) rfl ?_
                  refine wp_icge (tn := 16) rfl rfl (fun c19 => ?_) (fun c19 => ?_)
                  · replace H := H.1 c19
                    refine wp_iconst rfl ?_
                    refine wp_zret rfl rfl (by decide) ?_
                    show Wp X _ 153 5 [vr 8, vi x2, vi x5, vi (h 86 x5), vi x3] [vi 0] _ _
                    refine wp_ifeqT (tn := 66) rfl rfl (by decide) ?_
                    refine wp_vret rfl rfl ?_
                    show Wp X _ 3 116 [vr 6, zx1, vi x2, vi x3, vr 85, vi x5] [] _ _
                    refine wp_iincR (L2 := [vr 6, zx1, vi x2, vi x3, vr 85, vi (x5 + 1)]) rfl rfl (by clear H; unfold R32; omega) rfl ?_
                    refine wp_goto (tn := 59) rfl rfl ?_
                    exact H
                  · replace H := H.2 c19
                    refine wp_iconst rfl ?_
                    refine wp_goto (tn := 17) rfl rfl ?_
                    refine wp_zret rfl rfl (by decide) ?_
                    show Wp X _ 153 5 [vr 8, vi x2, vi x5, vi (h 86 x5), vi x3] [vi 1] _ _
                    refine wp_ifeqF (tn := 66) rfl rfl (by decide) ?_
                    refine wp_aload rfl rfl ?_
                    refine wp_call (k := 146) (ρ2 := 0) (L2 := [vr 8]) rfl rfl rfl (Nat.le_of_ble_eq_true rfl) (Nat.le_of_ble_eq_true rfl) (Nat.le_of_ble_eq_true rfl) (rcv_V rfl (congrArg Prod.fst (kf_8 X.1))) rfl ?_
                    refine wp_aload rfl rfl ?_
                    refine wp_getI (j := 7) rfl (congrArg Prod.fst (kf_8 X.1)) rfl ?_
                    refine wp_iconst rfl ?_
                    refine wp_icgeF (tn := 13) rfl rfl c3 ?_
                    refine wp_iconst rfl ?_
                    refine wp_goto (tn := 14) rfl rfl ?_
                    refine wp_zret rfl rfl (by decide) ?_
                    show Wp X _ 153 12 [vr 8, vi x2, vi x5, vi (h 86 x5), vi x3] [vi 1] _ _
                    refine wp_ifeqF (tn := 66) rfl rfl (by decide) ?_
                    refine wp_aload rfl rfl ?_
                    refine wp_getR (r := 8) rfl (congrArg Prod.fst (kf_8 X.1)) rfl ?_
                    refine wp_aload rfl rfl ?_
                    refine wp_getI (j := 7) rfl (congrArg Prod.fst (kf_8 X.1)) rfl ?_
                    refine wp_iload rfl rfl ?_
                    have g20 := H.1
                    replace H := H.2
                    refine wp_iastore rfl (kf_9 X.1) g20 ?_
                    refine wp_aload rfl rfl ?_
                    refine wp_getR (r := 9) rfl (congrArg Prod.fst (kf_8 X.1)) rfl ?_
                    refine wp_aload rfl rfl ?_
                    refine wp_getI (j := 7) rfl (congrArg Prod.fst (kf_8 X.1)) rfl ?_
                    refine Wp.topI (y := (h 8 7)) (congrFun (upd2_ne (by decide)) _) ?_
                    refine wp_iload rfl rfl ?_
                    refine wp_iastore rfl (kf_10 X.1) ⟨g20.1, g20.2⟩ ?_
                    refine wp_aload rfl rfl ?_
                    refine wp_getR (r := 10) rfl (congrArg Prod.fst (kf_8 X.1)) rfl ?_
                    refine wp_aload rfl rfl ?_
                    refine wp_getI (j := 7) rfl (congrArg Prod.fst (kf_8 X.1)) rfl ?_
                    refine Wp.topI (y := (h 8 7)) (congrFun ((upd2_ne (by decide)).trans (upd2_ne (by decide))) _) ?_
                    refine wp_iload rfl rfl ?_
                    refine wp_iastore rfl (kf_11 X.1) ⟨g20.1, g20.2⟩ ?_
                    refine wp_aload rfl rfl ?_
                    refine wp_getR (r := 11) rfl (congrArg Prod.fst (kf_8 X.1)) rfl ?_
                    refine wp_aload rfl rfl ?_
                    refine wp_getI (j := 7) rfl (congrArg Prod.fst (kf_8 X.1)) rfl ?_
                    refine Wp.topI (y := (h 8 7)) (congrFun ((upd2_ne (by decide)).trans ((upd2_ne (by decide)).trans (upd2_ne (by decide)))) _) ?_
                    refine wp_iload rfl rfl ?_
                    refine wp_iastore rfl (kf_12 X.1) ⟨g20.1, g20.2⟩ ?_
                    refine wp_aload rfl rfl ?_
                    refine wp_dupR rfl ?_
                    refine wp_getI (j := 7) rfl (congrArg Prod.fst (kf_8 X.1)) rfl ?_
                    refine Wp.topI (y := (h 8 7)) (congrFun ((upd2_ne (by decide)).trans ((upd2_ne (by decide)).trans ((upd2_ne (by decide)).trans (upd2_ne (by decide))))) _) ?_
                    refine wp_iconst rfl ?_
                    refine wp_iadd rfl ?_
                    refine Wp.topI (y := ((h 8 7) + 1)) (w32_I (by clear H; unfold R32; omega)) ?_
                    refine wp_putI (j := 7) rfl (congrArg Prod.fst (kf_8 X.1)) rfl rfl rfl ?_
                    refine wp_vret rfl rfl ?_
                    show Wp X _ 3 116 [vr 6, zx1, vi x2, vi x3, vr 85, vi x5] [] _ _
                    refine wp_iincR (L2 := [vr 6, zx1, vi x2, vi x3, vr 85, vi (x5 + 1)]) rfl rfl (by clear H; unfold R32; omega) rfl ?_
                    refine wp_goto (tn := 59) rfl rfl ?_
                    exact H
              · replace H := H.2 c17
                refine wp_iconst rfl ?_
                refine wp_goto (tn := 15) rfl rfl ?_
                refine wp_zret rfl rfl (by decide) ?_
                show Wp X _ 41 8 [vi (h 86 x5)] [vi 1] _ _
                refine wp_ifneT (tn := 15) rfl rfl (by decide) ?_
                refine wp_iconst rfl ?_
                refine wp_zret rfl rfl (by decide) ?_
                show Wp X _ 3 95 [vr 6, zx1, vi x2, vi x3, vr 85, vi x5] [vi 0] _ _
                refine wp_ifeqT (tn := 122) rfl rfl (by decide) ?_
                refine wp_aload rfl rfl ?_
                exact wp_call (k := 32) (ρ2 := 5) (L2 := [vr 6, vu]) rfl rfl rfl (Nat.le_of_ble_eq_true rfl) (Nat.le_of_ble_eq_true rfl) (Nat.le_of_ble_eq_true rfl) (rcv_V rfl (congrArg Prod.fst (kf_6 X.1))) rfl H
/-- WarnLines.read(III)I, from 59 -/
theorem S3_6_59d {X : Nat × (Int → Int)} {h : HP} {Q : bQ} (zx1 : aV) (x2 : Int) (x3 : Int) (x5 : Int) (H : ((5 ≤ x5 → Wp X 5 32 0 [vr 6, vu] [] h (fun v h' => Wp X 6 3 126 [vr 6, zx1, vi x2, vi x3, vr 87, vi x5] (psh v []) h' Q)) ∧ (x5 < 5 → (((h 87 2) ≤ x5 → Wp X 5 32 0 [vr 6, vu] [] h (fun v h' => Wp X 6 3 126 [vr 6, zx1, vi x2, vi x3, vr 87, vi x5] (psh v []) h' Q)) ∧ (x5 < (h 87 2) → ((100 ≤ (h 8 7) → Wp X 5 32 0 [vr 6, vu] [] h (fun v h' => Wp X 6 3 126 [vr 6, zx1, vi x2, vi x3, vr 87, vi x5] (psh v []) h' Q)) ∧ ((h 8 7) < 100 → ((x5 < 0 → ((x2 < 0 → ((R32 (x5 + 1)) ∧ Wp X 6 3 59 [vr 6, zx1, vi x2, vi x3, vr 87, vi (x5 + 1)] [] h Q)) ∧ (0 ≤ x2 → (((h 8 8) ≤ x2 → ((R32 (x5 + 1)) ∧ Wp X 6 3 59 [vr 6, zx1, vi x2, vi x3, vr 87, vi (x5 + 1)] [] h Q)) ∧ (x2 < (h 8 8) → ((0 ≤ (h 8 7) ∧ (h 8 7) < 100) ∧ ((R32 (x5 + 1)) ∧ Wp X 6 3 59 [vr 6, zx1, vi x2, vi x3, vr 87, vi (x5 + 1)] [] (upd2 (upd2 (upd2 (upd2 (upd2 h 9 (h 8 7) x2) 10 (h 8 7) x5) 11 (h 8 7) 0) 12 (h 8 7) x3) 8 7 ((h 8 7) + 1)) Q))))))) ∧ (0 ≤ x5 → ((R32 ((h 87 2) - 1)) ∧ ((((h 87 2) - 1) < x5 → ((x2 < 0 → Wp X 6 3 59 [vr 6, zx1, vi x2, vi x3, vr 87, vi (x5 + 1)] [] h Q) ∧ (0 ≤ x2 → (((h 8 8) ≤ x2 → Wp X 6 3 59 [vr 6, zx1, vi x2, vi x3, vr 87, vi (x5 + 1)] [] h Q) ∧ (x2 < (h 8 8) → ((0 ≤ (h 8 7) ∧ (h 8 7) < 100) ∧ Wp X 6 3 59 [vr 6, zx1, vi x2, vi x3, vr 87, vi (x5 + 1)] [] (upd2 (upd2 (upd2 (upd2 (upd2 h 9 (h 8 7) x2) 10 (h 8 7) x5) 11 (h 8 7) 0) 12 (h 8 7) x3) 8 7 ((h 8 7) + 1)) Q)))))) ∧ (x5 ≤ ((h 87 2) - 1) → (((h 88 x5) < (-1) → Wp X 5 32 0 [vr 6, vu] [] h (fun v h' => Wp X 6 3 126 [vr 6, zx1, vi x2, vi x3, vr 87, vi x5] (psh v []) h' Q)) ∧ ((-1) ≤ (h 88 x5) → (((h 88 x5) ≤ 999 → ((x2 < 0 → Wp X 6 3 59 [vr 6, zx1, vi x2, vi x3, vr 87, vi (x5 + 1)] [] h Q) ∧ (0 ≤ x2 → (((h 8 8) ≤ x2 → Wp X 6 3 59 [vr 6, zx1, vi x2, vi x3, vr 87, vi (x5 + 1)] [] h Q) ∧ (x2 < (h 8 8) → ((0 ≤ (h 8 7) ∧ (h 8 7) < 100) ∧ Wp X 6 3 59 [vr 6, zx1, vi x2, vi x3, vr 87, vi (x5 + 1)] [] (upd2 (upd2 (upd2 (upd2 (upd2 h 9 (h 8 7) x2) 10 (h 8 7) x5) 11 (h 8 7) (h 88 x5)) 12 (h 8 7) x3) 8 7 ((h 8 7) + 1)) Q)))))) ∧ (999 < (h 88 x5) → Wp X 5 32 0 [vr 6, vu] [] h (fun v h' => Wp X 6 3 126 [vr 6, zx1, vi x2, vi x3, vr 87, vi x5] (psh v []) h' Q))))))))))))))))) : Wp X 6 3 59 [vr 6, zx1, vi x2, vi x3, vr 87, vi x5] [] h Q := by
  refine wp_iload rfl rfl ?_
  refine wp_iconst rfl ?_
  refine wp_icge (tn := 122) rfl rfl (fun c1 => ?_) (fun c1 => ?_)
  · replace H := H.1 c1
    refine wp_aload rfl rfl ?_
    exact wp_call (k := 32) (ρ2 := 5) (L2 := [vr 6, vu]) rfl rfl rfl (Nat.le_of_ble_eq_true rfl) (Nat.le_of_ble_eq_true rfl) (Nat.le_of_ble_eq_true rfl) (rcv_V rfl (congrArg Prod.fst (kf_6 X.1))) rfl H
  · replace H := H.2 c1
    refine wp_iload rfl rfl ?_
    refine wp_aload rfl rfl ?_
    refine wp_call (k := 222) (ρ2 := 0) (L2 := [vr 87]) rfl rfl rfl (Nat.le_of_ble_eq_true rfl) (Nat.le_of_ble_eq_true rfl) (Nat.le_of_ble_eq_true rfl) (rcv_V rfl (congrArg Prod.fst (kf_87 X.1))) rfl ?_
    refine wp_aload rfl rfl ?_
    refine wp_getI (j := 2) rfl (congrArg Prod.fst (kf_87 X.1)) rfl ?_
    refine wp_iret rfl rfl ?_
    show Wp X _ 3 72 [vr 6, zx1, vi x2, vi x3, vr 87, vi x5] [vi (h 87 2), vi x5] _ _
    refine wp_icge (tn := 122) rfl rfl (fun c2 => ?_) (fun c2 => ?_)
    · replace H := H.1 c2
      refine wp_aload rfl rfl ?_
      exact wp_call (k := 32) (ρ2 := 5) (L2 := [vr 6, vu]) rfl rfl rfl (Nat.le_of_ble_eq_true rfl) (Nat.le_of_ble_eq_true rfl) (Nat.le_of_ble_eq_true rfl) (rcv_V rfl (congrArg Prod.fst (kf_6 X.1))) rfl H
    · replace H := H.2 c2
      refine wp_aload rfl rfl ?_
      refine wp_getR (r := 7) rfl (congrArg Prod.fst (kf_6 X.1)) rfl ?_
      refine wp_call (k := 146) (ρ2 := 0) (L2 := [vr 8]) rfl rfl rfl (Nat.le_of_ble_eq_true rfl) (Nat.le_of_ble_eq_true rfl) (Nat.le_of_ble_eq_true rfl) (rcv_V rfl (congrArg Prod.fst (kf_8 X.1))) rfl ?_
      refine wp_aload rfl rfl ?_
      refine wp_getI (j := 7) rfl (congrArg Prod.fst (kf_8 X.1)) rfl ?_
      refine wp_iconst rfl ?_
      refine wp_icge (tn := 13) rfl rfl (fun c3 => ?_) (fun c3 => ?_)
      · replace H := H.1 c3
        refine wp_iconst rfl ?_
        refine wp_zret rfl rfl (by decide) ?_
        show Wp X _ 3 82 [vr 6, zx1, vi x2, vi x3, vr 87, vi x5] [vi 0] _ _
        refine wp_ifeqT (tn := 122) rfl rfl (by decide) ?_
        refine wp_aload rfl rfl ?_
        exact wp_call (k := 32) (ρ2 := 5) (L2 := [vr 6, vu]) rfl rfl rfl (Nat.le_of_ble_eq_true rfl) (Nat.le_of_ble_eq_true rfl) (Nat.le_of_ble_eq_true rfl) (rcv_V rfl (congrArg Prod.fst (kf_6 X.1))) rfl H
      · replace H := H.2 c3
        refine wp_iconst rfl ?_
        refine wp_goto (tn := 14) rfl rfl ?_
        refine wp_zret rfl rfl (by decide) ?_
        show Wp X _ 3 82 [vr 6, zx1, vi x2, vi x3, vr 87, vi x5] [vi 1] _ _
        refine wp_ifeqF (tn := 122) rfl rfl (by decide) ?_
        refine wp_aload rfl rfl ?_
        refine wp_iload rfl rfl ?_
        refine wp_call (k := 227) (ρ2 := 1) (L2 := [vr 87, vi x5]) rfl rfl rfl (Nat.le_of_ble_eq_true rfl) (Nat.le_of_ble_eq_true rfl) (Nat.le_of_ble_eq_true rfl) (rcv_V rfl (congrArg Prod.fst (kf_87 X.1))) rfl ?_
        refine wp_aload rfl rfl ?_
        refine wp_iload rfl rfl ?_
        refine wp_iconst rfl ?_
        refine wp_call (k := 226) (ρ2 := 0) (L2 := [vr 87, vi x5, vi 1]) rfl rfl rfl (Nat.le_of_ble_eq_true rfl) (Nat.le_of_ble_eq_true rfl) (Nat.le_of_ble_eq_true rfl) (rcv_V rfl (congrArg Prod.fst (kf_87 X.1))) rfl ?_
        refine wp_iload rfl rfl ?_
        refine wp_iflt (tn := 22) rfl rfl (fun c4 => ?_) (fun c4 => ?_)
        · replace H := H.1 c4
          refine wp_iconst rfl ?_
          refine wp_zret rfl rfl (by decide) ?_
          show Wp X _ 227 6 [vr 87, vi x5] [vi 0] _ _
          refine wp_ifeqT (tn := 18) rfl rfl (by decide) ?_
          refine wp_iconst rfl ?_
          refine wp_iret rfl rfl ?_
          show Wp X _ 3 92 [vr 6, zx1, vi x2, vi x3, vr 87, vi x5] [vi 0] _ _
          refine wp_call (k := 41) (ρ2 := 1) (L2 := [vi 0]) rfl rfl rfl (Nat.le_of_ble_eq_true rfl) (Nat.le_of_ble_eq_true rfl) (Nat.le_of_ble_eq_true rfl) (rcv_S rfl) rfl ?_
          refine wp_iload rfl rfl ?_
          refine wp_iconst rfl ?_
          refine wp_iconst rfl ?_
          refine wp_call (k := 40) (ρ2 := 0) (L2 := [vi 0, vi (-1), vi 999]) rfl rfl rfl (Nat.le_of_ble_eq_true rfl) (Nat.le_of_ble_eq_true rfl) (Nat.le_of_ble_eq_true rfl) (rcv_S rfl) rfl ?_
          refine wp_iload rfl rfl ?_
          refine wp_iload rfl rfl ?_
          refine wp_icltF (tn := 10) rfl rfl (by decide) ?_
          refine wp_iload rfl rfl ?_
          refine wp_iload rfl rfl ?_
          refine wp_icleT (tn := 14) rfl rfl (by decide) ?_
          refine wp_iconst rfl ?_
          refine wp_zret rfl rfl (by decide) ?_
          show Wp X _ 41 8 [vi 0] [vi 0] _ _
          refine wp_ifneF (tn := 15) rfl rfl (by decide) ?_
          refine wp_iconst rfl ?_
          refine wp_goto (tn := 16) rfl rfl ?_
          refine wp_zret rfl rfl (by decide) ?_
          show Wp X _ 3 95 [vr 6, zx1, vi x2, vi x3, vr 87, vi x5] [vi 1] _ _
          refine wp_ifeqF (tn := 122) rfl rfl (by decide) ?_
          refine wp_aload rfl rfl ?_
          refine wp_getR (r := 7) rfl (congrArg Prod.fst (kf_6 X.1)) rfl ?_
          refine wp_iload rfl rfl ?_
          refine wp_iload rfl rfl ?_
          refine wp_aload rfl rfl ?_
          refine wp_iload rfl rfl ?_
          refine wp_call (k := 227) (ρ2 := 1) (L2 := [vr 87, vi x5]) rfl rfl rfl (Nat.le_of_ble_eq_true rfl) (Nat.le_of_ble_eq_true rfl) (Nat.le_of_ble_eq_true rfl) (rcv_V rfl (congrArg Prod.fst (kf_87 X.1))) rfl ?_
          refine wp_aload rfl rfl ?_
          refine wp_iload rfl rfl ?_
          refine wp_iconst rfl ?_
          refine wp_call (k := 226) (ρ2 := 0) (L2 := [vr 87, vi x5, vi 1]) rfl rfl rfl (Nat.le_of_ble_eq_true rfl) (Nat.le_of_ble_eq_true rfl) (Nat.le_of_ble_eq_true rfl) (rcv_V rfl (congrArg Prod.fst (kf_87 X.1))) rfl ?_
          refine wp_iload rfl rfl ?_
          refine wp_ifltT (tn := 22) rfl rfl c4 ?_
          refine wp_iconst rfl ?_
          refine wp_zret rfl rfl (by decide) ?_
          show Wp X _ 227 6 [vr 87, vi x5] [vi 0] _ _
          refine wp_ifeqT (tn := 18) rfl rfl (by decide) ?_
          refine wp_iconst rfl ?_
          refine wp_iret rfl rfl ?_
          show Wp X _ 3 112 [vr 6, zx1, vi x2, vi x3, vr 87, vi x5] [vi 0, vi x5, vi x2, vr 8] _ _
          refine wp_iload rfl rfl ?_
          refine wp_call (k := 153) (ρ2 := 1) (L2 := [vr 8, vi x2, vi x5, vi 0, vi x3]) rfl rfl rfl (Nat.le_of_ble_eq_true rfl) (Nat.le_of_ble_eq_true rfl) (Nat.le_of_ble_eq_true rfl) (rcv_V rfl (congrArg Prod.fst (kf_8 X.1))) rfl ?_
          refine wp_aload rfl rfl ?_
          refine wp_iload rfl rfl ?_
          refine wp_call (k := 145) (ρ2 := 0) (L2 := [vr 8, vi x2]) rfl rfl rfl (Nat.le_of_ble_eq_true rfl) (Nat.le_of_ble_eq_true rfl) (Nat.le_of_ble_eq_true rfl) (rcv_V rfl (congrArg Prod.fst (kf_8 X.1))) rfl ?_
          refine wp_iload rfl rfl ?_
          refine wp_iflt (tn := 16) rfl rfl (fun c5 => ?_) (fun c5 => ?_)
          · replace H := H.1 c5
            refine wp_iconst rfl ?_
            refine wp_zret rfl rfl (by decide) ?_
            show Wp X _ 153 5 [vr 8, vi x2, vi x5, vi 0, vi x3] [vi 0] _ _
            refine wp_ifeqT (tn := 66) rfl rfl (by decide) ?_
            refine wp_vret rfl rfl ?_
            show Wp X _ 3 116 [vr 6, zx1, vi x2, vi x3, vr 87, vi x5] [] _ _
            have g6 := H.1
            replace H := H.2
            refine wp_iincR (L2 := [vr 6, zx1, vi x2, vi x3, vr 87, vi (x5 + 1)]) rfl rfl g6 rfl ?_
            refine wp_goto (tn := 59) rfl rfl ?_
            exact H
          · replace H := H.2 c5
            refine wp_iload rfl rfl ?_
            refine wp_aload rfl rfl ?_
            refine wp_getI (j := 8) rfl (congrArg Prod.fst (kf_8 X.1)) rfl ?_
            refine wp_icge (tn := 16) rfl rfl (fun c7 => ?_) (fun c7 => ?_)
            · replace H := H.1 c7
              refine wp_iconst rfl ?_
              refine wp_zret rfl rfl (by decide) ?_
              show Wp X _ 153 5 [vr 8, vi x2, vi x5, vi 0, vi x3] [vi 0] _ _
              refine wp_ifeqT (tn := 66) rfl rfl (by decide) ?_
              refine wp_vret rfl rfl ?_
              show Wp X _ 3 116 [vr 6, zx1, vi x2, vi x3, vr 87, vi x5] [] _ _
              have g8 := H.1
              replace H := H.2
              refine wp_iincR (L2 := [vr 6, zx1, vi x2, vi x3, vr 87, vi (x5 + 1)]) rfl rfl g8 rfl ?_
              refine wp_goto (tn := 59) rfl rfl ?_
              exact H
            · replace H := H.2 c7
              refine wp_iconst rfl ?_
              refine wp_goto (tn := 17) rfl rfl ?_
              refine wp_zret rfl rfl (by decide) ?_
              show Wp X _ 153 5 [vr 8, vi x2, vi x5, vi 0, vi x3] [vi 1] _ _
              refine wp_ifeqF (tn := 66) rfl rfl (by decide) ?_
              refine wp_aload rfl rfl ?_
              refine wp_call (k := 146) (ρ2 := 0) (L2 := [vr 8]) rfl rfl rfl (Nat.le_of_ble_eq_true rfl) (Nat.le_of_ble_eq_true rfl) (Nat.le_of_ble_eq_true rfl) (rcv_V rfl (congrArg Prod.fst (kf_8 X.1))) rfl ?_
              refine wp_aload rfl rfl ?_
              refine wp_getI (j := 7) rfl (congrArg Prod.fst (kf_8 X.1)) rfl ?_
              refine wp_iconst rfl ?_
              refine wp_icgeF (tn := 13) rfl rfl c3 ?_
              refine wp_iconst rfl ?_
              refine wp_goto (tn := 14) rfl rfl ?_
              refine wp_zret rfl rfl (by decide) ?_
              show Wp X _ 153 12 [vr 8, vi x2, vi x5, vi 0, vi x3] [vi 1] _ _
              refine wp_ifeqF (tn := 66) rfl rfl (by decide) ?_
              refine wp_aload rfl rfl ?_
              refine wp_getR (r := 8) rfl (congrArg Prod.fst (kf_8 X.1)) rfl ?_
              refine wp_aload rfl rfl ?_
              refine wp_getI (j := 7) rfl (congrArg Prod.fst (kf_8 X.1)) rfl ?_
              refine wp_iload rfl rfl ?_
              have g9 := H.1
              replace H := H.2
              refine wp_iastore rfl (kf_9 X.1) g9 ?_
              refine wp_aload rfl rfl ?_
              refine wp_getR (r := 9) rfl (congrArg Prod.fst (kf_8 X.1)) rfl ?_
              refine wp_aload rfl rfl ?_
              refine wp_getI (j := 7) rfl (congrArg Prod.fst (kf_8 X.1)) rfl ?_
              refine Wp.topI (y := (h 8 7)) (congrFun (upd2_ne (by decide)) _) ?_
              refine wp_iload rfl rfl ?_
              refine wp_iastore rfl (kf_10 X.1) ⟨g9.1, g9.2⟩ ?_
              refine wp_aload rfl rfl ?_
              refine wp_getR (r := 10) rfl (congrArg Prod.fst (kf_8 X.1)) rfl ?_
              refine wp_aload rfl rfl ?_
              refine wp_getI (j := 7) rfl (congrArg Prod.fst (kf_8 X.1)) rfl ?_
              refine Wp.topI (y := (h 8 7)) (congrFun ((upd2_ne (by decide)).trans (upd2_ne (by decide))) _) ?_
              refine wp_iload rfl rfl ?_
              refine wp_iastore rfl (kf_11 X.1) ⟨g9.1, g9.2⟩ ?_
              refine wp_aload rfl rfl ?_
              refine wp_getR (r := 11) rfl (congrArg Prod.fst (kf_8 X.1)) rfl ?_
              refine wp_aload rfl rfl ?_
              refine wp_getI (j := 7) rfl (congrArg Prod.fst (kf_8 X.1)) rfl ?_
              refine Wp.topI (y := (h 8 7)) (congrFun ((upd2_ne (by decide)).trans ((upd2_ne (by decide)).trans (upd2_ne (by decide)))) _) ?_
              refine wp_iload rfl rfl ?_
              refine wp_iastore rfl (kf_12 X.1) ⟨g9.1, g9.2⟩ ?_
              refine wp_aload rfl rfl ?_
              refine wp_dupR rfl ?_
              refine wp_getI (j := 7) rfl (congrArg Prod.fst (kf_8 X.1)) rfl ?_
              refine Wp.topI (y := (h 8 7)) (congrFun ((upd2_ne (by decide)).trans ((upd2_ne (by decide)).trans ((upd2_ne (by decide)).trans (upd2_ne (by decide))))) _) ?_
              refine wp_iconst rfl ?_
              refine wp_iadd rfl ?_
              refine Wp.topI (y := ((h 8 7) + 1)) (w32_I (by clear H; unfold R32; omega)) ?_
              refine wp_putI (j := 7) rfl (congrArg Prod.fst (kf_8 X.1)) rfl rfl rfl ?_
              refine wp_vret rfl rfl ?_
              show Wp X _ 3 116 [vr 6, zx1, vi x2, vi x3, vr 87, vi x5] [] _ _
              have g10 := H.1
              replace H := H.2
              refine wp_iincR (L2 := [vr 6, zx1, vi x2, vi x3, vr 87, vi (x5 + 1)]) rfl rfl g10 rfl ?_
              refine wp_goto (tn := 59) rfl rfl ?_
              exact H
        · replace H := H.2 c4
          refine wp_iload rfl rfl ?_
          refine wp_ifltF (tn := 22) rfl rfl (by decide) ?_
          refine wp_iload rfl rfl ?_
          refine wp_aload rfl rfl ?_
          refine wp_getI (j := 2) rfl (congrArg Prod.fst (kf_87 X.1)) rfl ?_
          refine wp_iload rfl rfl ?_
          refine wp_isub rfl ?_
          have g11 := H.1
          replace H := H.2
          refine Wp.topI (y := ((h 87 2) - 1)) (w32_I g11) ?_
          refine wp_icgt (tn := 22) rfl rfl (fun c12 => ?_) (fun c12 => ?_)
          · replace H := H.1 c12
            refine wp_iconst rfl ?_
            refine wp_zret rfl rfl (by decide) ?_
            show Wp X _ 227 6 [vr 87, vi x5] [vi 0] _ _
            refine wp_ifeqT (tn := 18) rfl rfl (by decide) ?_
            refine wp_iconst rfl ?_
            refine wp_iret rfl rfl ?_
            show Wp X _ 3 92 [vr 6, zx1, vi x2, vi x3, vr 87, vi x5] [vi 0] _ _
            refine wp_call (k := 41) (ρ2 := 1) (L2 := [vi 0]) rfl rfl rfl (Nat.le_of_ble_eq_true rfl) (Nat.le_of_ble_eq_true rfl) (Nat.le_of_ble_eq_true rfl) (rcv_S rfl) rfl ?_
            refine wp_iload rfl rfl ?_
            refine wp_iconst rfl ?_
            refine wp_iconst rfl ?_
            refine wp_call (k := 40) (ρ2 := 0) (L2 := [vi 0, vi (-1), vi 999]) rfl rfl rfl (Nat.le_of_ble_eq_true rfl) (Nat.le_of_ble_eq_true rfl) (Nat.le_of_ble_eq_true rfl) (rcv_S rfl) rfl ?_
            refine wp_iload rfl rfl ?_
            refine wp_iload rfl rfl ?_
            refine wp_icltF (tn := 10) rfl rfl (by decide) ?_
            refine wp_iload rfl rfl ?_
            refine wp_iload rfl rfl ?_
            refine wp_icleT (tn := 14) rfl rfl (by decide) ?_
            refine wp_iconst rfl ?_
            refine wp_zret rfl rfl (by decide) ?_
            show Wp X _ 41 8 [vi 0] [vi 0] _ _
            refine wp_ifneF (tn := 15) rfl rfl (by decide) ?_
            refine wp_iconst rfl ?_
            refine wp_goto (tn := 16) rfl rfl ?_
            refine wp_zret rfl rfl (by decide) ?_
            show Wp X _ 3 95 [vr 6, zx1, vi x2, vi x3, vr 87, vi x5] [vi 1] _ _
            refine wp_ifeqF (tn := 122) rfl rfl (by decide) ?_
            refine wp_aload rfl rfl ?_
            refine wp_getR (r := 7) rfl (congrArg Prod.fst (kf_6 X.1)) rfl ?_
            refine wp_iload rfl rfl ?_
            refine wp_iload rfl rfl ?_
            refine wp_aload rfl rfl ?_
            refine wp_iload rfl rfl ?_
            refine wp_call (k := 227) (ρ2 := 1) (L2 := [vr 87, vi x5]) rfl rfl rfl (Nat.le_of_ble_eq_true rfl) (Nat.le_of_ble_eq_true rfl) (Nat.le_of_ble_eq_true rfl) (rcv_V rfl (congrArg Prod.fst (kf_87 X.1))) rfl ?_
            refine wp_aload rfl rfl ?_
            refine wp_iload rfl rfl ?_
            refine wp_iconst rfl ?_
            refine wp_call (k := 226) (ρ2 := 0) (L2 := [vr 87, vi x5, vi 1]) rfl rfl rfl (Nat.le_of_ble_eq_true rfl) (Nat.le_of_ble_eq_true rfl) (Nat.le_of_ble_eq_true rfl) (rcv_V rfl (congrArg Prod.fst (kf_87 X.1))) rfl ?_
            refine wp_iload rfl rfl ?_
            refine wp_ifltF (tn := 22) rfl rfl c4 ?_
            refine wp_iload rfl rfl ?_
            refine wp_ifltF (tn := 22) rfl rfl (by decide) ?_
            refine wp_iload rfl rfl ?_
            refine wp_aload rfl rfl ?_
            refine wp_getI (j := 2) rfl (congrArg Prod.fst (kf_87 X.1)) rfl ?_
            refine wp_iload rfl rfl ?_
            refine wp_isub rfl ?_
            refine Wp.topI (y := ((h 87 2) - 1)) (w32_I g11) ?_
            refine wp_icgtT (tn := 22) rfl rfl c12 ?_
            refine wp_iconst rfl ?_
            refine wp_zret rfl rfl (by decide) ?_
            show Wp X _ 227 6 [vr 87, vi x5] [vi 0] _ _
            refine wp_ifeqT (tn := 18) rfl rfl (by decide) ?_
            refine wp_iconst rfl ?_
            refine wp_iret rfl rfl ?_
            show Wp X _ 3 112 [vr 6, zx1, vi x2, vi x3, vr 87, vi x5] [vi 0, vi x5, vi x2, vr 8] _ _
            refine wp_iload rfl rfl ?_
            refine wp_call (k := 153) (ρ2 := 1) (L2 := [vr 8, vi x2, vi x5, vi 0, vi x3]) rfl rfl rfl (Nat.le_of_ble_eq_true rfl) (Nat.le_of_ble_eq_true rfl) (Nat.le_of_ble_eq_true rfl) (rcv_V rfl (congrArg Prod.fst (kf_8 X.1))) rfl ?_
            refine wp_aload rfl rfl ?_
            refine wp_iload rfl rfl ?_
            refine wp_call (k := 145) (ρ2 := 0) (L2 := [vr 8, vi x2]) rfl rfl rfl (Nat.le_of_ble_eq_true rfl) (Nat.le_of_ble_eq_true rfl) (Nat.le_of_ble_eq_true rfl) (rcv_V rfl (congrArg Prod.fst (kf_8 X.1))) rfl ?_
            refine wp_iload rfl rfl ?_
            refine wp_iflt (tn := 16) rfl rfl (fun c13 => ?_) (fun c13 => ?_)
            · replace H := H.1 c13
              refine wp_iconst rfl ?_
              refine wp_zret rfl rfl (by decide) ?_
              show Wp X _ 153 5 [vr 8, vi x2, vi x5, vi 0, vi x3] [vi 0] _ _
              refine wp_ifeqT (tn := 66) rfl rfl (by decide) ?_
              refine wp_vret rfl rfl ?_
              show Wp X _ 3 116 [vr 6, zx1, vi x2, vi x3, vr 87, vi x5] [] _ _
              refine wp_iincR (L2 := [vr 6, zx1, vi x2, vi x3, vr 87, vi (x5 + 1)]) rfl rfl (by clear H; unfold R32; omega) rfl ?_
              refine wp_goto (tn := 59) rfl rfl ?_
              exact H
            · replace H := H.2 c13
              refine wp_iload rfl rfl ?_
              refine wp_aload rfl rfl ?_
              refine wp_getI (j := 8) rfl (congrArg Prod.fst (kf_8 X.1)) rfl ?_
              refine wp_icge (tn := 16) rfl rfl (fun c14 => ?_) (fun c14 => ?_)
              · replace H := H.1 c14
                refine wp_iconst rfl ?_
                refine wp_zret rfl rfl (by decide) ?_
                show Wp X _ 153 5 [vr 8, vi x2, vi x5, vi 0, vi x3] [vi 0] _ _
                refine wp_ifeqT (tn := 66) rfl rfl (by decide) ?_
                refine wp_vret rfl rfl ?_
                show Wp X _ 3 116 [vr 6, zx1, vi x2, vi x3, vr 87, vi x5] [] _ _
                refine wp_iincR (L2 := [vr 6, zx1, vi x2, vi x3, vr 87, vi (x5 + 1)]) rfl rfl (by clear H; unfold R32; omega) rfl ?_
                refine wp_goto (tn := 59) rfl rfl ?_
                exact H
              · replace H := H.2 c14
                refine wp_iconst rfl ?_
                refine wp_goto (tn := 17) rfl rfl ?_
                refine wp_zret rfl rfl (by decide) ?_
                show Wp X _ 153 5 [vr 8, vi x2, vi x5, vi 0, vi x3] [vi 1] _ _
                refine wp_ifeqF (tn := 66) rfl rfl (by decide) ?_
                refine wp_aload rfl rfl ?_
                refine wp_call (k := 146) (ρ2 := 0) (L2 := [vr 8]) rfl rfl rfl (Nat.le_of_ble_eq_true rfl) (Nat.le_of_ble_eq_true rfl) (Nat.le_of_ble_eq_true rfl) (rcv_V rfl (congrArg Prod.fst (kf_8 X.1))) rfl ?_
                refine wp_aload rfl rfl ?_
                refine wp_getI (j := 7) rfl (congrArg Prod.fst (kf_8 X.1)) rfl ?_
                refine wp_iconst rfl ?_
                refine wp_icgeF (tn := 13) rfl rfl c3 ?_
                refine wp_iconst rfl ?_
                refine wp_goto (tn := 14) rfl rfl ?_
                refine wp_zret rfl rfl (by decide) ?_
                show Wp X _ 153 12 [vr 8, vi x2, vi x5, vi 0, vi x3] [vi 1] _ _
                refine wp_ifeqF (tn := 66) rfl rfl (by decide) ?_
                refine wp_aload rfl rfl ?_
                refine wp_getR (r := 8) rfl (congrArg Prod.fst (kf_8 X.1)) rfl ?_
                refine wp_aload rfl rfl ?_
                refine wp_getI (j := 7) rfl (congrArg Prod.fst (kf_8 X.1)) rfl ?_
                refine wp_iload rfl rfl ?_
                have g15 := H.1
                replace H := H.2
                refine wp_iastore rfl (kf_9 X.1) g15 ?_
                refine wp_aload rfl rfl ?_
                refine wp_getR (r := 9) rfl (congrArg Prod.fst (kf_8 X.1)) rfl ?_
                refine wp_aload rfl rfl ?_
                refine wp_getI (j := 7) rfl (congrArg Prod.fst (kf_8 X.1)) rfl ?_
                refine Wp.topI (y := (h 8 7)) (congrFun (upd2_ne (by decide)) _) ?_
                refine wp_iload rfl rfl ?_
                refine wp_iastore rfl (kf_10 X.1) ⟨g15.1, g15.2⟩ ?_
                refine wp_aload rfl rfl ?_
                refine wp_getR (r := 10) rfl (congrArg Prod.fst (kf_8 X.1)) rfl ?_
                refine wp_aload rfl rfl ?_
                refine wp_getI (j := 7) rfl (congrArg Prod.fst (kf_8 X.1)) rfl ?_
                refine Wp.topI (y := (h 8 7)) (congrFun ((upd2_ne (by decide)).trans (upd2_ne (by decide))) _) ?_
                refine wp_iload rfl rfl ?_
                refine wp_iastore rfl (kf_11 X.1) ⟨g15.1, g15.2⟩ ?_
                refine wp_aload rfl rfl ?_
                refine wp_getR (r := 11) rfl (congrArg Prod.fst (kf_8 X.1)) rfl ?_
                refine wp_aload rfl rfl ?_
                refine wp_getI (j := 7) rfl (congrArg Prod.fst (kf_8 X.1)) rfl ?_
                refine Wp.topI (y := (h 8 7)) (congrFun ((upd2_ne (by decide)).trans ((upd2_ne (by decide)).trans (upd2_ne (by decide)))) _) ?_
                refine wp_iload rfl rfl ?_
                refine wp_iastore rfl (kf_12 X.1) ⟨g15.1, g15.2⟩ ?_
                refine wp_aload rfl rfl ?_
                refine wp_dupR rfl ?_
                refine wp_getI (j := 7) rfl (congrArg Prod.fst (kf_8 X.1)) rfl ?_
                refine Wp.topI (y := (h 8 7)) (congrFun ((upd2_ne (by decide)).trans ((upd2_ne (by decide)).trans ((upd2_ne (by decide)).trans (upd2_ne (by decide))))) _) ?_
                refine wp_iconst rfl ?_
                refine wp_iadd rfl ?_
                refine Wp.topI (y := ((h 8 7) + 1)) (w32_I (by clear H; unfold R32; omega)) ?_
                refine wp_putI (j := 7) rfl (congrArg Prod.fst (kf_8 X.1)) rfl rfl rfl ?_
                refine wp_vret rfl rfl ?_
                show Wp X _ 3 116 [vr 6, zx1, vi x2, vi x3, vr 87, vi x5] [] _ _
                refine wp_iincR (L2 := [vr 6, zx1, vi x2, vi x3, vr 87, vi (x5 + 1)]) rfl rfl (by clear H; unfold R32; omega) rfl ?_
                refine wp_goto (tn := 59) rfl rfl ?_
                exact H
          · replace H := H.2 c12
            refine wp_iconst rfl ?_
            refine wp_goto (tn := 23) rfl rfl ?_
            refine wp_zret rfl rfl (by decide) ?_
            show Wp X _ 227 6 [vr 87, vi x5] [vi 1] _ _
            refine wp_ifeqF (tn := 18) rfl rfl (by decide) ?_
            refine wp_aload rfl rfl ?_
            refine wp_getR (r := 87) rfl (congrArg Prod.fst (kf_87 X.1)) rfl ?_
            refine wp_iload rfl rfl ?_
            refine wp_iaload rfl (kf_88 X.1) ⟨c4, (by clear H; omega)⟩ ?_
            refine wp_goto (tn := 19) rfl rfl ?_
            refine wp_iret rfl rfl ?_
            show Wp X _ 3 92 [vr 6, zx1, vi x2, vi x3, vr 87, vi x5] [vi (h 88 x5)] _ _
            refine wp_call (k := 41) (ρ2 := 1) (L2 := [vi (h 88 x5)]) rfl rfl rfl (Nat.le_of_ble_eq_true rfl) (Nat.le_of_ble_eq_true rfl) (Nat.le_of_ble_eq_true rfl) (rcv_S rfl) rfl ?_
            refine wp_iload rfl rfl ?_
            refine wp_iconst rfl ?_
            refine wp_iconst rfl ?_
            refine wp_call (k := 40) (ρ2 := 0) (L2 := [vi (h 88 x5), vi (-1), vi 999]) rfl rfl rfl (Nat.le_of_ble_eq_true rfl) (Nat.le_of_ble_eq_true rfl) (Nat.le_of_ble_eq_true rfl) (rcv_S rfl) rfl ?_
            refine wp_iload rfl rfl ?_
            refine wp_iload rfl rfl ?_
            refine wp_iclt (tn := 10) rfl rfl (fun c16 => ?_) (fun c16 => ?_)
            · replace H := H.1 c16
              refine wp_iconst rfl ?_
              refine wp_goto (tn := 15) rfl rfl ?_
              refine wp_zret rfl rfl (by decide) ?_
              show Wp X _ 41 8 [vi (h 88 x5)] [vi 1] _ _
              refine wp_ifneT (tn := 15) rfl rfl (by decide) ?_
              refine wp_iconst rfl ?_
              refine wp_zret rfl rfl (by decide) ?_
              show Wp X _ 3 95 [vr 6, zx1, vi x2, vi x3, vr 87, vi x5] [vi 0] _ _
              refine wp_ifeqT (tn := 122) rfl rfl (by decide) ?_
              refine wp_aload rfl rfl ?_
              exact wp_call (k := 32) (ρ2 := 5) (L2 := [vr 6, vu]) rfl rfl rfl (Nat.le_of_ble_eq_true rfl) (Nat.le_of_ble_eq_true rfl) (Nat.le_of_ble_eq_true rfl) (rcv_V rfl (congrArg Prod.fst (kf_6 X.1))) rfl H
            · replace H := H.2 c16
              refine wp_iload rfl rfl ?_
              refine wp_iload rfl rfl ?_
              refine wp_icle (tn := 14) rfl rfl (fun c17 => ?_) (fun c17 => ?_)
              · replace H := H.1 c17
                refine wp_iconst rfl ?_
                refine wp_zret rfl rfl (by decide) ?_
                show Wp X _ 41 8 [vi (h 88 x5)] [vi 0] _ _
                refine wp_ifneF (tn := 15) rfl rfl (by decide) ?_
                refine wp_iconst rfl ?_
                refine wp_goto (tn := 16) rfl rfl ?_
                refine wp_zret rfl rfl (by decide) ?_
                show Wp X _ 3 95 [vr 6, zx1, vi x2, vi x3, vr 87, vi x5] [vi 1] _ _
                refine wp_ifeqF (tn := 122) rfl rfl (by decide) ?_
                refine wp_aload rfl rfl ?_
                refine wp_getR (r := 7) rfl (congrArg Prod.fst (kf_6 X.1)) rfl ?_
                refine wp_iload rfl rfl ?_
                refine wp_iload rfl rfl ?_
                refine wp_aload rfl rfl ?_
                refine wp_iload rfl rfl ?_
                refine wp_call (k := 227) (ρ2 := 1) (L2 := [vr 87, vi x5]) rfl rfl rfl (Nat.le_of_ble_eq_true rfl) (Nat.le_of_ble_eq_true rfl) (Nat.le_of_ble_eq_true rfl) (rcv_V rfl (congrArg Prod.fst (kf_87 X.1))) rfl ?_
                refine wp_aload rfl rfl ?_
                refine wp_iload rfl rfl ?_
                refine wp_iconst rfl ?_
                refine wp_call (k := 226) (ρ2 := 0) (L2 := [vr 87, vi x5, vi 1]) rfl rfl rfl (Nat.le_of_ble_eq_true rfl) (Nat.le_of_ble_eq_true rfl) (Nat.le_of_ble_eq_true rfl) (rcv_V rfl (congrArg Prod.fst (kf_87 X.1))) rfl ?_
                refine wp_iload rfl rfl ?_
                refine wp_ifltF (tn := 22) rfl rfl c4 ?_
                refine wp_iload rfl rfl ?_
                refine wp_ifltF (tn := 22) rfl rfl (by decide) ?_
                refine wp_iload rfl rfl ?_
                refine wp_aload rfl rfl ?_
                refine wp_getI (j := 2) rfl (congrArg Prod.fst (kf_87 X.1)) rfl ?_
                refine wp_iload rfl rfl ?_
                refine wp_isub rfl ?_
                refine Wp.topI (y := ((h 87 2) - 1)) (w32_I g11) ?_
                refine wp_icgtF (tn := 22) rfl rfl c12 ?_
                refine wp_iconst rfl ?_
                refine wp_goto (tn := 23) rfl rfl ?_
                refine wp_zret rfl rfl (by decide) ?_
                show Wp X _ 227 6 [vr 87, vi x5] [vi 1] _ _
                refine wp_ifeqF (tn := 18) rfl rfl (by decide) ?_
                refine wp_aload rfl rfl ?_
                refine wp_getR (r := 87) rfl (congrArg Prod.fst (kf_87 X.1)) rfl ?_
                refine wp_iload rfl rfl ?_
                refine wp_iaload rfl (kf_88 X.1) ⟨c4, (by clear H; omega)⟩ ?_
                refine wp_goto (tn := 19) rfl rfl ?_
                refine wp_iret rfl rfl ?_
                show Wp X _ 3 112 [vr 6, zx1, vi x2, vi x3, vr 87, vi x5] [vi (h 88 x5), vi x5, vi x2, vr 8] _ _
                refine wp_iload rfl rfl ?_
                refine wp_call (k := 153) (ρ2 := 1) (L2 := [vr 8, vi x2, vi x5, vi (h 88 x5), vi x3]) rfl rfl rfl (Nat.le_of_ble_eq_true rfl) (Nat.le_of_ble_eq_true rfl) (Nat.le_of_ble_eq_true rfl) (rcv_V rfl (congrArg Prod.fst (kf_8 X.1))) rfl ?_
                refine wp_aload rfl rfl ?_
                refine wp_iload rfl rfl ?_
                refine wp_call (k := 145) (ρ2 := 0) (L2 := [vr 8, vi x2]) rfl rfl rfl (Nat.le_of_ble_eq_true rfl) (Nat.le_of_ble_eq_true rfl) (Nat.le_of_ble_eq_true rfl) (rcv_V rfl (congrArg Prod.fst (kf_8 X.1))) rfl ?_
                refine wp_iload rfl rfl ?_
                refine wp_iflt (tn := 16) rfl rfl (fun c18 => ?_) (fun c18 => ?_)
                · replace H := H.1 c18
                  refine wp_iconst rfl ?_
                  refine wp_zret rfl rfl (by decide) ?_
                  show Wp X _ 153 5 [vr 8, vi x2, vi x5, vi (h 88 x5), vi x3] [vi 0] _ _
                  refine wp_ifeqT (tn := 66) rfl rfl (by decide) ?_
                  refine wp_vret rfl rfl ?_
                  show Wp X _ 3 116 [vr 6, zx1, vi x2, vi x3, vr 87, vi x5] [] _ _
                  refine wp_iincR (L2 := [vr 6, zx1, vi x2, vi x3, vr 87, vi (x5 + 1)]) rfl rfl (by clear H; unfold R32; omega) rfl ?_
                  refine wp_goto (tn := 59) rfl rfl ?_
                  exact H
                · replace H := H.2 c18
                  refine wp_iload rfl rfl ?_
                  refine wp_aload rfl rfl ?_
                  refine wp_getI (j := 8) rfl (congrArg Prod.fst (kf_8 X.1)) rfl ?_
                  refine wp_icge (tn := 16) rfl rfl (fun c19 => ?_) (fun c19 => ?_)
                  · replace H := H.1 c19
                    refine wp_iconst rfl ?_
                    refine wp_zret rfl rfl (by decide) ?_
                    show Wp X _ 153 5 [vr 8, vi x2, vi x5, vi (h 88 x5), vi x3] [vi 0] _ _
                    refine wp_ifeqT (tn := 66) rfl rfl (by decide) ?_
                    refine wp_vret rfl rfl ?_
                    show Wp X _ 3 116 [vr 6, zx1, vi x2, vi x3, vr 87, vi x5] [] _ _
                    refine wp_iincR (L2 := [vr 6, zx1, vi x2, vi x3, vr 87, vi (x5 + 1)]) rfl rfl (by clear H; unfold R32; omega) rfl ?_
                    refine wp_goto (tn := 59) rfl rfl ?_
                    exact H
                  · replace H := H.2 c19
                    refine wp_iconst rfl ?_
                    refine wp_goto (tn := 17) rfl rfl ?_
                    refine wp_zret rfl rfl (by decide) ?_
                    show Wp X _ 153 5 [vr 8, vi x2, vi x5, vi (h 88 x5), vi x3] [vi 1] _ _
                    refine wp_ifeqF (tn := 66) rfl rfl (by decide) ?_
                    refine wp_aload rfl rfl ?_
                    refine wp_call (k := 146) (ρ2 := 0) (L2 := [vr 8]) rfl rfl rfl (Nat.le_of_ble_eq_true rfl) (Nat.le_of_ble_eq_true rfl) (Nat.le_of_ble_eq_true rfl) (rcv_V rfl (congrArg Prod.fst (kf_8 X.1))) rfl ?_
                    refine wp_aload rfl rfl ?_
                    refine wp_getI (j := 7) rfl (congrArg Prod.fst (kf_8 X.1)) rfl ?_
                    refine wp_iconst rfl ?_
                    refine wp_icgeF (tn := 13) rfl rfl c3 ?_
                    refine wp_iconst rfl ?_
                    refine wp_goto (tn := 14) rfl rfl ?_
                    refine wp_zret rfl rfl (by decide) ?_
                    show Wp X _ 153 12 [vr 8, vi x2, vi x5, vi (h 88 x5), vi x3] [vi 1] _ _
                    refine wp_ifeqF (tn := 66) rfl rfl (by decide) ?_
                    refine wp_aload rfl rfl ?_
                    refine wp_getR (r := 8) rfl (congrArg Prod.fst (kf_8 X.1)) rfl ?_
                    refine wp_aload rfl rfl ?_
                    refine wp_getI (j := 7) rfl (congrArg Prod.fst (kf_8 X.1)) rfl ?_
                    refine wp_iload rfl rfl ?_
                    have g20 := H.1
                    replace H := H.2
                    refine wp_iastore rfl (kf_9 X.1) g20 ?_
                    refine wp_aload rfl rfl ?_
                    refine wp_getR (r := 9) rfl (congrArg Prod.fst (kf_8 X.1)) rfl ?_
                    refine wp_aload rfl rfl ?_
                    refine wp_getI (j := 7) rfl (congrArg Prod.fst (kf_8 X.1)) rfl ?_
                    refine Wp.topI (y := (h 8 7)) (congrFun (upd2_ne (by decide)) _) ?_
                    refine wp_iload rfl rfl ?_
                    refine wp_iastore rfl (kf_10 X.1) ⟨g20.1, g20.2⟩ ?_
                    refine wp_aload rfl rfl ?_
                    refine wp_getR (r := 10) rfl (congrArg Prod.fst (kf_8 X.1)) rfl ?_
                    refine wp_aload rfl rfl ?_
                    refine wp_getI (j := 7) rfl (congrArg Prod.fst (kf_8 X.1)) rfl ?_
                    refine Wp.topI (y := (h 8 7)) (congrFun ((upd2_ne (by decide)).trans (upd2_ne (by decide))) _) ?_
                    refine wp_iload rfl rfl ?_
                    refine wp_iastore rfl (kf_11 X.1) ⟨g20.1, g20.2⟩ ?_
                    refine wp_aload rfl rfl ?_
                    refine wp_getR (r := 11) rfl (congrArg Prod.fst (kf_8 X.1)) rfl ?_
                    refine wp_aload rfl rfl ?_
                    refine wp_getI (j := 7) rfl (congrArg Prod.fst (kf_8 X.1)) rfl ?_
                    refine Wp.topI (y := (h 8 7)) (congrFun ((upd2_ne (by decide)).trans ((upd2_ne (by decide)).trans (upd2_ne (by decide)))) _) ?_
                    refine wp_iload rfl rfl ?_
                    refine wp_iastore rfl (kf_12 X.1) ⟨g20.1, g20.2⟩ ?_
                    refine wp_aload rfl rfl ?_
                    refine wp_dupR rfl ?_
                    refine wp_getI (j := 7) rfl (congrArg Prod.fst (kf_8 X.1)) rfl ?_
                    refine Wp.topI (y := (h 8 7)) (congrFun ((upd2_ne (by decide)).trans ((upd2_ne (by decide)).trans ((upd2_ne (by decide)).trans (upd2_ne (by decide))))) _) ?_
                    refine wp_iconst rfl ?_
                    refine wp_iadd rfl ?_
                    refine Wp.topI (y := ((h 8 7) + 1)) (w32_I (by clear H; unfold R32; omega)) ?_
                    refine wp_putI (j := 7) rfl (congrArg Prod.fst (kf_8 X.1)) rfl rfl rfl ?_
                    refine wp_vret rfl rfl ?_
                    show Wp X _ 3 116 [vr 6, zx1, vi x2, vi x3, vr 87, vi x5] [] _ _
                    refine wp_iincR (L2 := [vr 6, zx1, vi x2, vi x3, vr 87, vi (x5 + 1)]) rfl rfl (by clear H; unfold R32; omega) rfl ?_
                    refine wp_goto (tn := 59) rfl rfl ?_
                    exact H
              · replace H := H.2 c17
                refine wp_iconst rfl ?_
                refine wp_goto (tn := 15) rfl rfl ?_
                refine wp_zret rfl rfl (by decide) ?_
                show Wp X _ 41 8 [vi (h 88 x5)] [vi 1] _ _
                refine wp_ifneT (tn := 15) rfl rfl (by decide) ?_
                refine wp_iconst rfl ?_
                refine wp_zret rfl rfl (by decide) ?_
                show Wp X _ 3 95 [vr 6, zx1, vi x2, vi x3, vr 87, vi x5] [vi 0] _ _
                refine wp_ifeqT (tn := 122) rfl rfl (by decide) ?_
                refine wp_aload rfl rfl ?_
                exact wp_call (k := 32) (ρ2 := 5) (L2 := [vr 6, vu]) rfl rfl rfl (Nat.le_of_ble_eq_true rfl) (Nat.le_of_ble_eq_true rfl) (Nat.le_of_ble_eq_true rfl) (rcv_V rfl (congrArg Prod.fst (kf_6 X.1))) rfl H
/-- WarnLines.read(III)I, from 126 -/
theorem S3_6_126 {X : Nat × (Int → Int)} {h : HP} {Q : bQ} (zx0 : aV) (zx1 : aV) (zx2 : aV) (zx3 : aV) (zx4 : aV) (x5 : Int) (H : Q (some (vi x5)) h) : Wp X 6 3 126 [zx0, zx1, zx2, zx3, zx4, vi x5] [] h Q := by
  refine wp_iload rfl rfl ?_
  exact wp_iret rfl rfl H
/-- WarnLines.set(II)I, from 0 -/
theorem S4_6_0 {X : Nat × (Int → Int)} {h : HP} {Q : bQ} (x1 : Int) (x2 : Int) (H : ((x1 < 0 → Q (some (vi (-5))) h) ∧ (0 ≤ x1 → ((x1 ≤ 9 → ((x2 < (stV 2 x1) → Q (some (vi (-5))) h) ∧ ((stV 2 x1) ≤ x2 → ((x2 ≤ (stV 3 x1) → Wp X 5 32 0 [vr 6, vu] [] (upd2 h 7 x1 x2) (fun v h' => Wp X 6 4 48 [vr 6, vi x1, vi x2, vi (h 7 x1)] (psh v []) h' Q)) ∧ ((stV 3 x1) < x2 → Q (some (vi (-5))) h))))) ∧ (9 < x1 → Q (some (vi (-5))) h))))) : Wp X 6 4 0 [vr 6, vi x1, vi x2, vu] [] h Q := by
  refine wp_iload rfl rfl ?_
  refine wp_iconst rfl ?_
  refine wp_iconst rfl ?_
  refine wp_call (k := 40) (ρ2 := 0) (L2 := [vi x1, vi 0, vi 9]) rfl rfl rfl (Nat.le_of_ble_eq_true rfl) (Nat.le_of_ble_eq_true rfl) (Nat.le_of_ble_eq_true rfl) (rcv_S rfl) rfl ?_
  refine wp_iload rfl rfl ?_
  refine wp_iload rfl rfl ?_
  refine wp_iclt (tn := 10) rfl rfl (fun c1 => ?_) (fun c1 => ?_)
  · replace H := H.1 c1
    refine wp_iconst rfl ?_
    refine wp_goto (tn := 15) rfl rfl ?_
    refine wp_zret rfl rfl (by decide) ?_
    show Wp X _ 4 7 [vr 6, vi x1, vi x2, vu] [vi 1] _ _
    refine wp_ifneT (tn := 27) rfl rfl (by decide) ?_
    refine wp_iconst rfl ?_
    exact wp_iret rfl rfl H
  · replace H := H.2 c1
    refine wp_iload rfl rfl ?_
    refine wp_iload rfl rfl ?_
    refine wp_icle (tn := 14) rfl rfl (fun c2 => ?_) (fun c2 => ?_)
    · replace H := H.1 c2
      refine wp_iconst rfl ?_
      refine wp_zret rfl rfl (by decide) ?_
      show Wp X _ 4 7 [vr 6, vi x1, vi x2, vu] [vi 0] _ _
      refine wp_ifneF (tn := 27) rfl rfl (by decide) ?_
      refine wp_iload rfl rfl ?_
      refine wp_getstatic rfl ?_
      refine wp_iload rfl rfl ?_
      refine wp_ialoadS rfl (kf_2 X.1) ⟨c1, (by clear H; omega)⟩ (by decide) ?_
      refine wp_getstatic rfl ?_
      refine wp_iload rfl rfl ?_
      refine wp_ialoadS rfl (kf_3 X.1) ⟨c1, (by clear H; omega)⟩ (by decide) ?_
      refine wp_call (k := 40) (ρ2 := 0) (L2 := [vi x2, vi (stV 2 x1), vi (stV 3 x1)]) rfl rfl rfl (Nat.le_of_ble_eq_true rfl) (Nat.le_of_ble_eq_true rfl) (Nat.le_of_ble_eq_true rfl) (rcv_S rfl) rfl ?_
      refine wp_iload rfl rfl ?_
      refine wp_iload rfl rfl ?_
      refine wp_iclt (tn := 10) rfl rfl (fun c3 => ?_) (fun c3 => ?_)
      · replace H := H.1 c3
        refine wp_iconst rfl ?_
        refine wp_goto (tn := 15) rfl rfl ?_
        refine wp_zret rfl rfl (by decide) ?_
        show Wp X _ 4 24 [vr 6, vi x1, vi x2, vu] [vi 1] _ _
        refine wp_ifeqF (tn := 30) rfl rfl (by decide) ?_
        refine wp_iconst rfl ?_
        exact wp_iret rfl rfl H
      · replace H := H.2 c3
        refine wp_iload rfl rfl ?_
        refine wp_iload rfl rfl ?_
        refine wp_icle (tn := 14) rfl rfl (fun c4 => ?_) (fun c4 => ?_)
        · replace H := H.1 c4
          refine wp_iconst rfl ?_
          refine wp_zret rfl rfl (by decide) ?_
          show Wp X _ 4 24 [vr 6, vi x1, vi x2, vu] [vi 0] _ _
          refine wp_ifeqT (tn := 30) rfl rfl (by decide) ?_
          refine wp_aload rfl rfl ?_
          refine wp_getR (r := 6) rfl (congrArg Prod.fst (kf_6 X.1)) rfl ?_
          refine wp_iload rfl rfl ?_
          refine wp_iaload rfl (kf_7 X.1) ⟨c1, (by clear H; omega)⟩ ?_
          refine wp_istore (L2 := [vr 6, vi x1, vi x2, vi (h 7 x1)]) rfl (Nat.le_of_ble_eq_true rfl) rfl ?_
          refine wp_aload rfl rfl ?_
          refine wp_getR (r := 6) rfl (congrArg Prod.fst (kf_6 X.1)) rfl ?_
          refine wp_iload rfl rfl ?_
          refine wp_iload rfl rfl ?_
          refine wp_iastore rfl (kf_7 X.1) ⟨c1, (by clear H; omega)⟩ ?_
          refine wp_aload rfl rfl ?_
          exact wp_call (k := 32) (ρ2 := 5) (L2 := [vr 6, vu]) rfl rfl rfl (Nat.le_of_ble_eq_true rfl) (Nat.le_of_ble_eq_true rfl) (Nat.le_of_ble_eq_true rfl) (rcv_V rfl (congrArg Prod.fst (kf_6 X.1))) rfl H
        · replace H := H.2 c4
          refine wp_iconst rfl ?_
          refine wp_goto (tn := 15) rfl rfl ?_
          refine wp_zret rfl rfl (by decide) ?_
          show Wp X _ 4 24 [vr 6, vi x1, vi x2, vu] [vi 1] _ _
          refine wp_ifeqF (tn := 30) rfl rfl (by decide) ?_
          refine wp_iconst rfl ?_
          exact wp_iret rfl rfl H
    · replace H := H.2 c2
      refine wp_iconst rfl ?_
      refine wp_goto (tn := 15) rfl rfl ?_
      refine wp_zret rfl rfl (by decide) ?_
      show Wp X _ 4 7 [vr 6, vi x1, vi x2, vu] [vi 1] _ _
      refine wp_ifneT (tn := 27) rfl rfl (by decide) ?_
      refine wp_iconst rfl ?_
      exact wp_iret rfl rfl H
/-- WarnLines.set(II)I, from 48 -/
theorem S4_6_48 {X : Nat × (Int → Int)} {h : HP} {Q : bQ} (zx0 : aV) (zx1 : aV) (zx2 : aV) (x3 : Int) (H : Q (some (vi x3)) h) : Wp X 6 4 48 [zx0, zx1, zx2, vi x3] [] h Q := by
  refine wp_iload rfl rfl ?_
  exact wp_iret rfl rfl H
/-- WarnLines.value(II)I, from 0 -/
theorem S5_6_0 {X : Nat × (Int → Int)} {h : HP} {Q : bQ} (x1 : Int) (x2 : Int) (H : ((x1 < 0 → Q (some (vi (-2))) h) ∧ (0 ≤ x1 → (((h 8 8) ≤ x1 → Q (some (vi (-2))) h) ∧ (x1 < (h 8 8) → ((x2 < 0 → Q (some (vi (-2))) h) ∧ (0 ≤ x2 → ((x2 ≤ 4 → ((0 ≤ x1 ∧ x1 < 20) ∧ Q (some (vi (h (14 + Int.toNat x1) x2))) h)) ∧ (4 < x2 → Q (some (vi (-2))) h))))))))) : Wp X 2 5 0 [vr 6, vi x1, vi x2] [] h Q := by
  refine wp_aload rfl rfl ?_
  refine wp_getR (r := 7) rfl (congrArg Prod.fst (kf_6 X.1)) rfl ?_
  refine wp_iload rfl rfl ?_
  refine wp_call (k := 145) (ρ2 := 0) (L2 := [vr 8, vi x1]) rfl rfl rfl (Nat.le_of_ble_eq_true rfl) (Nat.le_of_ble_eq_true rfl) (Nat.le_of_ble_eq_true rfl) (rcv_V rfl (congrArg Prod.fst (kf_8 X.1))) rfl ?_
  refine wp_iload rfl rfl ?_
  refine wp_iflt (tn := 16) rfl rfl (fun c1 => ?_) (fun c1 => ?_)
  · replace H := H.1 c1
    refine wp_iconst rfl ?_
    refine wp_zret rfl rfl (by decide) ?_
    show Wp X _ 5 8 [vr 6, vi x1, vi x2] [vi 0] _ _
    refine wp_ifeqT (tn := 20) rfl rfl (by decide) ?_
    refine wp_iconst rfl ?_
    exact wp_iret rfl rfl H
  · replace H := H.2 c1
    refine wp_iload rfl rfl ?_
    refine wp_aload rfl rfl ?_
    refine wp_getI (j := 8) rfl (congrArg Prod.fst (kf_8 X.1)) rfl ?_
    refine wp_icge (tn := 16) rfl rfl (fun c2 => ?_) (fun c2 => ?_)
    · replace H := H.1 c2
      refine wp_iconst rfl ?_
      refine wp_zret rfl rfl (by decide) ?_
      show Wp X _ 5 8 [vr 6, vi x1, vi x2] [vi 0] _ _
      refine wp_ifeqT (tn := 20) rfl rfl (by decide) ?_
      refine wp_iconst rfl ?_
      exact wp_iret rfl rfl H
    · replace H := H.2 c2
      refine wp_iconst rfl ?_
      refine wp_goto (tn := 17) rfl rfl ?_
      refine wp_zret rfl rfl (by decide) ?_
      show Wp X _ 5 8 [vr 6, vi x1, vi x2] [vi 1] _ _
      refine wp_ifeqF (tn := 20) rfl rfl (by decide) ?_
      refine wp_iload rfl rfl ?_
      refine wp_iconst rfl ?_
      refine wp_iconst rfl ?_
      refine wp_call (k := 40) (ρ2 := 0) (L2 := [vi x2, vi 0, vi 4]) rfl rfl rfl (Nat.le_of_ble_eq_true rfl) (Nat.le_of_ble_eq_true rfl) (Nat.le_of_ble_eq_true rfl) (rcv_S rfl) rfl ?_
      refine wp_iload rfl rfl ?_
      refine wp_iload rfl rfl ?_
      refine wp_iclt (tn := 10) rfl rfl (fun c3 => ?_) (fun c3 => ?_)
      · replace H := H.1 c3
        refine wp_iconst rfl ?_
        refine wp_goto (tn := 15) rfl rfl ?_
        refine wp_zret rfl rfl (by decide) ?_
        show Wp X _ 5 17 [vr 6, vi x1, vi x2] [vi 1] _ _
        refine wp_ifeqF (tn := 23) rfl rfl (by decide) ?_
        refine wp_iconst rfl ?_
        exact wp_iret rfl rfl H
      · replace H := H.2 c3
        refine wp_iload rfl rfl ?_
        refine wp_iload rfl rfl ?_
        refine wp_icle (tn := 14) rfl rfl (fun c4 => ?_) (fun c4 => ?_)
        · replace H := H.1 c4
          refine wp_iconst rfl ?_
          refine wp_zret rfl rfl (by decide) ?_
          show Wp X _ 5 17 [vr 6, vi x1, vi x2] [vi 0] _ _
          refine wp_ifeqT (tn := 23) rfl rfl (by decide) ?_
          refine wp_aload rfl rfl ?_
          refine wp_getR (r := 7) rfl (congrArg Prod.fst (kf_6 X.1)) rfl ?_
          refine wp_iload rfl rfl ?_
          refine wp_iload rfl rfl ?_
          refine wp_call (k := 148) (ρ2 := 1) (L2 := [vr 8, vi x1, vi x2]) rfl rfl rfl (Nat.le_of_ble_eq_true rfl) (Nat.le_of_ble_eq_true rfl) (Nat.le_of_ble_eq_true rfl) (rcv_V rfl (congrArg Prod.fst (kf_8 X.1))) rfl ?_
          refine wp_aload rfl rfl ?_
          refine wp_iload rfl rfl ?_
          refine wp_call (k := 145) (ρ2 := 0) (L2 := [vr 8, vi x1]) rfl rfl rfl (Nat.le_of_ble_eq_true rfl) (Nat.le_of_ble_eq_true rfl) (Nat.le_of_ble_eq_true rfl) (rcv_V rfl (congrArg Prod.fst (kf_8 X.1))) rfl ?_
          refine wp_iload rfl rfl ?_
          refine wp_ifltF (tn := 16) rfl rfl c1 ?_
          refine wp_iload rfl rfl ?_
          refine wp_aload rfl rfl ?_
          refine wp_getI (j := 8) rfl (congrArg Prod.fst (kf_8 X.1)) rfl ?_
          refine wp_icgeF (tn := 16) rfl rfl c2 ?_
          refine wp_iconst rfl ?_
          refine wp_goto (tn := 17) rfl rfl ?_
          refine wp_zret rfl rfl (by decide) ?_
          show Wp X _ 148 5 [vr 8, vi x1, vi x2] [vi 1] _ _
          refine wp_ifeqF (tn := 28) rfl rfl (by decide) ?_
          refine wp_iload rfl rfl ?_
          refine wp_ifltF (tn := 28) rfl rfl c3 ?_
          refine wp_iload rfl rfl ?_
          refine wp_iconst rfl ?_
          refine wp_icgeF (tn := 28) rfl rfl (by clear H; omega) ?_
          refine wp_aload rfl rfl ?_
          refine wp_getR (r := 12) rfl (congrArg Prod.fst (kf_8 X.1)) rfl ?_
          refine wp_iload rfl rfl ?_
          have g5 := H.1
          replace H := H.2
          refine wp_known rfl g5 ?_
          refine wp_iload rfl rfl ?_
          refine wp_iaload rfl (kf_kn (by clear H; omega)) ⟨c3, (by clear H; omega)⟩ ?_
          refine wp_goto (tn := 29) rfl rfl ?_
          refine wp_iret rfl rfl ?_
          show Wp X _ 5 32 [vr 6, vi x1, vi x2] [vi (h (14 + Int.toNat x1) x2)] _ _
          exact wp_iret rfl rfl H
        · replace H := H.2 c4
          refine wp_iconst rfl ?_
          refine wp_goto (tn := 15) rfl rfl ?_
          refine wp_zret rfl rfl (by decide) ?_
          show Wp X _ 5 17 [vr 6, vi x1, vi x2] [vi 1] _ _
          refine wp_ifeqF (tn := 23) rfl rfl (by decide) ?_
          refine wp_iconst rfl ?_
          exact wp_iret rfl rfl H
/-- WarnLines.of(III)J, from 0 -/
theorem S6_6_0 {X : Nat × (Int → Int)} {h : HP} {Q : bQ} (x1 : Int) (x2 : Int) (x3 : Int) (H : ((x1 < 0 → Q (some (vl (-9223372036854775806))) h) ∧ (0 ≤ x1 → (((h 8 8) ≤ x1 → Q (some (vl (-9223372036854775806))) h) ∧ (x1 < (h 8 8) → ((x2 < 0 → Q (some (vl (-9223372036854775806))) h) ∧ (0 ≤ x2 → ((x2 ≤ 1 → ((x3 < 0 → Q (some (vl (-9223372036854775806))) h) ∧ (0 ≤ x3 → ((x3 ≤ 1 → ((0 ≤ x1 ∧ x1 < 20) ∧ (((h 34 x1) ≠ (-1) → ((x2 ≠ 0 → Wp X 1 45 0 [vl (h 35 x1), vu, vl 1, vu, vi x3, vu, vu] [] h (fun v h' => Wp X 2 6 89 [vr 6, vi x1, vi x2, vi x3] (psh v []) h' Q)) ∧ (x2 = 0 → Wp X 1 45 0 [vl (h 34 x1), vu, vl 60, vu, vi x3, vu, vu] [] h (fun v h' => Wp X 2 6 72 [vr 6, vi x1, vi x2, vi x3] (psh v []) h' Q)))) ∧ ((h 34 x1) = (-1) → Q (some (vl (-9223372036854775805))) h)))) ∧ (1 < x3 → Q (some (vl (-9223372036854775806))) h))))) ∧ (1 < x2 → Q (some (vl (-9223372036854775806))) h))))))))) : Wp X 2 6 0 [vr 6, vi x1, vi x2, vi x3] [] h Q := by
  refine wp_aload rfl rfl ?_
  refine wp_getR (r := 7) rfl (congrArg Prod.fst (kf_6 X.1)) rfl ?_
  refine wp_iload rfl rfl ?_
  refine wp_call (k := 145) (ρ2 := 0) (L2 := [vr 8, vi x1]) rfl rfl rfl (Nat.le_of_ble_eq_true rfl) (Nat.le_of_ble_eq_true rfl) (Nat.le_of_ble_eq_true rfl) (rcv_V rfl (congrArg Prod.fst (kf_8 X.1))) rfl ?_
  refine wp_iload rfl rfl ?_
  refine wp_iflt (tn := 16) rfl rfl (fun c1 => ?_) (fun c1 => ?_)
  · replace H := H.1 c1
    refine wp_iconst rfl ?_
    refine wp_zret rfl rfl (by decide) ?_
    show Wp X _ 6 8 [vr 6, vi x1, vi x2, vi x3] [vi 0] _ _
    refine wp_ifeqT (tn := 29) rfl rfl (by decide) ?_
    refine wp_iconst rfl ?_
    refine wp_call (k := 39) (ρ2 := 0) (L2 := [vi (-2)]) rfl rfl rfl (Nat.le_of_ble_eq_true rfl) (Nat.le_of_ble_eq_true rfl) (Nat.le_of_ble_eq_true rfl) (rcv_S rfl) rfl ?_
    refine wp_sipush rfl ?_
    refine wp_iload rfl rfl ?_
    refine wp_i2l rfl ?_
    refine wp_lsub rfl ?_
    refine Wp.topL (y := (-9223372036854775806)) (by decide) ?_
    refine wp_lret rfl rfl ?_
    show Wp X _ 6 34 [vr 6, vi x1, vi x2, vi x3] [vl (-9223372036854775806)] _ _
    exact wp_lret rfl rfl H
  · replace H := H.2 c1
    refine wp_iload rfl rfl ?_
    refine wp_aload rfl rfl ?_
    refine wp_getI (j := 8) rfl (congrArg Prod.fst (kf_8 X.1)) rfl ?_
    refine wp_icge (tn := 16) rfl rfl (fun c2 => ?_) (fun c2 => ?_)
    · replace H := H.1 c2
      refine wp_iconst rfl ?_
      refine wp_zret rfl rfl (by decide) ?_
      show Wp X _ 6 8 [vr 6, vi x1, vi x2, vi x3] [vi 0] _ _
      refine wp_ifeqT (tn := 29) rfl rfl (by decide) ?_
      refine wp_iconst rfl ?_
      refine wp_call (k := 39) (ρ2 := 0) (L2 := [vi (-2)]) rfl rfl rfl (Nat.le_of_ble_eq_true rfl) (Nat.le_of_ble_eq_true rfl) (Nat.le_of_ble_eq_true rfl) (rcv_S rfl) rfl ?_
      refine wp_sipush rfl ?_
      refine wp_iload rfl rfl ?_
      refine wp_i2l rfl ?_
      refine wp_lsub rfl ?_
      refine Wp.topL (y := (-9223372036854775806)) (by decide) ?_
      refine wp_lret rfl rfl ?_
      show Wp X _ 6 34 [vr 6, vi x1, vi x2, vi x3] [vl (-9223372036854775806)] _ _
      exact wp_lret rfl rfl H
    · replace H := H.2 c2
      refine wp_iconst rfl ?_
      refine wp_goto (tn := 17) rfl rfl ?_
      refine wp_zret rfl rfl (by decide) ?_
      show Wp X _ 6 8 [vr 6, vi x1, vi x2, vi x3] [vi 1] _ _
      refine wp_ifeqF (tn := 29) rfl rfl (by decide) ?_
      refine wp_iload rfl rfl ?_
      refine wp_iconst rfl ?_
      refine wp_iconst rfl ?_
      refine wp_call (k := 40) (ρ2 := 0) (L2 := [vi x2, vi 0, vi 1]) rfl rfl rfl (Nat.le_of_ble_eq_true rfl) (Nat.le_of_ble_eq_true rfl) (Nat.le_of_ble_eq_true rfl) (rcv_S rfl) rfl ?_
      refine wp_iload rfl rfl ?_
      refine wp_iload rfl rfl ?_
      refine wp_iclt (tn := 10) rfl rfl (fun c3 => ?_) (fun c3 => ?_)
      · replace H := H.1 c3
        refine wp_iconst rfl ?_
        refine wp_goto (tn := 15) rfl rfl ?_
        refine wp_zret rfl rfl (by decide) ?_
        show Wp X _ 6 17 [vr 6, vi x1, vi x2, vi x3] [vi 1] _ _
        refine wp_ifneT (tn := 29) rfl rfl (by decide) ?_
        refine wp_iconst rfl ?_
        refine wp_call (k := 39) (ρ2 := 0) (L2 := [vi (-2)]) rfl rfl rfl (Nat.le_of_ble_eq_true rfl) (Nat.le_of_ble_eq_true rfl) (Nat.le_of_ble_eq_true rfl) (rcv_S rfl) rfl ?_
        refine wp_sipush rfl ?_
        refine wp_iload rfl rfl ?_
        refine wp_i2l rfl ?_
        refine wp_lsub rfl ?_
        refine Wp.topL (y := (-9223372036854775806)) (by decide) ?_
        refine wp_lret rfl rfl ?_
        show Wp X _ 6 34 [vr 6, vi x1, vi x2, vi x3] [vl (-9223372036854775806)] _ _
        exact wp_lret rfl rfl H
      · replace H := H.2 c3
        refine wp_iload rfl rfl ?_
        refine wp_iload rfl rfl ?_
        refine wp_icle (tn := 14) rfl rfl (fun c4 => ?_) (fun c4 => ?_)
        · replace H := H.1 c4
          refine wp_iconst rfl ?_
          refine wp_zret rfl rfl (by decide) ?_
          show Wp X _ 6 17 [vr 6, vi x1, vi x2, vi x3] [vi 0] _ _
          refine wp_ifneF (tn := 29) rfl rfl (by decide) ?_
          refine wp_iload rfl rfl ?_
          refine wp_iconst rfl ?_
          refine wp_iconst rfl ?_
          refine wp_call (k := 40) (ρ2 := 0) (L2 := [vi x3, vi 0, vi 1]) rfl rfl rfl (Nat.le_of_ble_eq_true rfl) (Nat.le_of_ble_eq_true rfl) (Nat.le_of_ble_eq_true rfl) (rcv_S rfl) rfl ?_
          refine wp_iload rfl rfl ?_
          refine wp_iload rfl rfl ?_
          refine wp_iclt (tn := 10) rfl rfl (fun c5 => ?_) (fun c5 => ?_)
          · replace H := H.1 c5
            refine wp_iconst rfl ?_
            refine wp_goto (tn := 15) rfl rfl ?_
            refine wp_zret rfl rfl (by decide) ?_
            show Wp X _ 6 26 [vr 6, vi x1, vi x2, vi x3] [vi 1] _ _
            refine wp_ifeqF (tn := 35) rfl rfl (by decide) ?_
            refine wp_iconst rfl ?_
            refine wp_call (k := 39) (ρ2 := 0) (L2 := [vi (-2)]) rfl rfl rfl (Nat.le_of_ble_eq_true rfl) (Nat.le_of_ble_eq_true rfl) (Nat.le_of_ble_eq_true rfl) (rcv_S rfl) rfl ?_
            refine wp_sipush rfl ?_
            refine wp_iload rfl rfl ?_
            refine wp_i2l rfl ?_
            refine wp_lsub rfl ?_
            refine Wp.topL (y := (-9223372036854775806)) (by decide) ?_
            refine wp_lret rfl rfl ?_
            show Wp X _ 6 34 [vr 6, vi x1, vi x2, vi x3] [vl (-9223372036854775806)] _ _
            exact wp_lret rfl rfl H
          · replace H := H.2 c5
            refine wp_iload rfl rfl ?_
            refine wp_iload rfl rfl ?_
            refine wp_icle (tn := 14) rfl rfl (fun c6 => ?_) (fun c6 => ?_)
            · replace H := H.1 c6
              refine wp_iconst rfl ?_
              refine wp_zret rfl rfl (by decide) ?_
              show Wp X _ 6 26 [vr 6, vi x1, vi x2, vi x3] [vi 0] _ _
              refine wp_ifeqT (tn := 35) rfl rfl (by decide) ?_
              refine wp_aload rfl rfl ?_
              refine wp_getR (r := 7) rfl (congrArg Prod.fst (kf_6 X.1)) rfl ?_
              refine wp_iload rfl rfl ?_
              refine wp_call (k := 149) (ρ2 := 1) (L2 := [vr 8, vi x1]) rfl rfl rfl (Nat.le_of_ble_eq_true rfl) (Nat.le_of_ble_eq_true rfl) (Nat.le_of_ble_eq_true rfl) (rcv_V rfl (congrArg Prod.fst (kf_8 X.1))) rfl ?_
              refine wp_aload rfl rfl ?_
              refine wp_iload rfl rfl ?_
              refine wp_call (k := 145) (ρ2 := 0) (L2 := [vr 8, vi x1]) rfl rfl rfl (Nat.le_of_ble_eq_true rfl) (Nat.le_of_ble_eq_true rfl) (Nat.le_of_ble_eq_true rfl) (rcv_V rfl (congrArg Prod.fst (kf_8 X.1))) rfl ?_
              refine wp_iload rfl rfl ?_
              refine wp_ifltF (tn := 16) rfl rfl c1 ?_
              refine wp_iload rfl rfl ?_
              refine wp_aload rfl rfl ?_
              refine wp_getI (j := 8) rfl (congrArg Prod.fst (kf_8 X.1)) rfl ?_
              refine wp_icgeF (tn := 16) rfl rfl c2 ?_
              refine wp_iconst rfl ?_
              refine wp_goto (tn := 17) rfl rfl ?_
              refine wp_zret rfl rfl (by decide) ?_
              show Wp X _ 149 5 [vr 8, vi x1] [vi 1] _ _
              refine wp_ifeqF (tn := 18) rfl rfl (by decide) ?_
              refine wp_aload rfl rfl ?_
              refine wp_getR (r := 33) rfl (congrArg Prod.fst (kf_8 X.1)) rfl ?_
              refine wp_iload rfl rfl ?_
              have g7 := H.1
              replace H := H.2
              refine wp_iaload rfl (kf_34 X.1) g7 ?_
              refine wp_iconst rfl ?_
              refine wp_icne (tn := 22) rfl rfl (fun c8 => ?_) (fun c8 => ?_)
              · replace H := H.1 c8
                refine wp_iconst rfl ?_
                refine wp_zret rfl rfl (by decide) ?_
                show Wp X _ 6 43 [vr 6, vi x1, vi x2, vi x3] [vi 0] _ _
                refine wp_ifeqT (tn := 52) rfl rfl (by decide) ?_
                refine wp_iload rfl rfl ?_
                refine wp_ifne (tn := 75) rfl rfl (fun c9 => ?_) (fun c9 => ?_)
                · replace H := H.1 c9
                  refine wp_aload rfl rfl ?_
                  refine wp_getR (r := 7) rfl (congrArg Prod.fst (kf_6 X.1)) rfl ?_
                  refine wp_iload rfl rfl ?_
                  refine wp_call (k := 151) (ρ2 := 1) (L2 := [vr 8, vi x1]) rfl rfl rfl (Nat.le_of_ble_eq_true rfl) (Nat.le_of_ble_eq_true rfl) (Nat.le_of_ble_eq_true rfl) (rcv_V rfl (congrArg Prod.fst (kf_8 X.1))) rfl ?_
                  refine wp_aload rfl rfl ?_
                  refine wp_iload rfl rfl ?_
                  refine wp_call (k := 145) (ρ2 := 0) (L2 := [vr 8, vi x1]) rfl rfl rfl (Nat.le_of_ble_eq_true rfl) (Nat.le_of_ble_eq_true rfl) (Nat.le_of_ble_eq_true rfl) (rcv_V rfl (congrArg Prod.fst (kf_8 X.1))) rfl ?_
                  refine wp_iload rfl rfl ?_
                  refine wp_ifltF (tn := 16) rfl rfl g7.1 ?_
                  refine wp_iload rfl rfl ?_
                  refine wp_aload rfl rfl ?_
                  refine wp_getI (j := 8) rfl (congrArg Prod.fst (kf_8 X.1)) rfl ?_
                  refine wp_icgeF (tn := 16) rfl rfl c2 ?_
                  refine wp_iconst rfl ?_
                  refine wp_goto (tn := 17) rfl rfl ?_
                  refine wp_zret rfl rfl (by decide) ?_
                  show Wp X _ 151 5 [vr 8, vi x1] [vi 1] _ _
                  refine wp_ifeqF (tn := 17) rfl rfl (by decide) ?_
                  refine wp_aload rfl rfl ?_
                  refine wp_getR (r := 34) rfl (congrArg Prod.fst (kf_8 X.1)) rfl ?_
                  refine wp_iload rfl rfl ?_
                  refine wp_iaload rfl (kf_35 X.1) ⟨g7.1, g7.2⟩ ?_
                  refine wp_goto (tn := 18) rfl rfl ?_
                  refine wp_iret rfl rfl ?_
                  show Wp X _ 6 83 [vr 6, vi x1, vi x2, vi x3] [vi (h 35 x1)] _ _
                  refine wp_i2l rfl ?_
                  refine wp_sipush rfl ?_
                  refine wp_iload rfl rfl ?_
                  exact wp_call (k := 45) (ρ2 := 1) (L2 := [vl (h 35 x1), vu, vl 1, vu, vi x3, vu, vu]) rfl rfl rfl (Nat.le_of_ble_eq_true rfl) (Nat.le_of_ble_eq_true rfl) (Nat.le_of_ble_eq_true rfl) (rcv_S rfl) rfl H
                · replace H := H.2 c9
                  refine wp_aload rfl rfl ?_
                  refine wp_getR (r := 7) rfl (congrArg Prod.fst (kf_6 X.1)) rfl ?_
                  refine wp_iload rfl rfl ?_
                  refine wp_call (k := 150) (ρ2 := 1) (L2 := [vr 8, vi x1]) rfl rfl rfl (Nat.le_of_ble_eq_true rfl) (Nat.le_of_ble_eq_true rfl) (Nat.le_of_ble_eq_true rfl) (rcv_V rfl (congrArg Prod.fst (kf_8 X.1))) rfl ?_
                  refine wp_aload rfl rfl ?_
                  refine wp_iload rfl rfl ?_
                  refine wp_call (k := 145) (ρ2 := 0) (L2 := [vr 8, vi x1]) rfl rfl rfl (Nat.le_of_ble_eq_true rfl) (Nat.le_of_ble_eq_true rfl) (Nat.le_of_ble_eq_true rfl) (rcv_V rfl (congrArg Prod.fst (kf_8 X.1))) rfl ?_
                  refine wp_iload rfl rfl ?_
                  refine wp_ifltF (tn := 16) rfl rfl g7.1 ?_
                  refine wp_iload rfl rfl ?_
                  refine wp_aload rfl rfl ?_
                  refine wp_getI (j := 8) rfl (congrArg Prod.fst (kf_8 X.1)) rfl ?_
                  refine wp_icgeF (tn := 16) rfl rfl c2 ?_
                  refine wp_iconst rfl ?_
                  refine wp_goto (tn := 17) rfl rfl ?_
                  refine wp_zret rfl rfl (by decide) ?_
                  show Wp X _ 150 5 [vr 8, vi x1] [vi 1] _ _
                  refine wp_ifeqF (tn := 17) rfl rfl (by decide) ?_
                  refine wp_aload rfl rfl ?_
                  refine wp_getR (r := 33) rfl (congrArg Prod.fst (kf_8 X.1)) rfl ?_
                  refine wp_iload rfl rfl ?_
                  refine wp_iaload rfl (kf_34 X.1) ⟨g7.1, g7.2⟩ ?_
                  refine wp_goto (tn := 18) rfl rfl ?_
                  refine wp_iret rfl rfl ?_
                  show Wp X _ 6 64 [vr 6, vi x1, vi x2, vi x3] [vi (h 34 x1)] _ _
                  refine wp_i2l rfl ?_
                  refine wp_sipush rfl ?_
                  refine wp_iload rfl rfl ?_
                  exact wp_call (k := 45) (ρ2 := 1) (L2 := [vl (h 34 x1), vu, vl 60, vu, vi x3, vu, vu]) rfl rfl rfl (Nat.le_of_ble_eq_true rfl) (Nat.le_of_ble_eq_true rfl) (Nat.le_of_ble_eq_true rfl) (rcv_S rfl) rfl H
              · replace H := H.2 c8
                refine wp_iconst rfl ?_
                refine wp_goto (tn := 23) rfl rfl ?_
                refine wp_zret rfl rfl (by decide) ?_
                show Wp X _ 6 43 [vr 6, vi x1, vi x2, vi x3] [vi 1] _ _
                refine wp_ifeqF (tn := 52) rfl rfl (by decide) ?_
                refine wp_iconst rfl ?_
                refine wp_call (k := 39) (ρ2 := 0) (L2 := [vi (-3)]) rfl rfl rfl (Nat.le_of_ble_eq_true rfl) (Nat.le_of_ble_eq_true rfl) (Nat.le_of_ble_eq_true rfl) (rcv_S rfl) rfl ?_
                refine wp_sipush rfl ?_
                refine wp_iload rfl rfl ?_
                refine wp_i2l rfl ?_
                refine wp_lsub rfl ?_
                refine Wp.topL (y := (-9223372036854775805)) (by decide) ?_
                refine wp_lret rfl rfl ?_
                show Wp X _ 6 51 [vr 6, vi x1, vi x2, vi x3] [vl (-9223372036854775805)] _ _
                exact wp_lret rfl rfl H
            · replace H := H.2 c6
              refine wp_iconst rfl ?_
              refine wp_goto (tn := 15) rfl rfl ?_
              refine wp_zret rfl rfl (by decide) ?_
              show Wp X _ 6 26 [vr 6, vi x1, vi x2, vi x3] [vi 1] _ _
              refine wp_ifeqF (tn := 35) rfl rfl (by decide) ?_
              refine wp_iconst rfl ?_
              refine wp_call (k := 39) (ρ2 := 0) (L2 := [vi (-2)]) rfl rfl rfl (Nat.le_of_ble_eq_true rfl) (Nat.le_of_ble_eq_true rfl) (Nat.le_of_ble_eq_true rfl) (rcv_S rfl) rfl ?_
              refine wp_sipush rfl ?_
              refine wp_iload rfl rfl ?_
              refine wp_i2l rfl ?_
              refine wp_lsub rfl ?_
              refine Wp.topL (y := (-9223372036854775806)) (by decide) ?_
              refine wp_lret rfl rfl ?_
              show Wp X _ 6 34 [vr 6, vi x1, vi x2, vi x3] [vl (-9223372036854775806)] _ _
              exact wp_lret rfl rfl H
        · replace H := H.2 c4
          refine wp_iconst rfl ?_
          refine wp_goto (tn := 15) rfl rfl ?_
          refine wp_zret rfl rfl (by decide) ?_
          show Wp X _ 6 17 [vr 6, vi x1, vi x2, vi x3] [vi 1] _ _
          refine wp_ifneT (tn := 29) rfl rfl (by decide) ?_
          refine wp_iconst rfl ?_
          refine wp_call (k := 39) (ρ2 := 0) (L2 := [vi (-2)]) rfl rfl rfl (Nat.le_of_ble_eq_true rfl) (Nat.le_of_ble_eq_true rfl) (Nat.le_of_ble_eq_true rfl) (rcv_S rfl) rfl ?_
          refine wp_sipush rfl ?_
          refine wp_iload rfl rfl ?_
          refine wp_i2l rfl ?_
          refine wp_lsub rfl ?_
          refine Wp.topL (y := (-9223372036854775806)) (by decide) ?_
          refine wp_lret rfl rfl ?_
          show Wp X _ 6 34 [vr 6, vi x1, vi x2, vi x3] [vl (-9223372036854775806)] _ _
          exact wp_lret rfl rfl H
/-- WarnLines.of(III)J, from 72 -/
theorem S6_6_72 {X : Nat × (Int → Int)} {h : HP} {Q : bQ} (zx0 : aV) (zx1 : aV) (zx2 : aV) (zx3 : aV) (s0 : Int) (H : Wp X 2 6 89 [zx0, zx1, zx2, zx3] [vl s0] h Q) : Wp X 2 6 72 [zx0, zx1, zx2, zx3] [vl s0] h Q := by
  refine wp_goto (tn := 89) rfl rfl ?_
  exact H
/-- WarnLines.of(III)J, from 89 -/
theorem S6_6_89 {X : Nat × (Int → Int)} {h : HP} {Q : bQ} (zx0 : aV) (zx1 : aV) (zx2 : aV) (zx3 : aV) (s0 : Int) (H : Q (some (vl s0)) h) : Wp X 2 6 89 [zx0, zx1, zx2, zx3] [vl s0] h Q := by
  exact wp_lret rfl rfl H
/-- WarnLines.base(II)J, from 0 -/
theorem S7_6_0 {X : Nat × (Int → Int)} {h : HP} {Q : bQ} (x1 : Int) (x2 : Int) (H : ((x1 < 0 → Q (some (vl (-9223372036854775806))) h) ∧ (0 ≤ x1 → ((x1 ≤ 1 → ((x2 < 0 → Q (some (vl (-9223372036854775806))) h) ∧ (0 ≤ x2 → ((x2 ≤ 1 → (((h 36 0) ≤ 0 → Q (some (vl (-9223372036854775805))) h) ∧ (0 < (h 36 0) → ((x1 ≠ 0 → ((R32 ((h 36 2) * (h 36 3))) ∧ ((R32 (300 * (h 36 0))) ∧ Wp X 1 45 0 [vl ((h 36 2) * (h 36 3)), vu, vl (300 * (h 36 0)), vu, vi x2, vu, vu] [] h (fun v h' => Wp X 2 7 87 [vr 6, vi x1, vi x2] (psh v []) h' Q)))) ∧ (x1 = 0 → ((R32 (60 * (h 36 0))) ∧ Wp X 1 45 0 [vl (h 36 1), vu, vl (60 * (h 36 0)), vu, vi x2, vu, vu] [] h (fun v h' => Wp X 2 7 64 [vr 6, vi x1, vi x2] (psh v []) h' Q))))))) ∧ (1 < x2 → Q (some (vl (-9223372036854775806))) h))))) ∧ (1 < x1 → Q (some (vl (-9223372036854775806))) h))))) : Wp X 2 7 0 [vr 6, vi x1, vi x2] [] h Q := by
  refine wp_iload rfl rfl ?_
  refine wp_iconst rfl ?_
  refine wp_iconst rfl ?_
  refine wp_call (k := 40) (ρ2 := 0) (L2 := [vi x1, vi 0, vi 1]) rfl rfl rfl (Nat.le_of_ble_eq_true rfl) (Nat.le_of_ble_eq_true rfl) (Nat.le_of_ble_eq_true rfl) (rcv_S rfl) rfl ?_
  refine wp_iload rfl rfl ?_
  refine wp_iload rfl rfl ?_
  refine wp_iclt (tn := 10) rfl rfl (fun c1 => ?_) (fun c1 => ?_)
  · replace H := H.1 c1
    refine wp_iconst rfl ?_
    refine wp_goto (tn := 15) rfl rfl ?_
    refine wp_zret rfl rfl (by decide) ?_
    show Wp X _ 7 6 [vr 6, vi x1, vi x2] [vi 1] _ _
    refine wp_ifneT (tn := 18) rfl rfl (by decide) ?_
    refine wp_iconst rfl ?_
    refine wp_call (k := 39) (ρ2 := 0) (L2 := [vi (-2)]) rfl rfl rfl (Nat.le_of_ble_eq_true rfl) (Nat.le_of_ble_eq_true rfl) (Nat.le_of_ble_eq_true rfl) (rcv_S rfl) rfl ?_
    refine wp_sipush rfl ?_
    refine wp_iload rfl rfl ?_
    refine wp_i2l rfl ?_
    refine wp_lsub rfl ?_
    refine Wp.topL (y := (-9223372036854775806)) (by decide) ?_
    refine wp_lret rfl rfl ?_
    show Wp X _ 7 23 [vr 6, vi x1, vi x2] [vl (-9223372036854775806)] _ _
    exact wp_lret rfl rfl H
  · replace H := H.2 c1
    refine wp_iload rfl rfl ?_
    refine wp_iload rfl rfl ?_
    refine wp_icle (tn := 14) rfl rfl (fun c2 => ?_) (fun c2 => ?_)
    · replace H := H.1 c2
      refine wp_iconst rfl ?_
      refine wp_zret rfl rfl (by decide) ?_
      show Wp X _ 7 6 [vr 6, vi x1, vi x2] [vi 0] _ _
      refine wp_ifneF (tn := 18) rfl rfl (by decide) ?_
      refine wp_iload rfl rfl ?_
      refine wp_iconst rfl ?_
      refine wp_iconst rfl ?_
      refine wp_call (k := 40) (ρ2 := 0) (L2 := [vi x2, vi 0, vi 1]) rfl rfl rfl (Nat.le_of_ble_eq_true rfl) (Nat.le_of_ble_eq_true rfl) (Nat.le_of_ble_eq_true rfl) (rcv_S rfl) rfl ?_
      refine wp_iload rfl rfl ?_
      refine wp_iload rfl rfl ?_
      refine wp_iclt (tn := 10) rfl rfl (fun c3 => ?_) (fun c3 => ?_)
      · replace H := H.1 c3
        refine wp_iconst rfl ?_
        refine wp_goto (tn := 15) rfl rfl ?_
        refine wp_zret rfl rfl (by decide) ?_
        show Wp X _ 7 15 [vr 6, vi x1, vi x2] [vi 1] _ _
        refine wp_ifeqF (tn := 24) rfl rfl (by decide) ?_
        refine wp_iconst rfl ?_
        refine wp_call (k := 39) (ρ2 := 0) (L2 := [vi (-2)]) rfl rfl rfl (Nat.le_of_ble_eq_true rfl) (Nat.le_of_ble_eq_true rfl) (Nat.le_of_ble_eq_true rfl) (rcv_S rfl) rfl ?_
        refine wp_sipush rfl ?_
        refine wp_iload rfl rfl ?_
        refine wp_i2l rfl ?_
        refine wp_lsub rfl ?_
        refine Wp.topL (y := (-9223372036854775806)) (by decide) ?_
        refine wp_lret rfl rfl ?_
        show Wp X _ 7 23 [vr 6, vi x1, vi x2] [vl (-9223372036854775806)] _ _
        exact wp_lret rfl rfl H
      · replace H := H.2 c3
        refine wp_iload rfl rfl ?_
        refine wp_iload rfl rfl ?_
        refine wp_icle (tn := 14) rfl rfl (fun c4 => ?_) (fun c4 => ?_)
        · replace H := H.1 c4
          refine wp_iconst rfl ?_
          refine wp_zret rfl rfl (by decide) ?_
          show Wp X _ 7 15 [vr 6, vi x1, vi x2] [vi 0] _ _
          refine wp_ifeqT (tn := 24) rfl rfl (by decide) ?_
          refine wp_aload rfl rfl ?_
          refine wp_getR (r := 35) rfl (congrArg Prod.fst (kf_6 X.1)) rfl ?_
          refine wp_call (k := 159) (ρ2 := 0) (L2 := [vr 36]) rfl rfl rfl (Nat.le_of_ble_eq_true rfl) (Nat.le_of_ble_eq_true rfl) (Nat.le_of_ble_eq_true rfl) (rcv_V rfl (congrArg Prod.fst (kf_36 X.1))) rfl ?_
          refine wp_aload rfl rfl ?_
          refine wp_getI (j := 0) rfl (congrArg Prod.fst (kf_36 X.1)) rfl ?_
          refine wp_ifle (tn := 11) rfl rfl (fun c5 => ?_) (fun c5 => ?_)
          · replace H := H.1 c5
            refine wp_iconst rfl ?_
            refine wp_zret rfl rfl (by decide) ?_
            show Wp X _ 7 31 [vr 6, vi x1, vi x2] [vi 0] _ _
            refine wp_ifneF (tn := 40) rfl rfl (by decide) ?_
            refine wp_iconst rfl ?_
            refine wp_call (k := 39) (ρ2 := 0) (L2 := [vi (-3)]) rfl rfl rfl (Nat.le_of_ble_eq_true rfl) (Nat.le_of_ble_eq_true rfl) (Nat.le_of_ble_eq_true rfl) (rcv_S rfl) rfl ?_
            refine wp_sipush rfl ?_
            refine wp_iload rfl rfl ?_
            refine wp_i2l rfl ?_
            refine wp_lsub rfl ?_
            refine Wp.topL (y := (-9223372036854775805)) (by decide) ?_
            refine wp_lret rfl rfl ?_
            show Wp X _ 7 39 [vr 6, vi x1, vi x2] [vl (-9223372036854775805)] _ _
            exact wp_lret rfl rfl H
          · replace H := H.2 c5
            refine wp_iconst rfl ?_
            refine wp_goto (tn := 12) rfl rfl ?_
            refine wp_zret rfl rfl (by decide) ?_
            show Wp X _ 7 31 [vr 6, vi x1, vi x2] [vi 1] _ _
            refine wp_ifneT (tn := 40) rfl rfl (by decide) ?_
            refine wp_iload rfl rfl ?_
            refine wp_ifne (tn := 67) rfl rfl (fun c6 => ?_) (fun c6 => ?_)
            · replace H := H.1 c6
              refine wp_aload rfl rfl ?_
              refine wp_getR (r := 35) rfl (congrArg Prod.fst (kf_6 X.1)) rfl ?_
              refine wp_call (k := 163) (ρ2 := 0) (L2 := [vr 36]) rfl rfl rfl (Nat.le_of_ble_eq_true rfl) (Nat.le_of_ble_eq_true rfl) (Nat.le_of_ble_eq_true rfl) (rcv_V rfl (congrArg Prod.fst (kf_36 X.1))) rfl ?_
              refine wp_aload rfl rfl ?_
              refine wp_getI (j := 2) rfl (congrArg Prod.fst (kf_36 X.1)) rfl ?_
              refine wp_aload rfl rfl ?_
              refine wp_getI (j := 3) rfl (congrArg Prod.fst (kf_36 X.1)) rfl ?_
              refine wp_imul rfl ?_
              have g7 := H.1
              replace H := H.2
              refine Wp.topI (y := ((h 36 2) * (h 36 3))) (w32_I g7) ?_
              refine wp_iret rfl rfl ?_
              show Wp X _ 7 74 [vr 6, vi x1, vi x2] [vi ((h 36 2) * (h 36 3))] _ _
              refine wp_i2l rfl ?_
              refine wp_aload rfl rfl ?_
              refine wp_getR (r := 35) rfl (congrArg Prod.fst (kf_6 X.1)) rfl ?_
              refine wp_call (k := 164) (ρ2 := 0) (L2 := [vr 36]) rfl rfl rfl (Nat.le_of_ble_eq_true rfl) (Nat.le_of_ble_eq_true rfl) (Nat.le_of_ble_eq_true rfl) (rcv_V rfl (congrArg Prod.fst (kf_36 X.1))) rfl ?_
              refine wp_iconst rfl ?_
              refine wp_aload rfl rfl ?_
              refine wp_getI (j := 0) rfl (congrArg Prod.fst (kf_36 X.1)) rfl ?_
              refine wp_imul rfl ?_
              have g8 := H.1
              replace H := H.2
              refine Wp.topI (y := (300 * (h 36 0))) (w32_I g8) ?_
              refine wp_iret rfl rfl ?_
              show Wp X _ 7 82 [vr 6, vi x1, vi x2] [vi (300 * (h 36 0)), vl ((h 36 2) * (h 36 3))] _ _
              refine wp_i2l rfl ?_
              refine wp_iload rfl rfl ?_
              exact wp_call (k := 45) (ρ2 := 1) (L2 := [vl ((h 36 2) * (h 36 3)), vu, vl (300 * (h 36 0)), vu, vi x2, vu, vu]) rfl rfl rfl (Nat.le_of_ble_eq_true rfl) (Nat.le_of_ble_eq_true rfl) (Nat.le_of_ble_eq_true rfl) (rcv_S rfl) rfl H
            · replace H := H.2 c6
              refine wp_aload rfl rfl ?_
              refine wp_getR (r := 35) rfl (congrArg Prod.fst (kf_6 X.1)) rfl ?_
              refine wp_call (k := 161) (ρ2 := 0) (L2 := [vr 36]) rfl rfl rfl (Nat.le_of_ble_eq_true rfl) (Nat.le_of_ble_eq_true rfl) (Nat.le_of_ble_eq_true rfl) (rcv_V rfl (congrArg Prod.fst (kf_36 X.1))) rfl ?_
              refine wp_aload rfl rfl ?_
              refine wp_getI (j := 1) rfl (congrArg Prod.fst (kf_36 X.1)) rfl ?_
              refine wp_iret rfl rfl ?_
              show Wp X _ 7 51 [vr 6, vi x1, vi x2] [vi (h 36 1)] _ _
              refine wp_i2l rfl ?_
              refine wp_aload rfl rfl ?_
              refine wp_getR (r := 35) rfl (congrArg Prod.fst (kf_6 X.1)) rfl ?_
              refine wp_call (k := 162) (ρ2 := 0) (L2 := [vr 36]) rfl rfl rfl (Nat.le_of_ble_eq_true rfl) (Nat.le_of_ble_eq_true rfl) (Nat.le_of_ble_eq_true rfl) (rcv_V rfl (congrArg Prod.fst (kf_36 X.1))) rfl ?_
              refine wp_iconst rfl ?_
              refine wp_aload rfl rfl ?_
              refine wp_getI (j := 0) rfl (congrArg Prod.fst (kf_36 X.1)) rfl ?_
              refine wp_imul rfl ?_
              have g9 := H.1
              replace H := H.2
              refine Wp.topI (y := (60 * (h 36 0))) (w32_I g9) ?_
              refine wp_iret rfl rfl ?_
              show Wp X _ 7 59 [vr 6, vi x1, vi x2] [vi (60 * (h 36 0)), vl (h 36 1)] _ _
              refine wp_i2l rfl ?_
              refine wp_iload rfl rfl ?_
              exact wp_call (k := 45) (ρ2 := 1) (L2 := [vl (h 36 1), vu, vl (60 * (h 36 0)), vu, vi x2, vu, vu]) rfl rfl rfl (Nat.le_of_ble_eq_true rfl) (Nat.le_of_ble_eq_true rfl) (Nat.le_of_ble_eq_true rfl) (rcv_S rfl) rfl H
        · replace H := H.2 c4
          refine wp_iconst rfl ?_
          refine wp_goto (tn := 15) rfl rfl ?_
          refine wp_zret rfl rfl (by decide) ?_
          show Wp X _ 7 15 [vr 6, vi x1, vi x2] [vi 1] _ _
          refine wp_ifeqF (tn := 24) rfl rfl (by decide) ?_
          refine wp_iconst rfl ?_
          refine wp_call (k := 39) (ρ2 := 0) (L2 := [vi (-2)]) rfl rfl rfl (Nat.le_of_ble_eq_true rfl) (Nat.le_of_ble_eq_true rfl) (Nat.le_of_ble_eq_true rfl) (rcv_S rfl) rfl ?_
          refine wp_sipush rfl ?_
          refine wp_iload rfl rfl ?_
          refine wp_i2l rfl ?_
          refine wp_lsub rfl ?_
          refine Wp.topL (y := (-9223372036854775806)) (by decide) ?_
          refine wp_lret rfl rfl ?_
          show Wp X _ 7 23 [vr 6, vi x1, vi x2] [vl (-9223372036854775806)] _ _
          exact wp_lret rfl rfl H
    · replace H := H.2 c2
      refine wp_iconst rfl ?_
      refine wp_goto (tn := 15) rfl rfl ?_
      refine wp_zret rfl rfl (by decide) ?_
      show Wp X _ 7 6 [vr 6, vi x1, vi x2] [vi 1] _ _
      refine wp_ifneT (tn := 18) rfl rfl (by decide) ?_
      refine wp_iconst rfl ?_
      refine wp_call (k := 39) (ρ2 := 0) (L2 := [vi (-2)]) rfl rfl rfl (Nat.le_of_ble_eq_true rfl) (Nat.le_of_ble_eq_true rfl) (Nat.le_of_ble_eq_true rfl) (rcv_S rfl) rfl ?_
      refine wp_sipush rfl ?_
      refine wp_iload rfl rfl ?_
      refine wp_i2l rfl ?_
      refine wp_lsub rfl ?_
      refine Wp.topL (y := (-9223372036854775806)) (by decide) ?_
      refine wp_lret rfl rfl ?_
      show Wp X _ 7 23 [vr 6, vi x1, vi x2] [vl (-9223372036854775806)] _ _
      exact wp_lret rfl rfl H
/-- WarnLines.base(II)J, from 64 -/
theorem S7_6_64 {X : Nat × (Int → Int)} {h : HP} {Q : bQ} (zx0 : aV) (zx1 : aV) (zx2 : aV) (s0 : Int) (H : Wp X 2 7 87 [zx0, zx1, zx2] [vl s0] h Q) : Wp X 2 7 64 [zx0, zx1, zx2] [vl s0] h Q := by
  refine wp_goto (tn := 87) rfl rfl ?_
  exact H
/-- WarnLines.base(II)J, from 87 -/
theorem S7_6_87 {X : Nat × (Int → Int)} {h : HP} {Q : bQ} (zx0 : aV) (zx1 : aV) (zx2 : aV) (s0 : Int) (H : Q (some (vl s0)) h) : Wp X 2 7 87 [zx0, zx1, zx2] [vl s0] h Q := by
  exact wp_lret rfl rfl H
/-- WarnLines.leftOut()I, from 0 -/
theorem S8_6_0 {X : Nat × (Int → Int)} {h : HP} {Q : bQ}  (H : (((h 36 0) ≤ 0 → Q (some (vi (-3))) h) ∧ (0 < (h 36 0) → Q (some (vi (h 36 4))) h))) : Wp X 1 8 0 [vr 6] [] h Q := by
  refine wp_aload rfl rfl ?_
  refine wp_getR (r := 35) rfl (congrArg Prod.fst (kf_6 X.1)) rfl ?_
  refine wp_call (k := 159) (ρ2 := 0) (L2 := [vr 36]) rfl rfl rfl (Nat.le_of_ble_eq_true rfl) (Nat.le_of_ble_eq_true rfl) (Nat.le_of_ble_eq_true rfl) (rcv_V rfl (congrArg Prod.fst (kf_36 X.1))) rfl ?_
  refine wp_aload rfl rfl ?_
  refine wp_getI (j := 0) rfl (congrArg Prod.fst (kf_36 X.1)) rfl ?_
  refine wp_ifle (tn := 11) rfl rfl (fun c1 => ?_) (fun c1 => ?_)
  · replace H := H.1 c1
    refine wp_iconst rfl ?_
    refine wp_zret rfl rfl (by decide) ?_
    show Wp X _ 8 7 [vr 6] [vi 0] _ _
    refine wp_ifeqT (tn := 20) rfl rfl (by decide) ?_
    refine wp_iconst rfl ?_
    exact wp_iret rfl rfl H
  · replace H := H.2 c1
    refine wp_iconst rfl ?_
    refine wp_goto (tn := 12) rfl rfl ?_
    refine wp_zret rfl rfl (by decide) ?_
    show Wp X _ 8 7 [vr 6] [vi 1] _ _
    refine wp_ifeqF (tn := 20) rfl rfl (by decide) ?_
    refine wp_aload rfl rfl ?_
    refine wp_getR (r := 35) rfl (congrArg Prod.fst (kf_6 X.1)) rfl ?_
    refine wp_call (k := 160) (ρ2 := 0) (L2 := [vr 36]) rfl rfl rfl (Nat.le_of_ble_eq_true rfl) (Nat.le_of_ble_eq_true rfl) (Nat.le_of_ble_eq_true rfl) (rcv_V rfl (congrArg Prod.fst (kf_36 X.1))) rfl ?_
    refine wp_aload rfl rfl ?_
    refine wp_getI (j := 4) rfl (congrArg Prod.fst (kf_36 X.1)) rfl ?_
    refine wp_iret rfl rfl ?_
    show Wp X _ 8 17 [vr 6] [vi (h 36 4)] _ _
    refine wp_goto (tn := 22) rfl rfl ?_
    exact wp_iret rfl rfl H
/-- WarnLines.zone(II)I, from 0 -/
theorem S9_6_0 {X : Nat × (Int → Int)} {h : HP} {Q : bQ} (x1 : Int) (x2 : Int) (H : ((x1 < 0 → Q (some (vi (-2))) h) ∧ (0 ≤ x1 → (((h 8 8) ≤ x1 → Q (some (vi (-2))) h) ∧ (x1 < (h 8 8) → ((x2 < 0 → Q (some (vi (-2))) h) ∧ (0 ≤ x2 → ((x2 ≤ 2 → ((0 ≤ x1 ∧ x1 < 20) ∧ (((h 34 x1) ≠ (-1) → (((h 36 0) ≤ 0 → Q (some (vi (-3))) h) ∧ (0 < (h 36 0) → ((x2 ≠ 0 → ((x2 ≠ 1 → Wp X 2 172 0 [vr 36, vi (h 34 x1), vu, vu] [] h (fun v h' => Wp X 3 9 96 [vr 6, vi x1, vi x2, vi (h 34 x1)] (psh v []) h' Q)) ∧ (x2 = 1 → Wp X 1 171 0 [vr 36, vi (h 34 x1), vu, vu] [] h (fun v h' => Wp X 3 9 85 [vr 6, vi x1, vi x2, vi (h 34 x1)] (psh v []) h' Q)))) ∧ (x2 = 0 → ((R32 ((h 34 x1) * (h 36 0))) ∧ ((R32 (((h 34 x1) * (h 36 0)) - (h 36 1))) ∧ ((0 ≤ (((h 34 x1) * (h 36 0)) - (h 36 1)) → (((((h 34 x1) * (h 36 0)) - (h 36 1)) ≠ 0 → Q (some (vi 1)) h) ∧ ((((h 34 x1) * (h 36 0)) - (h 36 1)) = 0 → Q (some (vi 0)) h))) ∧ ((((h 34 x1) * (h 36 0)) - (h 36 1)) < 0 → Q (some (vi 2)) h))))))))) ∧ ((h 34 x1) = (-1) → Q (some (vi (-3))) h)))) ∧ (2 < x2 → Q (some (vi (-2))) h))))))))) : Wp X 3 9 0 [vr 6, vi x1, vi x2, vu] [] h Q := by
  refine wp_aload rfl rfl ?_
  refine wp_getR (r := 7) rfl (congrArg Prod.fst (kf_6 X.1)) rfl ?_
  refine wp_iload rfl rfl ?_
  refine wp_call (k := 145) (ρ2 := 0) (L2 := [vr 8, vi x1]) rfl rfl rfl (Nat.le_of_ble_eq_true rfl) (Nat.le_of_ble_eq_true rfl) (Nat.le_of_ble_eq_true rfl) (rcv_V rfl (congrArg Prod.fst (kf_8 X.1))) rfl ?_
  refine wp_iload rfl rfl ?_
  refine wp_iflt (tn := 16) rfl rfl (fun c1 => ?_) (fun c1 => ?_)
  · replace H := H.1 c1
    refine wp_iconst rfl ?_
    refine wp_zret rfl rfl (by decide) ?_
    show Wp X _ 9 8 [vr 6, vi x1, vi x2, vu] [vi 0] _ _
    refine wp_ifeqT (tn := 20) rfl rfl (by decide) ?_
    refine wp_iconst rfl ?_
    exact wp_iret rfl rfl H
  · replace H := H.2 c1
    refine wp_iload rfl rfl ?_
    refine wp_aload rfl rfl ?_
    refine wp_getI (j := 8) rfl (congrArg Prod.fst (kf_8 X.1)) rfl ?_
    refine wp_icge (tn := 16) rfl rfl (fun c2 => ?_) (fun c2 => ?_)
    · replace H := H.1 c2
      refine wp_iconst rfl ?_
      refine wp_zret rfl rfl (by decide) ?_
      show Wp X _ 9 8 [vr 6, vi x1, vi x2, vu] [vi 0] _ _
      refine wp_ifeqT (tn := 20) rfl rfl (by decide) ?_
      refine wp_iconst rfl ?_
      exact wp_iret rfl rfl H
    · replace H := H.2 c2
      refine wp_iconst rfl ?_
      refine wp_goto (tn := 17) rfl rfl ?_
      refine wp_zret rfl rfl (by decide) ?_
      show Wp X _ 9 8 [vr 6, vi x1, vi x2, vu] [vi 1] _ _
      refine wp_ifeqF (tn := 20) rfl rfl (by decide) ?_
      refine wp_iload rfl rfl ?_
      refine wp_iconst rfl ?_
      refine wp_iconst rfl ?_
      refine wp_call (k := 40) (ρ2 := 0) (L2 := [vi x2, vi 0, vi 2]) rfl rfl rfl (Nat.le_of_ble_eq_true rfl) (Nat.le_of_ble_eq_true rfl) (Nat.le_of_ble_eq_true rfl) (rcv_S rfl) rfl ?_
      refine wp_iload rfl rfl ?_
      refine wp_iload rfl rfl ?_
      refine wp_iclt (tn := 10) rfl rfl (fun c3 => ?_) (fun c3 => ?_)
      · replace H := H.1 c3
        refine wp_iconst rfl ?_
        refine wp_goto (tn := 15) rfl rfl ?_
        refine wp_zret rfl rfl (by decide) ?_
        show Wp X _ 9 17 [vr 6, vi x1, vi x2, vu] [vi 1] _ _
        refine wp_ifeqF (tn := 23) rfl rfl (by decide) ?_
        refine wp_iconst rfl ?_
        exact wp_iret rfl rfl H
      · replace H := H.2 c3
        refine wp_iload rfl rfl ?_
        refine wp_iload rfl rfl ?_
        refine wp_icle (tn := 14) rfl rfl (fun c4 => ?_) (fun c4 => ?_)
        · replace H := H.1 c4
          refine wp_iconst rfl ?_
          refine wp_zret rfl rfl (by decide) ?_
          show Wp X _ 9 17 [vr 6, vi x1, vi x2, vu] [vi 0] _ _
          refine wp_ifeqT (tn := 23) rfl rfl (by decide) ?_
          refine wp_aload rfl rfl ?_
          refine wp_getR (r := 7) rfl (congrArg Prod.fst (kf_6 X.1)) rfl ?_
          refine wp_iload rfl rfl ?_
          refine wp_call (k := 149) (ρ2 := 1) (L2 := [vr 8, vi x1]) rfl rfl rfl (Nat.le_of_ble_eq_true rfl) (Nat.le_of_ble_eq_true rfl) (Nat.le_of_ble_eq_true rfl) (rcv_V rfl (congrArg Prod.fst (kf_8 X.1))) rfl ?_
          refine wp_aload rfl rfl ?_
          refine wp_iload rfl rfl ?_
          refine wp_call (k := 145) (ρ2 := 0) (L2 := [vr 8, vi x1]) rfl rfl rfl (Nat.le_of_ble_eq_true rfl) (Nat.le_of_ble_eq_true rfl) (Nat.le_of_ble_eq_true rfl) (rcv_V rfl (congrArg Prod.fst (kf_8 X.1))) rfl ?_
          refine wp_iload rfl rfl ?_
          refine wp_ifltF (tn := 16) rfl rfl c1 ?_
          refine wp_iload rfl rfl ?_
          refine wp_aload rfl rfl ?_
          refine wp_getI (j := 8) rfl (congrArg Prod.fst (kf_8 X.1)) rfl ?_
          refine wp_icgeF (tn := 16) rfl rfl c2 ?_
          refine wp_iconst rfl ?_
          refine wp_goto (tn := 17) rfl rfl ?_
          refine wp_zret rfl rfl (by decide) ?_
          show Wp X _ 149 5 [vr 8, vi x1] [vi 1] _ _
          refine wp_ifeqF (tn := 18) rfl rfl (by decide) ?_
          refine wp_aload rfl rfl ?_
          refine wp_getR (r := 33) rfl (congrArg Prod.fst (kf_8 X.1)) rfl ?_
          refine wp_iload rfl rfl ?_
          have g5 := H.1
          replace H := H.2
          refine wp_iaload rfl (kf_34 X.1) g5 ?_
          refine wp_iconst rfl ?_
          refine wp_icne (tn := 22) rfl rfl (fun c6 => ?_) (fun c6 => ?_)
          · replace H := H.1 c6
            refine wp_iconst rfl ?_
            refine wp_zret rfl rfl (by decide) ?_
            show Wp X _ 9 31 [vr 6, vi x1, vi x2, vu] [vi 0] _ _
            refine wp_ifneF (tn := 44) rfl rfl (by decide) ?_
            refine wp_aload rfl rfl ?_
            refine wp_getR (r := 35) rfl (congrArg Prod.fst (kf_6 X.1)) rfl ?_
            refine wp_call (k := 159) (ρ2 := 0) (L2 := [vr 36]) rfl rfl rfl (Nat.le_of_ble_eq_true rfl) (Nat.le_of_ble_eq_true rfl) (Nat.le_of_ble_eq_true rfl) (rcv_V rfl (congrArg Prod.fst (kf_36 X.1))) rfl ?_
            refine wp_aload rfl rfl ?_
            refine wp_getI (j := 0) rfl (congrArg Prod.fst (kf_36 X.1)) rfl ?_
            refine wp_ifle (tn := 11) rfl rfl (fun c7 => ?_) (fun c7 => ?_)
            · replace H := H.1 c7
              refine wp_iconst rfl ?_
              refine wp_zret rfl rfl (by decide) ?_
              show Wp X _ 9 41 [vr 6, vi x1, vi x2, vu] [vi 0] _ _
              refine wp_ifneF (tn := 47) rfl rfl (by decide) ?_
              refine wp_iconst rfl ?_
              exact wp_iret rfl rfl H
            · replace H := H.2 c7
              refine wp_iconst rfl ?_
              refine wp_goto (tn := 12) rfl rfl ?_
              refine wp_zret rfl rfl (by decide) ?_
              show Wp X _ 9 41 [vr 6, vi x1, vi x2, vu] [vi 1] _ _
              refine wp_ifneT (tn := 47) rfl rfl (by decide) ?_
              refine wp_aload rfl rfl ?_
              refine wp_getR (r := 7) rfl (congrArg Prod.fst (kf_6 X.1)) rfl ?_
              refine wp_iload rfl rfl ?_
              refine wp_call (k := 150) (ρ2 := 1) (L2 := [vr 8, vi x1]) rfl rfl rfl (Nat.le_of_ble_eq_true rfl) (Nat.le_of_ble_eq_true rfl) (Nat.le_of_ble_eq_true rfl) (rcv_V rfl (congrArg Prod.fst (kf_8 X.1))) rfl ?_
              refine wp_aload rfl rfl ?_
              refine wp_iload rfl rfl ?_
              refine wp_call (k := 145) (ρ2 := 0) (L2 := [vr 8, vi x1]) rfl rfl rfl (Nat.le_of_ble_eq_true rfl) (Nat.le_of_ble_eq_true rfl) (Nat.le_of_ble_eq_true rfl) (rcv_V rfl (congrArg Prod.fst (kf_8 X.1))) rfl ?_
              refine wp_iload rfl rfl ?_
              refine wp_ifltF (tn := 16) rfl rfl g5.1 ?_
              refine wp_iload rfl rfl ?_
              refine wp_aload rfl rfl ?_
              refine wp_getI (j := 8) rfl (congrArg Prod.fst (kf_8 X.1)) rfl ?_
              refine wp_icgeF (tn := 16) rfl rfl c2 ?_
              refine wp_iconst rfl ?_
              refine wp_goto (tn := 17) rfl rfl ?_
              refine wp_zret rfl rfl (by decide) ?_
              show Wp X _ 150 5 [vr 8, vi x1] [vi 1] _ _
              refine wp_ifeqF (tn := 17) rfl rfl (by decide) ?_
              refine wp_aload rfl rfl ?_
              refine wp_getR (r := 33) rfl (congrArg Prod.fst (kf_8 X.1)) rfl ?_
              refine wp_iload rfl rfl ?_
              refine wp_iaload rfl (kf_34 X.1) ⟨g5.1, g5.2⟩ ?_
              refine wp_goto (tn := 18) rfl rfl ?_
              refine wp_iret rfl rfl ?_
              show Wp X _ 9 55 [vr 6, vi x1, vi x2, vu] [vi (h 34 x1)] _ _
              refine wp_istore (L2 := [vr 6, vi x1, vi x2, vi (h 34 x1)]) rfl (Nat.le_of_ble_eq_true rfl) rfl ?_
              refine wp_iload rfl rfl ?_
              refine wp_ifne (tn := 72) rfl rfl (fun c8 => ?_) (fun c8 => ?_)
              · replace H := H.1 c8
                refine wp_iload rfl rfl ?_
                refine wp_iconst rfl ?_
                refine wp_icne (tn := 88) rfl rfl (fun c9 => ?_) (fun c9 => ?_)
                · replace H := H.1 c9
                  refine wp_aload rfl rfl ?_
                  refine wp_getR (r := 35) rfl (congrArg Prod.fst (kf_6 X.1)) rfl ?_
                  refine wp_iload rfl rfl ?_
                  exact wp_call (k := 172) (ρ2 := 2) (L2 := [vr 36, vi (h 34 x1), vu, vu]) rfl rfl rfl (Nat.le_of_ble_eq_true rfl) (Nat.le_of_ble_eq_true rfl) (Nat.le_of_ble_eq_true rfl) (rcv_V rfl (congrArg Prod.fst (kf_36 X.1))) rfl H
                · replace H := H.2 c9
                  refine wp_aload rfl rfl ?_
                  refine wp_getR (r := 35) rfl (congrArg Prod.fst (kf_6 X.1)) rfl ?_
                  refine wp_iload rfl rfl ?_
                  exact wp_call (k := 171) (ρ2 := 1) (L2 := [vr 36, vi (h 34 x1), vu, vu]) rfl rfl rfl (Nat.le_of_ble_eq_true rfl) (Nat.le_of_ble_eq_true rfl) (Nat.le_of_ble_eq_true rfl) (rcv_V rfl (congrArg Prod.fst (kf_36 X.1))) rfl H
              · replace H := H.2 c8
                refine wp_aload rfl rfl ?_
                refine wp_getR (r := 35) rfl (congrArg Prod.fst (kf_6 X.1)) rfl ?_
                refine wp_iload rfl rfl ?_
                refine wp_call (k := 170) (ρ2 := 1) (L2 := [vr 36, vi (h 34 x1)]) rfl rfl rfl (Nat.le_of_ble_eq_true rfl) (Nat.le_of_ble_eq_true rfl) (Nat.le_of_ble_eq_true rfl) (rcv_V rfl (congrArg Prod.fst (kf_36 X.1))) rfl ?_
                refine wp_aload rfl rfl ?_
                refine wp_iload rfl rfl ?_
                refine wp_call (k := 169) (ρ2 := 0) (L2 := [vr 36, vi (h 34 x1)]) rfl rfl rfl (Nat.le_of_ble_eq_true rfl) (Nat.le_of_ble_eq_true rfl) (Nat.le_of_ble_eq_true rfl) (rcv_V rfl (congrArg Prod.fst (kf_36 X.1))) rfl ?_
                refine wp_iload rfl rfl ?_
                refine wp_aload rfl rfl ?_
                refine wp_getI (j := 0) rfl (congrArg Prod.fst (kf_36 X.1)) rfl ?_
                refine wp_imul rfl ?_
                have g10 := H.1
                replace H := H.2
                refine Wp.topI (y := ((h 34 x1) * (h 36 0))) (w32_I g10) ?_
                refine wp_aload rfl rfl ?_
                refine wp_getI (j := 1) rfl (congrArg Prod.fst (kf_36 X.1)) rfl ?_
                refine wp_isub rfl ?_
                have g11 := H.1
                replace H := H.2
                refine Wp.topI (y := (((h 34 x1) * (h 36 0)) - (h 36 1))) (w32_I g11) ?_
                refine wp_iret rfl rfl ?_
                show Wp X _ 170 5 [vr 36, vi (h 34 x1)] [vi (((h 34 x1) * (h 36 0)) - (h 36 1))] _ _
                refine wp_iconst rfl ?_
                refine wp_call (k := 249) (ρ2 := 0) (L2 := [vi (((h 34 x1) * (h 36 0)) - (h 36 1)), vi 0]) rfl rfl rfl (Nat.le_of_ble_eq_true rfl) (Nat.le_of_ble_eq_true rfl) (Nat.le_of_ble_eq_true rfl) (rcv_S rfl) rfl ?_
                refine wp_iload rfl rfl ?_
                refine wp_iload rfl rfl ?_
                refine wp_icge (tn := 9) rfl rfl (fun c12 => ?_) (fun c12 => ?_)
                · replace H := H.1 c12
                  refine wp_iload rfl rfl ?_
                  refine wp_iload rfl rfl ?_
                  refine wp_icne (tn := 18) rfl rfl (fun c13 => ?_) (fun c13 => ?_)
                  · replace H := H.1 c13
                    refine wp_iconst rfl ?_
                    refine wp_iret rfl rfl ?_
                    show Wp X _ 170 9 [vr 36, vi (h 34 x1)] [vi 1] _ _
                    refine wp_iret rfl rfl ?_
                    show Wp X _ 9 68 [vr 6, vi x1, vi x2, vi (h 34 x1)] [vi 1] _ _
                    refine wp_call (k := 43) (ρ2 := 0) (L2 := [vi 1]) rfl rfl rfl (Nat.le_of_ble_eq_true rfl) (Nat.le_of_ble_eq_true rfl) (Nat.le_of_ble_eq_true rfl) (rcv_S rfl) rfl ?_
                    refine wp_iload rfl rfl ?_
                    refine wp_ifgeT (tn := 8) rfl rfl (by decide) ?_
                    refine wp_iload rfl rfl ?_
                    refine wp_iret rfl rfl ?_
                    show Wp X _ 9 71 [vr 6, vi x1, vi x2, vi (h 34 x1)] [vi 1] _ _
                    exact wp_iret rfl rfl H
                  · replace H := H.2 c13
                    refine wp_iconst rfl ?_
                    refine wp_goto (tn := 19) rfl rfl ?_
                    refine wp_iret rfl rfl ?_
                    show Wp X _ 170 9 [vr 36, vi (h 34 x1)] [vi 0] _ _
                    refine wp_iret rfl rfl ?_
                    show Wp X _ 9 68 [vr 6, vi x1, vi x2, vi (h 34 x1)] [vi 0] _ _
                    refine wp_call (k := 43) (ρ2 := 0) (L2 := [vi 0]) rfl rfl rfl (Nat.le_of_ble_eq_true rfl) (Nat.le_of_ble_eq_true rfl) (Nat.le_of_ble_eq_true rfl) (rcv_S rfl) rfl ?_
                    refine wp_iload rfl rfl ?_
                    refine wp_ifgeT (tn := 8) rfl rfl (by decide) ?_
                    refine wp_iload rfl rfl ?_
                    refine wp_iret rfl rfl ?_
                    show Wp X _ 9 71 [vr 6, vi x1, vi x2, vi (h 34 x1)] [vi 0] _ _
                    exact wp_iret rfl rfl H
                · replace H := H.2 c12
                  refine wp_iconst rfl ?_
                  refine wp_goto (tn := 19) rfl rfl ?_
                  refine wp_iret rfl rfl ?_
                  show Wp X _ 170 9 [vr 36, vi (h 34 x1)] [vi (-1)] _ _
                  refine wp_iret rfl rfl ?_
                  show Wp X _ 9 68 [vr 6, vi x1, vi x2, vi (h 34 x1)] [vi (-1)] _ _
                  refine wp_call (k := 43) (ρ2 := 0) (L2 := [vi (-1)]) rfl rfl rfl (Nat.le_of_ble_eq_true rfl) (Nat.le_of_ble_eq_true rfl) (Nat.le_of_ble_eq_true rfl) (rcv_S rfl) rfl ?_
                  refine wp_iload rfl rfl ?_
                  refine wp_ifgeF (tn := 8) rfl rfl (by decide) ?_
                  refine wp_iconst rfl ?_
                  refine wp_goto (tn := 9) rfl rfl ?_
                  refine wp_iret rfl rfl ?_
                  show Wp X _ 9 71 [vr 6, vi x1, vi x2, vi (h 34 x1)] [vi 2] _ _
                  exact wp_iret rfl rfl H
          · replace H := H.2 c6
            refine wp_iconst rfl ?_
            refine wp_goto (tn := 23) rfl rfl ?_
            refine wp_zret rfl rfl (by decide) ?_
            show Wp X _ 9 31 [vr 6, vi x1, vi x2, vu] [vi 1] _ _
            refine wp_ifneT (tn := 44) rfl rfl (by decide) ?_
            refine wp_iconst rfl ?_
            exact wp_iret rfl rfl H
        · replace H := H.2 c4
          refine wp_iconst rfl ?_
          refine wp_goto (tn := 15) rfl rfl ?_
          refine wp_zret rfl rfl (by decide) ?_
          show Wp X _ 9 17 [vr 6, vi x1, vi x2, vu] [vi 1] _ _
          refine wp_ifeqF (tn := 23) rfl rfl (by decide) ?_
          refine wp_iconst rfl ?_
          exact wp_iret rfl rfl H
/-- WarnLines.zone(II)I, from 85 -/
theorem S9_6_85 {X : Nat × (Int → Int)} {h : HP} {Q : bQ} (zx0 : aV) (zx1 : aV) (zx2 : aV) (zx3 : aV) (s0 : Int) (H : Q (some (vi s0)) h) : Wp X 3 9 85 [zx0, zx1, zx2, zx3] [vi s0] h Q := by
  refine wp_goto (tn := 99) rfl rfl ?_
  exact wp_iret rfl rfl H
/-- WarnLines.zone(II)I, from 96 -/
theorem S9_6_96 {X : Nat × (Int → Int)} {h : HP} {Q : bQ} (zx0 : aV) (zx1 : aV) (zx2 : aV) (zx3 : aV) (s0 : Int) (H : ((s0 ≠ 8 → Q (some (vi s0)) h) ∧ (s0 = 8 → Q (some (vi 4)) h))) : Wp X 3 9 96 [zx0, zx1, zx2, zx3] [vi s0] h Q := by
  refine wp_call (k := 44) (ρ2 := 0) (L2 := [vi s0]) rfl rfl rfl (Nat.le_of_ble_eq_true rfl) (Nat.le_of_ble_eq_true rfl) (Nat.le_of_ble_eq_true rfl) (rcv_S rfl) rfl ?_
  refine wp_iload rfl rfl ?_
  refine wp_iconst rfl ?_
  refine wp_icne (tn := 10) rfl rfl (fun c1 => ?_) (fun c1 => ?_)
  · replace H := H.1 c1
    refine wp_iload rfl rfl ?_
    refine wp_iret rfl rfl ?_
    show Wp X _ 9 99 [zx0, zx1, zx2, zx3] [vi s0] _ _
    exact wp_iret rfl rfl H
  · replace H := H.2 c1
    refine wp_iconst rfl ?_
    refine wp_goto (tn := 11) rfl rfl ?_
    refine wp_iret rfl rfl ?_
    show Wp X _ 9 99 [zx0, zx1, zx2, zx3] [vi 4] _ _
    exact wp_iret rfl rfl H
/-- WarnLines.type(II)I, from 0 -/
theorem S10_6_0 {X : Nat × (Int → Int)} {h : HP} {Q : bQ} (x1 : Int) (x2 : Int) (H : ((x1 < 0 → Q (some (vi (-2))) h) ∧ (0 ≤ x1 → ((x1 ≤ 1 → ((x2 < 0 → Q (some (vi (-2))) h) ∧ (0 ≤ x2 → ((x2 ≤ 255 → ((x1 = 0 → ((50 ≤ (h 45 4) → Q (some (vi (-4))) h) ∧ ((h 45 4) < 50 → Wp X 5 206 0 [vr 45, vi x2] [] h (fun v h' => Wp X 6 10 48 [vr 6, vi 0, vi x2] (psh v []) h' Q)))) ∧ (x1 = 1 → ((50 ≤ (h 53 4) → Q (some (vi (-4))) h) ∧ ((h 53 4) < 50 → Wp X 5 206 0 [vr 53, vi x2] [] h (fun v h' => Wp X 6 10 48 [vr 6, vi 1, vi x2] (psh v []) h' Q)))))) ∧ (255 < x2 → Q (some (vi (-2))) h))))) ∧ (1 < x1 → Q (some (vi (-2))) h))))) : Wp X 6 10 0 [vr 6, vi x1, vi x2] [] h Q := by
  refine wp_iload rfl rfl ?_
  refine wp_iconst rfl ?_
  refine wp_iconst rfl ?_
  refine wp_call (k := 40) (ρ2 := 0) (L2 := [vi x1, vi 0, vi 1]) rfl rfl rfl (Nat.le_of_ble_eq_true rfl) (Nat.le_of_ble_eq_true rfl) (Nat.le_of_ble_eq_true rfl) (rcv_S rfl) rfl ?_
  refine wp_iload rfl rfl ?_
  refine wp_iload rfl rfl ?_
  refine wp_iclt (tn := 10) rfl rfl (fun c1 => ?_) (fun c1 => ?_)
  · replace H := H.1 c1
    refine wp_iconst rfl ?_
    refine wp_goto (tn := 15) rfl rfl ?_
    refine wp_zret rfl rfl (by decide) ?_
    show Wp X _ 10 6 [vr 6, vi x1, vi x2] [vi 1] _ _
    refine wp_ifneT (tn := 20) rfl rfl (by decide) ?_
    refine wp_iconst rfl ?_
    exact wp_iret rfl rfl H
  · replace H := H.2 c1
    refine wp_iload rfl rfl ?_
    refine wp_iload rfl rfl ?_
    refine wp_icle (tn := 14) rfl rfl (fun c2 => ?_) (fun c2 => ?_)
    · replace H := H.1 c2
      refine wp_iconst rfl ?_
      refine wp_zret rfl rfl (by decide) ?_
      show Wp X _ 10 6 [vr 6, vi x1, vi x2] [vi 0] _ _
      refine wp_ifneF (tn := 20) rfl rfl (by decide) ?_
      refine wp_iload rfl rfl ?_
      refine wp_iconst rfl ?_
      refine wp_iconst rfl ?_
      refine wp_call (k := 40) (ρ2 := 0) (L2 := [vi x2, vi 0, vi 255]) rfl rfl rfl (Nat.le_of_ble_eq_true rfl) (Nat.le_of_ble_eq_true rfl) (Nat.le_of_ble_eq_true rfl) (rcv_S rfl) rfl ?_
      refine wp_iload rfl rfl ?_
      refine wp_iload rfl rfl ?_
      refine wp_iclt (tn := 10) rfl rfl (fun c3 => ?_) (fun c3 => ?_)
      · replace H := H.1 c3
        refine wp_iconst rfl ?_
        refine wp_goto (tn := 15) rfl rfl ?_
        refine wp_zret rfl rfl (by decide) ?_
        show Wp X _ 10 17 [vr 6, vi x1, vi x2] [vi 1] _ _
        refine wp_ifeqF (tn := 23) rfl rfl (by decide) ?_
        refine wp_iconst rfl ?_
        exact wp_iret rfl rfl H
      · replace H := H.2 c3
        refine wp_iload rfl rfl ?_
        refine wp_iload rfl rfl ?_
        refine wp_icle (tn := 14) rfl rfl (fun c4 => ?_) (fun c4 => ?_)
        · replace H := H.1 c4
          refine wp_iconst rfl ?_
          refine wp_zret rfl rfl (by decide) ?_
          show Wp X _ 10 17 [vr 6, vi x1, vi x2] [vi 0] _ _
          refine wp_ifeqT (tn := 23) rfl rfl (by decide) ?_
          refine wp_aload rfl rfl ?_
          refine wp_getR (r := 43) rfl (congrArg Prod.fst (kf_6 X.1)) rfl ?_
          refine wp_iload rfl rfl ?_
          rcases (show x1 = 0 ∨ x1 = 1 by have := (show 0 ≤ x1 ∧ x1 < 2 from ⟨c1, (by clear H; omega)⟩); clear H; omega) with rfl | rfl
          · replace H := H.1 rfl
            refine wp_aaload (r := 44) rfl (kf_44 X.1) (by decide) (by decide) rfl ?_
            refine wp_call (k := 204) (ρ2 := 0) (L2 := [vr 45]) rfl rfl rfl (Nat.le_of_ble_eq_true rfl) (Nat.le_of_ble_eq_true rfl) (Nat.le_of_ble_eq_true rfl) (rcv_V rfl (congrArg Prod.fst (kf_45 X.1))) rfl ?_
            refine wp_aload rfl rfl ?_
            refine wp_getI (j := 4) rfl (congrArg Prod.fst (kf_45 X.1)) rfl ?_
            refine wp_iconst rfl ?_
            refine wp_icge (tn := 13) rfl rfl (fun c5 => ?_) (fun c5 => ?_)
            · replace H := H.1 c5
              refine wp_iconst rfl ?_
              refine wp_zret rfl rfl (by decide) ?_
              show Wp X _ 10 32 [vr 6, vi 0, vi x2] [vi 0] _ _
              refine wp_ifneF (tn := 38) rfl rfl (by decide) ?_
              refine wp_iconst rfl ?_
              exact wp_iret rfl rfl H
            · replace H := H.2 c5
              refine wp_iconst rfl ?_
              refine wp_goto (tn := 14) rfl rfl ?_
              refine wp_zret rfl rfl (by decide) ?_
              show Wp X _ 10 32 [vr 6, vi 0, vi x2] [vi 1] _ _
              refine wp_ifneT (tn := 38) rfl rfl (by decide) ?_
              refine wp_aload rfl rfl ?_
              refine wp_getR (r := 43) rfl (congrArg Prod.fst (kf_6 X.1)) rfl ?_
              refine wp_iload rfl rfl ?_
              refine wp_aaload (r := 44) rfl (kf_44 X.1) (by decide) (by decide) rfl ?_
              refine wp_iload rfl rfl ?_
              exact wp_call (k := 206) (ρ2 := 5) (L2 := [vr 45, vi x2]) rfl rfl rfl (Nat.le_of_ble_eq_true rfl) (Nat.le_of_ble_eq_true rfl) (Nat.le_of_ble_eq_true rfl) (rcv_V rfl (congrArg Prod.fst (kf_45 X.1))) rfl H
          · replace H := H.2 rfl
            refine wp_aaload (r := 52) rfl (kf_44 X.1) (by decide) (by decide) rfl ?_
            refine wp_call (k := 204) (ρ2 := 0) (L2 := [vr 53]) rfl rfl rfl (Nat.le_of_ble_eq_true rfl) (Nat.le_of_ble_eq_true rfl) (Nat.le_of_ble_eq_true rfl) (rcv_V rfl (congrArg Prod.fst (kf_53 X.1))) rfl ?_
            refine wp_aload rfl rfl ?_
            refine wp_getI (j := 4) rfl (congrArg Prod.fst (kf_53 X.1)) rfl ?_
            refine wp_iconst rfl ?_
            refine wp_icge (tn := 13) rfl rfl (fun c6 => ?_) (fun c6 => ?_)
            · replace H := H.1 c6
              refine wp_iconst rfl ?_
              refine wp_zret rfl rfl (by decide) ?_
              show Wp X _ 10 32 [vr 6, vi 1, vi x2] [vi 0] _ _
              refine wp_ifneF (tn := 38) rfl rfl (by decide) ?_
              refine wp_iconst rfl ?_
              exact wp_iret rfl rfl H
            · replace H := H.2 c6
              refine wp_iconst rfl ?_
              refine wp_goto (tn := 14) rfl rfl ?_
              refine wp_zret rfl rfl (by decide) ?_
              show Wp X _ 10 32 [vr 6, vi 1, vi x2] [vi 1] _ _
              refine wp_ifneT (tn := 38) rfl rfl (by decide) ?_
              refine wp_aload rfl rfl ?_
              refine wp_getR (r := 43) rfl (congrArg Prod.fst (kf_6 X.1)) rfl ?_
              refine wp_iload rfl rfl ?_
              refine wp_aaload (r := 52) rfl (kf_44 X.1) (by decide) (by decide) rfl ?_
              refine wp_iload rfl rfl ?_
              exact wp_call (k := 206) (ρ2 := 5) (L2 := [vr 53, vi x2]) rfl rfl rfl (Nat.le_of_ble_eq_true rfl) (Nat.le_of_ble_eq_true rfl) (Nat.le_of_ble_eq_true rfl) (rcv_V rfl (congrArg Prod.fst (kf_53 X.1))) rfl H
        · replace H := H.2 c4
          refine wp_iconst rfl ?_
          refine wp_goto (tn := 15) rfl rfl ?_
          refine wp_zret rfl rfl (by decide) ?_
          show Wp X _ 10 17 [vr 6, vi x1, vi x2] [vi 1] _ _
          refine wp_ifeqF (tn := 23) rfl rfl (by decide) ?_
          refine wp_iconst rfl ?_
          exact wp_iret rfl rfl H
    · replace H := H.2 c2
      refine wp_iconst rfl ?_
      refine wp_goto (tn := 15) rfl rfl ?_
      refine wp_zret rfl rfl (by decide) ?_
      show Wp X _ 10 6 [vr 6, vi x1, vi x2] [vi 1] _ _
      refine wp_ifneT (tn := 20) rfl rfl (by decide) ?_
      refine wp_iconst rfl ?_
      exact wp_iret rfl rfl H
/-- WarnLines.type(II)I, from 48 -/
theorem S10_6_48 {X : Nat × (Int → Int)} {h : HP} {Q : bQ} (x1 : Int) (zx2 : aV) (H : ((0 ≤ x1 ∧ x1 < 2) ∧ ((x1 = 0 → Q (some (vi (h 45 4))) h) ∧ (x1 = 1 → Q (some (vi (h 53 4))) h)))) : Wp X 6 10 48 [vr 6, vi x1, zx2] [] h Q := by
  refine wp_aload rfl rfl ?_
  refine wp_getR (r := 43) rfl (congrArg Prod.fst (kf_6 X.1)) rfl ?_
  refine wp_iload rfl rfl ?_
  have g1 := H.1
  replace H := H.2
  rcases (show x1 = 0 ∨ x1 = 1 by have := (show 0 ≤ x1 ∧ x1 < 2 from g1); clear H; omega) with rfl | rfl
  · replace H := H.1 rfl
    refine wp_aaload (r := 44) rfl (kf_44 X.1) (by decide) (by decide) rfl ?_
    refine wp_call (k := 201) (ρ2 := 0) (L2 := [vr 45]) rfl rfl rfl (Nat.le_of_ble_eq_true rfl) (Nat.le_of_ble_eq_true rfl) (Nat.le_of_ble_eq_true rfl) (rcv_V rfl (congrArg Prod.fst (kf_45 X.1))) rfl ?_
    refine wp_aload rfl rfl ?_
    refine wp_getI (j := 4) rfl (congrArg Prod.fst (kf_45 X.1)) rfl ?_
    refine wp_iret rfl rfl ?_
    show Wp X _ 10 57 [vr 6, vi 0, zx2] [vi (h 45 4)] _ _
    exact wp_iret rfl rfl H
  · replace H := H.2 rfl
    refine wp_aaload (r := 52) rfl (kf_44 X.1) (by decide) (by decide) rfl ?_
    refine wp_call (k := 201) (ρ2 := 0) (L2 := [vr 53]) rfl rfl rfl (Nat.le_of_ble_eq_true rfl) (Nat.le_of_ble_eq_true rfl) (Nat.le_of_ble_eq_true rfl) (rcv_V rfl (congrArg Prod.fst (kf_53 X.1))) rfl ?_
    refine wp_aload rfl rfl ?_
    refine wp_getI (j := 4) rfl (congrArg Prod.fst (kf_53 X.1)) rfl ?_
    refine wp_iret rfl rfl ?_
    show Wp X _ 10 57 [vr 6, vi 1, zx2] [vi (h 53 4)] _ _
    exact wp_iret rfl rfl H
/-- WarnLines.wipe(I)I, from 0 -/
theorem S11_6_0 {X : Nat × (Int → Int)} {h : HP} {Q : bQ} (x1 : Int) (H : ((x1 < 0 → Q (some (vi (-2))) h) ∧ (0 ≤ x1 → ((x1 ≤ 1 → ((x1 = 0 → Wp X 5 207 0 [vr 45] [] h (fun v h' => Wp X 6 11 31 [vr 6, vi 0, vi (h 45 4)] (psh v []) h' Q)) ∧ (x1 = 1 → Wp X 5 207 0 [vr 53] [] h (fun v h' => Wp X 6 11 31 [vr 6, vi 1, vi (h 53 4)] (psh v []) h' Q)))) ∧ (1 < x1 → Q (some (vi (-2))) h))))) : Wp X 6 11 0 [vr 6, vi x1, vu] [] h Q := by
  refine wp_iload rfl rfl ?_
  refine wp_iconst rfl ?_
  refine wp_iconst rfl ?_
  refine wp_call (k := 40) (ρ2 := 0) (L2 := [vi x1, vi 0, vi 1]) rfl rfl rfl (Nat.le_of_ble_eq_true rfl) (Nat.le_of_ble_eq_true rfl) (Nat.le_of_ble_eq_true rfl) (rcv_S rfl) rfl ?_
  refine wp_iload rfl rfl ?_
  refine wp_iload rfl rfl ?_
  refine wp_iclt (tn := 10) rfl rfl (fun c1 => ?_) (fun c1 => ?_)
  · replace H := H.1 c1
    refine wp_iconst rfl ?_
    refine wp_goto (tn := 15) rfl rfl ?_
    refine wp_zret rfl rfl (by decide) ?_
    show Wp X _ 11 6 [vr 6, vi x1, vu] [vi 1] _ _
    refine wp_ifeqF (tn := 12) rfl rfl (by decide) ?_
    refine wp_iconst rfl ?_
    exact wp_iret rfl rfl H
  · replace H := H.2 c1
    refine wp_iload rfl rfl ?_
    refine wp_iload rfl rfl ?_
    refine wp_icle (tn := 14) rfl rfl (fun c2 => ?_) (fun c2 => ?_)
    · replace H := H.1 c2
      refine wp_iconst rfl ?_
      refine wp_zret rfl rfl (by decide) ?_
      show Wp X _ 11 6 [vr 6, vi x1, vu] [vi 0] _ _
      refine wp_ifeqT (tn := 12) rfl rfl (by decide) ?_
      refine wp_aload rfl rfl ?_
      refine wp_getR (r := 43) rfl (congrArg Prod.fst (kf_6 X.1)) rfl ?_
      refine wp_iload rfl rfl ?_
      rcases (show x1 = 0 ∨ x1 = 1 by have := (show 0 ≤ x1 ∧ x1 < 2 from ⟨c1, (by clear H; omega)⟩); clear H; omega) with rfl | rfl
      · replace H := H.1 rfl
        refine wp_aaload (r := 44) rfl (kf_44 X.1) (by decide) (by decide) rfl ?_
        refine wp_call (k := 201) (ρ2 := 0) (L2 := [vr 45]) rfl rfl rfl (Nat.le_of_ble_eq_true rfl) (Nat.le_of_ble_eq_true rfl) (Nat.le_of_ble_eq_true rfl) (rcv_V rfl (congrArg Prod.fst (kf_45 X.1))) rfl ?_
        refine wp_aload rfl rfl ?_
        refine wp_getI (j := 4) rfl (congrArg Prod.fst (kf_45 X.1)) rfl ?_
        refine wp_iret rfl rfl ?_
        show Wp X _ 11 21 [vr 6, vi 0, vu] [vi (h 45 4)] _ _
        refine wp_istore (L2 := [vr 6, vi 0, vi (h 45 4)]) rfl (Nat.le_of_ble_eq_true rfl) rfl ?_
        refine wp_aload rfl rfl ?_
        refine wp_getR (r := 43) rfl (congrArg Prod.fst (kf_6 X.1)) rfl ?_
        refine wp_iload rfl rfl ?_
        refine wp_aaload (r := 44) rfl (kf_44 X.1) (by decide) (by decide) rfl ?_
        exact wp_call (k := 207) (ρ2 := 5) (L2 := [vr 45]) rfl rfl rfl (Nat.le_of_ble_eq_true rfl) (Nat.le_of_ble_eq_true rfl) (Nat.le_of_ble_eq_true rfl) (rcv_V rfl (congrArg Prod.fst (kf_45 X.1))) rfl H
      · replace H := H.2 rfl
        refine wp_aaload (r := 52) rfl (kf_44 X.1) (by decide) (by decide) rfl ?_
        refine wp_call (k := 201) (ρ2 := 0) (L2 := [vr 53]) rfl rfl rfl (Nat.le_of_ble_eq_true rfl) (Nat.le_of_ble_eq_true rfl) (Nat.le_of_ble_eq_true rfl) (rcv_V rfl (congrArg Prod.fst (kf_53 X.1))) rfl ?_
        refine wp_aload rfl rfl ?_
        refine wp_getI (j := 4) rfl (congrArg Prod.fst (kf_53 X.1)) rfl ?_
        refine wp_iret rfl rfl ?_
        show Wp X _ 11 21 [vr 6, vi 1, vu] [vi (h 53 4)] _ _
        refine wp_istore (L2 := [vr 6, vi 1, vi (h 53 4)]) rfl (Nat.le_of_ble_eq_true rfl) rfl ?_
        refine wp_aload rfl rfl ?_
        refine wp_getR (r := 43) rfl (congrArg Prod.fst (kf_6 X.1)) rfl ?_
        refine wp_iload rfl rfl ?_
        refine wp_aaload (r := 52) rfl (kf_44 X.1) (by decide) (by decide) rfl ?_
        exact wp_call (k := 207) (ρ2 := 5) (L2 := [vr 53]) rfl rfl rfl (Nat.le_of_ble_eq_true rfl) (Nat.le_of_ble_eq_true rfl) (Nat.le_of_ble_eq_true rfl) (rcv_V rfl (congrArg Prod.fst (kf_53 X.1))) rfl H
    · replace H := H.2 c2
      refine wp_iconst rfl ?_
      refine wp_goto (tn := 15) rfl rfl ?_
      refine wp_zret rfl rfl (by decide) ?_
      show Wp X _ 11 6 [vr 6, vi x1, vu] [vi 1] _ _
      refine wp_ifeqF (tn := 12) rfl rfl (by decide) ?_
      refine wp_iconst rfl ?_
      exact wp_iret rfl rfl H
/-- WarnLines.wipe(I)I, from 31 -/
theorem S11_6_31 {X : Nat × (Int → Int)} {h : HP} {Q : bQ} (zx0 : aV) (zx1 : aV) (x2 : Int) (H : Q (some (vi x2)) h) : Wp X 6 11 31 [zx0, zx1, vi x2] [] h Q := by
  refine wp_iload rfl rfl ?_
  exact wp_iret rfl rfl H
/-- WarnLines.fault(I)I, from 0 -/
theorem S12_6_0 {X : Nat × (Int → Int)} {h : HP} {Q : bQ} (x1 : Int) (H : ((x1 < 0 → Q (some (vi (-2))) h) ∧ (0 ≤ x1 → ((x1 ≤ 1 → ((x1 = 0 → Q (some (vi (h 45 6))) h) ∧ (x1 = 1 → Q (some (vi (h 53 6))) h))) ∧ (1 < x1 → Q (some (vi (-2))) h))))) : Wp X 1 12 0 [vr 6, vi x1] [] h Q := by
  refine wp_iload rfl rfl ?_
  refine wp_iconst rfl ?_
  refine wp_iconst rfl ?_
  refine wp_call (k := 40) (ρ2 := 0) (L2 := [vi x1, vi 0, vi 1]) rfl rfl rfl (Nat.le_of_ble_eq_true rfl) (Nat.le_of_ble_eq_true rfl) (Nat.le_of_ble_eq_true rfl) (rcv_S rfl) rfl ?_
  refine wp_iload rfl rfl ?_
  refine wp_iload rfl rfl ?_
  refine wp_iclt (tn := 10) rfl rfl (fun c1 => ?_) (fun c1 => ?_)
  · replace H := H.1 c1
    refine wp_iconst rfl ?_
    refine wp_goto (tn := 15) rfl rfl ?_
    refine wp_zret rfl rfl (by decide) ?_
    show Wp X _ 12 6 [vr 6, vi x1] [vi 1] _ _
    refine wp_ifeqF (tn := 14) rfl rfl (by decide) ?_
    refine wp_iconst rfl ?_
    refine wp_goto (tn := 23) rfl rfl ?_
    exact wp_iret rfl rfl H
  · replace H := H.2 c1
    refine wp_iload rfl rfl ?_
    refine wp_iload rfl rfl ?_
    refine wp_icle (tn := 14) rfl rfl (fun c2 => ?_) (fun c2 => ?_)
    · replace H := H.1 c2
      refine wp_iconst rfl ?_
      refine wp_zret rfl rfl (by decide) ?_
      show Wp X _ 12 6 [vr 6, vi x1] [vi 0] _ _
      refine wp_ifeqT (tn := 14) rfl rfl (by decide) ?_
      refine wp_aload rfl rfl ?_
      refine wp_getR (r := 43) rfl (congrArg Prod.fst (kf_6 X.1)) rfl ?_
      refine wp_iload rfl rfl ?_
      rcases (show x1 = 0 ∨ x1 = 1 by have := (show 0 ≤ x1 ∧ x1 < 2 from ⟨c1, (by clear H; omega)⟩); clear H; omega) with rfl | rfl
      · replace H := H.1 rfl
        refine wp_aaload (r := 44) rfl (kf_44 X.1) (by decide) (by decide) rfl ?_
        refine wp_call (k := 202) (ρ2 := 0) (L2 := [vr 45]) rfl rfl rfl (Nat.le_of_ble_eq_true rfl) (Nat.le_of_ble_eq_true rfl) (Nat.le_of_ble_eq_true rfl) (rcv_V rfl (congrArg Prod.fst (kf_45 X.1))) rfl ?_
        refine wp_aload rfl rfl ?_
        refine wp_getI (j := 6) rfl (congrArg Prod.fst (kf_45 X.1)) rfl ?_
        refine wp_iret rfl rfl ?_
        show Wp X _ 12 23 [vr 6, vi 0] [vi (h 45 6)] _ _
        exact wp_iret rfl rfl H
      · replace H := H.2 rfl
        refine wp_aaload (r := 52) rfl (kf_44 X.1) (by decide) (by decide) rfl ?_
        refine wp_call (k := 202) (ρ2 := 0) (L2 := [vr 53]) rfl rfl rfl (Nat.le_of_ble_eq_true rfl) (Nat.le_of_ble_eq_true rfl) (Nat.le_of_ble_eq_true rfl) (rcv_V rfl (congrArg Prod.fst (kf_53 X.1))) rfl ?_
        refine wp_aload rfl rfl ?_
        refine wp_getI (j := 6) rfl (congrArg Prod.fst (kf_53 X.1)) rfl ?_
        refine wp_iret rfl rfl ?_
        show Wp X _ 12 23 [vr 6, vi 1] [vi (h 53 6)] _ _
        exact wp_iret rfl rfl H
    · replace H := H.2 c2
      refine wp_iconst rfl ?_
      refine wp_goto (tn := 15) rfl rfl ?_
      refine wp_zret rfl rfl (by decide) ?_
      show Wp X _ 12 6 [vr 6, vi x1] [vi 1] _ _
      refine wp_ifeqF (tn := 14) rfl rfl (by decide) ?_
      refine wp_iconst rfl ?_
      refine wp_goto (tn := 23) rfl rfl ?_
      exact wp_iret rfl rfl H
/-- WarnLines.warns(II)I, from 0 -/
theorem S13_6_0 {X : Nat × (Int → Int)} {h : HP} {Q : bQ} (x1 : Int) (x2 : Int) (H : ((x1 < 0 → Q (some (vi (-2))) h) ∧ (0 ≤ x1 → ((x1 ≤ 1 → ((x2 < 0 → Q (some (vi (-2))) h) ∧ (0 ≤ x2 → (((h 8 8) ≤ x2 → Q (some (vi (-2))) h) ∧ (x2 < (h 8 8) → ((x1 = 0 → (((h 45 6) ≠ (-1) → Q (some (vi (-3))) h) ∧ ((h 45 6) = (-1) → (((h 36 0) ≤ 0 → Q (some (vi (-3))) h) ∧ (0 < (h 36 0) → ((0 ≤ x2 ∧ x2 < 20) ∧ (((h 34 x2) ≠ (-1) → Wp X 0 195 0 [vr 37, vi x2, vu] [] h (fun v h' => Wp X 4 13 63 [vr 6, vi 0, vi x2] (psh v [vr 37, vr 45]) h' Q)) ∧ ((h 34 x2) = (-1) → Q (some (vi (-3))) h)))))))) ∧ (x1 = 1 → (((h 53 6) ≠ (-1) → Q (some (vi (-3))) h) ∧ ((h 53 6) = (-1) → (((h 36 0) ≤ 0 → Q (some (vi (-3))) h) ∧ (0 < (h 36 0) → ((0 ≤ x2 ∧ x2 < 20) ∧ (((h 34 x2) ≠ (-1) → Wp X 0 195 0 [vr 37, vi x2, vu] [] h (fun v h' => Wp X 4 13 63 [vr 6, vi 1, vi x2] (psh v [vr 37, vr 53]) h' Q)) ∧ ((h 34 x2) = (-1) → Q (some (vi (-3))) h)))))))))))))) ∧ (1 < x1 → Q (some (vi (-2))) h))))) : Wp X 4 13 0 [vr 6, vi x1, vi x2] [] h Q := by
  refine wp_iload rfl rfl ?_
  refine wp_iconst rfl ?_
  refine wp_iconst rfl ?_
  refine wp_call (k := 40) (ρ2 := 0) (L2 := [vi x1, vi 0, vi 1]) rfl rfl rfl (Nat.le_of_ble_eq_true rfl) (Nat.le_of_ble_eq_true rfl) (Nat.le_of_ble_eq_true rfl) (rcv_S rfl) rfl ?_
  refine wp_iload rfl rfl ?_
  refine wp_iload rfl rfl ?_
  refine wp_iclt (tn := 10) rfl rfl (fun c1 => ?_) (fun c1 => ?_)
  · replace H := H.1 c1
    refine wp_iconst rfl ?_
    refine wp_goto (tn := 15) rfl rfl ?_
    refine wp_zret rfl rfl (by decide) ?_
    show Wp X _ 13 6 [vr 6, vi x1, vi x2] [vi 1] _ _
    refine wp_ifneT (tn := 20) rfl rfl (by decide) ?_
    refine wp_iconst rfl ?_
    exact wp_iret rfl rfl H
  · replace H := H.2 c1
    refine wp_iload rfl rfl ?_
    refine wp_iload rfl rfl ?_
    refine wp_icle (tn := 14) rfl rfl (fun c2 => ?_) (fun c2 => ?_)
    · replace H := H.1 c2
      refine wp_iconst rfl ?_
      refine wp_zret rfl rfl (by decide) ?_
      show Wp X _ 13 6 [vr 6, vi x1, vi x2] [vi 0] _ _
      refine wp_ifneF (tn := 20) rfl rfl (by decide) ?_
      refine wp_aload rfl rfl ?_
      refine wp_getR (r := 7) rfl (congrArg Prod.fst (kf_6 X.1)) rfl ?_
      refine wp_iload rfl rfl ?_
      refine wp_call (k := 145) (ρ2 := 0) (L2 := [vr 8, vi x2]) rfl rfl rfl (Nat.le_of_ble_eq_true rfl) (Nat.le_of_ble_eq_true rfl) (Nat.le_of_ble_eq_true rfl) (rcv_V rfl (congrArg Prod.fst (kf_8 X.1))) rfl ?_
      refine wp_iload rfl rfl ?_
      refine wp_iflt (tn := 16) rfl rfl (fun c3 => ?_) (fun c3 => ?_)
      · replace H := H.1 c3
        refine wp_iconst rfl ?_
        refine wp_zret rfl rfl (by decide) ?_
        show Wp X _ 13 17 [vr 6, vi x1, vi x2] [vi 0] _ _
        refine wp_ifneF (tn := 23) rfl rfl (by decide) ?_
        refine wp_iconst rfl ?_
        exact wp_iret rfl rfl H
      · replace H := H.2 c3
        refine wp_iload rfl rfl ?_
        refine wp_aload rfl rfl ?_
        refine wp_getI (j := 8) rfl (congrArg Prod.fst (kf_8 X.1)) rfl ?_
        refine wp_icge (tn := 16) rfl rfl (fun c4 => ?_) (fun c4 => ?_)
        · replace H := H.1 c4
          refine wp_iconst rfl ?_
          refine wp_zret rfl rfl (by decide) ?_
          show Wp X _ 13 17 [vr 6, vi x1, vi x2] [vi 0] _ _
          refine wp_ifneF (tn := 23) rfl rfl (by decide) ?_
          refine wp_iconst rfl ?_
          exact wp_iret rfl rfl H
        · replace H := H.2 c4
          refine wp_iconst rfl ?_
          refine wp_goto (tn := 17) rfl rfl ?_
          refine wp_zret rfl rfl (by decide) ?_
          show Wp X _ 13 17 [vr 6, vi x1, vi x2] [vi 1] _ _
          refine wp_ifneT (tn := 23) rfl rfl (by decide) ?_
          refine wp_aload rfl rfl ?_
          refine wp_iload rfl rfl ?_
          refine wp_call (k := 33) (ρ2 := 1) (L2 := [vr 6, vi x1]) rfl rfl rfl (Nat.le_of_ble_eq_true rfl) (Nat.le_of_ble_eq_true rfl) (Nat.le_of_ble_eq_true rfl) (rcv_V rfl (congrArg Prod.fst (kf_6 X.1))) rfl ?_
          refine wp_aload rfl rfl ?_
          refine wp_getR (r := 43) rfl (congrArg Prod.fst (kf_6 X.1)) rfl ?_
          refine wp_iload rfl rfl ?_
          rcases (show x1 = 0 ∨ x1 = 1 by have := (show 0 ≤ x1 ∧ x1 < 2 from ⟨c1, (by clear H; omega)⟩); clear H; omega) with rfl | rfl
          · replace H := H.1 rfl
            refine wp_aaload (r := 44) rfl (kf_44 X.1) (by decide) (by decide) rfl ?_
            refine wp_call (k := 202) (ρ2 := 0) (L2 := [vr 45]) rfl rfl rfl (Nat.le_of_ble_eq_true rfl) (Nat.le_of_ble_eq_true rfl) (Nat.le_of_ble_eq_true rfl) (rcv_V rfl (congrArg Prod.fst (kf_45 X.1))) rfl ?_
            refine wp_aload rfl rfl ?_
            refine wp_getI (j := 6) rfl (congrArg Prod.fst (kf_45 X.1)) rfl ?_
            refine wp_iret rfl rfl ?_
            show Wp X _ 33 9 [vr 6, vi 0] [vi (h 45 6)] _ _
            refine wp_iconst rfl ?_
            refine wp_icne (tn := 27) rfl rfl (fun c5 => ?_) (fun c5 => ?_)
            · replace H := H.1 c5
              refine wp_iconst rfl ?_
              refine wp_zret rfl rfl (by decide) ?_
              show Wp X _ 13 28 [vr 6, vi 0, vi x2] [vi 0] _ _
              refine wp_ifeqT (tn := 42) rfl rfl (by decide) ?_
              refine wp_iconst rfl ?_
              exact wp_iret rfl rfl H
            · replace H := H.2 c5
              refine wp_aload rfl rfl ?_
              refine wp_getR (r := 35) rfl (congrArg Prod.fst (kf_6 X.1)) rfl ?_
              refine wp_call (k := 159) (ρ2 := 0) (L2 := [vr 36]) rfl rfl rfl (Nat.le_of_ble_eq_true rfl) (Nat.le_of_ble_eq_true rfl) (Nat.le_of_ble_eq_true rfl) (rcv_V rfl (congrArg Prod.fst (kf_36 X.1))) rfl ?_
              refine wp_aload rfl rfl ?_
              refine wp_getI (j := 0) rfl (congrArg Prod.fst (kf_36 X.1)) rfl ?_
              refine wp_ifle (tn := 11) rfl rfl (fun c6 => ?_) (fun c6 => ?_)
              · replace H := H.1 c6
                refine wp_iconst rfl ?_
                refine wp_zret rfl rfl (by decide) ?_
                show Wp X _ 33 20 [vr 6, vi 0] [vi 0] _ _
                refine wp_ifeqT (tn := 27) rfl rfl (by decide) ?_
                refine wp_iconst rfl ?_
                refine wp_zret rfl rfl (by decide) ?_
                show Wp X _ 13 28 [vr 6, vi 0, vi x2] [vi 0] _ _
                refine wp_ifeqT (tn := 42) rfl rfl (by decide) ?_
                refine wp_iconst rfl ?_
                exact wp_iret rfl rfl H
              · replace H := H.2 c6
                refine wp_iconst rfl ?_
                refine wp_goto (tn := 12) rfl rfl ?_
                refine wp_zret rfl rfl (by decide) ?_
                show Wp X _ 33 20 [vr 6, vi 0] [vi 1] _ _
                refine wp_ifeqF (tn := 27) rfl rfl (by decide) ?_
                refine wp_iconst rfl ?_
                refine wp_goto (tn := 28) rfl rfl ?_
                refine wp_zret rfl rfl (by decide) ?_
                show Wp X _ 13 28 [vr 6, vi 0, vi x2] [vi 1] _ _
                refine wp_ifeqF (tn := 42) rfl rfl (by decide) ?_
                refine wp_aload rfl rfl ?_
                refine wp_getR (r := 7) rfl (congrArg Prod.fst (kf_6 X.1)) rfl ?_
                refine wp_iload rfl rfl ?_
                refine wp_call (k := 149) (ρ2 := 1) (L2 := [vr 8, vi x2]) rfl rfl rfl (Nat.le_of_ble_eq_true rfl) (Nat.le_of_ble_eq_true rfl) (Nat.le_of_ble_eq_true rfl) (rcv_V rfl (congrArg Prod.fst (kf_8 X.1))) rfl ?_
                refine wp_aload rfl rfl ?_
                refine wp_iload rfl rfl ?_
                refine wp_call (k := 145) (ρ2 := 0) (L2 := [vr 8, vi x2]) rfl rfl rfl (Nat.le_of_ble_eq_true rfl) (Nat.le_of_ble_eq_true rfl) (Nat.le_of_ble_eq_true rfl) (rcv_V rfl (congrArg Prod.fst (kf_8 X.1))) rfl ?_
                refine wp_iload rfl rfl ?_
                refine wp_ifltF (tn := 16) rfl rfl c3 ?_
                refine wp_iload rfl rfl ?_
                refine wp_aload rfl rfl ?_
                refine wp_getI (j := 8) rfl (congrArg Prod.fst (kf_8 X.1)) rfl ?_
                refine wp_icgeF (tn := 16) rfl rfl c4 ?_
                refine wp_iconst rfl ?_
                refine wp_goto (tn := 17) rfl rfl ?_
                refine wp_zret rfl rfl (by decide) ?_
                show Wp X _ 149 5 [vr 8, vi x2] [vi 1] _ _
                refine wp_ifeqF (tn := 18) rfl rfl (by decide) ?_
                refine wp_aload rfl rfl ?_
                refine wp_getR (r := 33) rfl (congrArg Prod.fst (kf_8 X.1)) rfl ?_
                refine wp_iload rfl rfl ?_
                have g7 := H.1
                replace H := H.2
                refine wp_iaload rfl (kf_34 X.1) g7 ?_
                refine wp_iconst rfl ?_
                refine wp_icne (tn := 22) rfl rfl (fun c8 => ?_) (fun c8 => ?_)
                · replace H := H.1 c8
                  refine wp_iconst rfl ?_
                  refine wp_zret rfl rfl (by decide) ?_
                  show Wp X _ 13 39 [vr 6, vi 0, vi x2] [vi 0] _ _
                  refine wp_ifeqT (tn := 45) rfl rfl (by decide) ?_
                  refine wp_aload rfl rfl ?_
                  refine wp_getR (r := 43) rfl (congrArg Prod.fst (kf_6 X.1)) rfl ?_
                  refine wp_iload rfl rfl ?_
                  refine wp_aaload (r := 44) rfl (kf_44 X.1) (by decide) (by decide) rfl ?_
                  refine wp_aload rfl rfl ?_
                  refine wp_getR (r := 36) rfl (congrArg Prod.fst (kf_6 X.1)) rfl ?_
                  refine wp_aload rfl rfl ?_
                  refine wp_getR (r := 36) rfl (congrArg Prod.fst (kf_6 X.1)) rfl ?_
                  refine wp_iload rfl rfl ?_
                  exact wp_call (k := 195) (ρ2 := 0) (L2 := [vr 37, vi x2, vu]) rfl rfl rfl (Nat.le_of_ble_eq_true rfl) (Nat.le_of_ble_eq_true rfl) (Nat.le_of_ble_eq_true rfl) (rcv_V rfl (congrArg Prod.fst (kf_37 X.1))) rfl H
                · replace H := H.2 c8
                  refine wp_iconst rfl ?_
                  refine wp_goto (tn := 23) rfl rfl ?_
                  refine wp_zret rfl rfl (by decide) ?_
                  show Wp X _ 13 39 [vr 6, vi 0, vi x2] [vi 1] _ _
                  refine wp_ifeqF (tn := 45) rfl rfl (by decide) ?_
                  refine wp_iconst rfl ?_
                  exact wp_iret rfl rfl H
          · replace H := H.2 rfl
            refine wp_aaload (r := 52) rfl (kf_44 X.1) (by decide) (by decide) rfl ?_
            refine wp_call (k := 202) (ρ2 := 0) (L2 := [vr 53]) rfl rfl rfl (Nat.le_of_ble_eq_true rfl) (Nat.le_of_ble_eq_true rfl) (Nat.le_of_ble_eq_true rfl) (rcv_V rfl (congrArg Prod.fst (kf_53 X.1))) rfl ?_
            refine wp_aload rfl rfl ?_
            refine wp_getI (j := 6) rfl (congrArg Prod.fst (kf_53 X.1)) rfl ?_
            refine wp_iret rfl rfl ?_
            show Wp X _ 33 9 [vr 6, vi 1] [vi (h 53 6)] _ _
            refine wp_iconst rfl ?_
            refine wp_icne (tn := 27) rfl rfl (fun c9 => ?_) (fun c9 => ?_)
            · replace H := H.1 c9
              refine wp_iconst rfl ?_
              refine wp_zret rfl rfl (by decide) ?_
              show Wp X _ 13 28 [vr 6, vi 1, vi x2] [vi 0] _ _
              refine wp_ifeqT (tn := 42) rfl rfl (by decide) ?_
              refine wp_iconst rfl ?_
              exact wp_iret rfl rfl H
            · replace H := H.2 c9
              refine wp_aload rfl rfl ?_
              refine wp_getR (r := 35) rfl (congrArg Prod.fst (kf_6 X.1)) rfl ?_
              refine wp_call (k := 159) (ρ2 := 0) (L2 := [vr 36]) rfl rfl rfl (Nat.le_of_ble_eq_true rfl) (Nat.le_of_ble_eq_true rfl) (Nat.le_of_ble_eq_true rfl) (rcv_V rfl (congrArg Prod.fst (kf_36 X.1))) rfl ?_
              refine wp_aload rfl rfl ?_
              refine wp_getI (j := 0) rfl (congrArg Prod.fst (kf_36 X.1)) rfl ?_
              refine wp_ifle (tn := 11) rfl rfl (fun c10 => ?_) (fun c10 => ?_)
              · replace H := H.1 c10
                refine wp_iconst rfl ?_
                refine wp_zret rfl rfl (by decide) ?_
                show Wp X _ 33 20 [vr 6, vi 1] [vi 0] _ _
                refine wp_ifeqT (tn := 27) rfl rfl (by decide) ?_
                refine wp_iconst rfl ?_
                refine wp_zret rfl rfl (by decide) ?_
                show Wp X _ 13 28 [vr 6, vi 1, vi x2] [vi 0] _ _
                refine wp_ifeqT (tn := 42) rfl rfl (by decide) ?_
                refine wp_iconst rfl ?_
                exact wp_iret rfl rfl H
              · replace H := H.2 c10
                refine wp_iconst rfl ?_
                refine wp_goto (tn := 12) rfl rfl ?_
                refine wp_zret rfl rfl (by decide) ?_
                show Wp X _ 33 20 [vr 6, vi 1] [vi 1] _ _
                refine wp_ifeqF (tn := 27) rfl rfl (by decide) ?_
                refine wp_iconst rfl ?_
                refine wp_goto (tn := 28) rfl rfl ?_
                refine wp_zret rfl rfl (by decide) ?_
                show Wp X _ 13 28 [vr 6, vi 1, vi x2] [vi 1] _ _
                refine wp_ifeqF (tn := 42) rfl rfl (by decide) ?_
                refine wp_aload rfl rfl ?_
                refine wp_getR (r := 7) rfl (congrArg Prod.fst (kf_6 X.1)) rfl ?_
                refine wp_iload rfl rfl ?_
                refine wp_call (k := 149) (ρ2 := 1) (L2 := [vr 8, vi x2]) rfl rfl rfl (Nat.le_of_ble_eq_true rfl) (Nat.le_of_ble_eq_true rfl) (Nat.le_of_ble_eq_true rfl) (rcv_V rfl (congrArg Prod.fst (kf_8 X.1))) rfl ?_
                refine wp_aload rfl rfl ?_
                refine wp_iload rfl rfl ?_
                refine wp_call (k := 145) (ρ2 := 0) (L2 := [vr 8, vi x2]) rfl rfl rfl (Nat.le_of_ble_eq_true rfl) (Nat.le_of_ble_eq_true rfl) (Nat.le_of_ble_eq_true rfl) (rcv_V rfl (congrArg Prod.fst (kf_8 X.1))) rfl ?_
                refine wp_iload rfl rfl ?_
                refine wp_ifltF (tn := 16) rfl rfl c3 ?_
                refine wp_iload rfl rfl ?_
                refine wp_aload rfl rfl ?_
                refine wp_getI (j := 8) rfl (congrArg Prod.fst (kf_8 X.1)) rfl ?_
                refine wp_icgeF (tn := 16) rfl rfl c4 ?_
                refine wp_iconst rfl ?_
                refine wp_goto (tn := 17) rfl rfl ?_
                refine wp_zret rfl rfl (by decide) ?_
                show Wp X _ 149 5 [vr 8, vi x2] [vi 1] _ _
                refine wp_ifeqF (tn := 18) rfl rfl (by decide) ?_
                refine wp_aload rfl rfl ?_
                refine wp_getR (r := 33) rfl (congrArg Prod.fst (kf_8 X.1)) rfl ?_
                refine wp_iload rfl rfl ?_
                have g11 := H.1
                replace H := H.2
                refine wp_iaload rfl (kf_34 X.1) g11 ?_
                refine wp_iconst rfl ?_
                refine wp_icne (tn := 22) rfl rfl (fun c12 => ?_) (fun c12 => ?_)
                · replace H := H.1 c12
                  refine wp_iconst rfl ?_
                  refine wp_zret rfl rfl (by decide) ?_
                  show Wp X _ 13 39 [vr 6, vi 1, vi x2] [vi 0] _ _
                  refine wp_ifeqT (tn := 45) rfl rfl (by decide) ?_
                  refine wp_aload rfl rfl ?_
                  refine wp_getR (r := 43) rfl (congrArg Prod.fst (kf_6 X.1)) rfl ?_
                  refine wp_iload rfl rfl ?_
                  refine wp_aaload (r := 52) rfl (kf_44 X.1) (by decide) (by decide) rfl ?_
                  refine wp_aload rfl rfl ?_
                  refine wp_getR (r := 36) rfl (congrArg Prod.fst (kf_6 X.1)) rfl ?_
                  refine wp_aload rfl rfl ?_
                  refine wp_getR (r := 36) rfl (congrArg Prod.fst (kf_6 X.1)) rfl ?_
                  refine wp_iload rfl rfl ?_
                  exact wp_call (k := 195) (ρ2 := 0) (L2 := [vr 37, vi x2, vu]) rfl rfl rfl (Nat.le_of_ble_eq_true rfl) (Nat.le_of_ble_eq_true rfl) (Nat.le_of_ble_eq_true rfl) (rcv_V rfl (congrArg Prod.fst (kf_37 X.1))) rfl H
                · replace H := H.2 c12
                  refine wp_iconst rfl ?_
                  refine wp_goto (tn := 23) rfl rfl ?_
                  refine wp_zret rfl rfl (by decide) ?_
                  show Wp X _ 13 39 [vr 6, vi 1, vi x2] [vi 1] _ _
                  refine wp_ifeqF (tn := 45) rfl rfl (by decide) ?_
                  refine wp_iconst rfl ?_
                  exact wp_iret rfl rfl H
    · replace H := H.2 c2
      refine wp_iconst rfl ?_
      refine wp_goto (tn := 15) rfl rfl ?_
      refine wp_zret rfl rfl (by decide) ?_
      show Wp X _ 13 6 [vr 6, vi x1, vi x2] [vi 1] _ _
      refine wp_ifneT (tn := 20) rfl rfl (by decide) ?_
      refine wp_iconst rfl ?_
      exact wp_iret rfl rfl H
/-- WarnLines.warns(II)I, from 63 -/
theorem S13_6_63a {X : Nat × (Int → Int)} {h : HP} {Q : bQ} (zx0 : aV) (zx1 : aV) (zx2 : aV) (s0 : Int) (H : Wp X 3 209 0 [vr 45, vr 37, vi s0, vu, vu, vu, vu, vu] [] h (fun v h' => Wp X 4 13 66 [zx0, zx1, zx2] (psh v []) h' Q)) : Wp X 4 13 63 [zx0, zx1, zx2] [vi s0, vr 37, vr 45] h Q := by
  exact wp_call (k := 209) (ρ2 := 3) (L2 := [vr 45, vr 37, vi s0, vu, vu, vu, vu, vu]) rfl rfl rfl (Nat.le_of_ble_eq_true rfl) (Nat.le_of_ble_eq_true rfl) (Nat.le_of_ble_eq_true rfl) (rcv_V rfl (congrArg Prod.fst (kf_45 X.1))) rfl H
/-- WarnLines.warns(II)I, from 63 -/
theorem S13_6_63b {X : Nat × (Int → Int)} {h : HP} {Q : bQ} (zx0 : aV) (zx1 : aV) (zx2 : aV) (s0 : Int) (H : Wp X 3 209 0 [vr 53, vr 37, vi s0, vu, vu, vu, vu, vu] [] h (fun v h' => Wp X 4 13 66 [zx0, zx1, zx2] (psh v []) h' Q)) : Wp X 4 13 63 [zx0, zx1, zx2] [vi s0, vr 37, vr 53] h Q := by
  exact wp_call (k := 209) (ρ2 := 3) (L2 := [vr 53, vr 37, vi s0, vu, vu, vu, vu, vu]) rfl rfl rfl (Nat.le_of_ble_eq_true rfl) (Nat.le_of_ble_eq_true rfl) (Nat.le_of_ble_eq_true rfl) (rcv_V rfl (congrArg Prod.fst (kf_53 X.1))) rfl H
/-- WarnLines.warns(II)I, from 66 -/
theorem S13_6_66 {X : Nat × (Int → Int)} {h : HP} {Q : bQ} (zx0 : aV) (zx1 : aV) (zx2 : aV) (s0 : Int) (H : Q (some (vi s0)) h) : Wp X 4 13 66 [zx0, zx1, zx2] [vi s0] h Q := by
  exact wp_iret rfl rfl H
/-- WarnLines.warned(II)I, from 0 -/
theorem S14_6_0 {X : Nat × (Int → Int)} {h : HP} {Q : bQ} (x1 : Int) (x2 : Int) (H : ((x1 < 0 → Q (some (vi (-2))) h) ∧ (0 ≤ x1 → ((x1 ≤ 1 → ((x2 < 0 → Q (some (vi (-2))) h) ∧ (0 ≤ x2 → ((x2 ≤ 2 → ((x1 = 0 → (((h 45 6) ≠ (-1) → Q (some (vi (-3))) h) ∧ ((h 45 6) = (-1) → (((h 36 0) ≤ 0 → Q (some (vi (-3))) h) ∧ (0 < (h 36 0) → ((x2 ≠ 0 → ((x2 ≠ 1 → (((h 37 6) ≤ 7 → Wp X 4 35 0 [vr 6, vr 45, vu, vu] [] h (fun v h' => Wp X 15 14 98 [vr 6, vi 0, vi x2] (psh v [vr 45, vr 61]) h' Q)) ∧ (7 < (h 37 6) → Q (some (vi (-4))) h))) ∧ (x2 = 1 → Wp X 4 35 0 [vr 6, vr 45, vu, vu] [] h (fun v h' => Wp X 15 14 62 [vr 6, vi 0, vi x2] (psh v []) h' Q)))) ∧ (x2 = 0 → Wp X 4 34 0 [vr 6, vr 45, vu] [] h (fun v h' => Wp X 15 14 46 [vr 6, vi 0, vi x2] (psh v []) h' Q)))))))) ∧ (x1 = 1 → (((h 53 6) ≠ (-1) → Q (some (vi (-3))) h) ∧ ((h 53 6) = (-1) → (((h 36 0) ≤ 0 → Q (some (vi (-3))) h) ∧ (0 < (h 36 0) → ((x2 ≠ 0 → ((x2 ≠ 1 → (((h 37 6) ≤ 7 → Wp X 4 35 0 [vr 6, vr 53, vu, vu] [] h (fun v h' => Wp X 15 14 98 [vr 6, vi 1, vi x2] (psh v [vr 53, vr 61]) h' Q)) ∧ (7 < (h 37 6) → Q (some (vi (-4))) h))) ∧ (x2 = 1 → Wp X 4 35 0 [vr 6, vr 53, vu, vu] [] h (fun v h' => Wp X 15 14 62 [vr 6, vi 1, vi x2] (psh v []) h' Q)))) ∧ (x2 = 0 → Wp X 4 34 0 [vr 6, vr 53, vu] [] h (fun v h' => Wp X 15 14 46 [vr 6, vi 1, vi x2] (psh v []) h' Q)))))))))) ∧ (2 < x2 → Q (some (vi (-2))) h))))) ∧ (1 < x1 → Q (some (vi (-2))) h))))) : Wp X 15 14 0 [vr 6, vi x1, vi x2] [] h Q := by
  refine wp_iload rfl rfl ?_
  refine wp_iconst rfl ?_
  refine wp_iconst rfl ?_
  refine wp_call (k := 40) (ρ2 := 0) (L2 := [vi x1, vi 0, vi 1]) rfl rfl rfl (Nat.le_of_ble_eq_true rfl) (Nat.le_of_ble_eq_true rfl) (Nat.le_of_ble_eq_true rfl) (rcv_S rfl) rfl ?_
  refine wp_iload rfl rfl ?_
  refine wp_iload rfl rfl ?_
  refine wp_iclt (tn := 10) rfl rfl (fun c1 => ?_) (fun c1 => ?_)
  · replace H := H.1 c1
    refine wp_iconst rfl ?_
    refine wp_goto (tn := 15) rfl rfl ?_
    refine wp_zret rfl rfl (by decide) ?_
    show Wp X _ 14 6 [vr 6, vi x1, vi x2] [vi 1] _ _
    refine wp_ifneT (tn := 18) rfl rfl (by decide) ?_
    refine wp_iconst rfl ?_
    exact wp_iret rfl rfl H
  · replace H := H.2 c1
    refine wp_iload rfl rfl ?_
    refine wp_iload rfl rfl ?_
    refine wp_icle (tn := 14) rfl rfl (fun c2 => ?_) (fun c2 => ?_)
    · replace H := H.1 c2
      refine wp_iconst rfl ?_
      refine wp_zret rfl rfl (by decide) ?_
      show Wp X _ 14 6 [vr 6, vi x1, vi x2] [vi 0] _ _
      refine wp_ifneF (tn := 18) rfl rfl (by decide) ?_
      refine wp_iload rfl rfl ?_
      refine wp_iconst rfl ?_
      refine wp_iconst rfl ?_
      refine wp_call (k := 40) (ρ2 := 0) (L2 := [vi x2, vi 0, vi 2]) rfl rfl rfl (Nat.le_of_ble_eq_true rfl) (Nat.le_of_ble_eq_true rfl) (Nat.le_of_ble_eq_true rfl) (rcv_S rfl) rfl ?_
      refine wp_iload rfl rfl ?_
      refine wp_iload rfl rfl ?_
      refine wp_iclt (tn := 10) rfl rfl (fun c3 => ?_) (fun c3 => ?_)
      · replace H := H.1 c3
        refine wp_iconst rfl ?_
        refine wp_goto (tn := 15) rfl rfl ?_
        refine wp_zret rfl rfl (by decide) ?_
        show Wp X _ 14 15 [vr 6, vi x1, vi x2] [vi 1] _ _
        refine wp_ifeqF (tn := 21) rfl rfl (by decide) ?_
        refine wp_iconst rfl ?_
        exact wp_iret rfl rfl H
      · replace H := H.2 c3
        refine wp_iload rfl rfl ?_
        refine wp_iload rfl rfl ?_
        refine wp_icle (tn := 14) rfl rfl (fun c4 => ?_) (fun c4 => ?_)
        · replace H := H.1 c4
          refine wp_iconst rfl ?_
          refine wp_zret rfl rfl (by decide) ?_
          show Wp X _ 14 15 [vr 6, vi x1, vi x2] [vi 0] _ _
          refine wp_ifeqT (tn := 21) rfl rfl (by decide) ?_
          refine wp_aload rfl rfl ?_
          refine wp_iload rfl rfl ?_
          refine wp_call (k := 33) (ρ2 := 1) (L2 := [vr 6, vi x1]) rfl rfl rfl (Nat.le_of_ble_eq_true rfl) (Nat.le_of_ble_eq_true rfl) (Nat.le_of_ble_eq_true rfl) (rcv_V rfl (congrArg Prod.fst (kf_6 X.1))) rfl ?_
          refine wp_aload rfl rfl ?_
          refine wp_getR (r := 43) rfl (congrArg Prod.fst (kf_6 X.1)) rfl ?_
          refine wp_iload rfl rfl ?_
          rcases (show x1 = 0 ∨ x1 = 1 by have := (show 0 ≤ x1 ∧ x1 < 2 from ⟨c1, (by clear H; omega)⟩); clear H; omega) with rfl | rfl
          · replace H := H.1 rfl
            refine wp_aaload (r := 44) rfl (kf_44 X.1) (by decide) (by decide) rfl ?_
            refine wp_call (k := 202) (ρ2 := 0) (L2 := [vr 45]) rfl rfl rfl (Nat.le_of_ble_eq_true rfl) (Nat.le_of_ble_eq_true rfl) (Nat.le_of_ble_eq_true rfl) (rcv_V rfl (congrArg Prod.fst (kf_45 X.1))) rfl ?_
            refine wp_aload rfl rfl ?_
            refine wp_getI (j := 6) rfl (congrArg Prod.fst (kf_45 X.1)) rfl ?_
            refine wp_iret rfl rfl ?_
            show Wp X _ 33 9 [vr 6, vi 0] [vi (h 45 6)] _ _
            refine wp_iconst rfl ?_
            refine wp_icne (tn := 27) rfl rfl (fun c5 => ?_) (fun c5 => ?_)
            · replace H := H.1 c5
              refine wp_iconst rfl ?_
              refine wp_zret rfl rfl (by decide) ?_
              show Wp X _ 14 26 [vr 6, vi 0, vi x2] [vi 0] _ _
              refine wp_ifneF (tn := 32) rfl rfl (by decide) ?_
              refine wp_iconst rfl ?_
              exact wp_iret rfl rfl H
            · replace H := H.2 c5
              refine wp_aload rfl rfl ?_
              refine wp_getR (r := 35) rfl (congrArg Prod.fst (kf_6 X.1)) rfl ?_
              refine wp_call (k := 159) (ρ2 := 0) (L2 := [vr 36]) rfl rfl rfl (Nat.le_of_ble_eq_true rfl) (Nat.le_of_ble_eq_true rfl) (Nat.le_of_ble_eq_true rfl) (rcv_V rfl (congrArg Prod.fst (kf_36 X.1))) rfl ?_
              refine wp_aload rfl rfl ?_
              refine wp_getI (j := 0) rfl (congrArg Prod.fst (kf_36 X.1)) rfl ?_
              refine wp_ifle (tn := 11) rfl rfl (fun c6 => ?_) (fun c6 => ?_)
              · replace H := H.1 c6
                refine wp_iconst rfl ?_
                refine wp_zret rfl rfl (by decide) ?_
                show Wp X _ 33 20 [vr 6, vi 0] [vi 0] _ _
                refine wp_ifeqT (tn := 27) rfl rfl (by decide) ?_
                refine wp_iconst rfl ?_
                refine wp_zret rfl rfl (by decide) ?_
                show Wp X _ 14 26 [vr 6, vi 0, vi x2] [vi 0] _ _
                refine wp_ifneF (tn := 32) rfl rfl (by decide) ?_
                refine wp_iconst rfl ?_
                exact wp_iret rfl rfl H
              · replace H := H.2 c6
                refine wp_iconst rfl ?_
                refine wp_goto (tn := 12) rfl rfl ?_
                refine wp_zret rfl rfl (by decide) ?_
                show Wp X _ 33 20 [vr 6, vi 0] [vi 1] _ _
                refine wp_ifeqF (tn := 27) rfl rfl (by decide) ?_
                refine wp_iconst rfl ?_
                refine wp_goto (tn := 28) rfl rfl ?_
                refine wp_zret rfl rfl (by decide) ?_
                show Wp X _ 14 26 [vr 6, vi 0, vi x2] [vi 1] _ _
                refine wp_ifneT (tn := 32) rfl rfl (by decide) ?_
                refine wp_iload rfl rfl ?_
                refine wp_ifne (tn := 47) rfl rfl (fun c7 => ?_) (fun c7 => ?_)
                · replace H := H.1 c7
                  refine wp_iload rfl rfl ?_
                  refine wp_iconst rfl ?_
                  refine wp_icne (tn := 63) rfl rfl (fun c8 => ?_) (fun c8 => ?_)
                  · replace H := H.1 c8
                    refine wp_aload rfl rfl ?_
                    refine wp_getR (r := 36) rfl (congrArg Prod.fst (kf_6 X.1)) rfl ?_
                    refine wp_call (k := 188) (ρ2 := 0) (L2 := [vr 37]) rfl rfl rfl (Nat.le_of_ble_eq_true rfl) (Nat.le_of_ble_eq_true rfl) (Nat.le_of_ble_eq_true rfl) (rcv_V rfl (congrArg Prod.fst (kf_37 X.1))) rfl ?_
                    refine wp_aload rfl rfl ?_
                    refine wp_getI (j := 6) rfl (congrArg Prod.fst (kf_37 X.1)) rfl ?_
                    refine wp_iret rfl rfl ?_
                    show Wp X _ 14 70 [vr 6, vi 0, vi x2] [vi (h 37 6)] _ _
                    refine wp_iconst rfl ?_
                    refine wp_icle (tn := 78) rfl rfl (fun c9 => ?_) (fun c9 => ?_)
                    · replace H := H.1 c9
                      refine wp_aload rfl rfl ?_
                      refine wp_getR (r := 60) rfl (congrArg Prod.fst (kf_6 X.1)) rfl ?_
                      refine wp_aload rfl rfl ?_
                      refine wp_getR (r := 43) rfl (congrArg Prod.fst (kf_6 X.1)) rfl ?_
                      refine wp_iload rfl rfl ?_
                      refine wp_aaload (r := 44) rfl (kf_44 X.1) (by decide) (by decide) rfl ?_
                      refine wp_aload rfl rfl ?_
                      refine wp_aload rfl rfl ?_
                      refine wp_getR (r := 43) rfl (congrArg Prod.fst (kf_6 X.1)) rfl ?_
                      refine wp_iload rfl rfl ?_
                      refine wp_aaload (r := 44) rfl (kf_44 X.1) (by decide) (by decide) rfl ?_
                      exact wp_call (k := 35) (ρ2 := 4) (L2 := [vr 6, vr 45, vu, vu]) rfl rfl rfl (Nat.le_of_ble_eq_true rfl) (Nat.le_of_ble_eq_true rfl) (Nat.le_of_ble_eq_true rfl) (rcv_V rfl (congrArg Prod.fst (kf_6 X.1))) rfl H
                    · replace H := H.2 c9
                      refine wp_iconst rfl ?_
                      exact wp_iret rfl rfl H
                  · replace H := H.2 c8
                    refine wp_aload rfl rfl ?_
                    refine wp_aload rfl rfl ?_
                    refine wp_getR (r := 43) rfl (congrArg Prod.fst (kf_6 X.1)) rfl ?_
                    refine wp_iload rfl rfl ?_
                    refine wp_aaload (r := 44) rfl (kf_44 X.1) (by decide) (by decide) rfl ?_
                    exact wp_call (k := 35) (ρ2 := 4) (L2 := [vr 6, vr 45, vu, vu]) rfl rfl rfl (Nat.le_of_ble_eq_true rfl) (Nat.le_of_ble_eq_true rfl) (Nat.le_of_ble_eq_true rfl) (rcv_V rfl (congrArg Prod.fst (kf_6 X.1))) rfl H
                · replace H := H.2 c7
                  refine wp_aload rfl rfl ?_
                  refine wp_aload rfl rfl ?_
                  refine wp_getR (r := 43) rfl (congrArg Prod.fst (kf_6 X.1)) rfl ?_
                  refine wp_iload rfl rfl ?_
                  refine wp_aaload (r := 44) rfl (kf_44 X.1) (by decide) (by decide) rfl ?_
                  exact wp_call (k := 34) (ρ2 := 4) (L2 := [vr 6, vr 45, vu]) rfl rfl rfl (Nat.le_of_ble_eq_true rfl) (Nat.le_of_ble_eq_true rfl) (Nat.le_of_ble_eq_true rfl) (rcv_V rfl (congrArg Prod.fst (kf_6 X.1))) rfl H
          · replace H := H.2 rfl
            refine wp_aaload (r := 52) rfl (kf_44 X.1) (by decide) (by decide) rfl ?_
            refine wp_call (k := 202) (ρ2 := 0) (L2 := [vr 53]) rfl rfl rfl (Nat.le_of_ble_eq_true rfl) (Nat.le_of_ble_eq_true rfl) (Nat.le_of_ble_eq_true rfl) (rcv_V rfl (congrArg Prod.fst (kf_53 X.1))) rfl ?_
            refine wp_aload rfl rfl ?_
            refine wp_getI (j := 6) rfl (congrArg Prod.fst (kf_53 X.1)) rfl ?_
            refine wp_iret rfl rfl ?_
            show Wp X _ 33 9 [vr 6, vi 1] [vi (h 53 6)] _ _
            refine wp_iconst rfl ?_
            refine wp_icne (tn := 27) rfl rfl (fun c10 => ?_) (fun c10 => ?_)
            · replace H := H.1 c10
              refine wp_iconst rfl ?_
              refine wp_zret rfl rfl (by decide) ?_
              show Wp X _ 14 26 [vr 6, vi 1, vi x2] [vi 0] _ _
              refine wp_ifneF (tn := 32) rfl rfl (by decide) ?_
              refine wp_iconst rfl ?_
              exact wp_iret rfl rfl H
            · replace H := H.2 c10
              refine wp_aload rfl rfl ?_
              refine wp_getR (r := 35) rfl (congrArg Prod.fst (kf_6 X.1)) rfl ?_
              refine wp_call (k := 159) (ρ2 := 0) (L2 := [vr 36]) rfl rfl rfl (Nat.le_of_ble_eq_true rfl) (Nat.le_of_ble_eq_true rfl) (Nat.le_of_ble_eq_true rfl) (rcv_V rfl (congrArg Prod.fst (kf_36 X.1))) rfl ?_
              refine wp_aload rfl rfl ?_
              refine wp_getI (j := 0) rfl (congrArg Prod.fst (kf_36 X.1)) rfl ?_
              refine wp_ifle (tn := 11) rfl rfl (fun c11 => ?_) (fun c11 => ?_)
              · replace H := H.1 c11
                refine wp_iconst rfl ?_
                refine wp_zret rfl rfl (by decide) ?_
                show Wp X _ 33 20 [vr 6, vi 1] [vi 0] _ _
                refine wp_ifeqT (tn := 27) rfl rfl (by decide) ?_
                refine wp_iconst rfl ?_
                refine wp_zret rfl rfl (by decide) ?_
                show Wp X _ 14 26 [vr 6, vi 1, vi x2] [vi 0] _ _
                refine wp_ifneF (tn := 32) rfl rfl (by decide) ?_
                refine wp_iconst rfl ?_
                exact wp_iret rfl rfl H
              · replace H := H.2 c11
                refine wp_iconst rfl ?_
                refine wp_goto (tn := 12) rfl rfl ?_
                refine wp_zret rfl rfl (by decide) ?_
                show Wp X _ 33 20 [vr 6, vi 1] [vi 1] _ _
                refine wp_ifeqF (tn := 27) rfl rfl (by decide) ?_
                refine wp_iconst rfl ?_
                refine wp_goto (tn := 28) rfl rfl ?_
                refine wp_zret rfl rfl (by decide) ?_
                show Wp X _ 14 26 [vr 6, vi 1, vi x2] [vi 1] _ _
                refine wp_ifneT (tn := 32) rfl rfl (by decide) ?_
                refine wp_iload rfl rfl ?_
                refine wp_ifne (tn := 47) rfl rfl (fun c12 => ?_) (fun c12 => ?_)
                · replace H := H.1 c12
                  refine wp_iload rfl rfl ?_
                  refine wp_iconst rfl ?_
                  refine wp_icne (tn := 63) rfl rfl (fun c13 => ?_) (fun c13 => ?_)
                  · replace H := H.1 c13
                    refine wp_aload rfl rfl ?_
                    refine wp_getR (r := 36) rfl (congrArg Prod.fst (kf_6 X.1)) rfl ?_
                    refine wp_call (k := 188) (ρ2 := 0) (L2 := [vr 37]) rfl rfl rfl (Nat.le_of_ble_eq_true rfl) (Nat.le_of_ble_eq_true rfl) (Nat.le_of_ble_eq_true rfl) (rcv_V rfl (congrArg Prod.fst (kf_37 X.1))) rfl ?_
                    refine wp_aload rfl rfl ?_
                    refine wp_getI (j := 6) rfl (congrArg Prod.fst (kf_37 X.1)) rfl ?_
                    refine wp_iret rfl rfl ?_
                    show Wp X _ 14 70 [vr 6, vi 1, vi x2] [vi (h 37 6)] _ _
                    refine wp_iconst rfl ?_
                    refine wp_icle (tn := 78) rfl rfl (fun c14 => ?_) (fun c14 => ?_)
                    · replace H := H.1 c14
                      refine wp_aload rfl rfl ?_
                      refine wp_getR (r := 60) rfl (congrArg Prod.fst (kf_6 X.1)) rfl ?_
                      refine wp_aload rfl rfl ?_
                      refine wp_getR (r := 43) rfl (congrArg Prod.fst (kf_6 X.1)) rfl ?_
                      refine wp_iload rfl rfl ?_
                      refine wp_aaload (r := 52) rfl (kf_44 X.1) (by decide) (by decide) rfl ?_
                      refine wp_aload rfl rfl ?_
                      refine wp_aload rfl rfl ?_
                      refine wp_getR (r := 43) rfl (congrArg Prod.fst (kf_6 X.1)) rfl ?_
                      refine wp_iload rfl rfl ?_
                      refine wp_aaload (r := 52) rfl (kf_44 X.1) (by decide) (by decide) rfl ?_
                      exact wp_call (k := 35) (ρ2 := 4) (L2 := [vr 6, vr 53, vu, vu]) rfl rfl rfl (Nat.le_of_ble_eq_true rfl) (Nat.le_of_ble_eq_true rfl) (Nat.le_of_ble_eq_true rfl) (rcv_V rfl (congrArg Prod.fst (kf_6 X.1))) rfl H
                    · replace H := H.2 c14
                      refine wp_iconst rfl ?_
                      exact wp_iret rfl rfl H
                  · replace H := H.2 c13
                    refine wp_aload rfl rfl ?_
                    refine wp_aload rfl rfl ?_
                    refine wp_getR (r := 43) rfl (congrArg Prod.fst (kf_6 X.1)) rfl ?_
                    refine wp_iload rfl rfl ?_
                    refine wp_aaload (r := 52) rfl (kf_44 X.1) (by decide) (by decide) rfl ?_
                    exact wp_call (k := 35) (ρ2 := 4) (L2 := [vr 6, vr 53, vu, vu]) rfl rfl rfl (Nat.le_of_ble_eq_true rfl) (Nat.le_of_ble_eq_true rfl) (Nat.le_of_ble_eq_true rfl) (rcv_V rfl (congrArg Prod.fst (kf_6 X.1))) rfl H
                · replace H := H.2 c12
                  refine wp_aload rfl rfl ?_
                  refine wp_aload rfl rfl ?_
                  refine wp_getR (r := 43) rfl (congrArg Prod.fst (kf_6 X.1)) rfl ?_
                  refine wp_iload rfl rfl ?_
                  refine wp_aaload (r := 52) rfl (kf_44 X.1) (by decide) (by decide) rfl ?_
                  exact wp_call (k := 34) (ρ2 := 4) (L2 := [vr 6, vr 53, vu]) rfl rfl rfl (Nat.le_of_ble_eq_true rfl) (Nat.le_of_ble_eq_true rfl) (Nat.le_of_ble_eq_true rfl) (rcv_V rfl (congrArg Prod.fst (kf_6 X.1))) rfl H
        · replace H := H.2 c4
          refine wp_iconst rfl ?_
          refine wp_goto (tn := 15) rfl rfl ?_
          refine wp_zret rfl rfl (by decide) ?_
          show Wp X _ 14 15 [vr 6, vi x1, vi x2] [vi 1] _ _
          refine wp_ifeqF (tn := 21) rfl rfl (by decide) ?_
          refine wp_iconst rfl ?_
          exact wp_iret rfl rfl H
    · replace H := H.2 c2
      refine wp_iconst rfl ?_
      refine wp_goto (tn := 15) rfl rfl ?_
      refine wp_zret rfl rfl (by decide) ?_
      show Wp X _ 14 6 [vr 6, vi x1, vi x2] [vi 1] _ _
      refine wp_ifneT (tn := 18) rfl rfl (by decide) ?_
      refine wp_iconst rfl ?_
      exact wp_iret rfl rfl H
/-- WarnLines.warned(II)I, from 46 -/
theorem S14_6_46 {X : Nat × (Int → Int)} {h : HP} {Q : bQ} (zx0 : aV) (zx1 : aV) (zx2 : aV) (s0 : Int) (H : Q (some (vi s0)) h) : Wp X 15 14 46 [zx0, zx1, zx2] [vi s0] h Q := by
  exact wp_iret rfl rfl H
/-- WarnLines.warned(II)I, from 62 -/
theorem S14_6_62 {X : Nat × (Int → Int)} {h : HP} {Q : bQ} (zx0 : aV) (zx1 : aV) (zx2 : aV) (s0 : Int) (H : Q (some (vi s0)) h) : Wp X 15 14 62 [zx0, zx1, zx2] [vi s0] h Q := by
  exact wp_iret rfl rfl H
/-- WarnLines.warned(II)I, from 98 -/
theorem S14_6_98a {X : Nat × (Int → Int)} {h : HP} {Q : bQ} (zx0 : aV) (zx1 : aV) (zx2 : aV) (s0 : Int) (H : Wp X 14 184 0 [vr 61, vr 45, vi s0, vu] [] h (fun v h' => Wp X 15 14 101 [zx0, zx1, zx2] (psh v []) h' Q)) : Wp X 15 14 98 [zx0, zx1, zx2] [vi s0, vr 45, vr 61] h Q := by
  exact wp_call (k := 184) (ρ2 := 14) (L2 := [vr 61, vr 45, vi s0, vu]) rfl rfl rfl (Nat.le_of_ble_eq_true rfl) (Nat.le_of_ble_eq_true rfl) (Nat.le_of_ble_eq_true rfl) (rcv_V rfl (congrArg Prod.fst (kf_61 X.1))) rfl H
/-- WarnLines.warned(II)I, from 98 -/
theorem S14_6_98b {X : Nat × (Int → Int)} {h : HP} {Q : bQ} (zx0 : aV) (zx1 : aV) (zx2 : aV) (s0 : Int) (H : Wp X 14 184 0 [vr 61, vr 53, vi s0, vu] [] h (fun v h' => Wp X 15 14 101 [zx0, zx1, zx2] (psh v []) h' Q)) : Wp X 15 14 98 [zx0, zx1, zx2] [vi s0, vr 53, vr 61] h Q := by
  exact wp_call (k := 184) (ρ2 := 14) (L2 := [vr 61, vr 53, vi s0, vu]) rfl rfl rfl (Nat.le_of_ble_eq_true rfl) (Nat.le_of_ble_eq_true rfl) (Nat.le_of_ble_eq_true rfl) (rcv_V rfl (congrArg Prod.fst (kf_61 X.1))) rfl H
/-- WarnLines.warned(II)I, from 101 -/
theorem S14_6_101 {X : Nat × (Int → Int)} {h : HP} {Q : bQ} (zx0 : aV) (zx1 : aV) (zx2 : aV) (s0 : Int) (H : Q (some (vi s0)) h) : Wp X 15 14 101 [zx0, zx1, zx2] [vi s0] h Q := by
  exact wp_iret rfl rfl H
