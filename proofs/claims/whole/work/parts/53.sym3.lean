-- ===== the methods run symbolically, 3 (by program: wip/whole/gen_sym.py) =====
/-- WarnLines.write(I)I, from 0 -/
theorem S29_6_0 {X : Nat × (Int → Int)} {h : HP} {Q : bQ} (x1 : Int) (H : ((x1 < 0 → Q (some (vi (-2))) h) ∧ (0 ≤ x1 → ((x1 ≤ 3 → ((x1 = 0 → (((h 81 1) ≠ (-1) → (((h 36 0) ≤ 0 → Q (some (vi (-3))) h) ∧ (0 < (h 36 0) → (((h 8 8) < (h 81 2) → Wp X 3 29 63 [vr 6, vi 0, vr 81, vi (h 8 8), vi 0] [] h Q) ∧ ((h 81 2) ≤ (h 8 8) → Wp X 3 29 63 [vr 6, vi 0, vr 81, vi (h 81 2), vi 0] [] h Q))))) ∧ ((h 81 1) = (-1) → Q (some (vi (-11))) (upd2 h 6 10 1)))) ∧ (x1 = 1 → (((h 83 1) ≠ (-1) → (((h 36 0) ≤ 0 → Q (some (vi (-3))) h) ∧ (0 < (h 36 0) → (((h 8 8) < (h 83 2) → Wp X 3 29 63 [vr 6, vi 1, vr 83, vi (h 8 8), vi 0] [] h Q) ∧ ((h 83 2) ≤ (h 8 8) → Wp X 3 29 63 [vr 6, vi 1, vr 83, vi (h 83 2), vi 0] [] h Q))))) ∧ ((h 83 1) = (-1) → Q (some (vi (-11))) (upd2 h 6 10 1)))) ∧ (x1 = 2 → (((h 85 1) ≠ (-1) → (((h 36 0) ≤ 0 → Q (some (vi (-3))) h) ∧ (0 < (h 36 0) → (((h 8 8) < (h 85 2) → Wp X 3 29 63 [vr 6, vi 2, vr 85, vi (h 8 8), vi 0] [] h Q) ∧ ((h 85 2) ≤ (h 8 8) → Wp X 3 29 63 [vr 6, vi 2, vr 85, vi (h 85 2), vi 0] [] h Q))))) ∧ ((h 85 1) = (-1) → Q (some (vi (-11))) (upd2 h 6 10 1)))) ∧ (x1 = 3 → (((h 87 1) ≠ (-1) → (((h 36 0) ≤ 0 → Q (some (vi (-3))) h) ∧ (0 < (h 36 0) → (((h 8 8) < (h 87 2) → Wp X 3 29 63 [vr 6, vi 3, vr 87, vi (h 8 8), vi 0] [] h Q) ∧ ((h 87 2) ≤ (h 8 8) → Wp X 3 29 63 [vr 6, vi 3, vr 87, vi (h 87 2), vi 0] [] h Q))))) ∧ ((h 87 1) = (-1) → Q (some (vi (-11))) (upd2 h 6 10 1)))))) ∧ (3 < x1 → Q (some (vi (-2))) h))))) : Wp X 3 29 0 [vr 6, vi x1, vu, vu, vu] [] h Q := by
  refine wp_iload rfl rfl ?_
  refine wp_iconst rfl ?_
  refine wp_iconst rfl ?_
  refine wp_call (k := 40) (ρ2 := 0) (L2 := [vi x1, vi 0, vi 3]) rfl rfl rfl (Nat.le_of_ble_eq_true rfl) (Nat.le_of_ble_eq_true rfl) (Nat.le_of_ble_eq_true rfl) (rcv_S rfl) rfl ?_
  refine wp_iload rfl rfl ?_
  refine wp_iload rfl rfl ?_
  refine wp_iclt (tn := 10) rfl rfl (fun c1 => ?_) (fun c1 => ?_)
  · replace H := H.1 c1
    refine wp_iconst rfl ?_
    refine wp_goto (tn := 15) rfl rfl ?_
    refine wp_zret rfl rfl (by decide) ?_
    show Wp X _ 29 6 [vr 6, vi x1, vu, vu, vu] [vi 1] _ _
    refine wp_ifeqF (tn := 12) rfl rfl (by decide) ?_
    refine wp_iconst rfl ?_
    exact wp_iret rfl rfl H
  · replace H := H.2 c1
    refine wp_iload rfl rfl ?_
    refine wp_iload rfl rfl ?_
    refine wp_icle (tn := 14) rfl rfl (fun c2 => ?_) (fun c2 => ?_)
    · replace H := H.1 c2
      refine wp_iconst rfl ?_
      refine wp_zret rfl rfl (by decide) ?_
      show Wp X _ 29 6 [vr 6, vi x1, vu, vu, vu] [vi 0] _ _
      refine wp_ifeqT (tn := 12) rfl rfl (by decide) ?_
      refine wp_aload rfl rfl ?_
      refine wp_getR (r := 79) rfl (congrArg Prod.fst (kf_6 X.1)) rfl ?_
      refine wp_iload rfl rfl ?_
      rcases (show x1 = 0 ∨ x1 = 1 ∨ x1 = 2 ∨ x1 = 3 by have := (show 0 ≤ x1 ∧ x1 < 4 from ⟨c1, (by clear H; omega)⟩); clear H; omega) with rfl | rfl | rfl | rfl
      · replace H := H.1 rfl
        refine wp_aaload (r := 80) rfl (kf_80 X.1) (by decide) (by decide) rfl ?_
        refine wp_astore (L2 := [vr 6, vi 0, vr 81, vu, vu]) rfl (Nat.le_of_ble_eq_true rfl) rfl ?_
        refine wp_aload rfl rfl ?_
        refine wp_call (k := 220) (ρ2 := 0) (L2 := [vr 81]) rfl rfl rfl (Nat.le_of_ble_eq_true rfl) (Nat.le_of_ble_eq_true rfl) (Nat.le_of_ble_eq_true rfl) (rcv_V rfl (congrArg Prod.fst (kf_81 X.1))) rfl ?_
        refine wp_aload rfl rfl ?_
        refine wp_getI (j := 1) rfl (congrArg Prod.fst (kf_81 X.1)) rfl ?_
        refine wp_iconst rfl ?_
        refine wp_icne (tn := 12) rfl rfl (fun c3 => ?_) (fun c3 => ?_)
        · replace H := H.1 c3
          refine wp_iconst rfl ?_
          refine wp_zret rfl rfl (by decide) ?_
          show Wp X _ 29 23 [vr 6, vi 0, vr 81, vu, vu] [vi 0] _ _
          refine wp_ifeqT (tn := 32) rfl rfl (by decide) ?_
          refine wp_aload rfl rfl ?_
          refine wp_getR (r := 35) rfl (congrArg Prod.fst (kf_6 X.1)) rfl ?_
          refine wp_call (k := 159) (ρ2 := 0) (L2 := [vr 36]) rfl rfl rfl (Nat.le_of_ble_eq_true rfl) (Nat.le_of_ble_eq_true rfl) (Nat.le_of_ble_eq_true rfl) (rcv_V rfl (congrArg Prod.fst (kf_36 X.1))) rfl ?_
          refine wp_aload rfl rfl ?_
          refine wp_getI (j := 0) rfl (congrArg Prod.fst (kf_36 X.1)) rfl ?_
          refine wp_ifle (tn := 11) rfl rfl (fun c4 => ?_) (fun c4 => ?_)
          · replace H := H.1 c4
            refine wp_iconst rfl ?_
            refine wp_zret rfl rfl (by decide) ?_
            show Wp X _ 29 39 [vr 6, vi 0, vr 81, vu, vu] [vi 0] _ _
            refine wp_ifneF (tn := 45) rfl rfl (by decide) ?_
            refine wp_iconst rfl ?_
            exact wp_iret rfl rfl H
          · replace H := H.2 c4
            refine wp_iconst rfl ?_
            refine wp_goto (tn := 12) rfl rfl ?_
            refine wp_zret rfl rfl (by decide) ?_
            show Wp X _ 29 39 [vr 6, vi 0, vr 81, vu, vu] [vi 1] _ _
            refine wp_ifneT (tn := 45) rfl rfl (by decide) ?_
            refine wp_aload rfl rfl ?_
            refine wp_call (k := 222) (ρ2 := 0) (L2 := [vr 81]) rfl rfl rfl (Nat.le_of_ble_eq_true rfl) (Nat.le_of_ble_eq_true rfl) (Nat.le_of_ble_eq_true rfl) (rcv_V rfl (congrArg Prod.fst (kf_81 X.1))) rfl ?_
            refine wp_aload rfl rfl ?_
            refine wp_getI (j := 2) rfl (congrArg Prod.fst (kf_81 X.1)) rfl ?_
            refine wp_iret rfl rfl ?_
            show Wp X _ 29 49 [vr 6, vi 0, vr 81, vu, vu] [vi (h 81 2)] _ _
            refine wp_aload rfl rfl ?_
            refine wp_getR (r := 7) rfl (congrArg Prod.fst (kf_6 X.1)) rfl ?_
            refine wp_call (k := 142) (ρ2 := 0) (L2 := [vr 8]) rfl rfl rfl (Nat.le_of_ble_eq_true rfl) (Nat.le_of_ble_eq_true rfl) (Nat.le_of_ble_eq_true rfl) (rcv_V rfl (congrArg Prod.fst (kf_8 X.1))) rfl ?_
            refine wp_aload rfl rfl ?_
            refine wp_getI (j := 8) rfl (congrArg Prod.fst (kf_8 X.1)) rfl ?_
            refine wp_iret rfl rfl ?_
            show Wp X _ 29 56 [vr 6, vi 0, vr 81, vu, vu] [vi (h 8 8), vi (h 81 2)] _ _
            refine wp_call (k := 253) (ρ2 := 0) (L2 := [vi (h 81 2), vi (h 8 8)]) rfl rfl rfl (Nat.le_of_ble_eq_true rfl) (Nat.le_of_ble_eq_true rfl) (Nat.le_of_ble_eq_true rfl) (rcv_S rfl) rfl ?_
            refine wp_iload rfl rfl ?_
            refine wp_iload rfl rfl ?_
            refine wp_icgt (tn := 9) rfl rfl (fun c5 => ?_) (fun c5 => ?_)
            · replace H := H.1 c5
              refine wp_iload rfl rfl ?_
              refine wp_iret rfl rfl ?_
              show Wp X _ 29 59 [vr 6, vi 0, vr 81, vu, vu] [vi (h 8 8)] _ _
              refine wp_istore (L2 := [vr 6, vi 0, vr 81, vi (h 8 8), vu]) rfl (Nat.le_of_ble_eq_true rfl) rfl ?_
              refine wp_iconst rfl ?_
              refine wp_istore (L2 := [vr 6, vi 0, vr 81, vi (h 8 8), vi 0]) rfl (Nat.le_of_ble_eq_true rfl) rfl ?_
              exact H
            · replace H := H.2 c5
              refine wp_iload rfl rfl ?_
              refine wp_goto (tn := 10) rfl rfl ?_
              refine wp_iret rfl rfl ?_
              show Wp X _ 29 59 [vr 6, vi 0, vr 81, vu, vu] [vi (h 81 2)] _ _
              refine wp_istore (L2 := [vr 6, vi 0, vr 81, vi (h 81 2), vu]) rfl (Nat.le_of_ble_eq_true rfl) rfl ?_
              refine wp_iconst rfl ?_
              refine wp_istore (L2 := [vr 6, vi 0, vr 81, vi (h 81 2), vi 0]) rfl (Nat.le_of_ble_eq_true rfl) rfl ?_
              exact H
        · replace H := H.2 c3
          refine wp_iconst rfl ?_
          refine wp_goto (tn := 13) rfl rfl ?_
          refine wp_zret rfl rfl (by decide) ?_
          show Wp X _ 29 23 [vr 6, vi 0, vr 81, vu, vu] [vi 1] _ _
          refine wp_ifeqF (tn := 32) rfl rfl (by decide) ?_
          refine wp_aload rfl rfl ?_
          refine wp_iconst rfl ?_
          refine wp_call (k := 38) (ρ2 := 0) (L2 := [vr 6, vi 1]) rfl rfl rfl (Nat.le_of_ble_eq_true rfl) (Nat.le_of_ble_eq_true rfl) (Nat.le_of_ble_eq_true rfl) (rcv_V rfl (congrArg Prod.fst (kf_6 X.1))) rfl ?_
          refine wp_aload rfl rfl ?_
          refine wp_iload rfl rfl ?_
          refine wp_putI (j := 10) rfl (congrArg Prod.fst (kf_6 X.1)) rfl rfl rfl ?_
          refine wp_iconst rfl ?_
          refine wp_iload rfl rfl ?_
          refine wp_isub rfl ?_
          refine Wp.topI (y := (-11)) (by decide) ?_
          refine wp_iret rfl rfl ?_
          show Wp X _ 29 31 [vr 6, vi 0, vr 81, vu, vu] [vi (-11)] _ _
          exact wp_iret rfl rfl H
      · replace H := H.2.1 rfl
        refine wp_aaload (r := 82) rfl (kf_80 X.1) (by decide) (by decide) rfl ?_
        refine wp_astore (L2 := [vr 6, vi 1, vr 83, vu, vu]) rfl (Nat.le_of_ble_eq_true rfl) rfl ?_
        refine wp_aload rfl rfl ?_
        refine wp_call (k := 220) (ρ2 := 0) (L2 := [vr 83]) rfl rfl rfl (Nat.le_of_ble_eq_true rfl) (Nat.le_of_ble_eq_true rfl) (Nat.le_of_ble_eq_true rfl) (rcv_V rfl (congrArg Prod.fst (kf_83 X.1))) rfl ?_
        refine wp_aload rfl rfl ?_
        refine wp_getI (j := 1) rfl (congrArg Prod.fst (kf_83 X.1)) rfl ?_
        refine wp_iconst rfl ?_
        refine wp_icne (tn := 12) rfl rfl (fun c6 => ?_) (fun c6 => ?_)
        · replace H := H.1 c6
          refine wp_iconst rfl ?_
          refine wp_zret rfl rfl (by decide) ?_
          show Wp X _ 29 23 [vr 6, vi 1, vr 83, vu, vu] [vi 0] _ _
          refine wp_ifeqT (tn := 32) rfl rfl (by decide) ?_
          refine wp_aload rfl rfl ?_
          refine wp_getR (r := 35) rfl (congrArg Prod.fst (kf_6 X.1)) rfl ?_
          refine wp_call (k := 159) (ρ2 := 0) (L2 := [vr 36]) rfl rfl rfl (Nat.le_of_ble_eq_true rfl) (Nat.le_of_ble_eq_true rfl) (Nat.le_of_ble_eq_true rfl) (rcv_V rfl (congrArg Prod.fst (kf_36 X.1))) rfl ?_
          refine wp_aload rfl rfl ?_
          refine wp_getI (j := 0) rfl (congrArg Prod.fst (kf_36 X.1)) rfl ?_
          refine wp_ifle (tn := 11) rfl rfl (fun c7 => ?_) (fun c7 => ?_)
          · replace H := H.1 c7
            refine wp_iconst rfl ?_
            refine wp_zret rfl rfl (by decide) ?_
            show Wp X _ 29 39 [vr 6, vi 1, vr 83, vu, vu] [vi 0] _ _
            refine wp_ifneF (tn := 45) rfl rfl (by decide) ?_
            refine wp_iconst rfl ?_
            exact wp_iret rfl rfl H
          · replace H := H.2 c7
            refine wp_iconst rfl ?_
            refine wp_goto (tn := 12) rfl rfl ?_
            refine wp_zret rfl rfl (by decide) ?_
            show Wp X _ 29 39 [vr 6, vi 1, vr 83, vu, vu] [vi 1] _ _
            refine wp_ifneT (tn := 45) rfl rfl (by decide) ?_
            refine wp_aload rfl rfl ?_
            refine wp_call (k := 222) (ρ2 := 0) (L2 := [vr 83]) rfl rfl rfl (Nat.le_of_ble_eq_true rfl) (Nat.le_of_ble_eq_true rfl) (Nat.le_of_ble_eq_true rfl) (rcv_V rfl (congrArg Prod.fst (kf_83 X.1))) rfl ?_
            refine wp_aload rfl rfl ?_
            refine wp_getI (j := 2) rfl (congrArg Prod.fst (kf_83 X.1)) rfl ?_
            refine wp_iret rfl rfl ?_
            show Wp X _ 29 49 [vr 6, vi 1, vr 83, vu, vu] [vi (h 83 2)] _ _
            refine wp_aload rfl rfl ?_
            refine wp_getR (r := 7) rfl (congrArg Prod.fst (kf_6 X.1)) rfl ?_
            refine wp_call (k := 142) (ρ2 := 0) (L2 := [vr 8]) rfl rfl rfl (Nat.le_of_ble_eq_true rfl) (Nat.le_of_ble_eq_true rfl) (Nat.le_of_ble_eq_true rfl) (rcv_V rfl (congrArg Prod.fst (kf_8 X.1))) rfl ?_
            refine wp_aload rfl rfl ?_
            refine wp_getI (j := 8) rfl (congrArg Prod.fst (kf_8 X.1)) rfl ?_
            refine wp_iret rfl rfl ?_
            show Wp X _ 29 56 [vr 6, vi 1, vr 83, vu, vu] [vi (h 8 8), vi (h 83 2)] _ _
            refine wp_call (k := 253) (ρ2 := 0) (L2 := [vi (h 83 2), vi (h 8 8)]) rfl rfl rfl (Nat.le_of_ble_eq_true rfl) (Nat.le_of_ble_eq_true rfl) (Nat.le_of_ble_eq_true rfl) (rcv_S rfl) rfl ?_
            refine wp_iload rfl rfl ?_
            refine wp_iload rfl rfl ?_
            refine wp_icgt (tn := 9) rfl rfl (fun c8 => ?_) (fun c8 => ?_)
            · replace H := H.1 c8
              refine wp_iload rfl rfl ?_
              refine wp_iret rfl rfl ?_
              show Wp X _ 29 59 [vr 6, vi 1, vr 83, vu, vu] [vi (h 8 8)] _ _
              refine wp_istore (L2 := [vr 6, vi 1, vr 83, vi (h 8 8), vu]) rfl (Nat.le_of_ble_eq_true rfl) rfl ?_
              refine wp_iconst rfl ?_
              refine wp_istore (L2 := [vr 6, vi 1, vr 83, vi (h 8 8), vi 0]) rfl (Nat.le_of_ble_eq_true rfl) rfl ?_
              exact H
            · replace H := H.2 c8
              refine wp_iload rfl rfl ?_
              refine wp_goto (tn := 10) rfl rfl ?_
              refine wp_iret rfl rfl ?_
              show Wp X _ 29 59 [vr 6, vi 1, vr 83, vu, vu] [vi (h 83 2)] _ _
              refine wp_istore (L2 := [vr 6, vi 1, vr 83, vi (h 83 2), vu]) rfl (Nat.le_of_ble_eq_true rfl) rfl ?_
              refine wp_iconst rfl ?_
              refine wp_istore (L2 := [vr 6, vi 1, vr 83, vi (h 83 2), vi 0]) rfl (Nat.le_of_ble_eq_true rfl) rfl ?_
              exact H
        · replace H := H.2 c6
          refine wp_iconst rfl ?_
          refine wp_goto (tn := 13) rfl rfl ?_
          refine wp_zret rfl rfl (by decide) ?_
          show Wp X _ 29 23 [vr 6, vi 1, vr 83, vu, vu] [vi 1] _ _
          refine wp_ifeqF (tn := 32) rfl rfl (by decide) ?_
          refine wp_aload rfl rfl ?_
          refine wp_iconst rfl ?_
          refine wp_call (k := 38) (ρ2 := 0) (L2 := [vr 6, vi 1]) rfl rfl rfl (Nat.le_of_ble_eq_true rfl) (Nat.le_of_ble_eq_true rfl) (Nat.le_of_ble_eq_true rfl) (rcv_V rfl (congrArg Prod.fst (kf_6 X.1))) rfl ?_
          refine wp_aload rfl rfl ?_
          refine wp_iload rfl rfl ?_
          refine wp_putI (j := 10) rfl (congrArg Prod.fst (kf_6 X.1)) rfl rfl rfl ?_
          refine wp_iconst rfl ?_
          refine wp_iload rfl rfl ?_
          refine wp_isub rfl ?_
          refine Wp.topI (y := (-11)) (by decide) ?_
          refine wp_iret rfl rfl ?_
          show Wp X _ 29 31 [vr 6, vi 1, vr 83, vu, vu] [vi (-11)] _ _
          exact wp_iret rfl rfl H
      · replace H := H.2.2.1 rfl
        refine wp_aaload (r := 84) rfl (kf_80 X.1) (by decide) (by decide) rfl ?_
        refine wp_astore (L2 := [vr 6, vi 2, vr 85, vu, vu]) rfl (Nat.le_of_ble_eq_true rfl) rfl ?_
        refine wp_aload rfl rfl ?_
        refine wp_call (k := 220) (ρ2 := 0) (L2 := [vr 85]) rfl rfl rfl (Nat.le_of_ble_eq_true rfl) (Nat.le_of_ble_eq_true rfl) (Nat.le_of_ble_eq_true rfl) (rcv_V rfl (congrArg Prod.fst (kf_85 X.1))) rfl ?_
        refine wp_aload rfl rfl ?_
        refine wp_getI (j := 1) rfl (congrArg Prod.fst (kf_85 X.1)) rfl ?_
        refine wp_iconst rfl ?_
        refine wp_icne (tn := 12) rfl rfl (fun c9 => ?_) (fun c9 => ?_)
        · replace H := H.1 c9
          refine wp_iconst rfl ?_
          refine wp_zret rfl rfl (by decide) ?_
          show Wp X _ 29 23 [vr 6, vi 2, vr 85, vu, vu] [vi 0] _ _
          refine wp_ifeqT (tn := 32) rfl rfl (by decide) ?_
          refine wp_aload rfl rfl ?_
          refine wp_getR (r := 35) rfl (congrArg Prod.fst (kf_6 X.1)) rfl ?_
          refine wp_call (k := 159) (ρ2 := 0) (L2 := [vr 36]) rfl rfl rfl (Nat.le_of_ble_eq_true rfl) (Nat.le_of_ble_eq_true rfl) (Nat.le_of_ble_eq_true rfl) (rcv_V rfl (congrArg Prod.fst (kf_36 X.1))) rfl ?_
          refine wp_aload rfl rfl ?_
          refine wp_getI (j := 0) rfl (congrArg Prod.fst (kf_36 X.1)) rfl ?_
          refine wp_ifle (tn := 11) rfl rfl (fun c10 => ?_) (fun c10 => ?_)
          · replace H := H.1 c10
            refine wp_iconst rfl ?_
            refine wp_zret rfl rfl (by decide) ?_
            show Wp X _ 29 39 [vr 6, vi 2, vr 85, vu, vu] [vi 0] _ _
            refine wp_ifneF (tn := 45) rfl rfl (by decide) ?_
            refine wp_iconst rfl ?_
            exact wp_iret rfl rfl H
          · replace H := H.2 c10
            refine wp_iconst rfl ?_
            refine wp_goto (tn := 12) rfl rfl ?_
            refine wp_zret rfl rfl (by decide) ?_
            show Wp X _ 29 39 [vr 6, vi 2, vr 85, vu, vu] [vi 1] _ _
            refine wp_ifneT (tn := 45) rfl rfl (by decide) ?_
            refine wp_aload rfl rfl ?_
            refine wp_call (k := 222) (ρ2 := 0) (L2 := [vr 85]) rfl rfl rfl (Nat.le_of_ble_eq_true rfl) (Nat.le_of_ble_eq_true rfl) (Nat.le_of_ble_eq_true rfl) (rcv_V rfl (congrArg Prod.fst (kf_85 X.1))) rfl ?_
            refine wp_aload rfl rfl ?_
            refine wp_getI (j := 2) rfl (congrArg Prod.fst (kf_85 X.1)) rfl ?_
            refine wp_iret rfl rfl ?_
            show Wp X _ 29 49 [vr 6, vi 2, vr 85, vu, vu] [vi (h 85 2)] _ _
            refine wp_aload rfl rfl ?_
            refine wp_getR (r := 7) rfl (congrArg Prod.fst (kf_6 X.1)) rfl ?_
            refine wp_call (k := 142) (ρ2 := 0) (L2 := [vr 8]) rfl rfl rfl (Nat.le_of_ble_eq_true rfl) (Nat.le_of_ble_eq_true rfl) (Nat.le_of_ble_eq_true rfl) (rcv_V rfl (congrArg Prod.fst (kf_8 X.1))) rfl ?_
            refine wp_aload rfl rfl ?_
            refine wp_getI (j := 8) rfl (congrArg Prod.fst (kf_8 X.1)) rfl ?_
            refine wp_iret rfl rfl ?_
            show Wp X _ 29 56 [vr 6, vi 2, vr 85, vu, vu] [vi (h 8 8), vi (h 85 2)] _ _
            refine wp_call (k := 253) (ρ2 := 0) (L2 := [vi (h 85 2), vi (h 8 8)]) rfl rfl rfl (Nat.le_of_ble_eq_true rfl) (Nat.le_of_ble_eq_true rfl) (Nat.le_of_ble_eq_true rfl) (rcv_S rfl) rfl ?_
            refine wp_iload rfl rfl ?_
            refine wp_iload rfl rfl ?_
            refine wp_icgt (tn := 9) rfl rfl (fun c11 => ?_) (fun c11 => ?_)
            · replace H := H.1 c11
              refine wp_iload rfl rfl ?_
              refine wp_iret rfl rfl ?_
              show Wp X _ 29 59 [vr 6, vi 2, vr 85, vu, vu] [vi (h 8 8)] _ _
              refine wp_istore (L2 := [vr 6, vi 2, vr 85, vi (h 8 8), vu]) rfl (Nat.le_of_ble_eq_true rfl) rfl ?_
              refine wp_iconst rfl ?_
              refine wp_istore (L2 := [vr 6, vi 2, vr 85, vi (h 8 8), vi 0]) rfl (Nat.le_of_ble_eq_true rfl) rfl ?_
              exact H
            · replace H := H.2 c11
              refine wp_iload rfl rfl ?_
              refine wp_goto (tn := 10) rfl rfl ?_
              refine wp_iret rfl rfl ?_
              show Wp X _ 29 59 [vr 6, vi 2, vr 85, vu, vu] [vi (h 85 2)] _ _
              refine wp_istore (L2 := [vr 6, vi 2, vr 85, vi (h 85 2), vu]) rfl (Nat.le_of_ble_eq_true rfl) rfl ?_
              refine wp_iconst rfl ?_
              refine wp_istore (L2 := [vr 6, vi 2, vr 85, vi (h 85 2), vi 0]) rfl (Nat.le_of_ble_eq_true rfl) rfl ?_
              exact H
        · replace H := H.2 c9
          refine wp_iconst rfl ?_
          refine wp_goto (tn := 13) rfl rfl ?_
          refine wp_zret rfl rfl (by decide) ?_
          show Wp X _ 29 23 [vr 6, vi 2, vr 85, vu, vu] [vi 1] _ _
          refine wp_ifeqF (tn := 32) rfl rfl (by decide) ?_
          refine wp_aload rfl rfl ?_
          refine wp_iconst rfl ?_
          refine wp_call (k := 38) (ρ2 := 0) (L2 := [vr 6, vi 1]) rfl rfl rfl (Nat.le_of_ble_eq_true rfl) (Nat.le_of_ble_eq_true rfl) (Nat.le_of_ble_eq_true rfl) (rcv_V rfl (congrArg Prod.fst (kf_6 X.1))) rfl ?_
          refine wp_aload rfl rfl ?_
          refine wp_iload rfl rfl ?_
          refine wp_putI (j := 10) rfl (congrArg Prod.fst (kf_6 X.1)) rfl rfl rfl ?_
          refine wp_iconst rfl ?_
          refine wp_iload rfl rfl ?_
          refine wp_isub rfl ?_
          refine Wp.topI (y := (-11)) (by decide) ?_
          refine wp_iret rfl rfl ?_
          show Wp X _ 29 31 [vr 6, vi 2, vr 85, vu, vu] [vi (-11)] _ _
          exact wp_iret rfl rfl H
      · replace H := H.2.2.2 rfl
        refine wp_aaload (r := 86) rfl (kf_80 X.1) (by decide) (by decide) rfl ?_
        refine wp_astore (L2 := [vr 6, vi 3, vr 87, vu, vu]) rfl (Nat.le_of_ble_eq_true rfl) rfl ?_
        refine wp_aload rfl rfl ?_
        refine wp_call (k := 220) (ρ2 := 0) (L2 := [vr 87]) rfl rfl rfl (Nat.le_of_ble_eq_true rfl) (Nat.le_of_ble_eq_true rfl) (Nat.le_of_ble_eq_true rfl) (rcv_V rfl (congrArg Prod.fst (kf_87 X.1))) rfl ?_
        refine wp_aload rfl rfl ?_
        refine wp_getI (j := 1) rfl (congrArg Prod.fst (kf_87 X.1)) rfl ?_
        refine wp_iconst rfl ?_
        refine wp_icne (tn := 12) rfl rfl (fun c12 => ?_) (fun c12 => ?_)
        · replace H := H.1 c12
          refine wp_iconst rfl ?_
          refine wp_zret rfl rfl (by decide) ?_
          show Wp X _ 29 23 [vr 6, vi 3, vr 87, vu, vu] [vi 0] _ _
          refine wp_ifeqT (tn := 32) rfl rfl (by decide) ?_
          refine wp_aload rfl rfl ?_
          refine wp_getR (r := 35) rfl (congrArg Prod.fst (kf_6 X.1)) rfl ?_
          refine wp_call (k := 159) (ρ2 := 0) (L2 := [vr 36]) rfl rfl rfl (Nat.le_of_ble_eq_true rfl) (Nat.le_of_ble_eq_true rfl) (Nat.le_of_ble_eq_true rfl) (rcv_V rfl (congrArg Prod.fst (kf_36 X.1))) rfl ?_
          refine wp_aload rfl rfl ?_
          refine wp_getI (j := 0) rfl (congrArg Prod.fst (kf_36 X.1)) rfl ?_
          refine wp_ifle (tn := 11) rfl rfl (fun c13 => ?_) (fun c13 => ?_)
          · replace H := H.1 c13
            refine wp_iconst rfl ?_
            refine wp_zret rfl rfl (by decide) ?_
            show Wp X _ 29 39 [vr 6, vi 3, vr 87, vu, vu] [vi 0] _ _
            refine wp_ifneF (tn := 45) rfl rfl (by decide) ?_
            refine wp_iconst rfl ?_
            exact wp_iret rfl rfl H
          · replace H := H.2 c13
            refine wp_iconst rfl ?_
            refine wp_goto (tn := 12) rfl rfl ?_
            refine wp_zret rfl rfl (by decide) ?_
            show Wp X _ 29 39 [vr 6, vi 3, vr 87, vu, vu] [vi 1] _ _
            refine wp_ifneT (tn := 45) rfl rfl (by decide) ?_
            refine wp_aload rfl rfl ?_
            refine wp_call (k := 222) (ρ2 := 0) (L2 := [vr 87]) rfl rfl rfl (Nat.le_of_ble_eq_true rfl) (Nat.le_of_ble_eq_true rfl) (Nat.le_of_ble_eq_true rfl) (rcv_V rfl (congrArg Prod.fst (kf_87 X.1))) rfl ?_
            refine wp_aload rfl rfl ?_
            refine wp_getI (j := 2) rfl (congrArg Prod.fst (kf_87 X.1)) rfl ?_
            refine wp_iret rfl rfl ?_
            show Wp X _ 29 49 [vr 6, vi 3, vr 87, vu, vu] [vi (h 87 2)] _ _
            refine wp_aload rfl rfl ?_
            refine wp_getR (r := 7) rfl (congrArg Prod.fst (kf_6 X.1)) rfl ?_
            refine wp_call (k := 142) (ρ2 := 0) (L2 := [vr 8]) rfl rfl rfl (Nat.le_of_ble_eq_true rfl) (Nat.le_of_ble_eq_true rfl) (Nat.le_of_ble_eq_true rfl) (rcv_V rfl (congrArg Prod.fst (kf_8 X.1))) rfl ?_
            refine wp_aload rfl rfl ?_
            refine wp_getI (j := 8) rfl (congrArg Prod.fst (kf_8 X.1)) rfl ?_
            refine wp_iret rfl rfl ?_
            show Wp X _ 29 56 [vr 6, vi 3, vr 87, vu, vu] [vi (h 8 8), vi (h 87 2)] _ _
            refine wp_call (k := 253) (ρ2 := 0) (L2 := [vi (h 87 2), vi (h 8 8)]) rfl rfl rfl (Nat.le_of_ble_eq_true rfl) (Nat.le_of_ble_eq_true rfl) (Nat.le_of_ble_eq_true rfl) (rcv_S rfl) rfl ?_
            refine wp_iload rfl rfl ?_
            refine wp_iload rfl rfl ?_
            refine wp_icgt (tn := 9) rfl rfl (fun c14 => ?_) (fun c14 => ?_)
            · replace H := H.1 c14
              refine wp_iload rfl rfl ?_
              refine wp_iret rfl rfl ?_
              show Wp X _ 29 59 [vr 6, vi 3, vr 87, vu, vu] [vi (h 8 8)] _ _
              refine wp_istore (L2 := [vr 6, vi 3, vr 87, vi (h 8 8), vu]) rfl (Nat.le_of_ble_eq_true rfl) rfl ?_
              refine wp_iconst rfl ?_
              refine wp_istore (L2 := [vr 6, vi 3, vr 87, vi (h 8 8), vi 0]) rfl (Nat.le_of_ble_eq_true rfl) rfl ?_
              exact H
            · replace H := H.2 c14
              refine wp_iload rfl rfl ?_
              refine wp_goto (tn := 10) rfl rfl ?_
              refine wp_iret rfl rfl ?_
              show Wp X _ 29 59 [vr 6, vi 3, vr 87, vu, vu] [vi (h 87 2)] _ _
              refine wp_istore (L2 := [vr 6, vi 3, vr 87, vi (h 87 2), vu]) rfl (Nat.le_of_ble_eq_true rfl) rfl ?_
              refine wp_iconst rfl ?_
              refine wp_istore (L2 := [vr 6, vi 3, vr 87, vi (h 87 2), vi 0]) rfl (Nat.le_of_ble_eq_true rfl) rfl ?_
              exact H
        · replace H := H.2 c12
          refine wp_iconst rfl ?_
          refine wp_goto (tn := 13) rfl rfl ?_
          refine wp_zret rfl rfl (by decide) ?_
          show Wp X _ 29 23 [vr 6, vi 3, vr 87, vu, vu] [vi 1] _ _
          refine wp_ifeqF (tn := 32) rfl rfl (by decide) ?_
          refine wp_aload rfl rfl ?_
          refine wp_iconst rfl ?_
          refine wp_call (k := 38) (ρ2 := 0) (L2 := [vr 6, vi 1]) rfl rfl rfl (Nat.le_of_ble_eq_true rfl) (Nat.le_of_ble_eq_true rfl) (Nat.le_of_ble_eq_true rfl) (rcv_V rfl (congrArg Prod.fst (kf_6 X.1))) rfl ?_
          refine wp_aload rfl rfl ?_
          refine wp_iload rfl rfl ?_
          refine wp_putI (j := 10) rfl (congrArg Prod.fst (kf_6 X.1)) rfl rfl rfl ?_
          refine wp_iconst rfl ?_
          refine wp_iload rfl rfl ?_
          refine wp_isub rfl ?_
          refine Wp.topI (y := (-11)) (by decide) ?_
          refine wp_iret rfl rfl ?_
          show Wp X _ 29 31 [vr 6, vi 3, vr 87, vu, vu] [vi (-11)] _ _
          exact wp_iret rfl rfl H
    · replace H := H.2 c2
      refine wp_iconst rfl ?_
      refine wp_goto (tn := 15) rfl rfl ?_
      refine wp_zret rfl rfl (by decide) ?_
      show Wp X _ 29 6 [vr 6, vi x1, vu, vu, vu] [vi 1] _ _
      refine wp_ifeqF (tn := 12) rfl rfl (by decide) ?_
      refine wp_iconst rfl ?_
      exact wp_iret rfl rfl H
/-- WarnLines.write(I)I, from 63 -/
theorem S29_6_63a {X : Nat × (Int → Int)} {h : HP} {Q : bQ} (zx1 : aV) (x3 : Int) (x4 : Int) (H : ((x3 ≤ x4 → Q (some (vi x3)) h) ∧ (x4 < x3 → ((x4 < 0 → ((R32 (x4 + 1)) ∧ Wp X 3 29 63 [vr 6, zx1, vr 81, vi x3, vi (x4 + 1)] [] h Q)) ∧ (0 ≤ x4 → (((h 8 8) ≤ x4 → ((R32 ((h 81 2) - 1)) ∧ ((((h 81 2) - 1) < x4 → ((R32 (x4 + 1)) ∧ Wp X 3 29 63 [vr 6, zx1, vr 81, vi x3, vi (x4 + 1)] [] h Q)) ∧ (x4 ≤ ((h 81 2) - 1) → (((h 81 1) ≠ 0 → (((h 81 1) ≠ 1 → ((0 ≤ x4 ∧ x4 < 60) ∧ Wp X 3 29 63 [vr 6, zx1, vr 81, vi x3, vi (x4 + 1)] [] (upd2 h 82 x4 (-1)) Q)) ∧ ((h 81 1) = 1 → ((0 ≤ x4 ∧ x4 < 60) ∧ Wp X 3 29 63 [vr 6, zx1, vr 81, vi x3, vi (x4 + 1)] [] (upd2 h 82 x4 (Int.bmod (-1) 65536)) Q)))) ∧ ((h 81 1) = 0 → ((0 ≤ x4 ∧ x4 < 60) ∧ Wp X 3 29 63 [vr 6, zx1, vr 81, vi x3, vi (x4 + 1)] [] (upd2 h 82 x4 (Int.bmod (-1) 256)) Q))))))) ∧ (x4 < (h 8 8) → ((0 ≤ x4 ∧ x4 < 20) ∧ (((h 34 x4) ≠ (-1) → Wp X 2 172 0 [vr 36, vi (h 34 x4), vu, vu] [] h (fun v h' => Wp X 3 29 104 [vr 6, zx1, vr 81, vi x3, vi x4] (psh v [vi x4, vr 81]) h' Q)) ∧ ((h 34 x4) = (-1) → ((R32 ((h 81 2) - 1)) ∧ ((((h 81 2) - 1) < x4 → Wp X 3 29 63 [vr 6, zx1, vr 81, vi x3, vi (x4 + 1)] [] h Q) ∧ (x4 ≤ ((h 81 2) - 1) → (((h 81 1) ≠ 0 → (((h 81 1) ≠ 1 → Wp X 3 29 63 [vr 6, zx1, vr 81, vi x3, vi (x4 + 1)] [] (upd2 h 82 x4 (-1)) Q) ∧ ((h 81 1) = 1 → Wp X 3 29 63 [vr 6, zx1, vr 81, vi x3, vi (x4 + 1)] [] (upd2 h 82 x4 (Int.bmod (-1) 65536)) Q))) ∧ ((h 81 1) = 0 → Wp X 3 29 63 [vr 6, zx1, vr 81, vi x3, vi (x4 + 1)] [] (upd2 h 82 x4 (Int.bmod (-1) 256)) Q))))))))))))))) : Wp X 3 29 63 [vr 6, zx1, vr 81, vi x3, vi x4] [] h Q := by
  refine wp_iload rfl rfl ?_
  refine wp_iload rfl rfl ?_
  refine wp_icge (tn := 116) rfl rfl (fun c1 => ?_) (fun c1 => ?_)
  · replace H := H.1 c1
    refine wp_iload rfl rfl ?_
    exact wp_iret rfl rfl H
  · replace H := H.2 c1
    refine wp_aload rfl rfl ?_
    refine wp_iload rfl rfl ?_
    refine wp_aload rfl rfl ?_
    refine wp_getR (r := 7) rfl (congrArg Prod.fst (kf_6 X.1)) rfl ?_
    refine wp_iload rfl rfl ?_
    refine wp_call (k := 149) (ρ2 := 1) (L2 := [vr 8, vi x4]) rfl rfl rfl (Nat.le_of_ble_eq_true rfl) (Nat.le_of_ble_eq_true rfl) (Nat.le_of_ble_eq_true rfl) (rcv_V rfl (congrArg Prod.fst (kf_8 X.1))) rfl ?_
    refine wp_aload rfl rfl ?_
    refine wp_iload rfl rfl ?_
    refine wp_call (k := 145) (ρ2 := 0) (L2 := [vr 8, vi x4]) rfl rfl rfl (Nat.le_of_ble_eq_true rfl) (Nat.le_of_ble_eq_true rfl) (Nat.le_of_ble_eq_true rfl) (rcv_V rfl (congrArg Prod.fst (kf_8 X.1))) rfl ?_
    refine wp_iload rfl rfl ?_
    refine wp_iflt (tn := 16) rfl rfl (fun c2 => ?_) (fun c2 => ?_)
    · replace H := H.1 c2
      refine wp_iconst rfl ?_
      refine wp_zret rfl rfl (by decide) ?_
      show Wp X _ 149 5 [vr 8, vi x4] [vi 0] _ _
      refine wp_ifeqT (tn := 18) rfl rfl (by decide) ?_
      refine wp_iconst rfl ?_
      refine wp_goto (tn := 23) rfl rfl ?_
      refine wp_zret rfl rfl (by decide) ?_
      show Wp X _ 29 81 [vr 6, zx1, vr 81, vi x3, vi x4] [vi 1, vi x4, vr 81] _ _
      refine wp_ifeqF (tn := 88) rfl rfl (by decide) ?_
      refine wp_iconst rfl ?_
      refine wp_goto (tn := 107) rfl rfl ?_
      refine wp_call (k := 228) (ρ2 := 1) (L2 := [vr 81, vi x4, vi (-1)]) rfl rfl rfl (Nat.le_of_ble_eq_true rfl) (Nat.le_of_ble_eq_true rfl) (Nat.le_of_ble_eq_true rfl) (rcv_V rfl (congrArg Prod.fst (kf_81 X.1))) rfl ?_
      refine wp_aload rfl rfl ?_
      refine wp_iload rfl rfl ?_
      refine wp_iconst rfl ?_
      refine wp_call (k := 226) (ρ2 := 0) (L2 := [vr 81, vi x4, vi 1]) rfl rfl rfl (Nat.le_of_ble_eq_true rfl) (Nat.le_of_ble_eq_true rfl) (Nat.le_of_ble_eq_true rfl) (rcv_V rfl (congrArg Prod.fst (kf_81 X.1))) rfl ?_
      refine wp_iload rfl rfl ?_
      refine wp_ifltT (tn := 22) rfl rfl c2 ?_
      refine wp_iconst rfl ?_
      refine wp_zret rfl rfl (by decide) ?_
      show Wp X _ 228 6 [vr 81, vi x4, vi (-1)] [vi 0] _ _
      refine wp_ifeqT (tn := 41) rfl rfl (by decide) ?_
      refine wp_vret rfl rfl ?_
      show Wp X _ 29 110 [vr 6, zx1, vr 81, vi x3, vi x4] [] _ _
      have g3 := H.1
      replace H := H.2
      refine wp_iincR (L2 := [vr 6, zx1, vr 81, vi x3, vi (x4 + 1)]) rfl rfl g3 rfl ?_
      refine wp_goto (tn := 63) rfl rfl ?_
      exact H
    · replace H := H.2 c2
      refine wp_iload rfl rfl ?_
      refine wp_aload rfl rfl ?_
      refine wp_getI (j := 8) rfl (congrArg Prod.fst (kf_8 X.1)) rfl ?_
      refine wp_icge (tn := 16) rfl rfl (fun c4 => ?_) (fun c4 => ?_)
      · replace H := H.1 c4
        refine wp_iconst rfl ?_
        refine wp_zret rfl rfl (by decide) ?_
        show Wp X _ 149 5 [vr 8, vi x4] [vi 0] _ _
        refine wp_ifeqT (tn := 18) rfl rfl (by decide) ?_
        refine wp_iconst rfl ?_
        refine wp_goto (tn := 23) rfl rfl ?_
        refine wp_zret rfl rfl (by decide) ?_
        show Wp X _ 29 81 [vr 6, zx1, vr 81, vi x3, vi x4] [vi 1, vi x4, vr 81] _ _
        refine wp_ifeqF (tn := 88) rfl rfl (by decide) ?_
        refine wp_iconst rfl ?_
        refine wp_goto (tn := 107) rfl rfl ?_
        refine wp_call (k := 228) (ρ2 := 1) (L2 := [vr 81, vi x4, vi (-1)]) rfl rfl rfl (Nat.le_of_ble_eq_true rfl) (Nat.le_of_ble_eq_true rfl) (Nat.le_of_ble_eq_true rfl) (rcv_V rfl (congrArg Prod.fst (kf_81 X.1))) rfl ?_
        refine wp_aload rfl rfl ?_
        refine wp_iload rfl rfl ?_
        refine wp_iconst rfl ?_
        refine wp_call (k := 226) (ρ2 := 0) (L2 := [vr 81, vi x4, vi 1]) rfl rfl rfl (Nat.le_of_ble_eq_true rfl) (Nat.le_of_ble_eq_true rfl) (Nat.le_of_ble_eq_true rfl) (rcv_V rfl (congrArg Prod.fst (kf_81 X.1))) rfl ?_
        refine wp_iload rfl rfl ?_
        refine wp_ifltF (tn := 22) rfl rfl c2 ?_
        refine wp_iload rfl rfl ?_
        refine wp_ifltF (tn := 22) rfl rfl (by decide) ?_
        refine wp_iload rfl rfl ?_
        refine wp_aload rfl rfl ?_
        refine wp_getI (j := 2) rfl (congrArg Prod.fst (kf_81 X.1)) rfl ?_
        refine wp_iload rfl rfl ?_
        refine wp_isub rfl ?_
        have g5 := H.1
        replace H := H.2
        refine Wp.topI (y := ((h 81 2) - 1)) (w32_I g5) ?_
        refine wp_icgt (tn := 22) rfl rfl (fun c6 => ?_) (fun c6 => ?_)
        · replace H := H.1 c6
          refine wp_iconst rfl ?_
          refine wp_zret rfl rfl (by decide) ?_
          show Wp X _ 228 6 [vr 81, vi x4, vi (-1)] [vi 0] _ _
          refine wp_ifeqT (tn := 41) rfl rfl (by decide) ?_
          refine wp_vret rfl rfl ?_
          show Wp X _ 29 110 [vr 6, zx1, vr 81, vi x3, vi x4] [] _ _
          have g7 := H.1
          replace H := H.2
          refine wp_iincR (L2 := [vr 6, zx1, vr 81, vi x3, vi (x4 + 1)]) rfl rfl g7 rfl ?_
          refine wp_goto (tn := 63) rfl rfl ?_
          exact H
        · replace H := H.2 c6
          refine wp_iconst rfl ?_
          refine wp_goto (tn := 23) rfl rfl ?_
          refine wp_zret rfl rfl (by decide) ?_
          show Wp X _ 228 6 [vr 81, vi x4, vi (-1)] [vi 1] _ _
          refine wp_ifeqF (tn := 41) rfl rfl (by decide) ?_
          refine wp_aload rfl rfl ?_
          refine wp_getR (r := 81) rfl (congrArg Prod.fst (kf_81 X.1)) rfl ?_
          refine wp_iload rfl rfl ?_
          refine wp_aload rfl rfl ?_
          refine wp_getI (j := 1) rfl (congrArg Prod.fst (kf_81 X.1)) rfl ?_
          refine wp_ifne (tn := 26) rfl rfl (fun c8 => ?_) (fun c8 => ?_)
          · replace H := H.1 c8
            refine wp_aload rfl rfl ?_
            refine wp_getI (j := 1) rfl (congrArg Prod.fst (kf_81 X.1)) rfl ?_
            refine wp_iconst rfl ?_
            refine wp_icne (tn := 39) rfl rfl (fun c9 => ?_) (fun c9 => ?_)
            · replace H := H.1 c9
              refine wp_iload rfl rfl ?_
              have g10 := H.1
              replace H := H.2
              refine wp_iastore rfl (kf_82 X.1) g10 ?_
              refine wp_vret rfl rfl ?_
              show Wp X _ 29 110 [vr 6, zx1, vr 81, vi x3, vi x4] [] _ _
              refine wp_iincR (L2 := [vr 6, zx1, vr 81, vi x3, vi (x4 + 1)]) rfl rfl (by clear H; unfold R32; omega) rfl ?_
              refine wp_goto (tn := 63) rfl rfl ?_
              exact H
            · replace H := H.2 c9
              refine wp_iload rfl rfl ?_
              refine wp_i2s rfl ?_
              refine wp_goto (tn := 40) rfl rfl ?_
              have g11 := H.1
              replace H := H.2
              refine wp_iastore rfl (kf_82 X.1) g11 ?_
              refine wp_vret rfl rfl ?_
              show Wp X _ 29 110 [vr 6, zx1, vr 81, vi x3, vi x4] [] _ _
              refine wp_iincR (L2 := [vr 6, zx1, vr 81, vi x3, vi (x4 + 1)]) rfl rfl (by clear H; unfold R32; omega) rfl ?_
              refine wp_goto (tn := 63) rfl rfl ?_
              exact H
          · replace H := H.2 c8
            refine wp_iload rfl rfl ?_
            refine wp_i2b rfl ?_
            refine wp_goto (tn := 40) rfl rfl ?_
            have g12 := H.1
            replace H := H.2
            refine wp_iastore rfl (kf_82 X.1) g12 ?_
            refine wp_vret rfl rfl ?_
            show Wp X _ 29 110 [vr 6, zx1, vr 81, vi x3, vi x4] [] _ _
            refine wp_iincR (L2 := [vr 6, zx1, vr 81, vi x3, vi (x4 + 1)]) rfl rfl (by clear H; unfold R32; omega) rfl ?_
            refine wp_goto (tn := 63) rfl rfl ?_
            exact H
      · replace H := H.2 c4
        refine wp_iconst rfl ?_
        refine wp_goto (tn := 17) rfl rfl ?_
        refine wp_zret rfl rfl (by decide) ?_
        show Wp X _ 149 5 [vr 8, vi x4] [vi 1] _ _
        refine wp_ifeqF (tn := 18) rfl rfl (by decide) ?_
        refine wp_aload rfl rfl ?_
        refine wp_getR (r := 33) rfl (congrArg Prod.fst (kf_8 X.1)) rfl ?_
        refine wp_iload rfl rfl ?_
        have g13 := H.1
        replace H := H.2
        refine wp_iaload rfl (kf_34 X.1) g13 ?_
        refine wp_iconst rfl ?_
        refine wp_icne (tn := 22) rfl rfl (fun c14 => ?_) (fun c14 => ?_)
        · replace H := H.1 c14
          refine wp_iconst rfl ?_
          refine wp_zret rfl rfl (by decide) ?_
          show Wp X _ 29 81 [vr 6, zx1, vr 81, vi x3, vi x4] [vi 0, vi x4, vr 81] _ _
          refine wp_ifeqT (tn := 88) rfl rfl (by decide) ?_
          refine wp_aload rfl rfl ?_
          refine wp_getR (r := 35) rfl (congrArg Prod.fst (kf_6 X.1)) rfl ?_
          refine wp_aload rfl rfl ?_
          refine wp_getR (r := 7) rfl (congrArg Prod.fst (kf_6 X.1)) rfl ?_
          refine wp_iload rfl rfl ?_
          refine wp_call (k := 150) (ρ2 := 1) (L2 := [vr 8, vi x4]) rfl rfl rfl (Nat.le_of_ble_eq_true rfl) (Nat.le_of_ble_eq_true rfl) (Nat.le_of_ble_eq_true rfl) (rcv_V rfl (congrArg Prod.fst (kf_8 X.1))) rfl ?_
          refine wp_aload rfl rfl ?_
          refine wp_iload rfl rfl ?_
          refine wp_call (k := 145) (ρ2 := 0) (L2 := [vr 8, vi x4]) rfl rfl rfl (Nat.le_of_ble_eq_true rfl) (Nat.le_of_ble_eq_true rfl) (Nat.le_of_ble_eq_true rfl) (rcv_V rfl (congrArg Prod.fst (kf_8 X.1))) rfl ?_
          refine wp_iload rfl rfl ?_
          refine wp_ifltF (tn := 16) rfl rfl g13.1 ?_
          refine wp_iload rfl rfl ?_
          refine wp_aload rfl rfl ?_
          refine wp_getI (j := 8) rfl (congrArg Prod.fst (kf_8 X.1)) rfl ?_
          refine wp_icgeF (tn := 16) rfl rfl c4 ?_
          refine wp_iconst rfl ?_
          refine wp_goto (tn := 17) rfl rfl ?_
          refine wp_zret rfl rfl (by decide) ?_
          show Wp X _ 150 5 [vr 8, vi x4] [vi 1] _ _
          refine wp_ifeqF (tn := 17) rfl rfl (by decide) ?_
          refine wp_aload rfl rfl ?_
          refine wp_getR (r := 33) rfl (congrArg Prod.fst (kf_8 X.1)) rfl ?_
          refine wp_iload rfl rfl ?_
          refine wp_iaload rfl (kf_34 X.1) ⟨g13.1, g13.2⟩ ?_
          refine wp_goto (tn := 18) rfl rfl ?_
          refine wp_iret rfl rfl ?_
          show Wp X _ 29 101 [vr 6, zx1, vr 81, vi x3, vi x4] [vi (h 34 x4), vr 36, vi x4, vr 81] _ _
          exact wp_call (k := 172) (ρ2 := 2) (L2 := [vr 36, vi (h 34 x4), vu, vu]) rfl rfl rfl (Nat.le_of_ble_eq_true rfl) (Nat.le_of_ble_eq_true rfl) (Nat.le_of_ble_eq_true rfl) (rcv_V rfl (congrArg Prod.fst (kf_36 X.1))) rfl H
        · replace H := H.2 c14
          refine wp_iconst rfl ?_
          refine wp_goto (tn := 23) rfl rfl ?_
          refine wp_zret rfl rfl (by decide) ?_
          show Wp X _ 29 81 [vr 6, zx1, vr 81, vi x3, vi x4] [vi 1, vi x4, vr 81] _ _
          refine wp_ifeqF (tn := 88) rfl rfl (by decide) ?_
          refine wp_iconst rfl ?_
          refine wp_goto (tn := 107) rfl rfl ?_
          refine wp_call (k := 228) (ρ2 := 1) (L2 := [vr 81, vi x4, vi (-1)]) rfl rfl rfl (Nat.le_of_ble_eq_true rfl) (Nat.le_of_ble_eq_true rfl) (Nat.le_of_ble_eq_true rfl) (rcv_V rfl (congrArg Prod.fst (kf_81 X.1))) rfl ?_
          refine wp_aload rfl rfl ?_
          refine wp_iload rfl rfl ?_
          refine wp_iconst rfl ?_
          refine wp_call (k := 226) (ρ2 := 0) (L2 := [vr 81, vi x4, vi 1]) rfl rfl rfl (Nat.le_of_ble_eq_true rfl) (Nat.le_of_ble_eq_true rfl) (Nat.le_of_ble_eq_true rfl) (rcv_V rfl (congrArg Prod.fst (kf_81 X.1))) rfl ?_
          refine wp_iload rfl rfl ?_
          refine wp_ifltF (tn := 22) rfl rfl g13.1 ?_
          refine wp_iload rfl rfl ?_
          refine wp_ifltF (tn := 22) rfl rfl (by decide) ?_
          refine wp_iload rfl rfl ?_
          refine wp_aload rfl rfl ?_
          refine wp_getI (j := 2) rfl (congrArg Prod.fst (kf_81 X.1)) rfl ?_
          refine wp_iload rfl rfl ?_
          refine wp_isub rfl ?_
          have g15 := H.1
          replace H := H.2
          refine Wp.topI (y := ((h 81 2) - 1)) (w32_I g15) ?_
          refine wp_icgt (tn := 22) rfl rfl (fun c16 => ?_) (fun c16 => ?_)
          · replace H := H.1 c16
            refine wp_iconst rfl ?_
            refine wp_zret rfl rfl (by decide) ?_
            show Wp X _ 228 6 [vr 81, vi x4, vi (-1)] [vi 0] _ _
            refine wp_ifeqT (tn := 41) rfl rfl (by decide) ?_
            refine wp_vret rfl rfl ?_
            show Wp X _ 29 110 [vr 6, zx1, vr 81, vi x3, vi x4] [] _ _
            refine wp_iincR (L2 := [vr 6, zx1, vr 81, vi x3, vi (x4 + 1)]) rfl rfl (by clear H; unfold R32; omega) rfl ?_
            refine wp_goto (tn := 63) rfl rfl ?_
            exact H
          · replace H := H.2 c16
            refine wp_iconst rfl ?_
            refine wp_goto (tn := 23) rfl rfl ?_
            refine wp_zret rfl rfl (by decide) ?_
            show Wp X _ 228 6 [vr 81, vi x4, vi (-1)] [vi 1] _ _
            refine wp_ifeqF (tn := 41) rfl rfl (by decide) ?_
            refine wp_aload rfl rfl ?_
            refine wp_getR (r := 81) rfl (congrArg Prod.fst (kf_81 X.1)) rfl ?_
            refine wp_iload rfl rfl ?_
            refine wp_aload rfl rfl ?_
            refine wp_getI (j := 1) rfl (congrArg Prod.fst (kf_81 X.1)) rfl ?_
            refine wp_ifne (tn := 26) rfl rfl (fun c17 => ?_) (fun c17 => ?_)
            · replace H := H.1 c17
              refine wp_aload rfl rfl ?_
              refine wp_getI (j := 1) rfl (congrArg Prod.fst (kf_81 X.1)) rfl ?_
              refine wp_iconst rfl ?_
              refine wp_icne (tn := 39) rfl rfl (fun c18 => ?_) (fun c18 => ?_)
              · replace H := H.1 c18
                refine wp_iload rfl rfl ?_
                refine wp_iastore rfl (kf_82 X.1) ⟨g13.1, (by clear H; omega)⟩ ?_
                refine wp_vret rfl rfl ?_
                show Wp X _ 29 110 [vr 6, zx1, vr 81, vi x3, vi x4] [] _ _
                refine wp_iincR (L2 := [vr 6, zx1, vr 81, vi x3, vi (x4 + 1)]) rfl rfl (by clear H; unfold R32; omega) rfl ?_
                refine wp_goto (tn := 63) rfl rfl ?_
                exact H
              · replace H := H.2 c18
                refine wp_iload rfl rfl ?_
                refine wp_i2s rfl ?_
                refine wp_goto (tn := 40) rfl rfl ?_
                refine wp_iastore rfl (kf_82 X.1) ⟨g13.1, (by clear H; omega)⟩ ?_
                refine wp_vret rfl rfl ?_
                show Wp X _ 29 110 [vr 6, zx1, vr 81, vi x3, vi x4] [] _ _
                refine wp_iincR (L2 := [vr 6, zx1, vr 81, vi x3, vi (x4 + 1)]) rfl rfl (by clear H; unfold R32; omega) rfl ?_
                refine wp_goto (tn := 63) rfl rfl ?_
                exact H
            · replace H := H.2 c17
              refine wp_iload rfl rfl ?_
              refine wp_i2b rfl ?_
              refine wp_goto (tn := 40) rfl rfl ?_
              refine wp_iastore rfl (kf_82 X.1) ⟨g13.1, (by clear H; omega)⟩ ?_
              refine wp_vret rfl rfl ?_
              show Wp X _ 29 110 [vr 6, zx1, vr 81, vi x3, vi x4] [] _ _
              refine wp_iincR (L2 := [vr 6, zx1, vr 81, vi x3, vi (x4 + 1)]) rfl rfl (by clear H; unfold R32; omega) rfl ?_
              refine wp_goto (tn := 63) rfl rfl ?_
              exact H
/-- WarnLines.write(I)I, from 63 -/
theorem S29_6_63b {X : Nat × (Int → Int)} {h : HP} {Q : bQ} (zx1 : aV) (x3 : Int) (x4 : Int) (H : ((x3 ≤ x4 → Q (some (vi x3)) h) ∧ (x4 < x3 → ((x4 < 0 → ((R32 (x4 + 1)) ∧ Wp X 3 29 63 [vr 6, zx1, vr 83, vi x3, vi (x4 + 1)] [] h Q)) ∧ (0 ≤ x4 → (((h 8 8) ≤ x4 → ((R32 ((h 83 2) - 1)) ∧ ((((h 83 2) - 1) < x4 → ((R32 (x4 + 1)) ∧ Wp X 3 29 63 [vr 6, zx1, vr 83, vi x3, vi (x4 + 1)] [] h Q)) ∧ (x4 ≤ ((h 83 2) - 1) → (((h 83 1) ≠ 0 → (((h 83 1) ≠ 1 → ((0 ≤ x4 ∧ x4 < 60) ∧ Wp X 3 29 63 [vr 6, zx1, vr 83, vi x3, vi (x4 + 1)] [] (upd2 h 84 x4 (-1)) Q)) ∧ ((h 83 1) = 1 → ((0 ≤ x4 ∧ x4 < 60) ∧ Wp X 3 29 63 [vr 6, zx1, vr 83, vi x3, vi (x4 + 1)] [] (upd2 h 84 x4 (Int.bmod (-1) 65536)) Q)))) ∧ ((h 83 1) = 0 → ((0 ≤ x4 ∧ x4 < 60) ∧ Wp X 3 29 63 [vr 6, zx1, vr 83, vi x3, vi (x4 + 1)] [] (upd2 h 84 x4 (Int.bmod (-1) 256)) Q))))))) ∧ (x4 < (h 8 8) → ((0 ≤ x4 ∧ x4 < 20) ∧ (((h 34 x4) ≠ (-1) → Wp X 2 172 0 [vr 36, vi (h 34 x4), vu, vu] [] h (fun v h' => Wp X 3 29 104 [vr 6, zx1, vr 83, vi x3, vi x4] (psh v [vi x4, vr 83]) h' Q)) ∧ ((h 34 x4) = (-1) → ((R32 ((h 83 2) - 1)) ∧ ((((h 83 2) - 1) < x4 → Wp X 3 29 63 [vr 6, zx1, vr 83, vi x3, vi (x4 + 1)] [] h Q) ∧ (x4 ≤ ((h 83 2) - 1) → (((h 83 1) ≠ 0 → (((h 83 1) ≠ 1 → Wp X 3 29 63 [vr 6, zx1, vr 83, vi x3, vi (x4 + 1)] [] (upd2 h 84 x4 (-1)) Q) ∧ ((h 83 1) = 1 → Wp X 3 29 63 [vr 6, zx1, vr 83, vi x3, vi (x4 + 1)] [] (upd2 h 84 x4 (Int.bmod (-1) 65536)) Q))) ∧ ((h 83 1) = 0 → Wp X 3 29 63 [vr 6, zx1, vr 83, vi x3, vi (x4 + 1)] [] (upd2 h 84 x4 (Int.bmod (-1) 256)) Q))))))))))))))) : Wp X 3 29 63 [vr 6, zx1, vr 83, vi x3, vi x4] [] h Q := by
  refine wp_iload rfl rfl ?_
  refine wp_iload rfl rfl ?_
  refine wp_icge (tn := 116) rfl rfl (fun c1 => ?_) (fun c1 => ?_)
  · replace H := H.1 c1
    refine wp_iload rfl rfl ?_
    exact wp_iret rfl rfl H
  · replace H := H.2 c1
    refine wp_aload rfl rfl ?_
    refine wp_iload rfl rfl ?_
    refine wp_aload rfl rfl ?_
    refine wp_getR (r := 7) rfl (congrArg Prod.fst (kf_6 X.1)) rfl ?_
    refine wp_iload rfl rfl ?_
    refine wp_call (k := 149) (ρ2 := 1) (L2 := [vr 8, vi x4]) rfl rfl rfl (Nat.le_of_ble_eq_true rfl) (Nat.le_of_ble_eq_true rfl) (Nat.le_of_ble_eq_true rfl) (rcv_V rfl (congrArg Prod.fst (kf_8 X.1))) rfl ?_
    refine wp_aload rfl rfl ?_
    refine wp_iload rfl rfl ?_
    refine wp_call (k := 145) (ρ2 := 0) (L2 := [vr 8, vi x4]) rfl rfl rfl (Nat.le_of_ble_eq_true rfl) (Nat.le_of_ble_eq_true rfl) (Nat.le_of_ble_eq_true rfl) (rcv_V rfl (congrArg Prod.fst (kf_8 X.1))) rfl ?_
    refine wp_iload rfl rfl ?_
    refine wp_iflt (tn := 16) rfl rfl (fun c2 => ?_) (fun c2 => ?_)
    · replace H := H.1 c2
      refine wp_iconst rfl ?_
      refine wp_zret rfl rfl (by decide) ?_
      show Wp X _ 149 5 [vr 8, vi x4] [vi 0] _ _
      refine wp_ifeqT (tn := 18) rfl rfl (by decide) ?_
      refine wp_iconst rfl ?_
      refine wp_goto (tn := 23) rfl rfl ?_
      refine wp_zret rfl rfl (by decide) ?_
      show Wp X _ 29 81 [vr 6, zx1, vr 83, vi x3, vi x4] [vi 1, vi x4, vr 83] _ _
      refine wp_ifeqF (tn := 88) rfl rfl (by decide) ?_
      refine wp_iconst rfl ?_
      refine wp_goto (tn := 107) rfl rfl ?_
      refine wp_call (k := 228) (ρ2 := 1) (L2 := [vr 83, vi x4, vi (-1)]) rfl rfl rfl (Nat.le_of_ble_eq_true rfl) (Nat.le_of_ble_eq_true rfl) (Nat.le_of_ble_eq_true rfl) (rcv_V rfl (congrArg Prod.fst (kf_83 X.1))) rfl ?_
      refine wp_aload rfl rfl ?_
      refine wp_iload rfl rfl ?_
      refine wp_iconst rfl ?_
      refine wp_call (k := 226) (ρ2 := 0) (L2 := [vr 83, vi x4, vi 1]) rfl rfl rfl (Nat.le_of_ble_eq_true rfl) (Nat.le_of_ble_eq_true rfl) (Nat.le_of_ble_eq_true rfl) (rcv_V rfl (congrArg Prod.fst (kf_83 X.1))) rfl ?_
      refine wp_iload rfl rfl ?_
      refine wp_ifltT (tn := 22) rfl rfl c2 ?_
      refine wp_iconst rfl ?_
      refine wp_zret rfl rfl (by decide) ?_
      show Wp X _ 228 6 [vr 83, vi x4, vi (-1)] [vi 0] _ _
      refine wp_ifeqT (tn := 41) rfl rfl (by decide) ?_
      refine wp_vret rfl rfl ?_
      show Wp X _ 29 110 [vr 6, zx1, vr 83, vi x3, vi x4] [] _ _
      have g3 := H.1
      replace H := H.2
      refine wp_iincR (L2 := [vr 6, zx1, vr 83, vi x3, vi (x4 + 1)]) rfl rfl g3 rfl ?_
      refine wp_goto (tn := 63) rfl rfl ?_
      exact H
    · replace H := H.2 c2
      refine wp_iload rfl rfl ?_
      refine wp_aload rfl rfl ?_
      refine wp_getI (j := 8) rfl (congrArg Prod.fst (kf_8 X.1)) rfl ?_
      refine wp_icge (tn := 16) rfl rfl (fun c4 => ?_) (fun c4 => ?_)
      · replace H := H.1 c4
        refine wp_iconst rfl ?_
        refine wp_zret rfl rfl (by decide) ?_
        show Wp X _ 149 5 [vr 8, vi x4] [vi 0] _ _
        refine wp_ifeqT (tn := 18) rfl rfl (by decide) ?_
        refine wp_iconst rfl ?_
        refine wp_goto (tn := 23) rfl rfl ?_
        refine wp_zret rfl rfl (by decide) ?_
        show Wp X _ 29 81 [vr 6, zx1, vr 83, vi x3, vi x4] [vi 1, vi x4, vr 83] _ _
        refine wp_ifeqF (tn := 88) rfl rfl (by decide) ?_
        refine wp_iconst rfl ?_
        refine wp_goto (tn := 107) rfl rfl ?_
        refine wp_call (k := 228) (ρ2 := 1) (L2 := [vr 83, vi x4, vi (-1)]) rfl rfl rfl (Nat.le_of_ble_eq_true rfl) (Nat.le_of_ble_eq_true rfl) (Nat.le_of_ble_eq_true rfl) (rcv_V rfl (congrArg Prod.fst (kf_83 X.1))) rfl ?_
        refine wp_aload rfl rfl ?_
        refine wp_iload rfl rfl ?_
        refine wp_iconst rfl ?_
        refine wp_call (k := 226) (ρ2 := 0) (L2 := [vr 83, vi x4, vi 1]) rfl rfl rfl (Nat.le_of_ble_eq_true rfl) (Nat.le_of_ble_eq_true rfl) (Nat.le_of_ble_eq_true rfl) (rcv_V rfl (congrArg Prod.fst (kf_83 X.1))) rfl ?_
        refine wp_iload rfl rfl ?_
        refine wp_ifltF (tn := 22) rfl rfl c2 ?_
        refine wp_iload rfl rfl ?_
        refine wp_ifltF (tn := 22) rfl rfl (by decide) ?_
        refine wp_iload rfl rfl ?_
        refine wp_aload rfl rfl ?_
        refine wp_getI (j := 2) rfl (congrArg Prod.fst (kf_83 X.1)) rfl ?_
        refine wp_iload rfl rfl ?_
        refine wp_isub rfl ?_
        have g5 := H.1
        replace H := H.2
        refine Wp.topI (y := ((h 83 2) - 1)) (w32_I g5) ?_
        refine wp_icgt (tn := 22) rfl rfl (fun c6 => ?_) (fun c6 => ?_)
        · replace H := H.1 c6
          refine wp_iconst rfl ?_
          refine wp_zret rfl rfl (by decide) ?_
          show Wp X _ 228 6 [vr 83, vi x4, vi (-1)] [vi 0] _ _
          refine wp_ifeqT (tn := 41) rfl rfl (by decide) ?_
          refine wp_vret rfl rfl ?_
          show Wp X _ 29 110 [vr 6, zx1, vr 83, vi x3, vi x4] [] _ _
          have g7 := H.1
          replace H := H.2
          refine wp_iincR (L2 := [vr 6, zx1, vr 83, vi x3, vi (x4 + 1)]) rfl rfl g7 rfl ?_
          refine wp_goto (tn := 63) rfl rfl ?_
          exact H
        · replace H := H.2 c6
          refine wp_iconst rfl ?_
          refine wp_goto (tn := 23) rfl rfl ?_
          refine wp_zret rfl rfl (by decide) ?_
          show Wp X _ 228 6 [vr 83, vi x4, vi (-1)] [vi 1] _ _
          refine wp_ifeqF (tn := 41) rfl rfl (by decide) ?_
          refine wp_aload rfl rfl ?_
          refine wp_getR (r := 83) rfl (congrArg Prod.fst (kf_83 X.1)) rfl ?_
          refine wp_iload rfl rfl ?_
          refine wp_aload rfl rfl ?_
          refine wp_getI (j := 1) rfl (congrArg Prod.fst (kf_83 X.1)) rfl ?_
          refine wp_ifne (tn := 26) rfl rfl (fun c8 => ?_) (fun c8 => ?_)
          · replace H := H.1 c8
            refine wp_aload rfl rfl ?_
            refine wp_getI (j := 1) rfl (congrArg Prod.fst (kf_83 X.1)) rfl ?_
            refine wp_iconst rfl ?_
            refine wp_icne (tn := 39) rfl rfl (fun c9 => ?_) (fun c9 => ?_)
            · replace H := H.1 c9
              refine wp_iload rfl rfl ?_
              have g10 := H.1
              replace H := H.2
              refine wp_iastore rfl (kf_84 X.1) g10 ?_
              refine wp_vret rfl rfl ?_
              show Wp X _ 29 110 [vr 6, zx1, vr 83, vi x3, vi x4] [] _ _
              refine wp_iincR (L2 := [vr 6, zx1, vr 83, vi x3, vi (x4 + 1)]) rfl rfl (by clear H; unfold R32; omega) rfl ?_
              refine wp_goto (tn := 63) rfl rfl ?_
              exact H
            · replace H := H.2 c9
              refine wp_iload rfl rfl ?_
              refine wp_i2s rfl ?_
              refine wp_goto (tn := 40) rfl rfl ?_
              have g11 := H.1
              replace H := H.2
              refine wp_iastore rfl (kf_84 X.1) g11 ?_
              refine wp_vret rfl rfl ?_
              show Wp X _ 29 110 [vr 6, zx1, vr 83, vi x3, vi x4] [] _ _
              refine wp_iincR (L2 := [vr 6, zx1, vr 83, vi x3, vi (x4 + 1)]) rfl rfl (by clear H; unfold R32; omega) rfl ?_
              refine wp_goto (tn := 63) rfl rfl ?_
              exact H
          · replace H := H.2 c8
            refine wp_iload rfl rfl ?_
            refine wp_i2b rfl ?_
            refine wp_goto (tn := 40) rfl rfl ?_
            have g12 := H.1
            replace H := H.2
            refine wp_iastore rfl (kf_84 X.1) g12 ?_
            refine wp_vret rfl rfl ?_
            show Wp X _ 29 110 [vr 6, zx1, vr 83, vi x3, vi x4] [] _ _
            refine wp_iincR (L2 := [vr 6, zx1, vr 83, vi x3, vi (x4 + 1)]) rfl rfl (by clear H; unfold R32; omega) rfl ?_
            refine wp_goto (tn := 63) rfl rfl ?_
            exact H
      · replace H := H.2 c4
        refine wp_iconst rfl ?_
        refine wp_goto (tn := 17) rfl rfl ?_
        refine wp_zret rfl rfl (by decide) ?_
        show Wp X _ 149 5 [vr 8, vi x4] [vi 1] _ _
        refine wp_ifeqF (tn := 18) rfl rfl (by decide) ?_
        refine wp_aload rfl rfl ?_
        refine wp_getR (r := 33) rfl (congrArg Prod.fst (kf_8 X.1)) rfl ?_
        refine wp_iload rfl rfl ?_
        have g13 := H.1
        replace H := H.2
        refine wp_iaload rfl (kf_34 X.1) g13 ?_
        refine wp_iconst rfl ?_
        refine wp_icne (tn := 22) rfl rfl (fun c14 => ?_) (fun c14 => ?_)
        · replace H := H.1 c14
          refine wp_iconst rfl ?_
          refine wp_zret rfl rfl (by decide) ?_
          show Wp X _ 29 81 [vr 6, zx1, vr 83, vi x3, vi x4] [vi 0, vi x4, vr 83] _ _
          refine wp_ifeqT (tn := 88) rfl rfl (by decide) ?_
          refine wp_aload rfl rfl ?_
          refine wp_getR (r := 35) rfl (congrArg Prod.fst (kf_6 X.1)) rfl ?_
          refine wp_aload rfl rfl ?_
          refine wp_getR (r := 7) rfl (congrArg Prod.fst (kf_6 X.1)) rfl ?_
          refine wp_iload rfl rfl ?_
          refine wp_call (k := 150) (ρ2 := 1) (L2 := [vr 8, vi x4]) rfl rfl rfl (Nat.le_of_ble_eq_true rfl) (Nat.le_of_ble_eq_true rfl) (Nat.le_of_ble_eq_true rfl) (rcv_V rfl (congrArg Prod.fst (kf_8 X.1))) rfl ?_
          refine wp_aload rfl rfl ?_
          refine wp_iload rfl rfl ?_
          refine wp_call (k := 145) (ρ2 := 0) (L2 := [vr 8, vi x4]) rfl rfl rfl (Nat.le_of_ble_eq_true rfl) (Nat.le_of_ble_eq_true rfl) (Nat.le_of_ble_eq_true rfl) (rcv_V rfl (congrArg Prod.fst (kf_8 X.1))) rfl ?_
          refine wp_iload rfl rfl ?_
          refine wp_ifltF (tn := 16) rfl rfl g13.1 ?_
          refine wp_iload rfl rfl ?_
          refine wp_aload rfl rfl ?_
          refine wp_getI (j := 8) rfl (congrArg Prod.fst (kf_8 X.1)) rfl ?_
          refine wp_icgeF (tn := 16) rfl rfl c4 ?_
          refine wp_iconst rfl ?_
          refine wp_goto (tn := 17) rfl rfl ?_
          refine wp_zret rfl rfl (by decide) ?_
          show Wp X _ 150 5 [vr 8, vi x4] [vi 1] _ _
          refine wp_ifeqF (tn := 17) rfl rfl (by decide) ?_
          refine wp_aload rfl rfl ?_
          refine wp_getR (r := 33) rfl (congrArg Prod.fst (kf_8 X.1)) rfl ?_
          refine wp_iload rfl rfl ?_
          refine wp_iaload rfl (kf_34 X.1) ⟨g13.1, g13.2⟩ ?_
          refine wp_goto (tn := 18) rfl rfl ?_
          refine wp_iret rfl rfl ?_
          show Wp X _ 29 101 [vr 6, zx1, vr 83, vi x3, vi x4] [vi (h 34 x4), vr 36, vi x4, vr 83] _ _
          exact wp_call (k := 172) (ρ2 := 2) (L2 := [vr 36, vi (h 34 x4), vu, vu]) rfl rfl rfl (Nat.le_of_ble_eq_true rfl) (Nat.le_of_ble_eq_true rfl) (Nat.le_of_ble_eq_true rfl) (rcv_V rfl (congrArg Prod.fst (kf_36 X.1))) rfl H
        · replace H := H.2 c14
          refine wp_iconst rfl ?_
          refine wp_goto (tn := 23) rfl rfl ?_
          refine wp_zret rfl rfl (by decide) ?_
          show Wp X _ 29 81 [vr 6, zx1, vr 83, vi x3, vi x4] [vi 1, vi x4, vr 83] _ _
          refine wp_ifeqF (tn := 88) rfl rfl (by decide) ?_
          refine wp_iconst rfl ?_
          refine wp_goto (tn := 107) rfl rfl ?_
          refine wp_call (k := 228) (ρ2 := 1) (L2 := [vr 83, vi x4, vi (-1)]) rfl rfl rfl (Nat.le_of_ble_eq_true rfl) (Nat.le_of_ble_eq_true rfl) (Nat.le_of_ble_eq_true rfl) (rcv_V rfl (congrArg Prod.fst (kf_83 X.1))) rfl ?_
          refine wp_aload rfl rfl ?_
          refine wp_iload rfl rfl ?_
          refine wp_iconst rfl ?_
          refine wp_call (k := 226) (ρ2 := 0) (L2 := [vr 83, vi x4, vi 1]) rfl rfl rfl (Nat.le_of_ble_eq_true rfl) (Nat.le_of_ble_eq_true rfl) (Nat.le_of_ble_eq_true rfl) (rcv_V rfl (congrArg Prod.fst (kf_83 X.1))) rfl ?_
          refine wp_iload rfl rfl ?_
          refine wp_ifltF (tn := 22) rfl rfl g13.1 ?_
          refine wp_iload rfl rfl ?_
          refine wp_ifltF (tn := 22) rfl rfl (by decide) ?_
          refine wp_iload rfl rfl ?_
          refine wp_aload rfl rfl ?_
          refine wp_getI (j := 2) rfl (congrArg Prod.fst (kf_83 X.1)) rfl ?_
          refine wp_iload rfl rfl ?_
          refine wp_isub rfl ?_
          have g15 := H.1
          replace H := H.2
          refine Wp.topI (y := ((h 83 2) - 1)) (w32_I g15) ?_
          refine wp_icgt (tn := 22) rfl rfl (fun c16 => ?_) (fun c16 => ?_)
          · replace H := H.1 c16
            refine wp_iconst rfl ?_
            refine wp_zret rfl rfl (by decide) ?_
            show Wp X _ 228 6 [vr 83, vi x4, vi (-1)] [vi 0] _ _
            refine wp_ifeqT (tn := 41) rfl rfl (by decide) ?_
            refine wp_vret rfl rfl ?_
            show Wp X _ 29 110 [vr 6, zx1, vr 83, vi x3, vi x4] [] _ _
            refine wp_iincR (L2 := [vr 6, zx1, vr 83, vi x3, vi (x4 + 1)]) rfl rfl (by clear H; unfold R32; omega) rfl ?_
            refine wp_goto (tn := 63) rfl rfl ?_
            exact H
          · replace H := H.2 c16
            refine wp_iconst rfl ?_
            refine wp_goto (tn := 23) rfl rfl ?_
            refine wp_zret rfl rfl (by decide) ?_
            show Wp X _ 228 6 [vr 83, vi x4, vi (-1)] [vi 1] _ _
            refine wp_ifeqF (tn := 41) rfl rfl (by decide) ?_
            refine wp_aload rfl rfl ?_
            refine wp_getR (r := 83) rfl (congrArg Prod.fst (kf_83 X.1)) rfl ?_
            refine wp_iload rfl rfl ?_
            refine wp_aload rfl rfl ?_
            refine wp_getI (j := 1) rfl (congrArg Prod.fst (kf_83 X.1)) rfl ?_
            refine wp_ifne (tn := 26) rfl rfl (fun c17 => ?_) (fun c17 => ?_)
            · replace H := H.1 c17
              refine wp_aload rfl rfl ?_
              refine wp_getI (j := 1) rfl (congrArg Prod.fst (kf_83 X.1)) rfl ?_
              refine wp_iconst rfl ?_
              refine wp_icne (tn := 39) rfl rfl (fun c18 => ?_) (fun c18 => ?_)
              · replace H := H.1 c18
                refine wp_iload rfl rfl ?_
                refine wp_iastore rfl (kf_84 X.1) ⟨g13.1, (by clear H; omega)⟩ ?_
                refine wp_vret rfl rfl ?_
                show Wp X _ 29 110 [vr 6, zx1, vr 83, vi x3, vi x4] [] _ _
                refine wp_iincR (L2 := [vr 6, zx1, vr 83, vi x3, vi (x4 + 1)]) rfl rfl (by clear H; unfold R32; omega) rfl ?_
                refine wp_goto (tn := 63) rfl rfl ?_
                exact H
              · replace H := H.2 c18
                refine wp_iload rfl rfl ?_
                refine wp_i2s rfl ?_
                refine wp_goto (tn := 40) rfl rfl ?_
                refine wp_iastore rfl (kf_84 X.1) ⟨g13.1, (by clear H; omega)⟩ ?_
                refine wp_vret rfl rfl ?_
                show Wp X _ 29 110 [vr 6, zx1, vr 83, vi x3, vi x4] [] _ _
                refine wp_iincR (L2 := [vr 6, zx1, vr 83, vi x3, vi (x4 + 1)]) rfl rfl (by clear H; unfold R32; omega) rfl ?_
                refine wp_goto (tn := 63) rfl rfl ?_
                exact H
            · replace H := H.2 c17
              refine wp_iload rfl rfl ?_
              refine wp_i2b rfl ?_
              refine wp_goto (tn := 40) rfl rfl ?_
              refine wp_iastore rfl (kf_84 X.1) ⟨g13.1, (by clear H; omega)⟩ ?_
              refine wp_vret rfl rfl ?_
              show Wp X _ 29 110 [vr 6, zx1, vr 83, vi x3, vi x4] [] _ _
              refine wp_iincR (L2 := [vr 6, zx1, vr 83, vi x3, vi (x4 + 1)]) rfl rfl (by clear H; unfold R32; omega) rfl ?_
              refine wp_goto (tn := 63) rfl rfl ?_
              exact H
/-- WarnLines.write(I)I, from 63 -/
theorem S29_6_63c {X : Nat × (Int → Int)} {h : HP} {Q : bQ} (zx1 : aV) (x3 : Int) (x4 : Int) (H : ((x3 ≤ x4 → Q (some (vi x3)) h) ∧ (x4 < x3 → ((x4 < 0 → ((R32 (x4 + 1)) ∧ Wp X 3 29 63 [vr 6, zx1, vr 85, vi x3, vi (x4 + 1)] [] h Q)) ∧ (0 ≤ x4 → (((h 8 8) ≤ x4 → ((R32 ((h 85 2) - 1)) ∧ ((((h 85 2) - 1) < x4 → ((R32 (x4 + 1)) ∧ Wp X 3 29 63 [vr 6, zx1, vr 85, vi x3, vi (x4 + 1)] [] h Q)) ∧ (x4 ≤ ((h 85 2) - 1) → (((h 85 1) ≠ 0 → (((h 85 1) ≠ 1 → ((0 ≤ x4 ∧ x4 < 60) ∧ Wp X 3 29 63 [vr 6, zx1, vr 85, vi x3, vi (x4 + 1)] [] (upd2 h 86 x4 (-1)) Q)) ∧ ((h 85 1) = 1 → ((0 ≤ x4 ∧ x4 < 60) ∧ Wp X 3 29 63 [vr 6, zx1, vr 85, vi x3, vi (x4 + 1)] [] (upd2 h 86 x4 (Int.bmod (-1) 65536)) Q)))) ∧ ((h 85 1) = 0 → ((0 ≤ x4 ∧ x4 < 60) ∧ Wp X 3 29 63 [vr 6, zx1, vr 85, vi x3, vi (x4 + 1)] [] (upd2 h 86 x4 (Int.bmod (-1) 256)) Q))))))) ∧ (x4 < (h 8 8) → ((0 ≤ x4 ∧ x4 < 20) ∧ (((h 34 x4) ≠ (-1) → Wp X 2 172 0 [vr 36, vi (h 34 x4), vu, vu] [] h (fun v h' => Wp X 3 29 104 [vr 6, zx1, vr 85, vi x3, vi x4] (psh v [vi x4, vr 85]) h' Q)) ∧ ((h 34 x4) = (-1) → ((R32 ((h 85 2) - 1)) ∧ ((((h 85 2) - 1) < x4 → Wp X 3 29 63 [vr 6, zx1, vr 85, vi x3, vi (x4 + 1)] [] h Q) ∧ (x4 ≤ ((h 85 2) - 1) → (((h 85 1) ≠ 0 → (((h 85 1) ≠ 1 → Wp X 3 29 63 [vr 6, zx1, vr 85, vi x3, vi (x4 + 1)] [] (upd2 h 86 x4 (-1)) Q) ∧ ((h 85 1) = 1 → Wp X 3 29 63 [vr 6, zx1, vr 85, vi x3, vi (x4 + 1)] [] (upd2 h 86 x4 (Int.bmod (-1) 65536)) Q))) ∧ ((h 85 1) = 0 → Wp X 3 29 63 [vr 6, zx1, vr 85, vi x3, vi (x4 + 1)] [] (upd2 h 86 x4 (Int.bmod (-1) 256)) Q))))))))))))))) : Wp X 3 29 63 [vr 6, zx1, vr 85, vi x3, vi x4] [] h Q := by
  refine wp_iload rfl rfl ?_
  refine wp_iload rfl rfl ?_
  refine wp_icge (tn := 116) rfl rfl (fun c1 => ?_) (fun c1 => ?_)
  · replace H := H.1 c1
    refine wp_iload rfl rfl ?_
    exact wp_iret rfl rfl H
  · replace H := H.2 c1
    refine wp_aload rfl rfl ?_
    refine wp_iload rfl rfl ?_
    refine wp_aload rfl rfl ?_
    refine wp_getR (r := 7) rfl (congrArg Prod.fst (kf_6 X.1)) rfl ?_
    refine wp_iload rfl rfl ?_
    refine wp_call (k := 149) (ρ2 := 1) (L2 := [vr 8, vi x4]) rfl rfl rfl (Nat.le_of_ble_eq_true rfl) (Nat.le_of_ble_eq_true rfl) (Nat.le_of_ble_eq_true rfl) (rcv_V rfl (congrArg Prod.fst (kf_8 X.1))) rfl ?_
    refine wp_aload rfl rfl ?_
    refine wp_iload rfl rfl ?_
    refine wp_call (k := 145) (ρ2 := 0) (L2 := [vr 8, vi x4]) rfl rfl rfl (Nat.le_of_ble_eq_true rfl) (Nat.le_of_ble_eq_true rfl) (Nat.le_of_ble_eq_true rfl) (rcv_V rfl (congrArg Prod.fst (kf_8 X.1))) rfl ?_
    refine wp_iload rfl rfl ?_
    refine wp_iflt (tn := 16) rfl rfl (fun c2 => ?_) (fun c2 => ?_)
    · replace H := H.1 c2
      refine wp_iconst rfl ?_
      refine wp_zret rfl rfl (by decide) ?_
      show Wp X _ 149 5 [vr 8, vi x4] [vi 0] _ _
      refine wp_ifeqT (tn := 18) rfl rfl (by decide) ?_
      refine wp_iconst rfl ?_
      refine wp_goto (tn := 23) rfl rfl ?_
      refine wp_zret rfl rfl (by decide) ?_
      show Wp X _ 29 81 [vr 6, zx1, vr 85, vi x3, vi x4] [vi 1, vi x4, vr 85] _ _
      refine wp_ifeqF (tn := 88) rfl rfl (by decide) ?_
      refine wp_iconst rfl ?_
      refine wp_goto (tn := 107) rfl rfl ?_
      refine wp_call (k := 228) (ρ2 := 1) (L2 := [vr 85, vi x4, vi (-1)]) rfl rfl rfl (Nat.le_of_ble_eq_true rfl) (Nat.le_of_ble_eq_true rfl) (Nat.le_of_ble_eq_true rfl) (rcv_V rfl (congrArg Prod.fst (kf_85 X.1))) rfl ?_
      refine wp_aload rfl rfl ?_
      refine wp_iload rfl rfl ?_
      refine wp_iconst rfl ?_
      refine wp_call (k := 226) (ρ2 := 0) (L2 := [vr 85, vi x4, vi 1]) rfl rfl rfl (Nat.le_of_ble_eq_true rfl) (Nat.le_of_ble_eq_true rfl) (Nat.le_of_ble_eq_true rfl) (rcv_V rfl (congrArg Prod.fst (kf_85 X.1))) rfl ?_
      refine wp_iload rfl rfl ?_
      refine wp_ifltT (tn := 22) rfl rfl c2 ?_
      refine wp_iconst rfl ?_
      refine wp_zret rfl rfl (by decide) ?_
      show Wp X _ 228 6 [vr 85, vi x4, vi (-1)] [vi 0] _ _
      refine wp_ifeqT (tn := 41) rfl rfl (by decide) ?_
      refine wp_vret rfl rfl ?_
      show Wp X _ 29 110 [vr 6, zx1, vr 85, vi x3, vi x4] [] _ _
      have g3 := H.1
      replace H := H.2
      refine wp_iincR (L2 := [vr 6, zx1, vr 85, vi x3, vi (x4 + 1)]) rfl rfl g3 rfl ?_
      refine wp_goto (tn := 63) rfl rfl ?_
      exact H
    · replace H := H.2 c2
      refine wp_iload rfl rfl ?_
      refine wp_aload rfl rfl ?_
      refine wp_getI (j := 8) rfl (congrArg Prod.fst (kf_8 X.1)) rfl ?_
      refine wp_icge (tn := 16) rfl rfl (fun c4 => ?_) (fun c4 => ?_)
      · replace H := H.1 c4
        refine wp_iconst rfl ?_
        refine wp_zret rfl rfl (by decide) ?_
        show Wp X _ 149 5 [vr 8, vi x4] [vi 0] _ _
        refine wp_ifeqT (tn := 18) rfl rfl (by decide) ?_
        refine wp_iconst rfl ?_
        refine wp_goto (tn := 23) rfl rfl ?_
        refine wp_zret rfl rfl (by decide) ?_
        show Wp X _ 29 81 [vr 6, zx1, vr 85, vi x3, vi x4] [vi 1, vi x4, vr 85] _ _
        refine wp_ifeqF (tn := 88) rfl rfl (by decide) ?_
        refine wp_iconst rfl ?_
        refine wp_goto (tn := 107) rfl rfl ?_
        refine wp_call (k := 228) (ρ2 := 1) (L2 := [vr 85, vi x4, vi (-1)]) rfl rfl rfl (Nat.le_of_ble_eq_true rfl) (Nat.le_of_ble_eq_true rfl) (Nat.le_of_ble_eq_true rfl) (rcv_V rfl (congrArg Prod.fst (kf_85 X.1))) rfl ?_
        refine wp_aload rfl rfl ?_
        refine wp_iload rfl rfl ?_
        refine wp_iconst rfl ?_
        refine wp_call (k := 226) (ρ2 := 0) (L2 := [vr 85, vi x4, vi 1]) rfl rfl rfl (Nat.le_of_ble_eq_true rfl) (Nat.le_of_ble_eq_true rfl) (Nat.le_of_ble_eq_true rfl) (rcv_V rfl (congrArg Prod.fst (kf_85 X.1))) rfl ?_
        refine wp_iload rfl rfl ?_
        refine wp_ifltF (tn := 22) rfl rfl c2 ?_
        refine wp_iload rfl rfl ?_
        refine wp_ifltF (tn := 22) rfl rfl (by decide) ?_
        refine wp_iload rfl rfl ?_
        refine wp_aload rfl rfl ?_
        refine wp_getI (j := 2) rfl (congrArg Prod.fst (kf_85 X.1)) rfl ?_
        refine wp_iload rfl rfl ?_
        refine wp_isub rfl ?_
        have g5 := H.1
        replace H := H.2
        refine Wp.topI (y := ((h 85 2) - 1)) (w32_I g5) ?_
        refine wp_icgt (tn := 22) rfl rfl (fun c6 => ?_) (fun c6 => ?_)
        · replace H := H.1 c6
          refine wp_iconst rfl ?_
          refine wp_zret rfl rfl (by decide) ?_
          show Wp X _ 228 6 [vr 85, vi x4, vi (-1)] [vi 0] _ _
          refine wp_ifeqT (tn := 41) rfl rfl (by decide) ?_
          refine wp_vret rfl rfl ?_
          show Wp X _ 29 110 [vr 6, zx1, vr 85, vi x3, vi x4] [] _ _
          have g7 := H.1
          replace H := H.2
          refine wp_iincR (L2 := [vr 6, zx1, vr 85, vi x3, vi (x4 + 1)]) rfl rfl g7 rfl ?_
          refine wp_goto (tn := 63) rfl rfl ?_
          exact H
        · replace H := H.2 c6
          refine wp_iconst rfl ?_
          refine wp_goto (tn := 23) rfl rfl ?_
          refine wp_zret rfl rfl (by decide) ?_
          show Wp X _ 228 6 [vr 85, vi x4, vi (-1)] [vi 1] _ _
          refine wp_ifeqF (tn := 41) rfl rfl (by decide) ?_
          refine wp_aload rfl rfl ?_
          refine wp_getR (r := 85) rfl (congrArg Prod.fst (kf_85 X.1)) rfl ?_
          refine wp_iload rfl rfl ?_
          refine wp_aload rfl rfl ?_
          refine wp_getI (j := 1) rfl (congrArg Prod.fst (kf_85 X.1)) rfl ?_
          refine wp_ifne (tn := 26) rfl rfl (fun c8 => ?_) (fun c8 => ?_)
          · replace H := H.1 c8
            refine wp_aload rfl rfl ?_
            refine wp_getI (j := 1) rfl (congrArg Prod.fst (kf_85 X.1)) rfl ?_
            refine wp_iconst rfl ?_
            refine wp_icne (tn := 39) rfl rfl (fun c9 => ?_) (fun c9 => ?_)
            · replace H := H.1 c9
              refine wp_iload rfl rfl ?_
              have g10 := H.1
              replace H := H.2
              refine wp_iastore rfl (kf_86 X.1) g10 ?_
              refine wp_vret rfl rfl ?_
              show Wp X _ 29 110 [vr 6, zx1, vr 85, vi x3, vi x4] [] _ _
              refine wp_iincR (L2 := [vr 6, zx1, vr 85, vi x3, vi (x4 + 1)]) rfl rfl (by clear H; unfold R32; omega) rfl ?_
              refine wp_goto (tn := 63) rfl rfl ?_
              exact H
            · replace H := H.2 c9
              refine wp_iload rfl rfl ?_
              refine wp_i2s rfl ?_
              refine wp_goto (tn := 40) rfl rfl ?_
              have g11 := H.1
              replace H := H.2
              refine wp_iastore rfl (kf_86 X.1) g11 ?_
              refine wp_vret rfl rfl ?_
              show Wp X _ 29 110 [vr 6, zx1, vr 85, vi x3, vi x4] [] _ _
              refine wp_iincR (L2 := [vr 6, zx1, vr 85, vi x3, vi (x4 + 1)]) rfl rfl (by clear H; unfold R32; omega) rfl ?_
              refine wp_goto (tn := 63) rfl rfl ?_
              exact H
          · replace H := H.2 c8
            refine wp_iload rfl rfl ?_
            refine wp_i2b rfl ?_
            refine wp_goto (tn := 40) rfl rfl ?_
            have g12 := H.1
            replace H := H.2
            refine wp_iastore rfl (kf_86 X.1) g12 ?_
            refine wp_vret rfl rfl ?_
            show Wp X _ 29 110 [vr 6, zx1, vr 85, vi x3, vi x4] [] _ _
            refine wp_iincR (L2 := [vr 6, zx1, vr 85, vi x3, vi (x4 + 1)]) rfl rfl (by clear H; unfold R32; omega) rfl ?_
            refine wp_goto (tn := 63) rfl rfl ?_
            exact H
      · replace H := H.2 c4
        refine wp_iconst rfl ?_
        refine wp_goto (tn := 17) rfl rfl ?_
        refine wp_zret rfl rfl (by decide) ?_
        show Wp X _ 149 5 [vr 8, vi x4] [vi 1] _ _
        refine wp_ifeqF (tn := 18) rfl rfl (by decide) ?_
        refine wp_aload rfl rfl ?_
        refine wp_getR (r := 33) rfl (congrArg Prod.fst (kf_8 X.1)) rfl ?_
        refine wp_iload rfl rfl ?_
        have g13 := H.1
        replace H := H.2
        refine wp_iaload rfl (kf_34 X.1) g13 ?_
        refine wp_iconst rfl ?_
        refine wp_icne (tn := 22) rfl rfl (fun c14 => ?_) (fun c14 => ?_)
        · replace H := H.1 c14
          refine wp_iconst rfl ?_
          refine wp_zret rfl rfl (by decide) ?_
          show Wp X _ 29 81 [vr 6, zx1, vr 85, vi x3, vi x4] [vi 0, vi x4, vr 85] _ _
          refine wp_ifeqT (tn := 88) rfl rfl (by decide) ?_
          refine wp_aload rfl rfl ?_
          refine wp_getR (r := 35) rfl (congrArg Prod.fst (kf_6 X.1)) rfl ?_
          refine wp_aload rfl rfl ?_
          refine wp_getR (r := 7) rfl (congrArg Prod.fst (kf_6 X.1)) rfl ?_
          refine wp_iload rfl rfl ?_
          refine wp_call (k := 150) (ρ2 := 1) (L2 := [vr 8, vi x4]) rfl rfl rfl (Nat.le_of_ble_eq_true rfl) (Nat.le_of_ble_eq_true rfl) (Nat.le_of_ble_eq_true rfl) (rcv_V rfl (congrArg Prod.fst (kf_8 X.1))) rfl ?_
          refine wp_aload rfl rfl ?_
          refine wp_iload rfl rfl ?_
          refine wp_call (k := 145) (ρ2 := 0) (L2 := [vr 8, vi x4]) rfl rfl rfl (Nat.le_of_ble_eq_true rfl) (Nat.le_of_ble_eq_true rfl) (Nat.le_of_ble_eq_true rfl) (rcv_V rfl (congrArg Prod.fst (kf_8 X.1))) rfl ?_
          refine wp_iload rfl rfl ?_
          refine wp_ifltF (tn := 16) rfl rfl g13.1 ?_
          refine wp_iload rfl rfl ?_
          refine wp_aload rfl rfl ?_
          refine wp_getI (j := 8) rfl (congrArg Prod.fst (kf_8 X.1)) rfl ?_
          refine wp_icgeF (tn := 16) rfl rfl c4 ?_
          refine wp_iconst rfl ?_
          refine wp_goto (tn := 17) rfl rfl ?_
          refine wp_zret rfl rfl (by decide) ?_
          show Wp X _ 150 5 [vr 8, vi x4] [vi 1] _ _
          refine wp_ifeqF (tn := 17) rfl rfl (by decide) ?_
          refine wp_aload rfl rfl ?_
          refine wp_getR (r := 33) rfl (congrArg Prod.fst (kf_8 X.1)) rfl ?_
          refine wp_iload rfl rfl ?_
          refine wp_iaload rfl (kf_34 X.1) ⟨g13.1, g13.2⟩ ?_
          refine wp_goto (tn := 18) rfl rfl ?_
          refine wp_iret rfl rfl ?_
          show Wp X _ 29 101 [vr 6, zx1, vr 85, vi x3, vi x4] [vi (h 34 x4), vr 36, vi x4, vr 85] _ _
          exact wp_call (k := 172) (ρ2 := 2) (L2 := [vr 36, vi (h 34 x4), vu, vu]) rfl rfl rfl (Nat.le_of_ble_eq_true rfl) (Nat.le_of_ble_eq_true rfl) (Nat.le_of_ble_eq_true rfl) (rcv_V rfl (congrArg Prod.fst (kf_36 X.1))) rfl H
        · replace H := H.2 c14
          refine wp_iconst rfl ?_
          refine wp_goto (tn := 23) rfl rfl ?_
          refine wp_zret rfl rfl (by decide) ?_
          show Wp X _ 29 81 [vr 6, zx1, vr 85, vi x3, vi x4] [vi 1, vi x4, vr 85] _ _
          refine wp_ifeqF (tn := 88) rfl rfl (by decide) ?_
          refine wp_iconst rfl ?_
          refine wp_goto (tn := 107) rfl rfl ?_
          refine wp_call (k := 228) (ρ2 := 1) (L2 := [vr 85, vi x4, vi (-1)]) rfl rfl rfl (Nat.le_of_ble_eq_true rfl) (Nat.le_of_ble_eq_true rfl) (Nat.le_of_ble_eq_true rfl) (rcv_V rfl (congrArg Prod.fst (kf_85 X.1))) rfl ?_
          refine wp_aload rfl rfl ?_
          refine wp_iload rfl rfl ?_
          refine wp_iconst rfl ?_
          refine wp_call (k := 226) (ρ2 := 0) (L2 := [vr 85, vi x4, vi 1]) rfl rfl rfl (Nat.le_of_ble_eq_true rfl) (Nat.le_of_ble_eq_true rfl) (Nat.le_of_ble_eq_true rfl) (rcv_V rfl (congrArg Prod.fst (kf_85 X.1))) rfl ?_
          refine wp_iload rfl rfl ?_
          refine wp_ifltF (tn := 22) rfl rfl g13.1 ?_
          refine wp_iload rfl rfl ?_
          refine wp_ifltF (tn := 22) rfl rfl (by decide) ?_
          refine wp_iload rfl rfl ?_
          refine wp_aload rfl rfl ?_
          refine wp_getI (j := 2) rfl (congrArg Prod.fst (kf_85 X.1)) rfl ?_
          refine wp_iload rfl rfl ?_
          refine wp_isub rfl ?_
          have g15 := H.1
          replace H := H.2
          refine Wp.topI (y := ((h 85 2) - 1)) (w32_I g15) ?_
          refine wp_icgt (tn := 22) rfl rfl (fun c16 => ?_) (fun c16 => ?_)
          · replace H := H.1 c16
            refine wp_iconst rfl ?_
            refine wp_zret rfl rfl (by decide) ?_
            show Wp X _ 228 6 [vr 85, vi x4, vi (-1)] [vi 0] _ _
            refine wp_ifeqT (tn := 41) rfl rfl (by decide) ?_
            refine wp_vret rfl rfl ?_
            show Wp X _ 29 110 [vr 6, zx1, vr 85, vi x3, vi x4] [] _ _
            refine wp_iincR (L2 := [vr 6, zx1, vr 85, vi x3, vi (x4 + 1)]) rfl rfl (by clear H; unfold R32; omega) rfl ?_
            refine wp_goto (tn := 63) rfl rfl ?_
            exact H
          · replace H := H.2 c16
            refine wp_iconst rfl ?_
            refine wp_goto (tn := 23) rfl rfl ?_
            refine wp_zret rfl rfl (by decide) ?_
            show Wp X _ 228 6 [vr 85, vi x4, vi (-1)] [vi 1] _ _
            refine wp_ifeqF (tn := 41) rfl rfl (by decide) ?_
            refine wp_aload rfl rfl ?_
            refine wp_getR (r := 85) rfl (congrArg Prod.fst (kf_85 X.1)) rfl ?_
            refine wp_iload rfl rfl ?_
            refine wp_aload rfl rfl ?_
            refine wp_getI (j := 1) rfl (congrArg Prod.fst (kf_85 X.1)) rfl ?_
            refine wp_ifne (tn := 26) rfl rfl (fun c17 => ?_) (fun c17 => ?_)
            · replace H := H.1 c17
              refine wp_aload rfl rfl ?_
              refine wp_getI (j := 1) rfl (congrArg Prod.fst (kf_85 X.1)) rfl ?_
              refine wp_iconst rfl ?_
              refine wp_icne (tn := 39) rfl rfl (fun c18 => ?_) (fun c18 => ?_)
              · replace H := H.1 c18
                refine wp_iload rfl rfl ?_
                refine wp_iastore rfl (kf_86 X.1) ⟨g13.1, (by clear H; omega)⟩ ?_
                refine wp_vret rfl rfl ?_
                show Wp X _ 29 110 [vr 6, zx1, vr 85, vi x3, vi x4] [] _ _
                refine wp_iincR (L2 := [vr 6, zx1, vr 85, vi x3, vi (x4 + 1)]) rfl rfl (by clear H; unfold R32; omega) rfl ?_
                refine wp_goto (tn := 63) rfl rfl ?_
                exact H
              · replace H := H.2 c18
                refine wp_iload rfl rfl ?_
                refine wp_i2s rfl ?_
                refine wp_goto (tn := 40) rfl rfl ?_
                refine wp_iastore rfl (kf_86 X.1) ⟨g13.1, (by clear H; omega)⟩ ?_
                refine wp_vret rfl rfl ?_
                show Wp X _ 29 110 [vr 6, zx1, vr 85, vi x3, vi x4] [] _ _
                refine wp_iincR (L2 := [vr 6, zx1, vr 85, vi x3, vi (x4 + 1)]) rfl rfl (by clear H; unfold R32; omega) rfl ?_
                refine wp_goto (tn := 63) rfl rfl ?_
                exact H
            · replace H := H.2 c17
              refine wp_iload rfl rfl ?_
              refine wp_i2b rfl ?_
              refine wp_goto (tn := 40) rfl rfl ?_
              refine wp_iastore rfl (kf_86 X.1) ⟨g13.1, (by clear H; omega)⟩ ?_
              refine wp_vret rfl rfl ?_
              show Wp X _ 29 110 [vr 6, zx1, vr 85, vi x3, vi x4] [] _ _
              refine wp_iincR (L2 := [vr 6, zx1, vr 85, vi x3, vi (x4 + 1)]) rfl rfl (by clear H; unfold R32; omega) rfl ?_
              refine wp_goto (tn := 63) rfl rfl ?_
              exact H
/-- WarnLines.write(I)I, from 63 -/
theorem S29_6_63d {X : Nat × (Int → Int)} {h : HP} {Q : bQ} (zx1 : aV) (x3 : Int) (x4 : Int) (H : ((x3 ≤ x4 → Q (some (vi x3)) h) ∧ (x4 < x3 → ((x4 < 0 → ((R32 (x4 + 1)) ∧ Wp X 3 29 63 [vr 6, zx1, vr 87, vi x3, vi (x4 + 1)] [] h Q)) ∧ (0 ≤ x4 → (((h 8 8) ≤ x4 → ((R32 ((h 87 2) - 1)) ∧ ((((h 87 2) - 1) < x4 → ((R32 (x4 + 1)) ∧ Wp X 3 29 63 [vr 6, zx1, vr 87, vi x3, vi (x4 + 1)] [] h Q)) ∧ (x4 ≤ ((h 87 2) - 1) → (((h 87 1) ≠ 0 → (((h 87 1) ≠ 1 → ((0 ≤ x4 ∧ x4 < 60) ∧ Wp X 3 29 63 [vr 6, zx1, vr 87, vi x3, vi (x4 + 1)] [] (upd2 h 88 x4 (-1)) Q)) ∧ ((h 87 1) = 1 → ((0 ≤ x4 ∧ x4 < 60) ∧ Wp X 3 29 63 [vr 6, zx1, vr 87, vi x3, vi (x4 + 1)] [] (upd2 h 88 x4 (Int.bmod (-1) 65536)) Q)))) ∧ ((h 87 1) = 0 → ((0 ≤ x4 ∧ x4 < 60) ∧ Wp X 3 29 63 [vr 6, zx1, vr 87, vi x3, vi (x4 + 1)] [] (upd2 h 88 x4 (Int.bmod (-1) 256)) Q))))))) ∧ (x4 < (h 8 8) → ((0 ≤ x4 ∧ x4 < 20) ∧ (((h 34 x4) ≠ (-1) → Wp X 2 172 0 [vr 36, vi (h 34 x4), vu, vu] [] h (fun v h' => Wp X 3 29 104 [vr 6, zx1, vr 87, vi x3, vi x4] (psh v [vi x4, vr 87]) h' Q)) ∧ ((h 34 x4) = (-1) → ((R32 ((h 87 2) - 1)) ∧ ((((h 87 2) - 1) < x4 → Wp X 3 29 63 [vr 6, zx1, vr 87, vi x3, vi (x4 + 1)] [] h Q) ∧ (x4 ≤ ((h 87 2) - 1) → (((h 87 1) ≠ 0 → (((h 87 1) ≠ 1 → Wp X 3 29 63 [vr 6, zx1, vr 87, vi x3, vi (x4 + 1)] [] (upd2 h 88 x4 (-1)) Q) ∧ ((h 87 1) = 1 → Wp X 3 29 63 [vr 6, zx1, vr 87, vi x3, vi (x4 + 1)] [] (upd2 h 88 x4 (Int.bmod (-1) 65536)) Q))) ∧ ((h 87 1) = 0 → Wp X 3 29 63 [vr 6, zx1, vr 87, vi x3, vi (x4 + 1)] [] (upd2 h 88 x4 (Int.bmod (-1) 256)) Q))))))))))))))) : Wp X 3 29 63 [vr 6, zx1, vr 87, vi x3, vi x4] [] h Q := by
  refine wp_iload rfl rfl ?_
  refine wp_iload rfl rfl ?_
  refine wp_icge (tn := 116) rfl rfl (fun c1 => ?_) (fun c1 => ?_)
  · replace H := H.1 c1
    refine wp_iload rfl rfl ?_
    exact wp_iret rfl rfl H
  · replace H := H.2 c1
    refine wp_aload rfl rfl ?_
    refine wp_iload rfl rfl ?_
    refine wp_aload rfl rfl ?_
    refine wp_getR (r := 7) rfl (congrArg Prod.fst (kf_6 X.1)) rfl ?_
    refine wp_iload rfl rfl ?_
    refine wp_call (k := 149) (ρ2 := 1) (L2 := [vr 8, vi x4]) rfl rfl rfl (Nat.le_of_ble_eq_true rfl) (Nat.le_of_ble_eq_true rfl) (Nat.le_of_ble_eq_true rfl) (rcv_V rfl (congrArg Prod.fst (kf_8 X.1))) rfl ?_
    refine wp_aload rfl rfl ?_
    refine wp_iload rfl rfl ?_
    refine wp_call (k := 145) (ρ2 := 0) (L2 := [vr 8, vi x4]) rfl rfl rfl (Nat.le_of_ble_eq_true rfl) (Nat.le_of_ble_eq_true rfl) (Nat.le_of_ble_eq_true rfl) (rcv_V rfl (congrArg Prod.fst (kf_8 X.1))) rfl ?_
    refine wp_iload rfl rfl ?_
    refine wp_iflt (tn := 16) rfl rfl (fun c2 => ?_) (fun c2 => ?_)
    · replace H := H.1 c2
      refine wp_iconst rfl ?_
      refine wp_zret rfl rfl (by decide) ?_
      show Wp X _ 149 5 [vr 8, vi x4] [vi 0] _ _
      refine wp_ifeqT (tn := 18) rfl rfl (by decide) ?_
      refine wp_iconst rfl ?_
      refine wp_goto (tn := 23) rfl rfl ?_
      refine wp_zret rfl rfl (by decide) ?_
      show Wp X _ 29 81 [vr 6, zx1, vr 87, vi x3, vi x4] [vi 1, vi x4, vr 87] _ _
      refine wp_ifeqF (tn := 88) rfl rfl (by decide) ?_
      refine wp_iconst rfl ?_
      refine wp_goto (tn := 107) rfl rfl ?_
      refine wp_call (k := 228) (ρ2 := 1) (L2 := [vr 87, vi x4, vi (-1)]) rfl rfl rfl (Nat.le_of_ble_eq_true rfl) (Nat.le_of_ble_eq_true rfl) (Nat.le_of_ble_eq_true rfl) (rcv_V rfl (congrArg Prod.fst (kf_87 X.1))) rfl ?_
      refine wp_aload rfl rfl ?_
      refine wp_iload rfl rfl ?_
      refine wp_iconst rfl ?_
      refine wp_call (k := 226) (ρ2 := 0) (L2 := [vr 87, vi x4, vi 1]) rfl rfl rfl (Nat.le_of_ble_eq_true rfl) (Nat.le_of_ble_eq_true rfl) (Nat.le_of_ble_eq_true rfl) (rcv_V rfl (congrArg Prod.fst (kf_87 X.1))) rfl ?_
      refine wp_iload rfl rfl ?_
      refine wp_ifltT (tn := 22) rfl rfl c2 ?_
      refine wp_iconst rfl ?_
      refine wp_zret rfl rfl (by decide) ?_
      show Wp X _ 228 6 [vr 87, vi x4, vi (-1)] [vi 0] _ _
      refine wp_ifeqT (tn := 41) rfl rfl (by decide) ?_
      refine wp_vret rfl rfl ?_
      show Wp X _ 29 110 [vr 6, zx1, vr 87, vi x3, vi x4] [] _ _
      have g3 := H.1
      replace H := H.2
      refine wp_iincR (L2 := [vr 6, zx1, vr 87, vi x3, vi (x4 + 1)]) rfl rfl g3 rfl ?_
      refine wp_goto (tn := 63) rfl rfl ?_
      exact H
    · replace H := H.2 c2
      refine wp_iload rfl rfl ?_
      refine wp_aload rfl rfl ?_
      refine wp_getI (j := 8) rfl (congrArg Prod.fst (kf_8 X.1)) rfl ?_
      refine wp_icge (tn := 16) rfl rfl (fun c4 => ?_) (fun c4 => ?_)
      · replace H := H.1 c4
        refine wp_iconst rfl ?_
        refine wp_zret rfl rfl (by decide) ?_
        show Wp X _ 149 5 [vr 8, vi x4] [vi 0] _ _
        refine wp_ifeqT (tn := 18) rfl rfl (by decide) ?_
        refine wp_iconst rfl ?_
        refine wp_goto (tn := 23) rfl rfl ?_
        refine wp_zret rfl rfl (by decide) ?_
        show Wp X _ 29 81 [vr 6, zx1, vr 87, vi x3, vi x4] [vi 1, vi x4, vr 87] _ _
        refine wp_ifeqF (tn := 88) rfl rfl (by decide) ?_
        refine wp_iconst rfl ?_
        refine wp_goto (tn := 107) rfl rfl ?_
        refine wp_call (k := 228) (ρ2 := 1) (L2 := [vr 87, vi x4, vi (-1)]) rfl rfl rfl (Nat.le_of_ble_eq_true rfl) (Nat.le_of_ble_eq_true rfl) (Nat.le_of_ble_eq_true rfl) (rcv_V rfl (congrArg Prod.fst (kf_87 X.1))) rfl ?_
        refine wp_aload rfl rfl ?_
        refine wp_iload rfl rfl ?_
        refine wp_iconst rfl ?_
        refine wp_call (k := 226) (ρ2 := 0) (L2 := [vr 87, vi x4, vi 1]) rfl rfl rfl (Nat.le_of_ble_eq_true rfl) (Nat.le_of_ble_eq_true rfl) (Nat.le_of_ble_eq_true rfl) (rcv_V rfl (congrArg Prod.fst (kf_87 X.1))) rfl ?_
        refine wp_iload rfl rfl ?_
        refine wp_ifltF (tn := 22) rfl rfl c2 ?_
        refine wp_iload rfl rfl ?_
        refine wp_ifltF (tn := 22) rfl rfl (by decide) ?_
        refine wp_iload rfl rfl ?_
        refine wp_aload rfl rfl ?_
        refine wp_getI (j := 2) rfl (congrArg Prod.fst (kf_87 X.1)) rfl ?_
        refine wp_iload rfl rfl ?_
        refine wp_isub rfl ?_
        have g5 := H.1
        replace H := H.2
        refine Wp.topI (y := ((h 87 2) - 1)) (w32_I g5) ?_
        refine wp_icgt (tn := 22) rfl rfl (fun c6 => ?_) (fun c6 => ?_)
        · replace H := H.1 c6
          refine wp_iconst rfl ?_
          refine wp_zret rfl rfl (by decide) ?_
          show Wp X _ 228 6 [vr 87, vi x4, vi (-1)] [vi 0] _ _
          refine wp_ifeqT (tn := 41) rfl rfl (by decide) ?_
          refine wp_vret rfl rfl ?_
          show Wp X _ 29 110 [vr 6, zx1, vr 87, vi x3, vi x4] [] _ _
          have g7 := H.1
          replace H := H.2
          refine wp_iincR (L2 := [vr 6, zx1, vr 87, vi x3, vi (x4 + 1)]) rfl rfl g7 rfl ?_
          refine wp_goto (tn := 63) rfl rfl ?_
          exact H
        · replace H := H.2 c6
          refine wp_iconst rfl ?_
          refine wp_goto (tn := 23) rfl rfl ?_
          refine wp_zret rfl rfl (by decide) ?_
          show Wp X _ 228 6 [vr 87, vi x4, vi (-1)] [vi 1] _ _
          refine wp_ifeqF (tn := 41) rfl rfl (by decide) ?_
          refine wp_aload rfl rfl ?_
          refine wp_getR (r := 87) rfl (congrArg Prod.fst (kf_87 X.1)) rfl ?_
          refine wp_iload rfl rfl ?_
          refine wp_aload rfl rfl ?_
          refine wp_getI (j := 1) rfl (congrArg Prod.fst (kf_87 X.1)) rfl ?_
          refine wp_ifne (tn := 26) rfl rfl (fun c8 => ?_) (fun c8 => ?_)
          · replace H := H.1 c8
            refine wp_aload rfl rfl ?_
            refine wp_getI (j := 1) rfl (congrArg Prod.fst (kf_87 X.1)) rfl ?_
            refine wp_iconst rfl ?_
            refine wp_icne (tn := 39) rfl rfl (fun c9 => ?_) (fun c9 => ?_)
            · replace H := H.1 c9
              refine wp_iload rfl rfl ?_
              have g10 := H.1
              replace H := H.2
              refine wp_iastore rfl (kf_88 X.1) g10 ?_
              refine wp_vret rfl rfl ?_
              show Wp X _ 29 110 [vr 6, zx1, vr 87, vi x3, vi x4] [] _ _
              refine wp_iincR (L2 := [vr 6, zx1, vr 87, vi x3, vi (x4 + 1)]) rfl rfl (by clear H; unfold R32; omega) rfl ?_
              refine wp_goto (tn := 63) rfl rfl ?_
              exact H
            · replace H := H.2 c9
              refine wp_iload rfl rfl ?_
              refine wp_i2s rfl ?_
              refine wp_goto (tn := 40) rfl rfl ?_
              have g11 := H.1
              replace H := H.2
              refine wp_iastore rfl (kf_88 X.1) g11 ?_
              refine wp_vret rfl rfl ?_
              show Wp X _ 29 110 [vr 6, zx1, vr 87, vi x3, vi x4] [] _ _
              refine wp_iincR (L2 := [vr 6, zx1, vr 87, vi x3, vi (x4 + 1)]) rfl rfl (by clear H; unfold R32; omega) rfl ?_
              refine wp_goto (tn := 63) rfl rfl ?_
              exact H
          · replace H := H.2 c8
            refine wp_iload rfl rfl ?_
            refine wp_i2b rfl ?_
            refine wp_goto (tn := 40) rfl rfl ?_
            have g12 := H.1
            replace H := H.2
            refine wp_iastore rfl (kf_88 X.1) g12 ?_
            refine wp_vret rfl rfl ?_
            show Wp X _ 29 110 [vr 6, zx1, vr 87, vi x3, vi x4] [] _ _
            refine wp_iincR (L2 := [vr 6, zx1, vr 87, vi x3, vi (x4 + 1)]) rfl rfl (by clear H; unfold R32; omega) rfl ?_
            refine wp_goto (tn := 63) rfl rfl ?_
            exact H
      · replace H := H.2 c4
        refine wp_iconst rfl ?_
        refine wp_goto (tn := 17) rfl rfl ?_
        refine wp_zret rfl rfl (by decide) ?_
        show Wp X _ 149 5 [vr 8, vi x4] [vi 1] _ _
        refine wp_ifeqF (tn := 18) rfl rfl (by decide) ?_
        refine wp_aload rfl rfl ?_
        refine wp_getR (r := 33) rfl (congrArg Prod.fst (kf_8 X.1)) rfl ?_
        refine wp_iload rfl rfl ?_
        have g13 := H.1
        replace H := H.2
        refine wp_iaload rfl (kf_34 X.1) g13 ?_
        refine wp_iconst rfl ?_
        refine wp_icne (tn := 22) rfl rfl (fun c14 => ?_) (fun c14 => ?_)
        · replace H := H.1 c14
          refine wp_iconst rfl ?_
          refine wp_zret rfl rfl (by decide) ?_
          show Wp X _ 29 81 [vr 6, zx1, vr 87, vi x3, vi x4] [vi 0, vi x4, vr 87] _ _
          refine wp_ifeqT (tn := 88) rfl rfl (by decide) ?_
          refine wp_aload rfl rfl ?_
          refine wp_getR (r := 35) rfl (congrArg Prod.fst (kf_6 X.1)) rfl ?_
          refine wp_aload rfl rfl ?_
          refine wp_getR (r := 7) rfl (congrArg Prod.fst (kf_6 X.1)) rfl ?_
          refine wp_iload rfl rfl ?_
          refine wp_call (k := 150) (ρ2 := 1) (L2 := [vr 8, vi x4]) rfl rfl rfl (Nat.le_of_ble_eq_true rfl) (Nat.le_of_ble_eq_true rfl) (Nat.le_of_ble_eq_true rfl) (rcv_V rfl (congrArg Prod.fst (kf_8 X.1))) rfl ?_
          refine wp_aload rfl rfl ?_
          refine wp_iload rfl rfl ?_
          refine wp_call (k := 145) (ρ2 := 0) (L2 := [vr 8, vi x4]) rfl rfl rfl (Nat.le_of_ble_eq_true rfl) (Nat.le_of_ble_eq_true rfl) (Nat.le_of_ble_eq_true rfl) (rcv_V rfl (congrArg Prod.fst (kf_8 X.1))) rfl ?_
          refine wp_iload rfl rfl ?_
          refine wp_ifltF (tn := 16) rfl rfl g13.1 ?_
          refine wp_iload rfl rfl ?_
          refine wp_aload rfl rfl ?_
          refine wp_getI (j := 8) rfl (congrArg Prod.fst (kf_8 X.1)) rfl ?_
          refine wp_icgeF (tn := 16) rfl rfl c4 ?_
          refine wp_iconst rfl ?_
          refine wp_goto (tn := 17) rfl rfl ?_
          refine wp_zret rfl rfl (by decide) ?_
          show Wp X _ 150 5 [vr 8, vi x4] [vi 1] _ _
          refine wp_ifeqF (tn := 17) rfl rfl (by decide) ?_
          refine wp_aload rfl rfl ?_
          refine wp_getR (r := 33) rfl (congrArg Prod.fst (kf_8 X.1)) rfl ?_
          refine wp_iload rfl rfl ?_
          refine wp_iaload rfl (kf_34 X.1) ⟨g13.1, g13.2⟩ ?_
          refine wp_goto (tn := 18) rfl rfl ?_
          refine wp_iret rfl rfl ?_
          show Wp X _ 29 101 [vr 6, zx1, vr 87, vi x3, vi x4] [vi (h 34 x4), vr 36, vi x4, vr 87] _ _
          exact wp_call (k := 172) (ρ2 := 2) (L2 := [vr 36, vi (h 34 x4), vu, vu]) rfl rfl rfl (Nat.le_of_ble_eq_true rfl) (Nat.le_of_ble_eq_true rfl) (Nat.le_of_ble_eq_true rfl) (rcv_V rfl (congrArg Prod.fst (kf_36 X.1))) rfl H
        · replace H := H.2 c14
          refine wp_iconst rfl ?_
          refine wp_goto (tn := 23) rfl rfl ?_
          refine wp_zret rfl rfl (by decide) ?_
          show Wp X _ 29 81 [vr 6, zx1, vr 87, vi x3, vi x4] [vi 1, vi x4, vr 87] _ _
          refine wp_ifeqF (tn := 88) rfl rfl (by decide) ?_
          refine wp_iconst rfl ?_
          refine wp_goto (tn := 107) rfl rfl ?_
          refine wp_call (k := 228) (ρ2 := 1) (L2 := [vr 87, vi x4, vi (-1)]) rfl rfl rfl (Nat.le_of_ble_eq_true rfl) (Nat.le_of_ble_eq_true rfl) (Nat.le_of_ble_eq_true rfl) (rcv_V rfl (congrArg Prod.fst (kf_87 X.1))) rfl ?_
          refine wp_aload rfl rfl ?_
          refine wp_iload rfl rfl ?_
          refine wp_iconst rfl ?_
          refine wp_call (k := 226) (ρ2 := 0) (L2 := [vr 87, vi x4, vi 1]) rfl rfl rfl (Nat.le_of_ble_eq_true rfl) (Nat.le_of_ble_eq_true rfl) (Nat.le_of_ble_eq_true rfl) (rcv_V rfl (congrArg Prod.fst (kf_87 X.1))) rfl ?_
          refine wp_iload rfl rfl ?_
          refine wp_ifltF (tn := 22) rfl rfl g13.1 ?_
          refine wp_iload rfl rfl ?_
          refine wp_ifltF (tn := 22) rfl rfl (by decide) ?_
          refine wp_iload rfl rfl ?_
          refine wp_aload rfl rfl ?_
          refine wp_getI (j := 2) rfl (congrArg Prod.fst (kf_87 X.1)) rfl ?_
          refine wp_iload rfl rfl ?_
          refine wp_isub rfl ?_
          have g15 := H.1
          replace H := H.2
          refine Wp.topI (y := ((h 87 2) - 1)) (w32_I g15) ?_
          refine wp_icgt (tn := 22) rfl rfl (fun c16 => ?_) (fun c16 => ?_)
          · replace H := H.1 c16
            refine wp_iconst rfl ?_
            refine wp_zret rfl rfl (by decide) ?_
            show Wp X _ 228 6 [vr 87, vi x4, vi (-1)] [vi 0] _ _
            refine wp_ifeqT (tn := 41) rfl rfl (by decide) ?_
            refine wp_vret rfl rfl ?_
            show Wp X _ 29 110 [vr 6, zx1, vr 87, vi x3, vi x4] [] _ _
            refine wp_iincR (L2 := [vr 6, zx1, vr 87, vi x3, vi (x4 + 1)]) rfl rfl (by clear H; unfold R32; omega) rfl ?_
            refine wp_goto (tn := 63) rfl rfl ?_
            exact H
          · replace H := H.2 c16
            refine wp_iconst rfl ?_
            refine wp_goto (tn := 23) rfl rfl ?_
            refine wp_zret rfl rfl (by decide) ?_
            show Wp X _ 228 6 [vr 87, vi x4, vi (-1)] [vi 1] _ _
            refine wp_ifeqF (tn := 41) rfl rfl (by decide) ?_
            refine wp_aload rfl rfl ?_
            refine wp_getR (r := 87) rfl (congrArg Prod.fst (kf_87 X.1)) rfl ?_
            refine wp_iload rfl rfl ?_
            refine wp_aload rfl rfl ?_
            refine wp_getI (j := 1) rfl (congrArg Prod.fst (kf_87 X.1)) rfl ?_
            refine wp_ifne (tn := 26) rfl rfl (fun c17 => ?_) (fun c17 => ?_)
            · replace H := H.1 c17
              refine wp_aload rfl rfl ?_
              refine wp_getI (j := 1) rfl (congrArg Prod.fst (kf_87 X.1)) rfl ?_
              refine wp_iconst rfl ?_
              refine wp_icne (tn := 39) rfl rfl (fun c18 => ?_) (fun c18 => ?_)
              · replace H := H.1 c18
                refine wp_iload rfl rfl ?_
                refine wp_iastore rfl (kf_88 X.1) ⟨g13.1, (by clear H; omega)⟩ ?_
                refine wp_vret rfl rfl ?_
                show Wp X _ 29 110 [vr 6, zx1, vr 87, vi x3, vi x4] [] _ _
                refine wp_iincR (L2 := [vr 6, zx1, vr 87, vi x3, vi (x4 + 1)]) rfl rfl (by clear H; unfold R32; omega) rfl ?_
                refine wp_goto (tn := 63) rfl rfl ?_
                exact H
              · replace H := H.2 c18
                refine wp_iload rfl rfl ?_
                refine wp_i2s rfl ?_
                refine wp_goto (tn := 40) rfl rfl ?_
                refine wp_iastore rfl (kf_88 X.1) ⟨g13.1, (by clear H; omega)⟩ ?_
                refine wp_vret rfl rfl ?_
                show Wp X _ 29 110 [vr 6, zx1, vr 87, vi x3, vi x4] [] _ _
                refine wp_iincR (L2 := [vr 6, zx1, vr 87, vi x3, vi (x4 + 1)]) rfl rfl (by clear H; unfold R32; omega) rfl ?_
                refine wp_goto (tn := 63) rfl rfl ?_
                exact H
            · replace H := H.2 c17
              refine wp_iload rfl rfl ?_
              refine wp_i2b rfl ?_
              refine wp_goto (tn := 40) rfl rfl ?_
              refine wp_iastore rfl (kf_88 X.1) ⟨g13.1, (by clear H; omega)⟩ ?_
              refine wp_vret rfl rfl ?_
              show Wp X _ 29 110 [vr 6, zx1, vr 87, vi x3, vi x4] [] _ _
              refine wp_iincR (L2 := [vr 6, zx1, vr 87, vi x3, vi (x4 + 1)]) rfl rfl (by clear H; unfold R32; omega) rfl ?_
              refine wp_goto (tn := 63) rfl rfl ?_
              exact H
/-- WarnLines.write(I)I, from 104 -/
theorem S29_6_104a {X : Nat × (Int → Int)} {h : HP} {Q : bQ} (zx1 : aV) (x3 : Int) (x4 : Int) (s0 : Int) (s1 : Int) (H : ((s0 ≠ 8 → ((s1 < 0 → ((R32 (x4 + 1)) ∧ Wp X 3 29 63 [vr 6, zx1, vr 81, vi x3, vi (x4 + 1)] [] h Q)) ∧ (0 ≤ s1 → ((R32 ((h 81 2) - 1)) ∧ ((((h 81 2) - 1) < s1 → ((R32 (x4 + 1)) ∧ Wp X 3 29 63 [vr 6, zx1, vr 81, vi x3, vi (x4 + 1)] [] h Q)) ∧ (s1 ≤ ((h 81 2) - 1) → (((h 81 1) ≠ 0 → (((h 81 1) ≠ 1 → ((0 ≤ s1 ∧ s1 < 60) ∧ ((R32 (x4 + 1)) ∧ Wp X 3 29 63 [vr 6, zx1, vr 81, vi x3, vi (x4 + 1)] [] (upd2 h 82 s1 s0) Q))) ∧ ((h 81 1) = 1 → ((0 ≤ s1 ∧ s1 < 60) ∧ ((R32 (x4 + 1)) ∧ Wp X 3 29 63 [vr 6, zx1, vr 81, vi x3, vi (x4 + 1)] [] (upd2 h 82 s1 (Int.bmod s0 65536)) Q))))) ∧ ((h 81 1) = 0 → ((0 ≤ s1 ∧ s1 < 60) ∧ ((R32 (x4 + 1)) ∧ Wp X 3 29 63 [vr 6, zx1, vr 81, vi x3, vi (x4 + 1)] [] (upd2 h 82 s1 (Int.bmod s0 256)) Q)))))))))) ∧ (s0 = 8 → ((s1 < 0 → ((R32 (x4 + 1)) ∧ Wp X 3 29 63 [vr 6, zx1, vr 81, vi x3, vi (x4 + 1)] [] h Q)) ∧ (0 ≤ s1 → ((R32 ((h 81 2) - 1)) ∧ ((((h 81 2) - 1) < s1 → ((R32 (x4 + 1)) ∧ Wp X 3 29 63 [vr 6, zx1, vr 81, vi x3, vi (x4 + 1)] [] h Q)) ∧ (s1 ≤ ((h 81 2) - 1) → (((h 81 1) ≠ 0 → (((h 81 1) ≠ 1 → ((0 ≤ s1 ∧ s1 < 60) ∧ ((R32 (x4 + 1)) ∧ Wp X 3 29 63 [vr 6, zx1, vr 81, vi x3, vi (x4 + 1)] [] (upd2 h 82 s1 4) Q))) ∧ ((h 81 1) = 1 → ((0 ≤ s1 ∧ s1 < 60) ∧ ((R32 (x4 + 1)) ∧ Wp X 3 29 63 [vr 6, zx1, vr 81, vi x3, vi (x4 + 1)] [] (upd2 h 82 s1 (Int.bmod 4 65536)) Q))))) ∧ ((h 81 1) = 0 → ((0 ≤ s1 ∧ s1 < 60) ∧ ((R32 (x4 + 1)) ∧ Wp X 3 29 63 [vr 6, zx1, vr 81, vi x3, vi (x4 + 1)] [] (upd2 h 82 s1 (Int.bmod 4 256)) Q)))))))))))) : Wp X 3 29 104 [vr 6, zx1, vr 81, vi x3, vi x4] [vi s0, vi s1, vr 81] h Q := by
  refine wp_call (k := 44) (ρ2 := 0) (L2 := [vi s0]) rfl rfl rfl (Nat.le_of_ble_eq_true rfl) (Nat.le_of_ble_eq_true rfl) (Nat.le_of_ble_eq_true rfl) (rcv_S rfl) rfl ?_
  refine wp_iload rfl rfl ?_
  refine wp_iconst rfl ?_
  refine wp_icne (tn := 10) rfl rfl (fun c1 => ?_) (fun c1 => ?_)
  · replace H := H.1 c1
    refine wp_iload rfl rfl ?_
    refine wp_iret rfl rfl ?_
    show Wp X _ 29 107 [vr 6, zx1, vr 81, vi x3, vi x4] [vi s0, vi s1, vr 81] _ _
    refine wp_call (k := 228) (ρ2 := 1) (L2 := [vr 81, vi s1, vi s0]) rfl rfl rfl (Nat.le_of_ble_eq_true rfl) (Nat.le_of_ble_eq_true rfl) (Nat.le_of_ble_eq_true rfl) (rcv_V rfl (congrArg Prod.fst (kf_81 X.1))) rfl ?_
    refine wp_aload rfl rfl ?_
    refine wp_iload rfl rfl ?_
    refine wp_iconst rfl ?_
    refine wp_call (k := 226) (ρ2 := 0) (L2 := [vr 81, vi s1, vi 1]) rfl rfl rfl (Nat.le_of_ble_eq_true rfl) (Nat.le_of_ble_eq_true rfl) (Nat.le_of_ble_eq_true rfl) (rcv_V rfl (congrArg Prod.fst (kf_81 X.1))) rfl ?_
    refine wp_iload rfl rfl ?_
    refine wp_iflt (tn := 22) rfl rfl (fun c2 => ?_) (fun c2 => ?_)
    · replace H := H.1 c2
      refine wp_iconst rfl ?_
      refine wp_zret rfl rfl (by decide) ?_
      show Wp X _ 228 6 [vr 81, vi s1, vi s0] [vi 0] _ _
      refine wp_ifeqT (tn := 41) rfl rfl (by decide) ?_
      refine wp_vret rfl rfl ?_
      show Wp X _ 29 110 [vr 6, zx1, vr 81, vi x3, vi x4] [] _ _
      have g3 := H.1
      replace H := H.2
      refine wp_iincR (L2 := [vr 6, zx1, vr 81, vi x3, vi (x4 + 1)]) rfl rfl g3 rfl ?_
      refine wp_goto (tn := 63) rfl rfl ?_
      exact H
    · replace H := H.2 c2
      refine wp_iload rfl rfl ?_
      refine wp_ifltF (tn := 22) rfl rfl (by decide) ?_
      refine wp_iload rfl rfl ?_
      refine wp_aload rfl rfl ?_
      refine wp_getI (j := 2) rfl (congrArg Prod.fst (kf_81 X.1)) rfl ?_
      refine wp_iload rfl rfl ?_
      refine wp_isub rfl ?_
      have g4 := H.1
      replace H := H.2
      refine Wp.topI (y := ((h 81 2) - 1)) (w32_I g4) ?_
      refine wp_icgt (tn := 22) rfl rfl (fun c5 => ?_) (fun c5 => ?_)
      · replace H := H.1 c5
        refine wp_iconst rfl ?_
        refine wp_zret rfl rfl (by decide) ?_
        show Wp X _ 228 6 [vr 81, vi s1, vi s0] [vi 0] _ _
        refine wp_ifeqT (tn := 41) rfl rfl (by decide) ?_
        refine wp_vret rfl rfl ?_
        show Wp X _ 29 110 [vr 6, zx1, vr 81, vi x3, vi x4] [] _ _
        have g6 := H.1
        replace H := H.2
        refine wp_iincR (L2 := [vr 6, zx1, vr 81, vi x3, vi (x4 + 1)]) rfl rfl g6 rfl ?_
        refine wp_goto (tn := 63) rfl rfl ?_
        exact H
      · replace H := H.2 c5
        refine wp_iconst rfl ?_
        refine wp_goto (tn := 23) rfl rfl ?_
        refine wp_zret rfl rfl (by decide) ?_
        show Wp X _ 228 6 [vr 81, vi s1, vi s0] [vi 1] _ _
        refine wp_ifeqF (tn := 41) rfl rfl (by decide) ?_
        refine wp_aload rfl rfl ?_
        refine wp_getR (r := 81) rfl (congrArg Prod.fst (kf_81 X.1)) rfl ?_
        refine wp_iload rfl rfl ?_
        refine wp_aload rfl rfl ?_
        refine wp_getI (j := 1) rfl (congrArg Prod.fst (kf_81 X.1)) rfl ?_
        refine wp_ifne (tn := 26) rfl rfl (fun c7 => ?_) (fun c7 => ?_)
        · replace H := H.1 c7
          refine wp_aload rfl rfl ?_
          refine wp_getI (j := 1) rfl (congrArg Prod.fst (kf_81 X.1)) rfl ?_
          refine wp_iconst rfl ?_
          refine wp_icne (tn := 39) rfl rfl (fun c8 => ?_) (fun c8 => ?_)
          · replace H := H.1 c8
            refine wp_iload rfl rfl ?_
            have g9 := H.1
            replace H := H.2
            refine wp_iastore rfl (kf_82 X.1) g9 ?_
            refine wp_vret rfl rfl ?_
            show Wp X _ 29 110 [vr 6, zx1, vr 81, vi x3, vi x4] [] _ _
            have g10 := H.1
            replace H := H.2
            refine wp_iincR (L2 := [vr 6, zx1, vr 81, vi x3, vi (x4 + 1)]) rfl rfl g10 rfl ?_
            refine wp_goto (tn := 63) rfl rfl ?_
            exact H
          · replace H := H.2 c8
            refine wp_iload rfl rfl ?_
            refine wp_i2s rfl ?_
            refine wp_goto (tn := 40) rfl rfl ?_
            have g11 := H.1
            replace H := H.2
            refine wp_iastore rfl (kf_82 X.1) g11 ?_
            refine wp_vret rfl rfl ?_
            show Wp X _ 29 110 [vr 6, zx1, vr 81, vi x3, vi x4] [] _ _
            have g12 := H.1
            replace H := H.2
            refine wp_iincR (L2 := [vr 6, zx1, vr 81, vi x3, vi (x4 + 1)]) rfl rfl g12 rfl ?_
            refine wp_goto (tn := 63) rfl rfl ?_
            exact H
        · replace H := H.2 c7
          refine wp_iload rfl rfl ?_
          refine wp_i2b rfl ?_
          refine wp_goto (tn := 40) rfl rfl ?_
          have g13 := H.1
          replace H := H.2
          refine wp_iastore rfl (kf_82 X.1) g13 ?_
          refine wp_vret rfl rfl ?_
          show Wp X _ 29 110 [vr 6, zx1, vr 81, vi x3, vi x4] [] _ _
          have g14 := H.1
          replace H := H.2
          refine wp_iincR (L2 := [vr 6, zx1, vr 81, vi x3, vi (x4 + 1)]) rfl rfl g14 rfl ?_
          refine wp_goto (tn := 63) rfl rfl ?_
          exact H
  · replace H := H.2 c1
    refine wp_iconst rfl ?_
    refine wp_goto (tn := 11) rfl rfl ?_
    refine wp_iret rfl rfl ?_
    show Wp X _ 29 107 [vr 6, zx1, vr 81, vi x3, vi x4] [vi 4, vi s1, vr 81] _ _
    refine wp_call (k := 228) (ρ2 := 1) (L2 := [vr 81, vi s1, vi 4]) rfl rfl rfl (Nat.le_of_ble_eq_true rfl) (Nat.le_of_ble_eq_true rfl) (Nat.le_of_ble_eq_true rfl) (rcv_V rfl (congrArg Prod.fst (kf_81 X.1))) rfl ?_
    refine wp_aload rfl rfl ?_
    refine wp_iload rfl rfl ?_
    refine wp_iconst rfl ?_
    refine wp_call (k := 226) (ρ2 := 0) (L2 := [vr 81, vi s1, vi 1]) rfl rfl rfl (Nat.le_of_ble_eq_true rfl) (Nat.le_of_ble_eq_true rfl) (Nat.le_of_ble_eq_true rfl) (rcv_V rfl (congrArg Prod.fst (kf_81 X.1))) rfl ?_
    refine wp_iload rfl rfl ?_
    refine wp_iflt (tn := 22) rfl rfl (fun c15 => ?_) (fun c15 => ?_)
    · replace H := H.1 c15
      refine wp_iconst rfl ?_
      refine wp_zret rfl rfl (by decide) ?_
      show Wp X _ 228 6 [vr 81, vi s1, vi 4] [vi 0] _ _
      refine wp_ifeqT (tn := 41) rfl rfl (by decide) ?_
      refine wp_vret rfl rfl ?_
      show Wp X _ 29 110 [vr 6, zx1, vr 81, vi x3, vi x4] [] _ _
      have g16 := H.1
      replace H := H.2
      refine wp_iincR (L2 := [vr 6, zx1, vr 81, vi x3, vi (x4 + 1)]) rfl rfl g16 rfl ?_
      refine wp_goto (tn := 63) rfl rfl ?_
      exact H
    · replace H := H.2 c15
      refine wp_iload rfl rfl ?_
      refine wp_ifltF (tn := 22) rfl rfl (by decide) ?_
      refine wp_iload rfl rfl ?_
      refine wp_aload rfl rfl ?_
      refine wp_getI (j := 2) rfl (congrArg Prod.fst (kf_81 X.1)) rfl ?_
      refine wp_iload rfl rfl ?_
      refine wp_isub rfl ?_
      have g17 := H.1
      replace H := H.2
      refine Wp.topI (y := ((h 81 2) - 1)) (w32_I g17) ?_
      refine wp_icgt (tn := 22) rfl rfl (fun c18 => ?_) (fun c18 => ?_)
      · replace H := H.1 c18
        refine wp_iconst rfl ?_
        refine wp_zret rfl rfl (by decide) ?_
        show Wp X _ 228 6 [vr 81, vi s1, vi 4] [vi 0] _ _
        refine wp_ifeqT (tn := 41) rfl rfl (by decide) ?_
        refine wp_vret rfl rfl ?_
        show Wp X _ 29 110 [vr 6, zx1, vr 81, vi x3, vi x4] [] _ _
        have g19 := H.1
        replace H := H.2
        refine wp_iincR (L2 := [vr 6, zx1, vr 81, vi x3, vi (x4 + 1)]) rfl rfl g19 rfl ?_
        refine wp_goto (tn := 63) rfl rfl ?_
        exact H
      · replace H := H.2 c18
        refine wp_iconst rfl ?_
        refine wp_goto (tn := 23) rfl rfl ?_
        refine wp_zret rfl rfl (by decide) ?_
        show Wp X _ 228 6 [vr 81, vi s1, vi 4] [vi 1] _ _
        refine wp_ifeqF (tn := 41) rfl rfl (by decide) ?_
        refine wp_aload rfl rfl ?_
        refine wp_getR (r := 81) rfl (congrArg Prod.fst (kf_81 X.1)) rfl ?_
        refine wp_iload rfl rfl ?_
        refine wp_aload rfl rfl ?_
        refine wp_getI (j := 1) rfl (congrArg Prod.fst (kf_81 X.1)) rfl ?_
        refine wp_ifne (tn := 26) rfl rfl (fun c20 => ?_) (fun c20 => ?_)
        · replace H := H.1 c20
          refine wp_aload rfl rfl ?_
          refine wp_getI (j := 1) rfl (congrArg Prod.fst (kf_81 X.1)) rfl ?_
          refine wp_iconst rfl ?_
          refine wp_icne (tn := 39) rfl rfl (fun c21 => ?_) (fun c21 => ?_)
          · replace H := H.1 c21
            refine wp_iload rfl rfl ?_
            have g22 := H.1
            replace H := H.2
            refine wp_iastore rfl (kf_82 X.1) g22 ?_
            refine wp_vret rfl rfl ?_
            show Wp X _ 29 110 [vr 6, zx1, vr 81, vi x3, vi x4] [] _ _
            have g23 := H.1
            replace H := H.2
            refine wp_iincR (L2 := [vr 6, zx1, vr 81, vi x3, vi (x4 + 1)]) rfl rfl g23 rfl ?_
            refine wp_goto (tn := 63) rfl rfl ?_
            exact H
          · replace H := H.2 c21
            refine wp_iload rfl rfl ?_
            refine wp_i2s rfl ?_
            refine wp_goto (tn := 40) rfl rfl ?_
            have g24 := H.1
            replace H := H.2
            refine wp_iastore rfl (kf_82 X.1) g24 ?_
            refine wp_vret rfl rfl ?_
            show Wp X _ 29 110 [vr 6, zx1, vr 81, vi x3, vi x4] [] _ _
            have g25 := H.1
            replace H := H.2
            refine wp_iincR (L2 := [vr 6, zx1, vr 81, vi x3, vi (x4 + 1)]) rfl rfl g25 rfl ?_
            refine wp_goto (tn := 63) rfl rfl ?_
            exact H
        · replace H := H.2 c20
          refine wp_iload rfl rfl ?_
          refine wp_i2b rfl ?_
          refine wp_goto (tn := 40) rfl rfl ?_
          have g26 := H.1
          replace H := H.2
          refine wp_iastore rfl (kf_82 X.1) g26 ?_
          refine wp_vret rfl rfl ?_
          show Wp X _ 29 110 [vr 6, zx1, vr 81, vi x3, vi x4] [] _ _
          have g27 := H.1
          replace H := H.2
          refine wp_iincR (L2 := [vr 6, zx1, vr 81, vi x3, vi (x4 + 1)]) rfl rfl g27 rfl ?_
          refine wp_goto (tn := 63) rfl rfl ?_
          exact H
/-- WarnLines.write(I)I, from 104 -/
theorem S29_6_104b {X : Nat × (Int → Int)} {h : HP} {Q : bQ} (zx1 : aV) (x3 : Int) (x4 : Int) (s0 : Int) (s1 : Int) (H : ((s0 ≠ 8 → ((s1 < 0 → ((R32 (x4 + 1)) ∧ Wp X 3 29 63 [vr 6, zx1, vr 83, vi x3, vi (x4 + 1)] [] h Q)) ∧ (0 ≤ s1 → ((R32 ((h 83 2) - 1)) ∧ ((((h 83 2) - 1) < s1 → ((R32 (x4 + 1)) ∧ Wp X 3 29 63 [vr 6, zx1, vr 83, vi x3, vi (x4 + 1)] [] h Q)) ∧ (s1 ≤ ((h 83 2) - 1) → (((h 83 1) ≠ 0 → (((h 83 1) ≠ 1 → ((0 ≤ s1 ∧ s1 < 60) ∧ ((R32 (x4 + 1)) ∧ Wp X 3 29 63 [vr 6, zx1, vr 83, vi x3, vi (x4 + 1)] [] (upd2 h 84 s1 s0) Q))) ∧ ((h 83 1) = 1 → ((0 ≤ s1 ∧ s1 < 60) ∧ ((R32 (x4 + 1)) ∧ Wp X 3 29 63 [vr 6, zx1, vr 83, vi x3, vi (x4 + 1)] [] (upd2 h 84 s1 (Int.bmod s0 65536)) Q))))) ∧ ((h 83 1) = 0 → ((0 ≤ s1 ∧ s1 < 60) ∧ ((R32 (x4 + 1)) ∧ Wp X 3 29 63 [vr 6, zx1, vr 83, vi x3, vi (x4 + 1)] [] (upd2 h 84 s1 (Int.bmod s0 256)) Q)))))))))) ∧ (s0 = 8 → ((s1 < 0 → ((R32 (x4 + 1)) ∧ Wp X 3 29 63 [vr 6, zx1, vr 83, vi x3, vi (x4 + 1)] [] h Q)) ∧ (0 ≤ s1 → ((R32 ((h 83 2) - 1)) ∧ ((((h 83 2) - 1) < s1 → ((R32 (x4 + 1)) ∧ Wp X 3 29 63 [vr 6, zx1, vr 83, vi x3, vi (x4 + 1)] [] h Q)) ∧ (s1 ≤ ((h 83 2) - 1) → (((h 83 1) ≠ 0 → (((h 83 1) ≠ 1 → ((0 ≤ s1 ∧ s1 < 60) ∧ ((R32 (x4 + 1)) ∧ Wp X 3 29 63 [vr 6, zx1, vr 83, vi x3, vi (x4 + 1)] [] (upd2 h 84 s1 4) Q))) ∧ ((h 83 1) = 1 → ((0 ≤ s1 ∧ s1 < 60) ∧ ((R32 (x4 + 1)) ∧ Wp X 3 29 63 [vr 6, zx1, vr 83, vi x3, vi (x4 + 1)] [] (upd2 h 84 s1 (Int.bmod 4 65536)) Q))))) ∧ ((h 83 1) = 0 → ((0 ≤ s1 ∧ s1 < 60) ∧ ((R32 (x4 + 1)) ∧ Wp X 3 29 63 [vr 6, zx1, vr 83, vi x3, vi (x4 + 1)] [] (upd2 h 84 s1 (Int.bmod 4 256)) Q)))))))))))) : Wp X 3 29 104 [vr 6, zx1, vr 83, vi x3, vi x4] [vi s0, vi s1, vr 83] h Q := by
  refine wp_call (k := 44) (ρ2 := 0) (L2 := [vi s0]) rfl rfl rfl (Nat.le_of_ble_eq_true rfl) (Nat.le_of_ble_eq_true rfl) (Nat.le_of_ble_eq_true rfl) (rcv_S rfl) rfl ?_
  refine wp_iload rfl rfl ?_
  refine wp_iconst rfl ?_
  refine wp_icne (tn := 10) rfl rfl (fun c1 => ?_) (fun c1 => ?_)
  · replace H := H.1 c1
    refine wp_iload rfl rfl ?_
    refine wp_iret rfl rfl ?_
    show Wp X _ 29 107 [vr 6, zx1, vr 83, vi x3, vi x4] [vi s0, vi s1, vr 83] _ _
    refine wp_call (k := 228) (ρ2 := 1) (L2 := [vr 83, vi s1, vi s0]) rfl rfl rfl (Nat.le_of_ble_eq_true rfl) (Nat.le_of_ble_eq_true rfl) (Nat.le_of_ble_eq_true rfl) (rcv_V rfl (congrArg Prod.fst (kf_83 X.1))) rfl ?_
    refine wp_aload rfl rfl ?_
    refine wp_iload rfl rfl ?_
    refine wp_iconst rfl ?_
    refine wp_call (k := 226) (ρ2 := 0) (L2 := [vr 83, vi s1, vi 1]) rfl rfl rfl (Nat.le_of_ble_eq_true rfl) (Nat.le_of_ble_eq_true rfl) (Nat.le_of_ble_eq_true rfl) (rcv_V rfl (congrArg Prod.fst (kf_83 X.1))) rfl ?_
    refine wp_iload rfl rfl ?_
    refine wp_iflt (tn := 22) rfl rfl (fun c2 => ?_) (fun c2 => ?_)
    · replace H := H.1 c2
      refine wp_iconst rfl ?_
      refine wp_zret rfl rfl (by decide) ?_
      show Wp X _ 228 6 [vr 83, vi s1, vi s0] [vi 0] _ _
      refine wp_ifeqT (tn := 41) rfl rfl (by decide) ?_
      refine wp_vret rfl rfl ?_
      show Wp X _ 29 110 [vr 6, zx1, vr 83, vi x3, vi x4] [] _ _
      have g3 := H.1
      replace H := H.2
      refine wp_iincR (L2 := [vr 6, zx1, vr 83, vi x3, vi (x4 + 1)]) rfl rfl g3 rfl ?_
      refine wp_goto (tn := 63) rfl rfl ?_
      exact H
    · replace H := H.2 c2
      refine wp_iload rfl rfl ?_
      refine wp_ifltF (tn := 22) rfl rfl (by decide) ?_
      refine wp_iload rfl rfl ?_
      refine wp_aload rfl rfl ?_
      refine wp_getI (j := 2) rfl (congrArg Prod.fst (kf_83 X.1)) rfl ?_
      refine wp_iload rfl rfl ?_
      refine wp_isub rfl ?_
      have g4 := H.1
      replace H := H.2
      refine Wp.topI (y := ((h 83 2) - 1)) (w32_I g4) ?_
      refine wp_icgt (tn := 22) rfl rfl (fun c5 => ?_) (fun c5 => ?_)
      · replace H := H.1 c5
        refine wp_iconst rfl ?_
        refine wp_zret rfl rfl (by decide) ?_
        show Wp X _ 228 6 [vr 83, vi s1, vi s0] [vi 0] _ _
        refine wp_ifeqT (tn := 41) rfl rfl (by decide) ?_
        refine wp_vret rfl rfl ?_
        show Wp X _ 29 110 [vr 6, zx1, vr 83, vi x3, vi x4] [] _ _
        have g6 := H.1
        replace H := H.2
        refine wp_iincR (L2 := [vr 6, zx1, vr 83, vi x3, vi (x4 + 1)]) rfl rfl g6 rfl ?_
        refine wp_goto (tn := 63) rfl rfl ?_
        exact H
      · replace H := H.2 c5
        refine wp_iconst rfl ?_
        refine wp_goto (tn := 23) rfl rfl ?_
        refine wp_zret rfl rfl (by decide) ?_
        show Wp X _ 228 6 [vr 83, vi s1, vi s0] [vi 1] _ _
        refine wp_ifeqF (tn := 41) rfl rfl (by decide) ?_
        refine wp_aload rfl rfl ?_
        refine wp_getR (r := 83) rfl (congrArg Prod.fst (kf_83 X.1)) rfl ?_
        refine wp_iload rfl rfl ?_
        refine wp_aload rfl rfl ?_
        refine wp_getI (j := 1) rfl (congrArg Prod.fst (kf_83 X.1)) rfl ?_
        refine wp_ifne (tn := 26) rfl rfl (fun c7 => ?_) (fun c7 => ?_)
        · replace H := H.1 c7
          refine wp_aload rfl rfl ?_
          refine wp_getI (j := 1) rfl (congrArg Prod.fst (kf_83 X.1)) rfl ?_
          refine wp_iconst rfl ?_
          refine wp_icne (tn := 39) rfl rfl (fun c8 => ?_) (fun c8 => ?_)
          · replace H := H.1 c8
            refine wp_iload rfl rfl ?_
            have g9 := H.1
            replace H := H.2
            refine wp_iastore rfl (kf_84 X.1) g9 ?_
            refine wp_vret rfl rfl ?_
            show Wp X _ 29 110 [vr 6, zx1, vr 83, vi x3, vi x4] [] _ _
            have g10 := H.1
            replace H := H.2
            refine wp_iincR (L2 := [vr 6, zx1, vr 83, vi x3, vi (x4 + 1)]) rfl rfl g10 rfl ?_
            refine wp_goto (tn := 63) rfl rfl ?_
            exact H
          · replace H := H.2 c8
            refine wp_iload rfl rfl ?_
            refine wp_i2s rfl ?_
            refine wp_goto (tn := 40) rfl rfl ?_
            have g11 := H.1
            replace H := H.2
            refine wp_iastore rfl (kf_84 X.1) g11 ?_
            refine wp_vret rfl rfl ?_
            show Wp X _ 29 110 [vr 6, zx1, vr 83, vi x3, vi x4] [] _ _
            have g12 := H.1
            replace H := H.2
            refine wp_iincR (L2 := [vr 6, zx1, vr 83, vi x3, vi (x4 + 1)]) rfl rfl g12 rfl ?_
            refine wp_goto (tn := 63) rfl rfl ?_
            exact H
        · replace H := H.2 c7
          refine wp_iload rfl rfl ?_
          refine wp_i2b rfl ?_
          refine wp_goto (tn := 40) rfl rfl ?_
          have g13 := H.1
          replace H := H.2
          refine wp_iastore rfl (kf_84 X.1) g13 ?_
          refine wp_vret rfl rfl ?_
          show Wp X _ 29 110 [vr 6, zx1, vr 83, vi x3, vi x4] [] _ _
          have g14 := H.1
          replace H := H.2
          refine wp_iincR (L2 := [vr 6, zx1, vr 83, vi x3, vi (x4 + 1)]) rfl rfl g14 rfl ?_
          refine wp_goto (tn := 63) rfl rfl ?_
          exact H
  · replace H := H.2 c1
    refine wp_iconst rfl ?_
    refine wp_goto (tn := 11) rfl rfl ?_
    refine wp_iret rfl rfl ?_
    show Wp X _ 29 107 [vr 6, zx1, vr 83, vi x3, vi x4] [vi 4, vi s1, vr 83] _ _
    refine wp_call (k := 228) (ρ2 := 1) (L2 := [vr 83, vi s1, vi 4]) rfl rfl rfl (Nat.le_of_ble_eq_true rfl) (Nat.le_of_ble_eq_true rfl) (Nat.le_of_ble_eq_true rfl) (rcv_V rfl (congrArg Prod.fst (kf_83 X.1))) rfl ?_
    refine wp_aload rfl rfl ?_
    refine wp_iload rfl rfl ?_
    refine wp_iconst rfl ?_
    refine wp_call (k := 226) (ρ2 := 0) (L2 := [vr 83, vi s1, vi 1]) rfl rfl rfl (Nat.le_of_ble_eq_true rfl) (Nat.le_of_ble_eq_true rfl) (Nat.le_of_ble_eq_true rfl) (rcv_V rfl (congrArg Prod.fst (kf_83 X.1))) rfl ?_
    refine wp_iload rfl rfl ?_
    refine wp_iflt (tn := 22) rfl rfl (fun c15 => ?_) (fun c15 => ?_)
    · replace H := H.1 c15
      refine wp_iconst rfl ?_
      refine wp_zret rfl rfl (by decide) ?_
      show Wp X _ 228 6 [vr 83, vi s1, vi 4] [vi 0] _ _
      refine wp_ifeqT (tn := 41) rfl rfl (by decide) ?_
      refine wp_vret rfl rfl ?_
      show Wp X _ 29 110 [vr 6, zx1, vr 83, vi x3, vi x4] [] _ _
      have g16 := H.1
      replace H := H.2
      refine wp_iincR (L2 := [vr 6, zx1, vr 83, vi x3, vi (x4 + 1)]) rfl rfl g16 rfl ?_
      refine wp_goto (tn := 63) rfl rfl ?_
      exact H
    · replace H := H.2 c15
      refine wp_iload rfl rfl ?_
      refine wp_ifltF (tn := 22) rfl rfl (by decide) ?_
      refine wp_iload rfl rfl ?_
      refine wp_aload rfl rfl ?_
      refine wp_getI (j := 2) rfl (congrArg Prod.fst (kf_83 X.1)) rfl ?_
      refine wp_iload rfl rfl ?_
      refine wp_isub rfl ?_
      have g17 := H.1
      replace H := H.2
      refine Wp.topI (y := ((h 83 2) - 1)) (w32_I g17) ?_
      refine wp_icgt (tn := 22) rfl rfl (fun c18 => ?_) (fun c18 => ?_)
      · replace H := H.1 c18
        refine wp_iconst rfl ?_
        refine wp_zret rfl rfl (by decide) ?_
        show Wp X _ 228 6 [vr 83, vi s1, vi 4] [vi 0] _ _
        refine wp_ifeqT (tn := 41) rfl rfl (by decide) ?_
        refine wp_vret rfl rfl ?_
        show Wp X _ 29 110 [vr 6, zx1, vr 83, vi x3, vi x4] [] _ _
        have g19 := H.1
        replace H := H.2
        refine wp_iincR (L2 := [vr 6, zx1, vr 83, vi x3, vi (x4 + 1)]) rfl rfl g19 rfl ?_
        refine wp_goto (tn := 63) rfl rfl ?_
        exact H
      · replace H := H.2 c18
        refine wp_iconst rfl ?_
        refine wp_goto (tn := 23) rfl rfl ?_
        refine wp_zret rfl rfl (by decide) ?_
        show Wp X _ 228 6 [vr 83, vi s1, vi 4] [vi 1] _ _
        refine wp_ifeqF (tn := 41) rfl rfl (by decide) ?_
        refine wp_aload rfl rfl ?_
        refine wp_getR (r := 83) rfl (congrArg Prod.fst (kf_83 X.1)) rfl ?_
        refine wp_iload rfl rfl ?_
        refine wp_aload rfl rfl ?_
        refine wp_getI (j := 1) rfl (congrArg Prod.fst (kf_83 X.1)) rfl ?_
        refine wp_ifne (tn := 26) rfl rfl (fun c20 => ?_) (fun c20 => ?_)
        · replace H := H.1 c20
          refine wp_aload rfl rfl ?_
          refine wp_getI (j := 1) rfl (congrArg Prod.fst (kf_83 X.1)) rfl ?_
          refine wp_iconst rfl ?_
          refine wp_icne (tn := 39) rfl rfl (fun c21 => ?_) (fun c21 => ?_)
          · replace H := H.1 c21
            refine wp_iload rfl rfl ?_
            have g22 := H.1
            replace H := H.2
            refine wp_iastore rfl (kf_84 X.1) g22 ?_
            refine wp_vret rfl rfl ?_
            show Wp X _ 29 110 [vr 6, zx1, vr 83, vi x3, vi x4] [] _ _
            have g23 := H.1
            replace H := H.2
            refine wp_iincR (L2 := [vr 6, zx1, vr 83, vi x3, vi (x4 + 1)]) rfl rfl g23 rfl ?_
            refine wp_goto (tn := 63) rfl rfl ?_
            exact H
          · replace H := H.2 c21
            refine wp_iload rfl rfl ?_
            refine wp_i2s rfl ?_
            refine wp_goto (tn := 40) rfl rfl ?_
            have g24 := H.1
            replace H := H.2
            refine wp_iastore rfl (kf_84 X.1) g24 ?_
            refine wp_vret rfl rfl ?_
            show Wp X _ 29 110 [vr 6, zx1, vr 83, vi x3, vi x4] [] _ _
            have g25 := H.1
            replace H := H.2
            refine wp_iincR (L2 := [vr 6, zx1, vr 83, vi x3, vi (x4 + 1)]) rfl rfl g25 rfl ?_
            refine wp_goto (tn := 63) rfl rfl ?_
            exact H
        · replace H := H.2 c20
          refine wp_iload rfl rfl ?_
          refine wp_i2b rfl ?_
          refine wp_goto (tn := 40) rfl rfl ?_
          have g26 := H.1
          replace H := H.2
          refine wp_iastore rfl (kf_84 X.1) g26 ?_
          refine wp_vret rfl rfl ?_
          show Wp X _ 29 110 [vr 6, zx1, vr 83, vi x3, vi x4] [] _ _
          have g27 := H.1
          replace H := H.2
          refine wp_iincR (L2 := [vr 6, zx1, vr 83, vi x3, vi (x4 + 1)]) rfl rfl g27 rfl ?_
          refine wp_goto (tn := 63) rfl rfl ?_
          exact H
/-- WarnLines.write(I)I, from 104 -/
theorem S29_6_104c {X : Nat × (Int → Int)} {h : HP} {Q : bQ} (zx1 : aV) (x3 : Int) (x4 : Int) (s0 : Int) (s1 : Int) (H : ((s0 ≠ 8 → ((s1 < 0 → ((R32 (x4 + 1)) ∧ Wp X 3 29 63 [vr 6, zx1, vr 85, vi x3, vi (x4 + 1)] [] h Q)) ∧ (0 ≤ s1 → ((R32 ((h 85 2) - 1)) ∧ ((((h 85 2) - 1) < s1 → ((R32 (x4 + 1)) ∧ Wp X 3 29 63 [vr 6, zx1, vr 85, vi x3, vi (x4 + 1)] [] h Q)) ∧ (s1 ≤ ((h 85 2) - 1) → (((h 85 1) ≠ 0 → (((h 85 1) ≠ 1 → ((0 ≤ s1 ∧ s1 < 60) ∧ ((R32 (x4 + 1)) ∧ Wp X 3 29 63 [vr 6, zx1, vr 85, vi x3, vi (x4 + 1)] [] (upd2 h 86 s1 s0) Q))) ∧ ((h 85 1) = 1 → ((0 ≤ s1 ∧ s1 < 60) ∧ ((R32 (x4 + 1)) ∧ Wp X 3 29 63 [vr 6, zx1, vr 85, vi x3, vi (x4 + 1)] [] (upd2 h 86 s1 (Int.bmod s0 65536)) Q))))) ∧ ((h 85 1) = 0 → ((0 ≤ s1 ∧ s1 < 60) ∧ ((R32 (x4 + 1)) ∧ Wp X 3 29 63 [vr 6, zx1, vr 85, vi x3, vi (x4 + 1)] [] (upd2 h 86 s1 (Int.bmod s0 256)) Q)))))))))) ∧ (s0 = 8 → ((s1 < 0 → ((R32 (x4 + 1)) ∧ Wp X 3 29 63 [vr 6, zx1, vr 85, vi x3, vi (x4 + 1)] [] h Q)) ∧ (0 ≤ s1 → ((R32 ((h 85 2) - 1)) ∧ ((((h 85 2) - 1) < s1 → ((R32 (x4 + 1)) ∧ Wp X 3 29 63 [vr 6, zx1, vr 85, vi x3, vi (x4 + 1)] [] h Q)) ∧ (s1 ≤ ((h 85 2) - 1) → (((h 85 1) ≠ 0 → (((h 85 1) ≠ 1 → ((0 ≤ s1 ∧ s1 < 60) ∧ ((R32 (x4 + 1)) ∧ Wp X 3 29 63 [vr 6, zx1, vr 85, vi x3, vi (x4 + 1)] [] (upd2 h 86 s1 4) Q))) ∧ ((h 85 1) = 1 → ((0 ≤ s1 ∧ s1 < 60) ∧ ((R32 (x4 + 1)) ∧ Wp X 3 29 63 [vr 6, zx1, vr 85, vi x3, vi (x4 + 1)] [] (upd2 h 86 s1 (Int.bmod 4 65536)) Q))))) ∧ ((h 85 1) = 0 → ((0 ≤ s1 ∧ s1 < 60) ∧ ((R32 (x4 + 1)) ∧ Wp X 3 29 63 [vr 6, zx1, vr 85, vi x3, vi (x4 + 1)] [] (upd2 h 86 s1 (Int.bmod 4 256)) Q)))))))))))) : Wp X 3 29 104 [vr 6, zx1, vr 85, vi x3, vi x4] [vi s0, vi s1, vr 85] h Q := by
  refine wp_call (k := 44) (ρ2 := 0) (L2 := [vi s0]) rfl rfl rfl (Nat.le_of_ble_eq_true rfl) (Nat.le_of_ble_eq_true rfl) (Nat.le_of_ble_eq_true rfl) (rcv_S rfl) rfl ?_
  refine wp_iload rfl rfl ?_
  refine wp_iconst rfl ?_
  refine wp_icne (tn := 10) rfl rfl (fun c1 => ?_) (fun c1 => ?_)
  · replace H := H.1 c1
    refine wp_iload rfl rfl ?_
    refine wp_iret rfl rfl ?_
    show Wp X _ 29 107 [vr 6, zx1, vr 85, vi x3, vi x4] [vi s0, vi s1, vr 85] _ _
    refine wp_call (k := 228) (ρ2 := 1) (L2 := [vr 85, vi s1, vi s0]) rfl rfl rfl (Nat.le_of_ble_eq_true rfl) (Nat.le_of_ble_eq_true rfl) (Nat.le_of_ble_eq_true rfl) (rcv_V rfl (congrArg Prod.fst (kf_85 X.1))) rfl ?_
    refine wp_aload rfl rfl ?_
    refine wp_iload rfl rfl ?_
    refine wp_iconst rfl ?_
    refine wp_call (k := 226) (ρ2 := 0) (L2 := [vr 85, vi s1, vi 1]) rfl rfl rfl (Nat.le_of_ble_eq_true rfl) (Nat.le_of_ble_eq_true rfl) (Nat.le_of_ble_eq_true rfl) (rcv_V rfl (congrArg Prod.fst (kf_85 X.1))) rfl ?_
    refine wp_iload rfl rfl ?_
    refine wp_iflt (tn := 22) rfl rfl (fun c2 => ?_) (fun c2 => ?_)
    · replace H := H.1 c2
      refine wp_iconst rfl ?_
      refine wp_zret rfl rfl (by decide) ?_
      show Wp X _ 228 6 [vr 85, vi s1, vi s0] [vi 0] _ _
      refine wp_ifeqT (tn := 41) rfl rfl (by decide) ?_
      refine wp_vret rfl rfl ?_
      show Wp X _ 29 110 [vr 6, zx1, vr 85, vi x3, vi x4] [] _ _
      have g3 := H.1
      replace H := H.2
      refine wp_iincR (L2 := [vr 6, zx1, vr 85, vi x3, vi (x4 + 1)]) rfl rfl g3 rfl ?_
      refine wp_goto (tn := 63) rfl rfl ?_
      exact H
    · replace H := H.2 c2
      refine wp_iload rfl rfl ?_
      refine wp_ifltF (tn := 22) rfl rfl (by decide) ?_
      refine wp_iload rfl rfl ?_
      refine wp_aload rfl rfl ?_
      refine wp_getI (j := 2) rfl (congrArg Prod.fst (kf_85 X.1)) rfl ?_
      refine wp_iload rfl rfl ?_
      refine wp_isub rfl ?_
      have g4 := H.1
      replace H := H.2
      refine Wp.topI (y := ((h 85 2) - 1)) (w32_I g4) ?_
      refine wp_icgt (tn := 22) rfl rfl (fun c5 => ?_) (fun c5 => ?_)
      · replace H := H.1 c5
        refine wp_iconst rfl ?_
        refine wp_zret rfl rfl (by decide) ?_
        show Wp X _ 228 6 [vr 85, vi s1, vi s0] [vi 0] _ _
        refine wp_ifeqT (tn := 41) rfl rfl (by decide) ?_
        refine wp_vret rfl rfl ?_
        show Wp X _ 29 110 [vr 6, zx1, vr 85, vi x3, vi x4] [] _ _
        have g6 := H.1
        replace H := H.2
        refine wp_iincR (L2 := [vr 6, zx1, vr 85, vi x3, vi (x4 + 1)]) rfl rfl g6 rfl ?_
        refine wp_goto (tn := 63) rfl rfl ?_
        exact H
      · replace H := H.2 c5
        refine wp_iconst rfl ?_
        refine wp_goto (tn := 23) rfl rfl ?_
        refine wp_zret rfl rfl (by decide) ?_
        show Wp X _ 228 6 [vr 85, vi s1, vi s0] [vi 1] _ _
        refine wp_ifeqF (tn := 41) rfl rfl (by decide) ?_
        refine wp_aload rfl rfl ?_
        refine wp_getR (r := 85) rfl (congrArg Prod.fst (kf_85 X.1)) rfl ?_
        refine wp_iload rfl rfl ?_
        refine wp_aload rfl rfl ?_
        refine wp_getI (j := 1) rfl (congrArg Prod.fst (kf_85 X.1)) rfl ?_
        refine wp_ifne (tn := 26) rfl rfl (fun c7 => ?_) (fun c7 => ?_)
        · replace H := H.1 c7
          refine wp_aload rfl rfl ?_
          refine wp_getI (j := 1) rfl (congrArg Prod.fst (kf_85 X.1)) rfl ?_
          refine wp_iconst rfl ?_
          refine wp_icne (tn := 39) rfl rfl (fun c8 => ?_) (fun c8 => ?_)
          · replace H := H.1 c8
            refine wp_iload rfl rfl ?_
            have g9 := H.1
            replace H := H.2
            refine wp_iastore rfl (kf_86 X.1) g9 ?_
            refine wp_vret rfl rfl ?_
            show Wp X _ 29 110 [vr 6, zx1, vr 85, vi x3, vi x4] [] _ _
            have g10 := H.1
            replace H := H.2
            refine wp_iincR (L2 := [vr 6, zx1, vr 85, vi x3, vi (x4 + 1)]) rfl rfl g10 rfl ?_
            refine wp_goto (tn := 63) rfl rfl ?_
            exact H
          · replace H := H.2 c8
            refine wp_iload rfl rfl ?_
            refine wp_i2s rfl ?_
            refine wp_goto (tn := 40) rfl rfl ?_
            have g11 := H.1
            replace H := H.2
            refine wp_iastore rfl (kf_86 X.1) g11 ?_
            refine wp_vret rfl rfl ?_
            show Wp X _ 29 110 [vr 6, zx1, vr 85, vi x3, vi x4] [] _ _
            have g12 := H.1
            replace H := H.2
            refine wp_iincR (L2 := [vr 6, zx1, vr 85, vi x3, vi (x4 + 1)]) rfl rfl g12 rfl ?_
            refine wp_goto (tn := 63) rfl rfl ?_
            exact H
        · replace H := H.2 c7
          refine wp_iload rfl rfl ?_
          refine wp_i2b rfl ?_
          refine wp_goto (tn := 40) rfl rfl ?_
          have g13 := H.1
          replace H := H.2
          refine wp_iastore rfl (kf_86 X.1) g13 ?_
          refine wp_vret rfl rfl ?_
          show Wp X _ 29 110 [vr 6, zx1, vr 85, vi x3, vi x4] [] _ _
          have g14 := H.1
          replace H := H.2
          refine wp_iincR (L2 := [vr 6, zx1, vr 85, vi x3, vi (x4 + 1)]) rfl rfl g14 rfl ?_
          refine wp_goto (tn := 63) rfl rfl ?_
          exact H
  · replace H := H.2 c1
    refine wp_iconst rfl ?_
    refine wp_goto (tn := 11) rfl rfl ?_
    refine wp_iret rfl rfl ?_
    show Wp X _ 29 107 [vr 6, zx1, vr 85, vi x3, vi x4] [vi 4, vi s1, vr 85] _ _
    refine wp_call (k := 228) (ρ2 := 1) (L2 := [vr 85, vi s1, vi 4]) rfl rfl rfl (Nat.le_of_ble_eq_true rfl) (Nat.le_of_ble_eq_true rfl) (Nat.le_of_ble_eq_true rfl) (rcv_V rfl (congrArg Prod.fst (kf_85 X.1))) rfl ?_
    refine wp_aload rfl rfl ?_
    refine wp_iload rfl rfl ?_
    refine wp_iconst rfl ?_
    refine wp_call (k := 226) (ρ2 := 0) (L2 := [vr 85, vi s1, vi 1]) rfl rfl rfl (Nat.le_of_ble_eq_true rfl) (Nat.le_of_ble_eq_true rfl) (Nat.le_of_ble_eq_true rfl) (rcv_V rfl (congrArg Prod.fst (kf_85 X.1))) rfl ?_
    refine wp_iload rfl rfl ?_
    refine wp_iflt (tn := 22) rfl rfl (fun c15 => ?_) (fun c15 => ?_)
    · replace H := H.1 c15
      refine wp_iconst rfl ?_
      refine wp_zret rfl rfl (by decide) ?_
      show Wp X _ 228 6 [vr 85, vi s1, vi 4] [vi 0] _ _
      refine wp_ifeqT (tn := 41) rfl rfl (by decide) ?_
      refine wp_vret rfl rfl ?_
      show Wp X _ 29 110 [vr 6, zx1, vr 85, vi x3, vi x4] [] _ _
      have g16 := H.1
      replace H := H.2
      refine wp_iincR (L2 := [vr 6, zx1, vr 85, vi x3, vi (x4 + 1)]) rfl rfl g16 rfl ?_
      refine wp_goto (tn := 63) rfl rfl ?_
      exact H
    · replace H := H.2 c15
      refine wp_iload rfl rfl ?_
      refine wp_ifltF (tn := 22) rfl rfl (by decide) ?_
      refine wp_iload rfl rfl ?_
      refine wp_aload rfl rfl ?_
      refine wp_getI (j := 2) rfl (congrArg Prod.fst (kf_85 X.1)) rfl ?_
      refine wp_iload rfl rfl ?_
      refine wp_isub rfl ?_
      have g17 := H.1
      replace H := H.2
      refine Wp.topI (y := ((h 85 2) - 1)) (w32_I g17) ?_
      refine wp_icgt (tn := 22) rfl rfl (fun c18 => ?_) (fun c18 => ?_)
      · replace H := H.1 c18
        refine wp_iconst rfl ?_
        refine wp_zret rfl rfl (by decide) ?_
        show Wp X _ 228 6 [vr 85, vi s1, vi 4] [vi 0] _ _
        refine wp_ifeqT (tn := 41) rfl rfl (by decide) ?_
        refine wp_vret rfl rfl ?_
        show Wp X _ 29 110 [vr 6, zx1, vr 85, vi x3, vi x4] [] _ _
        have g19 := H.1
        replace H := H.2
        refine wp_iincR (L2 := [vr 6, zx1, vr 85, vi x3, vi (x4 + 1)]) rfl rfl g19 rfl ?_
        refine wp_goto (tn := 63) rfl rfl ?_
        exact H
      · replace H := H.2 c18
        refine wp_iconst rfl ?_
        refine wp_goto (tn := 23) rfl rfl ?_
        refine wp_zret rfl rfl (by decide) ?_
        show Wp X _ 228 6 [vr 85, vi s1, vi 4] [vi 1] _ _
        refine wp_ifeqF (tn := 41) rfl rfl (by decide) ?_
        refine wp_aload rfl rfl ?_
        refine wp_getR (r := 85) rfl (congrArg Prod.fst (kf_85 X.1)) rfl ?_
        refine wp_iload rfl rfl ?_
        refine wp_aload rfl rfl ?_
        refine wp_getI (j := 1) rfl (congrArg Prod.fst (kf_85 X.1)) rfl ?_
        refine wp_ifne (tn := 26) rfl rfl (fun c20 => ?_) (fun c20 => ?_)
        · replace H := H.1 c20
          refine wp_aload rfl rfl ?_
          refine wp_getI (j := 1) rfl (congrArg Prod.fst (kf_85 X.1)) rfl ?_
          refine wp_iconst rfl ?_
          refine wp_icne (tn := 39) rfl rfl (fun c21 => ?_) (fun c21 => ?_)
          · replace H := H.1 c21
            refine wp_iload rfl rfl ?_
            have g22 := H.1
            replace H := H.2
            refine wp_iastore rfl (kf_86 X.1) g22 ?_
            refine wp_vret rfl rfl ?_
            show Wp X _ 29 110 [vr 6, zx1, vr 85, vi x3, vi x4] [] _ _
            have g23 := H.1
            replace H := H.2
            refine wp_iincR (L2 := [vr 6, zx1, vr 85, vi x3, vi (x4 + 1)]) rfl rfl g23 rfl ?_
            refine wp_goto (tn := 63) rfl rfl ?_
            exact H
          · replace H := H.2 c21
            refine wp_iload rfl rfl ?_
            refine wp_i2s rfl ?_
            refine wp_goto (tn := 40) rfl rfl ?_
            have g24 := H.1
            replace H := H.2
            refine wp_iastore rfl (kf_86 X.1) g24 ?_
            refine wp_vret rfl rfl ?_
            show Wp X _ 29 110 [vr 6, zx1, vr 85, vi x3, vi x4] [] _ _
            have g25 := H.1
            replace H := H.2
            refine wp_iincR (L2 := [vr 6, zx1, vr 85, vi x3, vi (x4 + 1)]) rfl rfl g25 rfl ?_
            refine wp_goto (tn := 63) rfl rfl ?_
            exact H
        · replace H := H.2 c20
          refine wp_iload rfl rfl ?_
          refine wp_i2b rfl ?_
          refine wp_goto (tn := 40) rfl rfl ?_
          have g26 := H.1
          replace H := H.2
          refine wp_iastore rfl (kf_86 X.1) g26 ?_
          refine wp_vret rfl rfl ?_
          show Wp X _ 29 110 [vr 6, zx1, vr 85, vi x3, vi x4] [] _ _
          have g27 := H.1
          replace H := H.2
          refine wp_iincR (L2 := [vr 6, zx1, vr 85, vi x3, vi (x4 + 1)]) rfl rfl g27 rfl ?_
          refine wp_goto (tn := 63) rfl rfl ?_
          exact H
/-- WarnLines.write(I)I, from 104 -/
theorem S29_6_104d {X : Nat × (Int → Int)} {h : HP} {Q : bQ} (zx1 : aV) (x3 : Int) (x4 : Int) (s0 : Int) (s1 : Int) (H : ((s0 ≠ 8 → ((s1 < 0 → ((R32 (x4 + 1)) ∧ Wp X 3 29 63 [vr 6, zx1, vr 87, vi x3, vi (x4 + 1)] [] h Q)) ∧ (0 ≤ s1 → ((R32 ((h 87 2) - 1)) ∧ ((((h 87 2) - 1) < s1 → ((R32 (x4 + 1)) ∧ Wp X 3 29 63 [vr 6, zx1, vr 87, vi x3, vi (x4 + 1)] [] h Q)) ∧ (s1 ≤ ((h 87 2) - 1) → (((h 87 1) ≠ 0 → (((h 87 1) ≠ 1 → ((0 ≤ s1 ∧ s1 < 60) ∧ ((R32 (x4 + 1)) ∧ Wp X 3 29 63 [vr 6, zx1, vr 87, vi x3, vi (x4 + 1)] [] (upd2 h 88 s1 s0) Q))) ∧ ((h 87 1) = 1 → ((0 ≤ s1 ∧ s1 < 60) ∧ ((R32 (x4 + 1)) ∧ Wp X 3 29 63 [vr 6, zx1, vr 87, vi x3, vi (x4 + 1)] [] (upd2 h 88 s1 (Int.bmod s0 65536)) Q))))) ∧ ((h 87 1) = 0 → ((0 ≤ s1 ∧ s1 < 60) ∧ ((R32 (x4 + 1)) ∧ Wp X 3 29 63 [vr 6, zx1, vr 87, vi x3, vi (x4 + 1)] [] (upd2 h 88 s1 (Int.bmod s0 256)) Q)))))))))) ∧ (s0 = 8 → ((s1 < 0 → ((R32 (x4 + 1)) ∧ Wp X 3 29 63 [vr 6, zx1, vr 87, vi x3, vi (x4 + 1)] [] h Q)) ∧ (0 ≤ s1 → ((R32 ((h 87 2) - 1)) ∧ ((((h 87 2) - 1) < s1 → ((R32 (x4 + 1)) ∧ Wp X 3 29 63 [vr 6, zx1, vr 87, vi x3, vi (x4 + 1)] [] h Q)) ∧ (s1 ≤ ((h 87 2) - 1) → (((h 87 1) ≠ 0 → (((h 87 1) ≠ 1 → ((0 ≤ s1 ∧ s1 < 60) ∧ ((R32 (x4 + 1)) ∧ Wp X 3 29 63 [vr 6, zx1, vr 87, vi x3, vi (x4 + 1)] [] (upd2 h 88 s1 4) Q))) ∧ ((h 87 1) = 1 → ((0 ≤ s1 ∧ s1 < 60) ∧ ((R32 (x4 + 1)) ∧ Wp X 3 29 63 [vr 6, zx1, vr 87, vi x3, vi (x4 + 1)] [] (upd2 h 88 s1 (Int.bmod 4 65536)) Q))))) ∧ ((h 87 1) = 0 → ((0 ≤ s1 ∧ s1 < 60) ∧ ((R32 (x4 + 1)) ∧ Wp X 3 29 63 [vr 6, zx1, vr 87, vi x3, vi (x4 + 1)] [] (upd2 h 88 s1 (Int.bmod 4 256)) Q)))))))))))) : Wp X 3 29 104 [vr 6, zx1, vr 87, vi x3, vi x4] [vi s0, vi s1, vr 87] h Q := by
  refine wp_call (k := 44) (ρ2 := 0) (L2 := [vi s0]) rfl rfl rfl (Nat.le_of_ble_eq_true rfl) (Nat.le_of_ble_eq_true rfl) (Nat.le_of_ble_eq_true rfl) (rcv_S rfl) rfl ?_
  refine wp_iload rfl rfl ?_
  refine wp_iconst rfl ?_
  refine wp_icne (tn := 10) rfl rfl (fun c1 => ?_) (fun c1 => ?_)
  · replace H := H.1 c1
    refine wp_iload rfl rfl ?_
    refine wp_iret rfl rfl ?_
    show Wp X _ 29 107 [vr 6, zx1, vr 87, vi x3, vi x4] [vi s0, vi s1, vr 87] _ _
    refine wp_call (k := 228) (ρ2 := 1) (L2 := [vr 87, vi s1, vi s0]) rfl rfl rfl (Nat.le_of_ble_eq_true rfl) (Nat.le_of_ble_eq_true rfl) (Nat.le_of_ble_eq_true rfl) (rcv_V rfl (congrArg Prod.fst (kf_87 X.1))) rfl ?_
    refine wp_aload rfl rfl ?_
    refine wp_iload rfl rfl ?_
    refine wp_iconst rfl ?_
    refine wp_call (k := 226) (ρ2 := 0) (L2 := [vr 87, vi s1, vi 1]) rfl rfl rfl (Nat.le_of_ble_eq_true rfl) (Nat.le_of_ble_eq_true rfl) (Nat.le_of_ble_eq_true rfl) (rcv_V rfl (congrArg Prod.fst (kf_87 X.1))) rfl ?_
    refine wp_iload rfl rfl ?_
    refine wp_iflt (tn := 22) rfl rfl (fun c2 => ?_) (fun c2 => ?_)
    · replace H := H.1 c2
      refine wp_iconst rfl ?_
      refine wp_zret rfl rfl (by decide) ?_
      show Wp X _ 228 6 [vr 87, vi s1, vi s0] [vi 0] _ _
      refine wp_ifeqT (tn := 41) rfl rfl (by decide) ?_
      refine wp_vret rfl rfl ?_
      show Wp X _ 29 110 [vr 6, zx1, vr 87, vi x3, vi x4] [] _ _
      have g3 := H.1
      replace H := H.2
      refine wp_iincR (L2 := [vr 6, zx1, vr 87, vi x3, vi (x4 + 1)]) rfl rfl g3 rfl ?_
      refine wp_goto (tn := 63) rfl rfl ?_
      exact H
    · replace H := H.2 c2
      refine wp_iload rfl rfl ?_
      refine wp_ifltF (tn := 22) rfl rfl (by decide) ?_
      refine wp_iload rfl rfl ?_
      refine wp_aload rfl rfl ?_
      refine wp_getI (j := 2) rfl (congrArg Prod.fst (kf_87 X.1)) rfl ?_
      refine wp_iload rfl rfl ?_
      refine wp_isub rfl ?_
      have g4 := H.1
      replace H := H.2
      refine Wp.topI (y := ((h 87 2) - 1)) (w32_I g4) ?_
      refine wp_icgt (tn := 22) rfl rfl (fun c5 => ?_) (fun c5 => ?_)
      · replace H := H.1 c5
        refine wp_iconst rfl ?_
        refine wp_zret rfl rfl (by decide) ?_
        show Wp X _ 228 6 [vr 87, vi s1, vi s0] [vi 0] _ _
        refine wp_ifeqT (tn := 41) rfl rfl (by decide) ?_
        refine wp_vret rfl rfl ?_
        show Wp X _ 29 110 [vr 6, zx1, vr 87, vi x3, vi x4] [] _ _
        have g6 := H.1
        replace H := H.2
        refine wp_iincR (L2 := [vr 6, zx1, vr 87, vi x3, vi (x4 + 1)]) rfl rfl g6 rfl ?_
        refine wp_goto (tn := 63) rfl rfl ?_
        exact H
      · replace H := H.2 c5
        refine wp_iconst rfl ?_
        refine wp_goto (tn := 23) rfl rfl ?_
        refine wp_zret rfl rfl (by decide) ?_
        show Wp X _ 228 6 [vr 87, vi s1, vi s0] [vi 1] _ _
        refine wp_ifeqF (tn := 41) rfl rfl (by decide) ?_
        refine wp_aload rfl rfl ?_
        refine wp_getR (r := 87) rfl (congrArg Prod.fst (kf_87 X.1)) rfl ?_
        refine wp_iload rfl rfl ?_
        refine wp_aload rfl rfl ?_
        refine wp_getI (j := 1) rfl (congrArg Prod.fst (kf_87 X.1)) rfl ?_
        refine wp_ifne (tn := 26) rfl rfl (fun c7 => ?_) (fun c7 => ?_)
        · replace H := H.1 c7
          refine wp_aload rfl rfl ?_
          refine wp_getI (j := 1) rfl (congrArg Prod.fst (kf_87 X.1)) rfl ?_
          refine wp_iconst rfl ?_
          refine wp_icne (tn := 39) rfl rfl (fun c8 => ?_) (fun c8 => ?_)
          · replace H := H.1 c8
            refine wp_iload rfl rfl ?_
            have g9 := H.1
            replace H := H.2
            refine wp_iastore rfl (kf_88 X.1) g9 ?_
            refine wp_vret rfl rfl ?_
            show Wp X _ 29 110 [vr 6, zx1, vr 87, vi x3, vi x4] [] _ _
            have g10 := H.1
            replace H := H.2
            refine wp_iincR (L2 := [vr 6, zx1, vr 87, vi x3, vi (x4 + 1)]) rfl rfl g10 rfl ?_
            refine wp_goto (tn := 63) rfl rfl ?_
            exact H
          · replace H := H.2 c8
            refine wp_iload rfl rfl ?_
            refine wp_i2s rfl ?_
            refine wp_goto (tn := 40) rfl rfl ?_
            have g11 := H.1
            replace H := H.2
            refine wp_iastore rfl (kf_88 X.1) g11 ?_
            refine wp_vret rfl rfl ?_
            show Wp X _ 29 110 [vr 6, zx1, vr 87, vi x3, vi x4] [] _ _
            have g12 := H.1
            replace H := H.2
            refine wp_iincR (L2 := [vr 6, zx1, vr 87, vi x3, vi (x4 + 1)]) rfl rfl g12 rfl ?_
            refine wp_goto (tn := 63) rfl rfl ?_
            exact H
        · replace H := H.2 c7
          refine wp_iload rfl rfl ?_
          refine wp_i2b rfl ?_
          refine wp_goto (tn := 40) rfl rfl ?_
          have g13 := H.1
          replace H := H.2
          refine wp_iastore rfl (kf_88 X.1) g13 ?_
          refine wp_vret rfl rfl ?_
          show Wp X _ 29 110 [vr 6, zx1, vr 87, vi x3, vi x4] [] _ _
          have g14 := H.1
          replace H := H.2
          refine wp_iincR (L2 := [vr 6, zx1, vr 87, vi x3, vi (x4 + 1)]) rfl rfl g14 rfl ?_
          refine wp_goto (tn := 63) rfl rfl ?_
          exact H
  · replace H := H.2 c1
    refine wp_iconst rfl ?_
    refine wp_goto (tn := 11) rfl rfl ?_
    refine wp_iret rfl rfl ?_
    show Wp X _ 29 107 [vr 6, zx1, vr 87, vi x3, vi x4] [vi 4, vi s1, vr 87] _ _
    refine wp_call (k := 228) (ρ2 := 1) (L2 := [vr 87, vi s1, vi 4]) rfl rfl rfl (Nat.le_of_ble_eq_true rfl) (Nat.le_of_ble_eq_true rfl) (Nat.le_of_ble_eq_true rfl) (rcv_V rfl (congrArg Prod.fst (kf_87 X.1))) rfl ?_
    refine wp_aload rfl rfl ?_
    refine wp_iload rfl rfl ?_
    refine wp_iconst rfl ?_
    refine wp_call (k := 226) (ρ2 := 0) (L2 := [vr 87, vi s1, vi 1]) rfl rfl rfl (Nat.le_of_ble_eq_true rfl) (Nat.le_of_ble_eq_true rfl) (Nat.le_of_ble_eq_true rfl) (rcv_V rfl (congrArg Prod.fst (kf_87 X.1))) rfl ?_
    refine wp_iload rfl rfl ?_
    refine wp_iflt (tn := 22) rfl rfl (fun c15 => ?_) (fun c15 => ?_)
    · replace H := H.1 c15
      refine wp_iconst rfl ?_
      refine wp_zret rfl rfl (by decide) ?_
      show Wp X _ 228 6 [vr 87, vi s1, vi 4] [vi 0] _ _
      refine wp_ifeqT (tn := 41) rfl rfl (by decide) ?_
      refine wp_vret rfl rfl ?_
      show Wp X _ 29 110 [vr 6, zx1, vr 87, vi x3, vi x4] [] _ _
      have g16 := H.1
      replace H := H.2
      refine wp_iincR (L2 := [vr 6, zx1, vr 87, vi x3, vi (x4 + 1)]) rfl rfl g16 rfl ?_
      refine wp_goto (tn := 63) rfl rfl ?_
      exact H
    · replace H := H.2 c15
      refine wp_iload rfl rfl ?_
      refine wp_ifltF (tn := 22) rfl rfl (by decide) ?_
      refine wp_iload rfl rfl ?_
      refine wp_aload rfl rfl ?_
      refine wp_getI (j := 2) rfl (congrArg Prod.fst (kf_87 X.1)) rfl ?_
      refine wp_iload rfl rfl ?_
      refine wp_isub rfl ?_
      have g17 := H.1
      replace H := H.2
      refine Wp.topI (y := ((h 87 2) - 1)) (w32_I g17) ?_
      refine wp_icgt (tn := 22) rfl rfl (fun c18 => ?_) (fun c18 => ?_)
      · replace H := H.1 c18
        refine wp_iconst rfl ?_
        refine wp_zret rfl rfl (by decide) ?_
        show Wp X _ 228 6 [vr 87, vi s1, vi 4] [vi 0] _ _
        refine wp_ifeqT (tn := 41) rfl rfl (by decide) ?_
        refine wp_vret rfl rfl ?_
        show Wp X _ 29 110 [vr 6, zx1, vr 87, vi x3, vi x4] [] _ _
        have g19 := H.1
        replace H := H.2
        refine wp_iincR (L2 := [vr 6, zx1, vr 87, vi x3, vi (x4 + 1)]) rfl rfl g19 rfl ?_
        refine wp_goto (tn := 63) rfl rfl ?_
        exact H
      · replace H := H.2 c18
        refine wp_iconst rfl ?_
        refine wp_goto (tn := 23) rfl rfl ?_
        refine wp_zret rfl rfl (by decide) ?_
        show Wp X _ 228 6 [vr 87, vi s1, vi 4] [vi 1] _ _
        refine wp_ifeqF (tn := 41) rfl rfl (by decide) ?_
        refine wp_aload rfl rfl ?_
        refine wp_getR (r := 87) rfl (congrArg Prod.fst (kf_87 X.1)) rfl ?_
        refine wp_iload rfl rfl ?_
        refine wp_aload rfl rfl ?_
        refine wp_getI (j := 1) rfl (congrArg Prod.fst (kf_87 X.1)) rfl ?_
        refine wp_ifne (tn := 26) rfl rfl (fun c20 => ?_) (fun c20 => ?_)
        · replace H := H.1 c20
          refine wp_aload rfl rfl ?_
          refine wp_getI (j := 1) rfl (congrArg Prod.fst (kf_87 X.1)) rfl ?_
          refine wp_iconst rfl ?_
          refine wp_icne (tn := 39) rfl rfl (fun c21 => ?_) (fun c21 => ?_)
          · replace H := H.1 c21
            refine wp_iload rfl rfl ?_
            have g22 := H.1
            replace H := H.2
            refine wp_iastore rfl (kf_88 X.1) g22 ?_
            refine wp_vret rfl rfl ?_
            show Wp X _ 29 110 [vr 6, zx1, vr 87, vi x3, vi x4] [] _ _
            have g23 := H.1
            replace H := H.2
            refine wp_iincR (L2 := [vr 6, zx1, vr 87, vi x3, vi (x4 + 1)]) rfl rfl g23 rfl ?_
            refine wp_goto (tn := 63) rfl rfl ?_
            exact H
          · replace H := H.2 c21
            refine wp_iload rfl rfl ?_
            refine wp_i2s rfl ?_
            refine wp_goto (tn := 40) rfl rfl ?_
            have g24 := H.1
            replace H := H.2
            refine wp_iastore rfl (kf_88 X.1) g24 ?_
            refine wp_vret rfl rfl ?_
            show Wp X _ 29 110 [vr 6, zx1, vr 87, vi x3, vi x4] [] _ _
            have g25 := H.1
            replace H := H.2
            refine wp_iincR (L2 := [vr 6, zx1, vr 87, vi x3, vi (x4 + 1)]) rfl rfl g25 rfl ?_
            refine wp_goto (tn := 63) rfl rfl ?_
            exact H
        · replace H := H.2 c20
          refine wp_iload rfl rfl ?_
          refine wp_i2b rfl ?_
          refine wp_goto (tn := 40) rfl rfl ?_
          have g26 := H.1
          replace H := H.2
          refine wp_iastore rfl (kf_88 X.1) g26 ?_
          refine wp_vret rfl rfl ?_
          show Wp X _ 29 110 [vr 6, zx1, vr 87, vi x3, vi x4] [] _ _
          have g27 := H.1
          replace H := H.2
          refine wp_iincR (L2 := [vr 6, zx1, vr 87, vi x3, vi (x4 + 1)]) rfl rfl g27 rfl ?_
          refine wp_goto (tn := 63) rfl rfl ?_
          exact H
/-- WarnLines.count(I)I, from 0 -/
theorem S30_6_0 {X : Nat × (Int → Int)} {h : HP} {Q : bQ} (x1 : Int) (H : ((x1 = 0 → Q (some (vi (h 8 8))) h) ∧ (x1 ≠ 0 → ((x1 = 1 → ((R32 ((h 8 8) - (h 37 6))) ∧ Q (some (vi ((h 8 8) - (h 37 6)))) h)) ∧ (x1 ≠ 1 → ((x1 = 2 → Q (some (vi (h 8 7))) h) ∧ (x1 ≠ 2 → ((x1 = 3 → Q (some (vi (h 8 9))) h) ∧ (x1 ≠ 3 → ((x1 = 4 → Q (some (vi (h 77 2))) h) ∧ (x1 ≠ 4 → ((x1 = 5 → Q (some (vi (h 45 4))) h) ∧ (x1 ≠ 5 → ((x1 = 6 → Q (some (vi (h 53 4))) h) ∧ (x1 ≠ 6 → ((x1 = 7 → Q (some (vi (h 7 3))) h) ∧ (x1 ≠ 7 → ((x1 = 8 → Q (some (vi (h 6 10))) h) ∧ (x1 ≠ 8 → Q (some (vi (-2))) h))))))))))))))))))) : Wp X 1 30 0 [vr 6, vi x1] [] h Q := by
  refine wp_iload rfl rfl ?_
  by_cases c1 : x1 = 0
  · replace H := H.1 c1
    refine wp_tabIn (tn := 52) rfl (by rw [c1]; decide) (by rw [c1]; rfl) ?_
    refine wp_aload rfl rfl ?_
    refine wp_getR (r := 7) rfl (congrArg Prod.fst (kf_6 X.1)) rfl ?_
    refine wp_call (k := 142) (ρ2 := 0) (L2 := [vr 8]) rfl rfl rfl (Nat.le_of_ble_eq_true rfl) (Nat.le_of_ble_eq_true rfl) (Nat.le_of_ble_eq_true rfl) (rcv_V rfl (congrArg Prod.fst (kf_8 X.1))) rfl ?_
    refine wp_aload rfl rfl ?_
    refine wp_getI (j := 8) rfl (congrArg Prod.fst (kf_8 X.1)) rfl ?_
    refine wp_iret rfl rfl ?_
    show Wp X _ 30 59 [vr 6, vi x1] [vi (h 8 8)] _ _
    exact wp_iret rfl rfl H
  replace H := H.2 c1
  by_cases c2 : x1 = 1
  · replace H := H.1 c2
    refine wp_tabIn (tn := 60) rfl (by rw [c2]; decide) (by rw [c2]; rfl) ?_
    refine wp_aload rfl rfl ?_
    refine wp_getR (r := 7) rfl (congrArg Prod.fst (kf_6 X.1)) rfl ?_
    refine wp_call (k := 142) (ρ2 := 0) (L2 := [vr 8]) rfl rfl rfl (Nat.le_of_ble_eq_true rfl) (Nat.le_of_ble_eq_true rfl) (Nat.le_of_ble_eq_true rfl) (rcv_V rfl (congrArg Prod.fst (kf_8 X.1))) rfl ?_
    refine wp_aload rfl rfl ?_
    refine wp_getI (j := 8) rfl (congrArg Prod.fst (kf_8 X.1)) rfl ?_
    refine wp_iret rfl rfl ?_
    show Wp X _ 30 67 [vr 6, vi x1] [vi (h 8 8)] _ _
    refine wp_aload rfl rfl ?_
    refine wp_getR (r := 36) rfl (congrArg Prod.fst (kf_6 X.1)) rfl ?_
    refine wp_call (k := 188) (ρ2 := 0) (L2 := [vr 37]) rfl rfl rfl (Nat.le_of_ble_eq_true rfl) (Nat.le_of_ble_eq_true rfl) (Nat.le_of_ble_eq_true rfl) (rcv_V rfl (congrArg Prod.fst (kf_37 X.1))) rfl ?_
    refine wp_aload rfl rfl ?_
    refine wp_getI (j := 6) rfl (congrArg Prod.fst (kf_37 X.1)) rfl ?_
    refine wp_iret rfl rfl ?_
    show Wp X _ 30 74 [vr 6, vi x1] [vi (h 37 6), vi (h 8 8)] _ _
    refine wp_isub rfl ?_
    have g3 := H.1
    replace H := H.2
    refine Wp.topI (y := ((h 8 8) - (h 37 6))) (w32_I g3) ?_
    exact wp_iret rfl rfl H
  replace H := H.2 c2
  by_cases c4 : x1 = 2
  · replace H := H.1 c4
    refine wp_tabIn (tn := 76) rfl (by rw [c4]; decide) (by rw [c4]; rfl) ?_
    refine wp_aload rfl rfl ?_
    refine wp_getR (r := 7) rfl (congrArg Prod.fst (kf_6 X.1)) rfl ?_
    refine wp_call (k := 143) (ρ2 := 0) (L2 := [vr 8]) rfl rfl rfl (Nat.le_of_ble_eq_true rfl) (Nat.le_of_ble_eq_true rfl) (Nat.le_of_ble_eq_true rfl) (rcv_V rfl (congrArg Prod.fst (kf_8 X.1))) rfl ?_
    refine wp_aload rfl rfl ?_
    refine wp_getI (j := 7) rfl (congrArg Prod.fst (kf_8 X.1)) rfl ?_
    refine wp_iret rfl rfl ?_
    show Wp X _ 30 83 [vr 6, vi x1] [vi (h 8 7)] _ _
    exact wp_iret rfl rfl H
  replace H := H.2 c4
  by_cases c5 : x1 = 3
  · replace H := H.1 c5
    refine wp_tabIn (tn := 84) rfl (by rw [c5]; decide) (by rw [c5]; rfl) ?_
    refine wp_aload rfl rfl ?_
    refine wp_getR (r := 7) rfl (congrArg Prod.fst (kf_6 X.1)) rfl ?_
    refine wp_call (k := 144) (ρ2 := 0) (L2 := [vr 8]) rfl rfl rfl (Nat.le_of_ble_eq_true rfl) (Nat.le_of_ble_eq_true rfl) (Nat.le_of_ble_eq_true rfl) (rcv_V rfl (congrArg Prod.fst (kf_8 X.1))) rfl ?_
    refine wp_aload rfl rfl ?_
    refine wp_getI (j := 9) rfl (congrArg Prod.fst (kf_8 X.1)) rfl ?_
    refine wp_iret rfl rfl ?_
    show Wp X _ 30 91 [vr 6, vi x1] [vi (h 8 9)] _ _
    exact wp_iret rfl rfl H
  replace H := H.2 c5
  by_cases c6 : x1 = 4
  · replace H := H.1 c6
    refine wp_tabIn (tn := 92) rfl (by rw [c6]; decide) (by rw [c6]; rfl) ?_
    refine wp_aload rfl rfl ?_
    refine wp_getR (r := 76) rfl (congrArg Prod.fst (kf_6 X.1)) rfl ?_
    refine wp_call (k := 136) (ρ2 := 0) (L2 := [vr 77]) rfl rfl rfl (Nat.le_of_ble_eq_true rfl) (Nat.le_of_ble_eq_true rfl) (Nat.le_of_ble_eq_true rfl) (rcv_V rfl (congrArg Prod.fst (kf_77 X.1))) rfl ?_
    refine wp_aload rfl rfl ?_
    refine wp_getI (j := 2) rfl (congrArg Prod.fst (kf_77 X.1)) rfl ?_
    refine wp_iret rfl rfl ?_
    show Wp X _ 30 99 [vr 6, vi x1] [vi (h 77 2)] _ _
    exact wp_iret rfl rfl H
  replace H := H.2 c6
  by_cases c7 : x1 = 5
  · replace H := H.1 c7
    refine wp_tabIn (tn := 100) rfl (by rw [c7]; decide) (by rw [c7]; rfl) ?_
    refine wp_aload rfl rfl ?_
    refine wp_getR (r := 43) rfl (congrArg Prod.fst (kf_6 X.1)) rfl ?_
    refine wp_iconst rfl ?_
    refine wp_aaload (r := 44) rfl (kf_44 X.1) (by decide) (by decide) rfl ?_
    refine wp_call (k := 201) (ρ2 := 0) (L2 := [vr 45]) rfl rfl rfl (Nat.le_of_ble_eq_true rfl) (Nat.le_of_ble_eq_true rfl) (Nat.le_of_ble_eq_true rfl) (rcv_V rfl (congrArg Prod.fst (kf_45 X.1))) rfl ?_
    refine wp_aload rfl rfl ?_
    refine wp_getI (j := 4) rfl (congrArg Prod.fst (kf_45 X.1)) rfl ?_
    refine wp_iret rfl rfl ?_
    show Wp X _ 30 109 [vr 6, vi x1] [vi (h 45 4)] _ _
    exact wp_iret rfl rfl H
  replace H := H.2 c7
  by_cases c8 : x1 = 6
  · replace H := H.1 c8
    refine wp_tabIn (tn := 110) rfl (by rw [c8]; decide) (by rw [c8]; rfl) ?_
    refine wp_aload rfl rfl ?_
    refine wp_getR (r := 43) rfl (congrArg Prod.fst (kf_6 X.1)) rfl ?_
    refine wp_iconst rfl ?_
    refine wp_aaload (r := 52) rfl (kf_44 X.1) (by decide) (by decide) rfl ?_
    refine wp_call (k := 201) (ρ2 := 0) (L2 := [vr 53]) rfl rfl rfl (Nat.le_of_ble_eq_true rfl) (Nat.le_of_ble_eq_true rfl) (Nat.le_of_ble_eq_true rfl) (rcv_V rfl (congrArg Prod.fst (kf_53 X.1))) rfl ?_
    refine wp_aload rfl rfl ?_
    refine wp_getI (j := 4) rfl (congrArg Prod.fst (kf_53 X.1)) rfl ?_
    refine wp_iret rfl rfl ?_
    show Wp X _ 30 119 [vr 6, vi x1] [vi (h 53 4)] _ _
    exact wp_iret rfl rfl H
  replace H := H.2 c8
  by_cases c9 : x1 = 7
  · replace H := H.1 c9
    refine wp_tabIn (tn := 120) rfl (by rw [c9]; decide) (by rw [c9]; rfl) ?_
    refine wp_aload rfl rfl ?_
    refine wp_getR (r := 6) rfl (congrArg Prod.fst (kf_6 X.1)) rfl ?_
    refine wp_iconst rfl ?_
    refine wp_iaload rfl (kf_7 X.1) (by decide) ?_
    exact wp_iret rfl rfl H
  replace H := H.2 c9
  by_cases c10 : x1 = 8
  · replace H := H.1 c10
    refine wp_tabIn (tn := 127) rfl (by rw [c10]; decide) (by rw [c10]; rfl) ?_
    refine wp_aload rfl rfl ?_
    refine wp_getI (j := 10) rfl (congrArg Prod.fst (kf_6 X.1)) rfl ?_
    exact wp_iret rfl rfl H
  replace H := H.2 c10
  refine wp_tabOut (tn := 132) rfl (by clear H; omega) rfl ?_
  refine wp_iconst rfl ?_
  exact wp_iret rfl rfl H
/-- WarnLines.digest()J, from 0 -/
theorem S31_6_0 {X : Nat × (Int → Int)} {h : HP} {Q : bQ}  (H : Wp X 16 31 6 [vr 6, vl 17, vu, vi 0, vu] [] h Q) : Wp X 16 31 0 [vr 6, vu, vu, vu, vu] [] h Q := by
  refine wp_sipush rfl ?_
  refine wp_lstore (L2 := [vr 6, vl 17, vu, vu, vu]) rfl (Nat.le_of_ble_eq_true rfl) rfl ?_
  refine wp_iconst rfl ?_
  refine wp_istore (L2 := [vr 6, vl 17, vu, vi 0, vu]) rfl (Nat.le_of_ble_eq_true rfl) rfl ?_
  exact H
/-- WarnLines.digest()J, from 6 -/
theorem S31_6_6 {X : Nat × (Int → Int)} {h : HP} {Q : bQ} (x1 : Int) (x3 : Int) (H : ((8 ≤ x3 → Wp X 16 31 33 [vr 6, vl x1, vu, vi 0, vu] [] h Q) ∧ (x3 < 8 → Wp X 1 30 0 [vr 6, vi x3] [] h (fun v h' => Wp X 16 31 22 [vr 6, vl x1, vu, vi x3, vu] (psh v [vl (w64 (31 * x1))]) h' Q)))) : Wp X 16 31 6 [vr 6, vl x1, vu, vi x3, vu] [] h Q := by
  refine wp_iload rfl rfl ?_
  refine wp_iconst rfl ?_
  refine wp_icge (tn := 31) rfl rfl (fun c1 => ?_) (fun c1 => ?_)
  · replace H := H.1 c1
    refine wp_iconst rfl ?_
    refine wp_istore (L2 := [vr 6, vl x1, vu, vi 0, vu]) rfl (Nat.le_of_ble_eq_true rfl) rfl ?_
    exact H
  · replace H := H.2 c1
    refine wp_sipush rfl ?_
    refine wp_lload rfl rfl ?_
    refine wp_lmul rfl ?_
    refine wp_aload rfl rfl ?_
    refine wp_iload rfl rfl ?_
    exact wp_call (k := 30) (ρ2 := 1) (L2 := [vr 6, vi x3]) rfl rfl rfl (Nat.le_of_ble_eq_true rfl) (Nat.le_of_ble_eq_true rfl) (Nat.le_of_ble_eq_true rfl) (rcv_V rfl (congrArg Prod.fst (kf_6 X.1))) rfl H
/-- WarnLines.digest()J, from 22 -/
theorem S31_6_22 {X : Nat × (Int → Int)} {h : HP} {Q : bQ} (zx1 : aV) (x3 : Int) (s0 : Int) (s1 : Int) (H : ((R32 (x3 + 1)) ∧ Wp X 16 31 6 [vr 6, vl (w64 (s1 + s0)), vu, vi (x3 + 1), vu] [] h Q)) : Wp X 16 31 22 [vr 6, zx1, vu, vi x3, vu] [vi s0, vl s1] h Q := by
  refine wp_i2l rfl ?_
  refine wp_ladd rfl ?_
  refine wp_lstore (L2 := [vr 6, vl (w64 (s1 + s0)), vu, vi x3, vu]) rfl (Nat.le_of_ble_eq_true rfl) rfl ?_
  have g1 := H.1
  replace H := H.2
  refine wp_iincR (L2 := [vr 6, vl (w64 (s1 + s0)), vu, vi (x3 + 1), vu]) rfl rfl g1 rfl ?_
  refine wp_goto (tn := 6) rfl rfl ?_
  exact H
/-- WarnLines.digest()J, from 33 -/
theorem S31_6_33 {X : Nat × (Int → Int)} {h : HP} {Q : bQ} (x1 : Int) (x3 : Int) (H : ((2 ≤ x3 → Wp X 16 31 59 [vr 6, vl x1, vu, vi 0, vu] [] h Q) ∧ (x3 < 2 → Wp X 1 12 0 [vr 6, vi x3] [] h (fun v h' => Wp X 16 31 48 [vr 6, vl x1, vu, vi x3, vu] (psh v [vl (w64 (31 * x1))]) h' Q)))) : Wp X 16 31 33 [vr 6, vl x1, vu, vi x3, vu] [] h Q := by
  refine wp_iload rfl rfl ?_
  refine wp_iconst rfl ?_
  refine wp_icge (tn := 57) rfl rfl (fun c1 => ?_) (fun c1 => ?_)
  · replace H := H.1 c1
    refine wp_iconst rfl ?_
    refine wp_istore (L2 := [vr 6, vl x1, vu, vi 0, vu]) rfl (Nat.le_of_ble_eq_true rfl) rfl ?_
    exact H
  · replace H := H.2 c1
    refine wp_sipush rfl ?_
    refine wp_lload rfl rfl ?_
    refine wp_lmul rfl ?_
    refine wp_aload rfl rfl ?_
    refine wp_iload rfl rfl ?_
    exact wp_call (k := 12) (ρ2 := 1) (L2 := [vr 6, vi x3]) rfl rfl rfl (Nat.le_of_ble_eq_true rfl) (Nat.le_of_ble_eq_true rfl) (Nat.le_of_ble_eq_true rfl) (rcv_V rfl (congrArg Prod.fst (kf_6 X.1))) rfl H
/-- WarnLines.digest()J, from 48 -/
theorem S31_6_48 {X : Nat × (Int → Int)} {h : HP} {Q : bQ} (zx1 : aV) (x3 : Int) (s0 : Int) (s1 : Int) (H : ((R32 (x3 + 1)) ∧ Wp X 16 31 33 [vr 6, vl (w64 (s1 + s0)), vu, vi (x3 + 1), vu] [] h Q)) : Wp X 16 31 48 [vr 6, zx1, vu, vi x3, vu] [vi s0, vl s1] h Q := by
  refine wp_i2l rfl ?_
  refine wp_ladd rfl ?_
  refine wp_lstore (L2 := [vr 6, vl (w64 (s1 + s0)), vu, vi x3, vu]) rfl (Nat.le_of_ble_eq_true rfl) rfl ?_
  have g1 := H.1
  replace H := H.2
  refine wp_iincR (L2 := [vr 6, vl (w64 (s1 + s0)), vu, vi (x3 + 1), vu]) rfl rfl g1 rfl ?_
  refine wp_goto (tn := 33) rfl rfl ?_
  exact H
/-- WarnLines.digest()J, from 59 -/
theorem S31_6_59 {X : Nat × (Int → Int)} {h : HP} {Q : bQ} (x1 : Int) (x3 : Int) (H : ((2 ≤ x3 → Wp X 1 8 0 [vr 6] [] h (fun v h' => Wp X 16 31 105 [vr 6, vl x1, vu, vi x3, vu] (psh v [vl (w64 (31 * x1))]) h' Q)) ∧ (x3 < 2 → Wp X 2 7 0 [vr 6, vi x3, vi 0] [] h (fun v h' => Wp X 16 31 75 [vr 6, vl x1, vu, vi x3, vu] (psh v [vl (w64 (31 * x1))]) h' Q)))) : Wp X 16 31 59 [vr 6, vl x1, vu, vi x3, vu] [] h Q := by
  refine wp_iload rfl rfl ?_
  refine wp_iconst rfl ?_
  refine wp_icge (tn := 96) rfl rfl (fun c1 => ?_) (fun c1 => ?_)
  · replace H := H.1 c1
    refine wp_sipush rfl ?_
    refine wp_lload rfl rfl ?_
    refine wp_lmul rfl ?_
    refine wp_aload rfl rfl ?_
    exact wp_call (k := 8) (ρ2 := 1) (L2 := [vr 6]) rfl rfl rfl (Nat.le_of_ble_eq_true rfl) (Nat.le_of_ble_eq_true rfl) (Nat.le_of_ble_eq_true rfl) (rcv_V rfl (congrArg Prod.fst (kf_6 X.1))) rfl H
  · replace H := H.2 c1
    refine wp_sipush rfl ?_
    refine wp_lload rfl rfl ?_
    refine wp_lmul rfl ?_
    refine wp_aload rfl rfl ?_
    refine wp_iload rfl rfl ?_
    refine wp_iconst rfl ?_
    exact wp_call (k := 7) (ρ2 := 2) (L2 := [vr 6, vi x3, vi 0]) rfl rfl rfl (Nat.le_of_ble_eq_true rfl) (Nat.le_of_ble_eq_true rfl) (Nat.le_of_ble_eq_true rfl) (rcv_V rfl (congrArg Prod.fst (kf_6 X.1))) rfl H
/-- WarnLines.digest()J, from 75 -/
theorem S31_6_75 {X : Nat × (Int → Int)} {h : HP} {Q : bQ} (zx1 : aV) (x3 : Int) (s0 : Int) (s1 : Int) (H : Wp X 2 7 0 [vr 6, vi x3, vi 1] [] h (fun v h' => Wp X 16 31 88 [vr 6, vl (w64 (s1 + s0)), vu, vi x3, vu] (psh v [vl (w64 (31 * (w64 (s1 + s0))))]) h' Q)) : Wp X 16 31 75 [vr 6, zx1, vu, vi x3, vu] [vl s0, vl s1] h Q := by
  refine wp_ladd rfl ?_
  refine wp_lstore (L2 := [vr 6, vl (w64 (s1 + s0)), vu, vi x3, vu]) rfl (Nat.le_of_ble_eq_true rfl) rfl ?_
  refine wp_sipush rfl ?_
  refine wp_lload rfl rfl ?_
  refine wp_lmul rfl ?_
  refine wp_aload rfl rfl ?_
  refine wp_iload rfl rfl ?_
  refine wp_iconst rfl ?_
  exact wp_call (k := 7) (ρ2 := 2) (L2 := [vr 6, vi x3, vi 1]) rfl rfl rfl (Nat.le_of_ble_eq_true rfl) (Nat.le_of_ble_eq_true rfl) (Nat.le_of_ble_eq_true rfl) (rcv_V rfl (congrArg Prod.fst (kf_6 X.1))) rfl H
/-- WarnLines.digest()J, from 88 -/
theorem S31_6_88 {X : Nat × (Int → Int)} {h : HP} {Q : bQ} (zx1 : aV) (x3 : Int) (s0 : Int) (s1 : Int) (H : ((R32 (x3 + 1)) ∧ Wp X 16 31 59 [vr 6, vl (w64 (s1 + s0)), vu, vi (x3 + 1), vu] [] h Q)) : Wp X 16 31 88 [vr 6, zx1, vu, vi x3, vu] [vl s0, vl s1] h Q := by
  refine wp_ladd rfl ?_
  refine wp_lstore (L2 := [vr 6, vl (w64 (s1 + s0)), vu, vi x3, vu]) rfl (Nat.le_of_ble_eq_true rfl) rfl ?_
  have g1 := H.1
  replace H := H.2
  refine wp_iincR (L2 := [vr 6, vl (w64 (s1 + s0)), vu, vi (x3 + 1), vu]) rfl rfl g1 rfl ?_
  refine wp_goto (tn := 59) rfl rfl ?_
  exact H
/-- WarnLines.digest()J, from 105 -/
theorem S31_6_105 {X : Nat × (Int → Int)} {h : HP} {Q : bQ} (zx1 : aV) (zx3 : aV) (s0 : Int) (s1 : Int) (H : Wp X 16 31 110 [vr 6, vl (w64 (s1 + s0)), vu, vi 0, vu] [] h Q) : Wp X 16 31 105 [vr 6, zx1, vu, zx3, vu] [vi s0, vl s1] h Q := by
  refine wp_i2l rfl ?_
  refine wp_ladd rfl ?_
  refine wp_lstore (L2 := [vr 6, vl (w64 (s1 + s0)), vu, zx3, vu]) rfl (Nat.le_of_ble_eq_true rfl) rfl ?_
  refine wp_iconst rfl ?_
  refine wp_istore (L2 := [vr 6, vl (w64 (s1 + s0)), vu, vi 0, vu]) rfl (Nat.le_of_ble_eq_true rfl) rfl ?_
  exact H
/-- WarnLines.digest()J, from 110 -/
theorem S31_6_110 {X : Nat × (Int → Int)} {h : HP} {Q : bQ} (x1 : Int) (x3 : Int) (zx4 : aV) (H : (((h 8 8) ≤ x3 → Wp X 16 31 186 [vr 6, vl x1, vu, vi 0, zx4] [] h Q) ∧ (x3 < (h 8 8) → Wp X 3 9 0 [vr 6, vi x3, vi 2, vu] [] h (fun v h' => Wp X 16 31 132 [vr 6, vl x1, vu, vi x3, zx4] (psh v [vl (w64 (31 * x1))]) h' Q)))) : Wp X 16 31 110 [vr 6, vl x1, vu, vi x3, zx4] [] h Q := by
  refine wp_iload rfl rfl ?_
  refine wp_aload rfl rfl ?_
  refine wp_getR (r := 7) rfl (congrArg Prod.fst (kf_6 X.1)) rfl ?_
  refine wp_call (k := 142) (ρ2 := 0) (L2 := [vr 8]) rfl rfl rfl (Nat.le_of_ble_eq_true rfl) (Nat.le_of_ble_eq_true rfl) (Nat.le_of_ble_eq_true rfl) (rcv_V rfl (congrArg Prod.fst (kf_8 X.1))) rfl ?_
  refine wp_aload rfl rfl ?_
  refine wp_getI (j := 8) rfl (congrArg Prod.fst (kf_8 X.1)) rfl ?_
  refine wp_iret rfl rfl ?_
  show Wp X _ 31 118 [vr 6, vl x1, vu, vi x3, zx4] [vi (h 8 8), vi x3] _ _
  refine wp_icge (tn := 184) rfl rfl (fun c1 => ?_) (fun c1 => ?_)
  · replace H := H.1 c1
    refine wp_iconst rfl ?_
    refine wp_istore (L2 := [vr 6, vl x1, vu, vi 0, zx4]) rfl (Nat.le_of_ble_eq_true rfl) rfl ?_
    exact H
  · replace H := H.2 c1
    refine wp_sipush rfl ?_
    refine wp_lload rfl rfl ?_
    refine wp_lmul rfl ?_
    refine wp_aload rfl rfl ?_
    refine wp_iload rfl rfl ?_
    refine wp_iconst rfl ?_
    exact wp_call (k := 9) (ρ2 := 3) (L2 := [vr 6, vi x3, vi 2, vu]) rfl rfl rfl (Nat.le_of_ble_eq_true rfl) (Nat.le_of_ble_eq_true rfl) (Nat.le_of_ble_eq_true rfl) (rcv_V rfl (congrArg Prod.fst (kf_6 X.1))) rfl H
/-- WarnLines.digest()J, from 132 -/
theorem S31_6_132 {X : Nat × (Int → Int)} {h : HP} {Q : bQ} (zx1 : aV) (x3 : Int) (zx4 : aV) (s0 : Int) (s1 : Int) (H : Wp X 16 31 138 [vr 6, vl (w64 (s1 + s0)), vu, vi x3, vi 0] [] h Q) : Wp X 16 31 132 [vr 6, zx1, vu, vi x3, zx4] [vi s0, vl s1] h Q := by
  refine wp_i2l rfl ?_
  refine wp_ladd rfl ?_
  refine wp_lstore (L2 := [vr 6, vl (w64 (s1 + s0)), vu, vi x3, zx4]) rfl (Nat.le_of_ble_eq_true rfl) rfl ?_
  refine wp_iconst rfl ?_
  refine wp_istore (L2 := [vr 6, vl (w64 (s1 + s0)), vu, vi x3, vi 0]) rfl (Nat.le_of_ble_eq_true rfl) rfl ?_
  exact H
/-- WarnLines.digest()J, from 138 -/
theorem S31_6_138 {X : Nat × (Int → Int)} {h : HP} {Q : bQ} (x1 : Int) (x3 : Int) (x4 : Int) (H : ((2 ≤ x4 → Wp X 2 23 0 [vr 6, vi x3] [] h (fun v h' => Wp X 16 31 175 [vr 6, vl x1, vu, vi x3, vi x4] (psh v [vl (w64 (31 * x1))]) h' Q)) ∧ (x4 < 2 → Wp X 4 13 0 [vr 6, vi x4, vi x3] [] h (fun v h' => Wp X 16 31 156 [vr 6, vl x1, vu, vi x3, vi x4] (psh v [vl (w64 (31 * x1))]) h' Q)))) : Wp X 16 31 138 [vr 6, vl x1, vu, vi x3, vi x4] [] h Q := by
  refine wp_iload rfl rfl ?_
  refine wp_iconst rfl ?_
  refine wp_icge (tn := 165) rfl rfl (fun c1 => ?_) (fun c1 => ?_)
  · replace H := H.1 c1
    refine wp_sipush rfl ?_
    refine wp_lload rfl rfl ?_
    refine wp_lmul rfl ?_
    refine wp_aload rfl rfl ?_
    refine wp_iload rfl rfl ?_
    exact wp_call (k := 23) (ρ2 := 2) (L2 := [vr 6, vi x3]) rfl rfl rfl (Nat.le_of_ble_eq_true rfl) (Nat.le_of_ble_eq_true rfl) (Nat.le_of_ble_eq_true rfl) (rcv_V rfl (congrArg Prod.fst (kf_6 X.1))) rfl H
  · replace H := H.2 c1
    refine wp_sipush rfl ?_
    refine wp_lload rfl rfl ?_
    refine wp_lmul rfl ?_
    refine wp_aload rfl rfl ?_
    refine wp_iload rfl rfl ?_
    refine wp_iload rfl rfl ?_
    exact wp_call (k := 13) (ρ2 := 4) (L2 := [vr 6, vi x4, vi x3]) rfl rfl rfl (Nat.le_of_ble_eq_true rfl) (Nat.le_of_ble_eq_true rfl) (Nat.le_of_ble_eq_true rfl) (rcv_V rfl (congrArg Prod.fst (kf_6 X.1))) rfl H
/-- WarnLines.digest()J, from 156 -/
theorem S31_6_156 {X : Nat × (Int → Int)} {h : HP} {Q : bQ} (zx1 : aV) (x3 : Int) (x4 : Int) (s0 : Int) (s1 : Int) (H : ((R32 (x4 + 1)) ∧ Wp X 16 31 138 [vr 6, vl (w64 (s1 + s0)), vu, vi x3, vi (x4 + 1)] [] h Q)) : Wp X 16 31 156 [vr 6, zx1, vu, vi x3, vi x4] [vi s0, vl s1] h Q := by
  refine wp_i2l rfl ?_
  refine wp_ladd rfl ?_
  refine wp_lstore (L2 := [vr 6, vl (w64 (s1 + s0)), vu, vi x3, vi x4]) rfl (Nat.le_of_ble_eq_true rfl) rfl ?_
  have g1 := H.1
  replace H := H.2
  refine wp_iincR (L2 := [vr 6, vl (w64 (s1 + s0)), vu, vi x3, vi (x4 + 1)]) rfl rfl g1 rfl ?_
  refine wp_goto (tn := 138) rfl rfl ?_
  exact H
/-- WarnLines.digest()J, from 175 -/
theorem S31_6_175 {X : Nat × (Int → Int)} {h : HP} {Q : bQ} (zx1 : aV) (x3 : Int) (zx4 : aV) (s0 : Int) (s1 : Int) (H : ((R32 (x3 + 1)) ∧ Wp X 16 31 110 [vr 6, vl (w64 (s1 + s0)), vu, vi (x3 + 1), zx4] [] h Q)) : Wp X 16 31 175 [vr 6, zx1, vu, vi x3, zx4] [vi s0, vl s1] h Q := by
  refine wp_i2l rfl ?_
  refine wp_ladd rfl ?_
  refine wp_lstore (L2 := [vr 6, vl (w64 (s1 + s0)), vu, vi x3, zx4]) rfl (Nat.le_of_ble_eq_true rfl) rfl ?_
  have g1 := H.1
  replace H := H.2
  refine wp_iincR (L2 := [vr 6, vl (w64 (s1 + s0)), vu, vi (x3 + 1), zx4]) rfl rfl g1 rfl ?_
  refine wp_goto (tn := 110) rfl rfl ?_
  exact H
/-- WarnLines.digest()J, from 186 -/
theorem S31_6_186 {X : Nat × (Int → Int)} {h : HP} {Q : bQ} (x1 : Int) (x3 : Int) (zx4 : aV) (H : ((2 ≤ x3 → Wp X 16 31 272 [vr 6, vl x1, vu, vi 0, zx4] [] h Q) ∧ (x3 < 2 → Wp X 15 14 0 [vr 6, vi x3, vi 0] [] h (fun v h' => Wp X 16 31 202 [vr 6, vl x1, vu, vi x3, zx4] (psh v [vl (w64 (31 * x1))]) h' Q)))) : Wp X 16 31 186 [vr 6, vl x1, vu, vi x3, zx4] [] h Q := by
  refine wp_iload rfl rfl ?_
  refine wp_iconst rfl ?_
  refine wp_icge (tn := 270) rfl rfl (fun c1 => ?_) (fun c1 => ?_)
  · replace H := H.1 c1
    refine wp_iconst rfl ?_
    refine wp_istore (L2 := [vr 6, vl x1, vu, vi 0, zx4]) rfl (Nat.le_of_ble_eq_true rfl) rfl ?_
    exact H
  · replace H := H.2 c1
    refine wp_sipush rfl ?_
    refine wp_lload rfl rfl ?_
    refine wp_lmul rfl ?_
    refine wp_aload rfl rfl ?_
    refine wp_iload rfl rfl ?_
    refine wp_iconst rfl ?_
    exact wp_call (k := 14) (ρ2 := 15) (L2 := [vr 6, vi x3, vi 0]) rfl rfl rfl (Nat.le_of_ble_eq_true rfl) (Nat.le_of_ble_eq_true rfl) (Nat.le_of_ble_eq_true rfl) (rcv_V rfl (congrArg Prod.fst (kf_6 X.1))) rfl H
/-- WarnLines.digest()J, from 202 -/
theorem S31_6_202 {X : Nat × (Int → Int)} {h : HP} {Q : bQ} (zx1 : aV) (x3 : Int) (zx4 : aV) (s0 : Int) (s1 : Int) (H : Wp X 15 14 0 [vr 6, vi x3, vi 1] [] h (fun v h' => Wp X 16 31 216 [vr 6, vl (w64 (s1 + s0)), vu, vi x3, zx4] (psh v [vl (w64 (31 * (w64 (s1 + s0))))]) h' Q)) : Wp X 16 31 202 [vr 6, zx1, vu, vi x3, zx4] [vi s0, vl s1] h Q := by
  refine wp_i2l rfl ?_
  refine wp_ladd rfl ?_
  refine wp_lstore (L2 := [vr 6, vl (w64 (s1 + s0)), vu, vi x3, zx4]) rfl (Nat.le_of_ble_eq_true rfl) rfl ?_
  refine wp_sipush rfl ?_
  refine wp_lload rfl rfl ?_
  refine wp_lmul rfl ?_
  refine wp_aload rfl rfl ?_
  refine wp_iload rfl rfl ?_
  refine wp_iconst rfl ?_
  exact wp_call (k := 14) (ρ2 := 15) (L2 := [vr 6, vi x3, vi 1]) rfl rfl rfl (Nat.le_of_ble_eq_true rfl) (Nat.le_of_ble_eq_true rfl) (Nat.le_of_ble_eq_true rfl) (rcv_V rfl (congrArg Prod.fst (kf_6 X.1))) rfl H
/-- WarnLines.digest()J, from 216 -/
theorem S31_6_216 {X : Nat × (Int → Int)} {h : HP} {Q : bQ} (zx1 : aV) (x3 : Int) (zx4 : aV) (s0 : Int) (s1 : Int) (H : Wp X 4 17 0 [vr 6, vi x3, vi 4, vi 1, vi 0, vi 0] [] h (fun v h' => Wp X 16 31 233 [vr 6, vl (w64 (s1 + s0)), vu, vi x3, zx4] (psh v [vl (w64 (31 * (w64 (s1 + s0))))]) h' Q)) : Wp X 16 31 216 [vr 6, zx1, vu, vi x3, zx4] [vi s0, vl s1] h Q := by
  refine wp_i2l rfl ?_
  refine wp_ladd rfl ?_
  refine wp_lstore (L2 := [vr 6, vl (w64 (s1 + s0)), vu, vi x3, zx4]) rfl (Nat.le_of_ble_eq_true rfl) rfl ?_
  refine wp_sipush rfl ?_
  refine wp_lload rfl rfl ?_
  refine wp_lmul rfl ?_
  refine wp_aload rfl rfl ?_
  refine wp_iload rfl rfl ?_
  refine wp_iconst rfl ?_
  refine wp_iconst rfl ?_
  refine wp_iconst rfl ?_
  refine wp_iconst rfl ?_
  exact wp_call (k := 17) (ρ2 := 4) (L2 := [vr 6, vi x3, vi 4, vi 1, vi 0, vi 0]) rfl rfl rfl (Nat.le_of_ble_eq_true rfl) (Nat.le_of_ble_eq_true rfl) (Nat.le_of_ble_eq_true rfl) (rcv_V rfl (congrArg Prod.fst (kf_6 X.1))) rfl H
/-- WarnLines.digest()J, from 233 -/
theorem S31_6_233 {X : Nat × (Int → Int)} {h : HP} {Q : bQ} (zx1 : aV) (x3 : Int) (zx4 : aV) (s0 : Int) (s1 : Int) (H : Wp X 4 17 0 [vr 6, vi x3, vi 4, vi 1, vi 0, vi 1] [] h (fun v h' => Wp X 16 31 249 [vr 6, vl (w64 (s1 + s0)), vu, vi x3, zx4] (psh v [vl (w64 (31 * (w64 (s1 + s0))))]) h' Q)) : Wp X 16 31 233 [vr 6, zx1, vu, vi x3, zx4] [vl s0, vl s1] h Q := by
  refine wp_ladd rfl ?_
  refine wp_lstore (L2 := [vr 6, vl (w64 (s1 + s0)), vu, vi x3, zx4]) rfl (Nat.le_of_ble_eq_true rfl) rfl ?_
  refine wp_sipush rfl ?_
  refine wp_lload rfl rfl ?_
  refine wp_lmul rfl ?_
  refine wp_aload rfl rfl ?_
  refine wp_iload rfl rfl ?_
  refine wp_iconst rfl ?_
  refine wp_iconst rfl ?_
  refine wp_iconst rfl ?_
  refine wp_iconst rfl ?_
  exact wp_call (k := 17) (ρ2 := 4) (L2 := [vr 6, vi x3, vi 4, vi 1, vi 0, vi 1]) rfl rfl rfl (Nat.le_of_ble_eq_true rfl) (Nat.le_of_ble_eq_true rfl) (Nat.le_of_ble_eq_true rfl) (rcv_V rfl (congrArg Prod.fst (kf_6 X.1))) rfl H
/-- WarnLines.digest()J, from 249 -/
theorem S31_6_249 {X : Nat × (Int → Int)} {h : HP} {Q : bQ} (zx1 : aV) (x3 : Int) (zx4 : aV) (s0 : Int) (s1 : Int) (H : Wp X 5 22 0 [vr 6, vi x3, vu, vu, vu, vu] [] h (fun v h' => Wp X 16 31 261 [vr 6, vl (w64 (s1 + s0)), vu, vi x3, zx4] (psh v [vl (w64 (31 * (w64 (s1 + s0))))]) h' Q)) : Wp X 16 31 249 [vr 6, zx1, vu, vi x3, zx4] [vl s0, vl s1] h Q := by
  refine wp_ladd rfl ?_
  refine wp_lstore (L2 := [vr 6, vl (w64 (s1 + s0)), vu, vi x3, zx4]) rfl (Nat.le_of_ble_eq_true rfl) rfl ?_
  refine wp_sipush rfl ?_
  refine wp_lload rfl rfl ?_
  refine wp_lmul rfl ?_
  refine wp_aload rfl rfl ?_
  refine wp_iload rfl rfl ?_
  exact wp_call (k := 22) (ρ2 := 5) (L2 := [vr 6, vi x3, vu, vu, vu, vu]) rfl rfl rfl (Nat.le_of_ble_eq_true rfl) (Nat.le_of_ble_eq_true rfl) (Nat.le_of_ble_eq_true rfl) (rcv_V rfl (congrArg Prod.fst (kf_6 X.1))) rfl H
/-- WarnLines.digest()J, from 261 -/
theorem S31_6_261 {X : Nat × (Int → Int)} {h : HP} {Q : bQ} (zx1 : aV) (x3 : Int) (zx4 : aV) (s0 : Int) (s1 : Int) (H : ((R32 (x3 + 1)) ∧ Wp X 16 31 186 [vr 6, vl (w64 (s1 + s0)), vu, vi (x3 + 1), zx4] [] h Q)) : Wp X 16 31 261 [vr 6, zx1, vu, vi x3, zx4] [vi s0, vl s1] h Q := by
  refine wp_i2l rfl ?_
  refine wp_ladd rfl ?_
  refine wp_lstore (L2 := [vr 6, vl (w64 (s1 + s0)), vu, vi x3, zx4]) rfl (Nat.le_of_ble_eq_true rfl) rfl ?_
  have g1 := H.1
  replace H := H.2
  refine wp_iincR (L2 := [vr 6, vl (w64 (s1 + s0)), vu, vi (x3 + 1), zx4]) rfl rfl g1 rfl ?_
  refine wp_goto (tn := 186) rfl rfl ?_
  exact H
/-- WarnLines.digest()J, from 272 -/
theorem S31_6_272 {X : Nat × (Int → Int)} {h : HP} {Q : bQ} (x1 : Int) (x3 : Int) (zx4 : aV) (H : ((4 ≤ x3 → Q (some (vl x1)) h) ∧ (x3 < 4 → Wp X 3 20 0 [vr 6, vi x3, vu, vu, vu, vu] [] h (fun v h' => Wp X 16 31 287 [vr 6, vl x1, vu, vi x3, zx4] (psh v [vl (w64 (31 * x1))]) h' Q)))) : Wp X 16 31 272 [vr 6, vl x1, vu, vi x3, zx4] [] h Q := by
  refine wp_iload rfl rfl ?_
  refine wp_iconst rfl ?_
  refine wp_icge (tn := 296) rfl rfl (fun c1 => ?_) (fun c1 => ?_)
  · replace H := H.1 c1
    refine wp_lload rfl rfl ?_
    exact wp_lret rfl rfl H
  · replace H := H.2 c1
    refine wp_sipush rfl ?_
    refine wp_lload rfl rfl ?_
    refine wp_lmul rfl ?_
    refine wp_aload rfl rfl ?_
    refine wp_iload rfl rfl ?_
    exact wp_call (k := 20) (ρ2 := 3) (L2 := [vr 6, vi x3, vu, vu, vu, vu]) rfl rfl rfl (Nat.le_of_ble_eq_true rfl) (Nat.le_of_ble_eq_true rfl) (Nat.le_of_ble_eq_true rfl) (rcv_V rfl (congrArg Prod.fst (kf_6 X.1))) rfl H
/-- WarnLines.digest()J, from 287 -/
theorem S31_6_287 {X : Nat × (Int → Int)} {h : HP} {Q : bQ} (zx1 : aV) (x3 : Int) (zx4 : aV) (s0 : Int) (s1 : Int) (H : ((R32 (x3 + 1)) ∧ Wp X 16 31 272 [vr 6, vl (w64 (s1 + s0)), vu, vi (x3 + 1), zx4] [] h Q)) : Wp X 16 31 287 [vr 6, zx1, vu, vi x3, zx4] [vi s0, vl s1] h Q := by
  refine wp_i2l rfl ?_
  refine wp_ladd rfl ?_
  refine wp_lstore (L2 := [vr 6, vl (w64 (s1 + s0)), vu, vi x3, zx4]) rfl (Nat.le_of_ble_eq_true rfl) rfl ?_
  have g1 := H.1
  replace H := H.2
  refine wp_iincR (L2 := [vr 6, vl (w64 (s1 + s0)), vu, vi (x3 + 1), zx4]) rfl rfl g1 rfl ?_
  refine wp_goto (tn := 272) rfl rfl ?_
  exact H
/-- WarnLines.reckon()V, from 0 -/
theorem S32_6_0 {X : Nat × (Int → Int)} {h : HP} {Q : bQ}  (H : Wp X 2 154 0 [vr 8, vi (h 7 3), vu] [] h (fun v h' => Wp X 5 32 13 [vr 6, vu] (psh v []) h' Q)) : Wp X 5 32 0 [vr 6, vu] [] h Q := by
  refine wp_aload rfl rfl ?_
  refine wp_getR (r := 7) rfl (congrArg Prod.fst (kf_6 X.1)) rfl ?_
  refine wp_aload rfl rfl ?_
  refine wp_getR (r := 6) rfl (congrArg Prod.fst (kf_6 X.1)) rfl ?_
  refine wp_iconst rfl ?_
  refine wp_iaload rfl (kf_7 X.1) (by decide) ?_
  exact wp_call (k := 154) (ρ2 := 2) (L2 := [vr 8, vi (h 7 3), vu]) rfl rfl rfl (Nat.le_of_ble_eq_true rfl) (Nat.le_of_ble_eq_true rfl) (Nat.le_of_ble_eq_true rfl) (rcv_V rfl (congrArg Prod.fst (kf_8 X.1))) rfl H
/-- WarnLines.reckon()V, from 13 -/
theorem S32_6_13 {X : Nat × (Int → Int)} {h : HP} {Q : bQ}  (H : Wp X 4 165 0 [vr 36, vr 8, vi (h 7 0), vi (h 7 1), vi (h 7 2), vu, vu] [] h (fun v h' => Wp X 5 32 42 [vr 6, vu] (psh v []) h' Q)) : Wp X 5 32 13 [vr 6, vu] [] h Q := by
  refine wp_aload rfl rfl ?_
  refine wp_getR (r := 35) rfl (congrArg Prod.fst (kf_6 X.1)) rfl ?_
  refine wp_aload rfl rfl ?_
  refine wp_getR (r := 7) rfl (congrArg Prod.fst (kf_6 X.1)) rfl ?_
  refine wp_aload rfl rfl ?_
  refine wp_getR (r := 6) rfl (congrArg Prod.fst (kf_6 X.1)) rfl ?_
  refine wp_iconst rfl ?_
  refine wp_iaload rfl (kf_7 X.1) (by decide) ?_
  refine wp_aload rfl rfl ?_
  refine wp_getR (r := 6) rfl (congrArg Prod.fst (kf_6 X.1)) rfl ?_
  refine wp_iconst rfl ?_
  refine wp_iaload rfl (kf_7 X.1) (by decide) ?_
  refine wp_aload rfl rfl ?_
  refine wp_getR (r := 6) rfl (congrArg Prod.fst (kf_6 X.1)) rfl ?_
  refine wp_iconst rfl ?_
  refine wp_iaload rfl (kf_7 X.1) (by decide) ?_
  exact wp_call (k := 165) (ρ2 := 4) (L2 := [vr 36, vr 8, vi (h 7 0), vi (h 7 1), vi (h 7 2), vu, vu]) rfl rfl rfl (Nat.le_of_ble_eq_true rfl) (Nat.le_of_ble_eq_true rfl) (Nat.le_of_ble_eq_true rfl) (rcv_V rfl (congrArg Prod.fst (kf_36 X.1))) rfl H
/-- WarnLines.reckon()V, from 42 -/
theorem S32_6_42 {X : Nat × (Int → Int)} {h : HP} {Q : bQ}  (H : Wp X 5 32 51 [vr 6, vi 0] [] (upd2 h 37 6 0) Q) : Wp X 5 32 42 [vr 6, vu] [] h Q := by
  refine wp_aload rfl rfl ?_
  refine wp_getR (r := 36) rfl (congrArg Prod.fst (kf_6 X.1)) rfl ?_
  refine wp_call (k := 196) (ρ2 := 0) (L2 := [vr 37]) rfl rfl rfl (Nat.le_of_ble_eq_true rfl) (Nat.le_of_ble_eq_true rfl) (Nat.le_of_ble_eq_true rfl) (rcv_V rfl (congrArg Prod.fst (kf_37 X.1))) rfl ?_
  refine wp_aload rfl rfl ?_
  refine wp_iconst rfl ?_
  refine wp_putI (j := 6) rfl (congrArg Prod.fst (kf_37 X.1)) rfl rfl rfl ?_
  refine wp_vret rfl rfl ?_
  show Wp X _ 32 49 [vr 6, vu] [] _ _
  refine wp_iconst rfl ?_
  refine wp_istore (L2 := [vr 6, vi 0]) rfl (Nat.le_of_ble_eq_true rfl) rfl ?_
  exact H
/-- WarnLines.reckon()V, from 51 -/
theorem S32_6_51 {X : Nat × (Int → Int)} {h : HP} {Q : bQ} (x1 : Int) (H : (((h 8 8) ≤ x1 → Q none h) ∧ (x1 < (h 8 8) → ((x1 < 0 → Wp X 5 32 104 [vr 6, vi x1] [] h Q) ∧ (0 ≤ x1 → ((0 ≤ x1 ∧ x1 < 20) ∧ (((h 34 x1) ≠ (-1) → Wp X 2 172 0 [vr 36, vi (h 34 x1), vu, vu] [] h (fun v h' => Wp X 5 32 101 [vr 6, vi x1] (psh v [vi (h 34 x1), vi x1, vr 37]) h' Q)) ∧ ((h 34 x1) = (-1) → Wp X 5 32 104 [vr 6, vi x1] [] h Q)))))))) : Wp X 5 32 51 [vr 6, vi x1] [] h Q := by
  refine wp_iload rfl rfl ?_
  refine wp_aload rfl rfl ?_
  refine wp_getR (r := 7) rfl (congrArg Prod.fst (kf_6 X.1)) rfl ?_
  refine wp_call (k := 142) (ρ2 := 0) (L2 := [vr 8]) rfl rfl rfl (Nat.le_of_ble_eq_true rfl) (Nat.le_of_ble_eq_true rfl) (Nat.le_of_ble_eq_true rfl) (rcv_V rfl (congrArg Prod.fst (kf_8 X.1))) rfl ?_
  refine wp_aload rfl rfl ?_
  refine wp_getI (j := 8) rfl (congrArg Prod.fst (kf_8 X.1)) rfl ?_
  refine wp_iret rfl rfl ?_
  show Wp X _ 32 59 [vr 6, vi x1] [vi (h 8 8), vi x1] _ _
  refine wp_icge (tn := 110) rfl rfl (fun c1 => ?_) (fun c1 => ?_)
  · replace H := H.1 c1
    exact wp_vret rfl rfl H
  · replace H := H.2 c1
    refine wp_aload rfl rfl ?_
    refine wp_getR (r := 7) rfl (congrArg Prod.fst (kf_6 X.1)) rfl ?_
    refine wp_iload rfl rfl ?_
    refine wp_call (k := 149) (ρ2 := 1) (L2 := [vr 8, vi x1]) rfl rfl rfl (Nat.le_of_ble_eq_true rfl) (Nat.le_of_ble_eq_true rfl) (Nat.le_of_ble_eq_true rfl) (rcv_V rfl (congrArg Prod.fst (kf_8 X.1))) rfl ?_
    refine wp_aload rfl rfl ?_
    refine wp_iload rfl rfl ?_
    refine wp_call (k := 145) (ρ2 := 0) (L2 := [vr 8, vi x1]) rfl rfl rfl (Nat.le_of_ble_eq_true rfl) (Nat.le_of_ble_eq_true rfl) (Nat.le_of_ble_eq_true rfl) (rcv_V rfl (congrArg Prod.fst (kf_8 X.1))) rfl ?_
    refine wp_iload rfl rfl ?_
    refine wp_iflt (tn := 16) rfl rfl (fun c2 => ?_) (fun c2 => ?_)
    · replace H := H.1 c2
      refine wp_iconst rfl ?_
      refine wp_zret rfl rfl (by decide) ?_
      show Wp X _ 149 5 [vr 8, vi x1] [vi 0] _ _
      refine wp_ifeqT (tn := 18) rfl rfl (by decide) ?_
      refine wp_iconst rfl ?_
      refine wp_goto (tn := 23) rfl rfl ?_
      refine wp_zret rfl rfl (by decide) ?_
      show Wp X _ 32 70 [vr 6, vi x1] [vi 1] _ _
      refine wp_ifneT (tn := 104) rfl rfl (by decide) ?_
      exact H
    · replace H := H.2 c2
      refine wp_iload rfl rfl ?_
      refine wp_aload rfl rfl ?_
      refine wp_getI (j := 8) rfl (congrArg Prod.fst (kf_8 X.1)) rfl ?_
      refine wp_icgeF (tn := 16) rfl rfl c1 ?_
      refine wp_iconst rfl ?_
      refine wp_goto (tn := 17) rfl rfl ?_
      refine wp_zret rfl rfl (by decide) ?_
      show Wp X _ 149 5 [vr 8, vi x1] [vi 1] _ _
      refine wp_ifeqF (tn := 18) rfl rfl (by decide) ?_
      refine wp_aload rfl rfl ?_
      refine wp_getR (r := 33) rfl (congrArg Prod.fst (kf_8 X.1)) rfl ?_
      refine wp_iload rfl rfl ?_
      have g3 := H.1
      replace H := H.2
      refine wp_iaload rfl (kf_34 X.1) g3 ?_
      refine wp_iconst rfl ?_
      refine wp_icne (tn := 22) rfl rfl (fun c4 => ?_) (fun c4 => ?_)
      · replace H := H.1 c4
        refine wp_iconst rfl ?_
        refine wp_zret rfl rfl (by decide) ?_
        show Wp X _ 32 70 [vr 6, vi x1] [vi 0] _ _
        refine wp_ifneF (tn := 104) rfl rfl (by decide) ?_
        refine wp_aload rfl rfl ?_
        refine wp_getR (r := 36) rfl (congrArg Prod.fst (kf_6 X.1)) rfl ?_
        refine wp_iload rfl rfl ?_
        refine wp_aload rfl rfl ?_
        refine wp_getR (r := 7) rfl (congrArg Prod.fst (kf_6 X.1)) rfl ?_
        refine wp_iload rfl rfl ?_
        refine wp_call (k := 150) (ρ2 := 1) (L2 := [vr 8, vi x1]) rfl rfl rfl (Nat.le_of_ble_eq_true rfl) (Nat.le_of_ble_eq_true rfl) (Nat.le_of_ble_eq_true rfl) (rcv_V rfl (congrArg Prod.fst (kf_8 X.1))) rfl ?_
        refine wp_aload rfl rfl ?_
        refine wp_iload rfl rfl ?_
        refine wp_call (k := 145) (ρ2 := 0) (L2 := [vr 8, vi x1]) rfl rfl rfl (Nat.le_of_ble_eq_true rfl) (Nat.le_of_ble_eq_true rfl) (Nat.le_of_ble_eq_true rfl) (rcv_V rfl (congrArg Prod.fst (kf_8 X.1))) rfl ?_
        refine wp_iload rfl rfl ?_
        refine wp_ifltF (tn := 16) rfl rfl g3.1 ?_
        refine wp_iload rfl rfl ?_
        refine wp_aload rfl rfl ?_
        refine wp_getI (j := 8) rfl (congrArg Prod.fst (kf_8 X.1)) rfl ?_
        refine wp_icgeF (tn := 16) rfl rfl c1 ?_
        refine wp_iconst rfl ?_
        refine wp_goto (tn := 17) rfl rfl ?_
        refine wp_zret rfl rfl (by decide) ?_
        show Wp X _ 150 5 [vr 8, vi x1] [vi 1] _ _
        refine wp_ifeqF (tn := 17) rfl rfl (by decide) ?_
        refine wp_aload rfl rfl ?_
        refine wp_getR (r := 33) rfl (congrArg Prod.fst (kf_8 X.1)) rfl ?_
        refine wp_iload rfl rfl ?_
        refine wp_iaload rfl (kf_34 X.1) ⟨g3.1, g3.2⟩ ?_
        refine wp_goto (tn := 18) rfl rfl ?_
        refine wp_iret rfl rfl ?_
        show Wp X _ 32 86 [vr 6, vi x1] [vi (h 34 x1), vi x1, vr 37] _ _
        refine wp_aload rfl rfl ?_
        refine wp_getR (r := 35) rfl (congrArg Prod.fst (kf_6 X.1)) rfl ?_
        refine wp_aload rfl rfl ?_
        refine wp_getR (r := 7) rfl (congrArg Prod.fst (kf_6 X.1)) rfl ?_
        refine wp_iload rfl rfl ?_
        refine wp_call (k := 150) (ρ2 := 1) (L2 := [vr 8, vi x1]) rfl rfl rfl (Nat.le_of_ble_eq_true rfl) (Nat.le_of_ble_eq_true rfl) (Nat.le_of_ble_eq_true rfl) (rcv_V rfl (congrArg Prod.fst (kf_8 X.1))) rfl ?_
        refine wp_aload rfl rfl ?_
        refine wp_iload rfl rfl ?_
        refine wp_call (k := 145) (ρ2 := 0) (L2 := [vr 8, vi x1]) rfl rfl rfl (Nat.le_of_ble_eq_true rfl) (Nat.le_of_ble_eq_true rfl) (Nat.le_of_ble_eq_true rfl) (rcv_V rfl (congrArg Prod.fst (kf_8 X.1))) rfl ?_
        refine wp_iload rfl rfl ?_
        refine wp_ifltF (tn := 16) rfl rfl g3.1 ?_
        refine wp_iload rfl rfl ?_
        refine wp_aload rfl rfl ?_
        refine wp_getI (j := 8) rfl (congrArg Prod.fst (kf_8 X.1)) rfl ?_
        refine wp_icgeF (tn := 16) rfl rfl c1 ?_
        refine wp_iconst rfl ?_
        refine wp_goto (tn := 17) rfl rfl ?_
        refine wp_zret rfl rfl (by decide) ?_
        show Wp X _ 150 5 [vr 8, vi x1] [vi 1] _ _
        refine wp_ifeqF (tn := 17) rfl rfl (by decide) ?_
        refine wp_aload rfl rfl ?_
        refine wp_getR (r := 33) rfl (congrArg Prod.fst (kf_8 X.1)) rfl ?_
        refine wp_iload rfl rfl ?_
        refine wp_iaload rfl (kf_34 X.1) ⟨g3.1, g3.2⟩ ?_
        refine wp_goto (tn := 18) rfl rfl ?_
        refine wp_iret rfl rfl ?_
        show Wp X _ 32 98 [vr 6, vi x1] [vi (h 34 x1), vr 36, vi (h 34 x1), vi x1, vr 37] _ _
        exact wp_call (k := 172) (ρ2 := 2) (L2 := [vr 36, vi (h 34 x1), vu, vu]) rfl rfl rfl (Nat.le_of_ble_eq_true rfl) (Nat.le_of_ble_eq_true rfl) (Nat.le_of_ble_eq_true rfl) (rcv_V rfl (congrArg Prod.fst (kf_36 X.1))) rfl H
      · replace H := H.2 c4
        refine wp_iconst rfl ?_
        refine wp_goto (tn := 23) rfl rfl ?_
        refine wp_zret rfl rfl (by decide) ?_
        show Wp X _ 32 70 [vr 6, vi x1] [vi 1] _ _
        refine wp_ifneT (tn := 104) rfl rfl (by decide) ?_
        exact H
/-- WarnLines.reckon()V, from 101 -/
theorem S32_6_101 {X : Nat × (Int → Int)} {h : HP} {Q : bQ} (x1 : Int) (s0 : Int) (s1 : Int) (s2 : Int) (H : Wp X 0 198 0 [vr 37, vi s2, vi s1, vi s0, vu, vu] [] h (fun v h' => Wp X 5 32 104 [vr 6, vi x1] (psh v []) h' Q)) : Wp X 5 32 101 [vr 6, vi x1] [vi s0, vi s1, vi s2, vr 37] h Q := by
  exact wp_call (k := 198) (ρ2 := 0) (L2 := [vr 37, vi s2, vi s1, vi s0, vu, vu]) rfl rfl rfl (Nat.le_of_ble_eq_true rfl) (Nat.le_of_ble_eq_true rfl) (Nat.le_of_ble_eq_true rfl) (rcv_V rfl (congrArg Prod.fst (kf_37 X.1))) rfl H
/-- WarnLines.reckon()V, from 104 -/
theorem S32_6_104 {X : Nat × (Int → Int)} {h : HP} {Q : bQ} (x1 : Int) (H : ((R32 (x1 + 1)) ∧ Wp X 5 32 51 [vr 6, vi (x1 + 1)] [] h Q)) : Wp X 5 32 104 [vr 6, vi x1] [] h Q := by
  have g1 := H.1
  replace H := H.2
  refine wp_iincR (L2 := [vr 6, vi (x1 + 1)]) rfl rfl g1 rfl ?_
  refine wp_goto (tn := 51) rfl rfl ?_
  exact H
/-- WarnLines.firstWarned(L$RuleText;)I, from 0 -/
theorem S34_6_45_0 {X : Nat × (Int → Int)} {h : HP} {Q : bQ}  (H : Wp X 4 34 2 [vr 6, vr 45, vi 0] [] h Q) : Wp X 4 34 0 [vr 6, vr 45, vu] [] h Q := by
  refine wp_iconst rfl ?_
  refine wp_istore (L2 := [vr 6, vr 45, vi 0]) rfl (Nat.le_of_ble_eq_true rfl) rfl ?_
  exact H
/-- WarnLines.firstWarned(L$RuleText;)I, from 2 -/
theorem S34_6_45_2 {X : Nat × (Int → Int)} {h : HP} {Q : bQ} (x2 : Int) (H : (((h 37 6) ≤ x2 → Q (some (vi (-1))) h) ∧ (x2 < (h 37 6) → Wp X 3 208 0 [vr 45, vr 37, vi x2] [] h (fun v h' => Wp X 4 34 22 [vr 6, vr 45, vi x2] (psh v []) h' Q)))) : Wp X 4 34 2 [vr 6, vr 45, vi x2] [] h Q := by
  refine wp_iload rfl rfl ?_
  refine wp_aload rfl rfl ?_
  refine wp_getR (r := 36) rfl (congrArg Prod.fst (kf_6 X.1)) rfl ?_
  refine wp_call (k := 188) (ρ2 := 0) (L2 := [vr 37]) rfl rfl rfl (Nat.le_of_ble_eq_true rfl) (Nat.le_of_ble_eq_true rfl) (Nat.le_of_ble_eq_true rfl) (rcv_V rfl (congrArg Prod.fst (kf_37 X.1))) rfl ?_
  refine wp_aload rfl rfl ?_
  refine wp_getI (j := 6) rfl (congrArg Prod.fst (kf_37 X.1)) rfl ?_
  refine wp_iret rfl rfl ?_
  show Wp X _ 34 10 [vr 6, vr 45, vi x2] [vi (h 37 6), vi x2] _ _
  refine wp_icge (tn := 40) rfl rfl (fun c1 => ?_) (fun c1 => ?_)
  · replace H := H.1 c1
    refine wp_iconst rfl ?_
    exact wp_iret rfl rfl H
  · replace H := H.2 c1
    refine wp_aload rfl rfl ?_
    refine wp_aload rfl rfl ?_
    refine wp_getR (r := 36) rfl (congrArg Prod.fst (kf_6 X.1)) rfl ?_
    refine wp_iload rfl rfl ?_
    exact wp_call (k := 208) (ρ2 := 3) (L2 := [vr 45, vr 37, vi x2]) rfl rfl rfl (Nat.le_of_ble_eq_true rfl) (Nat.le_of_ble_eq_true rfl) (Nat.le_of_ble_eq_true rfl) (rcv_V rfl (congrArg Prod.fst (kf_45 X.1))) rfl H
/-- WarnLines.firstWarned(L$RuleText;)I, from 22 -/
theorem S34_6_45_22 {X : Nat × (Int → Int)} {h : HP} {Q : bQ} (x2 : Int) (s0 : Int) (H : ((s0 = 0 → ((R32 (x2 + 1)) ∧ Wp X 4 34 2 [vr 6, vr 45, vi (x2 + 1)] [] h Q)) ∧ (s0 ≠ 0 → ((x2 < 0 → Q (some (vi (-1))) h) ∧ (0 ≤ x2 → (((h 37 6) ≤ x2 → Q (some (vi (-1))) h) ∧ (x2 < (h 37 6) → ((0 ≤ x2 ∧ x2 < 20) ∧ Q (some (vi (h 38 x2))) h)))))))) : Wp X 4 34 22 [vr 6, vr 45, vi x2] [vi s0] h Q := by
  refine wp_ifeq (tn := 34) rfl rfl (fun c1 => ?_) (fun c1 => ?_)
  · replace H := H.1 c1
    have g2 := H.1
    replace H := H.2
    refine wp_iincR (L2 := [vr 6, vr 45, vi (x2 + 1)]) rfl rfl g2 rfl ?_
    refine wp_goto (tn := 2) rfl rfl ?_
    exact H
  · replace H := H.2 c1
    refine wp_aload rfl rfl ?_
    refine wp_getR (r := 36) rfl (congrArg Prod.fst (kf_6 X.1)) rfl ?_
    refine wp_iload rfl rfl ?_
    refine wp_call (k := 190) (ρ2 := 1) (L2 := [vr 37, vi x2]) rfl rfl rfl (Nat.le_of_ble_eq_true rfl) (Nat.le_of_ble_eq_true rfl) (Nat.le_of_ble_eq_true rfl) (rcv_V rfl (congrArg Prod.fst (kf_37 X.1))) rfl ?_
    refine wp_aload rfl rfl ?_
    refine wp_iload rfl rfl ?_
    refine wp_call (k := 189) (ρ2 := 0) (L2 := [vr 37, vi x2]) rfl rfl rfl (Nat.le_of_ble_eq_true rfl) (Nat.le_of_ble_eq_true rfl) (Nat.le_of_ble_eq_true rfl) (rcv_V rfl (congrArg Prod.fst (kf_37 X.1))) rfl ?_
    refine wp_iload rfl rfl ?_
    refine wp_iflt (tn := 16) rfl rfl (fun c3 => ?_) (fun c3 => ?_)
    · replace H := H.1 c3
      refine wp_iconst rfl ?_
      refine wp_zret rfl rfl (by decide) ?_
      show Wp X _ 190 5 [vr 37, vi x2] [vi 0] _ _
      refine wp_ifeqT (tn := 17) rfl rfl (by decide) ?_
      refine wp_iconst rfl ?_
      refine wp_iret rfl rfl ?_
      show Wp X _ 34 33 [vr 6, vr 45, vi x2] [vi (-1)] _ _
      exact wp_iret rfl rfl H
    · replace H := H.2 c3
      refine wp_iload rfl rfl ?_
      refine wp_aload rfl rfl ?_
      refine wp_getI (j := 6) rfl (congrArg Prod.fst (kf_37 X.1)) rfl ?_
      refine wp_icge (tn := 16) rfl rfl (fun c4 => ?_) (fun c4 => ?_)
      · replace H := H.1 c4
        refine wp_iconst rfl ?_
        refine wp_zret rfl rfl (by decide) ?_
        show Wp X _ 190 5 [vr 37, vi x2] [vi 0] _ _
        refine wp_ifeqT (tn := 17) rfl rfl (by decide) ?_
        refine wp_iconst rfl ?_
        refine wp_iret rfl rfl ?_
        show Wp X _ 34 33 [vr 6, vr 45, vi x2] [vi (-1)] _ _
        exact wp_iret rfl rfl H
      · replace H := H.2 c4
        refine wp_iconst rfl ?_
        refine wp_goto (tn := 17) rfl rfl ?_
        refine wp_zret rfl rfl (by decide) ?_
        show Wp X _ 190 5 [vr 37, vi x2] [vi 1] _ _
        refine wp_ifeqF (tn := 17) rfl rfl (by decide) ?_
        refine wp_aload rfl rfl ?_
        refine wp_getR (r := 37) rfl (congrArg Prod.fst (kf_37 X.1)) rfl ?_
        refine wp_iload rfl rfl ?_
        have g5 := H.1
        replace H := H.2
        refine wp_iaload rfl (kf_38 X.1) g5 ?_
        refine wp_goto (tn := 18) rfl rfl ?_
        refine wp_iret rfl rfl ?_
        show Wp X _ 34 33 [vr 6, vr 45, vi x2] [vi (h 38 x2)] _ _
        exact wp_iret rfl rfl H
/-- WarnLines.firstWarned(L$RuleText;)I, from 0 -/
theorem S34_6_53_0 {X : Nat × (Int → Int)} {h : HP} {Q : bQ}  (H : Wp X 4 34 2 [vr 6, vr 53, vi 0] [] h Q) : Wp X 4 34 0 [vr 6, vr 53, vu] [] h Q := by
  refine wp_iconst rfl ?_
  refine wp_istore (L2 := [vr 6, vr 53, vi 0]) rfl (Nat.le_of_ble_eq_true rfl) rfl ?_
  exact H
/-- WarnLines.firstWarned(L$RuleText;)I, from 2 -/
theorem S34_6_53_2 {X : Nat × (Int → Int)} {h : HP} {Q : bQ} (x2 : Int) (H : (((h 37 6) ≤ x2 → Q (some (vi (-1))) h) ∧ (x2 < (h 37 6) → Wp X 3 208 0 [vr 53, vr 37, vi x2] [] h (fun v h' => Wp X 4 34 22 [vr 6, vr 53, vi x2] (psh v []) h' Q)))) : Wp X 4 34 2 [vr 6, vr 53, vi x2] [] h Q := by
  refine wp_iload rfl rfl ?_
  refine wp_aload rfl rfl ?_
  refine wp_getR (r := 36) rfl (congrArg Prod.fst (kf_6 X.1)) rfl ?_
  refine wp_call (k := 188) (ρ2 := 0) (L2 := [vr 37]) rfl rfl rfl (Nat.le_of_ble_eq_true rfl) (Nat.le_of_ble_eq_true rfl) (Nat.le_of_ble_eq_true rfl) (rcv_V rfl (congrArg Prod.fst (kf_37 X.1))) rfl ?_
  refine wp_aload rfl rfl ?_
  refine wp_getI (j := 6) rfl (congrArg Prod.fst (kf_37 X.1)) rfl ?_
  refine wp_iret rfl rfl ?_
  show Wp X _ 34 10 [vr 6, vr 53, vi x2] [vi (h 37 6), vi x2] _ _
  refine wp_icge (tn := 40) rfl rfl (fun c1 => ?_) (fun c1 => ?_)
  · replace H := H.1 c1
    refine wp_iconst rfl ?_
    exact wp_iret rfl rfl H
  · replace H := H.2 c1
    refine wp_aload rfl rfl ?_
    refine wp_aload rfl rfl ?_
    refine wp_getR (r := 36) rfl (congrArg Prod.fst (kf_6 X.1)) rfl ?_
    refine wp_iload rfl rfl ?_
    exact wp_call (k := 208) (ρ2 := 3) (L2 := [vr 53, vr 37, vi x2]) rfl rfl rfl (Nat.le_of_ble_eq_true rfl) (Nat.le_of_ble_eq_true rfl) (Nat.le_of_ble_eq_true rfl) (rcv_V rfl (congrArg Prod.fst (kf_53 X.1))) rfl H
/-- WarnLines.firstWarned(L$RuleText;)I, from 22 -/
theorem S34_6_53_22 {X : Nat × (Int → Int)} {h : HP} {Q : bQ} (x2 : Int) (s0 : Int) (H : ((s0 = 0 → ((R32 (x2 + 1)) ∧ Wp X 4 34 2 [vr 6, vr 53, vi (x2 + 1)] [] h Q)) ∧ (s0 ≠ 0 → ((x2 < 0 → Q (some (vi (-1))) h) ∧ (0 ≤ x2 → (((h 37 6) ≤ x2 → Q (some (vi (-1))) h) ∧ (x2 < (h 37 6) → ((0 ≤ x2 ∧ x2 < 20) ∧ Q (some (vi (h 38 x2))) h)))))))) : Wp X 4 34 22 [vr 6, vr 53, vi x2] [vi s0] h Q := by
  refine wp_ifeq (tn := 34) rfl rfl (fun c1 => ?_) (fun c1 => ?_)
  · replace H := H.1 c1
    have g2 := H.1
    replace H := H.2
    refine wp_iincR (L2 := [vr 6, vr 53, vi (x2 + 1)]) rfl rfl g2 rfl ?_
    refine wp_goto (tn := 2) rfl rfl ?_
    exact H
  · replace H := H.2 c1
    refine wp_aload rfl rfl ?_
    refine wp_getR (r := 36) rfl (congrArg Prod.fst (kf_6 X.1)) rfl ?_
    refine wp_iload rfl rfl ?_
    refine wp_call (k := 190) (ρ2 := 1) (L2 := [vr 37, vi x2]) rfl rfl rfl (Nat.le_of_ble_eq_true rfl) (Nat.le_of_ble_eq_true rfl) (Nat.le_of_ble_eq_true rfl) (rcv_V rfl (congrArg Prod.fst (kf_37 X.1))) rfl ?_
    refine wp_aload rfl rfl ?_
    refine wp_iload rfl rfl ?_
    refine wp_call (k := 189) (ρ2 := 0) (L2 := [vr 37, vi x2]) rfl rfl rfl (Nat.le_of_ble_eq_true rfl) (Nat.le_of_ble_eq_true rfl) (Nat.le_of_ble_eq_true rfl) (rcv_V rfl (congrArg Prod.fst (kf_37 X.1))) rfl ?_
    refine wp_iload rfl rfl ?_
    refine wp_iflt (tn := 16) rfl rfl (fun c3 => ?_) (fun c3 => ?_)
    · replace H := H.1 c3
      refine wp_iconst rfl ?_
      refine wp_zret rfl rfl (by decide) ?_
      show Wp X _ 190 5 [vr 37, vi x2] [vi 0] _ _
      refine wp_ifeqT (tn := 17) rfl rfl (by decide) ?_
      refine wp_iconst rfl ?_
      refine wp_iret rfl rfl ?_
      show Wp X _ 34 33 [vr 6, vr 53, vi x2] [vi (-1)] _ _
      exact wp_iret rfl rfl H
    · replace H := H.2 c3
      refine wp_iload rfl rfl ?_
      refine wp_aload rfl rfl ?_
      refine wp_getI (j := 6) rfl (congrArg Prod.fst (kf_37 X.1)) rfl ?_
      refine wp_icge (tn := 16) rfl rfl (fun c4 => ?_) (fun c4 => ?_)
      · replace H := H.1 c4
        refine wp_iconst rfl ?_
        refine wp_zret rfl rfl (by decide) ?_
        show Wp X _ 190 5 [vr 37, vi x2] [vi 0] _ _
        refine wp_ifeqT (tn := 17) rfl rfl (by decide) ?_
        refine wp_iconst rfl ?_
        refine wp_iret rfl rfl ?_
        show Wp X _ 34 33 [vr 6, vr 53, vi x2] [vi (-1)] _ _
        exact wp_iret rfl rfl H
      · replace H := H.2 c4
        refine wp_iconst rfl ?_
        refine wp_goto (tn := 17) rfl rfl ?_
        refine wp_zret rfl rfl (by decide) ?_
        show Wp X _ 190 5 [vr 37, vi x2] [vi 1] _ _
        refine wp_ifeqF (tn := 17) rfl rfl (by decide) ?_
        refine wp_aload rfl rfl ?_
        refine wp_getR (r := 37) rfl (congrArg Prod.fst (kf_37 X.1)) rfl ?_
        refine wp_iload rfl rfl ?_
        have g5 := H.1
        replace H := H.2
        refine wp_iaload rfl (kf_38 X.1) g5 ?_
        refine wp_goto (tn := 18) rfl rfl ?_
        refine wp_iret rfl rfl ?_
        show Wp X _ 34 33 [vr 6, vr 53, vi x2] [vi (h 38 x2)] _ _
        exact wp_iret rfl rfl H
/-- WarnLines.howManyWarn(L$RuleText;)I, from 0 -/
theorem S35_6_45_0 {X : Nat × (Int → Int)} {h : HP} {Q : bQ}  (H : Wp X 4 35 4 [vr 6, vr 45, vi 0, vi 0] [] h Q) : Wp X 4 35 0 [vr 6, vr 45, vu, vu] [] h Q := by
  refine wp_iconst rfl ?_
  refine wp_istore (L2 := [vr 6, vr 45, vi 0, vu]) rfl (Nat.le_of_ble_eq_true rfl) rfl ?_
  refine wp_iconst rfl ?_
  refine wp_istore (L2 := [vr 6, vr 45, vi 0, vi 0]) rfl (Nat.le_of_ble_eq_true rfl) rfl ?_
  exact H
/-- WarnLines.howManyWarn(L$RuleText;)I, from 4 -/
theorem S35_6_45_4 {X : Nat × (Int → Int)} {h : HP} {Q : bQ} (x2 : Int) (x3 : Int) (H : (((h 37 6) ≤ x3 → Q (some (vi x2)) h) ∧ (x3 < (h 37 6) → Wp X 3 208 0 [vr 45, vr 37, vi x3] [] h (fun v h' => Wp X 4 35 24 [vr 6, vr 45, vi x2, vi x3] (psh v []) h' Q)))) : Wp X 4 35 4 [vr 6, vr 45, vi x2, vi x3] [] h Q := by
  refine wp_iload rfl rfl ?_
  refine wp_aload rfl rfl ?_
  refine wp_getR (r := 36) rfl (congrArg Prod.fst (kf_6 X.1)) rfl ?_
  refine wp_call (k := 188) (ρ2 := 0) (L2 := [vr 37]) rfl rfl rfl (Nat.le_of_ble_eq_true rfl) (Nat.le_of_ble_eq_true rfl) (Nat.le_of_ble_eq_true rfl) (rcv_V rfl (congrArg Prod.fst (kf_37 X.1))) rfl ?_
  refine wp_aload rfl rfl ?_
  refine wp_getI (j := 6) rfl (congrArg Prod.fst (kf_37 X.1)) rfl ?_
  refine wp_iret rfl rfl ?_
  show Wp X _ 35 12 [vr 6, vr 45, vi x2, vi x3] [vi (h 37 6), vi x3] _ _
  refine wp_icge (tn := 36) rfl rfl (fun c1 => ?_) (fun c1 => ?_)
  · replace H := H.1 c1
    refine wp_iload rfl rfl ?_
    exact wp_iret rfl rfl H
  · replace H := H.2 c1
    refine wp_aload rfl rfl ?_
    refine wp_aload rfl rfl ?_
    refine wp_getR (r := 36) rfl (congrArg Prod.fst (kf_6 X.1)) rfl ?_
    refine wp_iload rfl rfl ?_
    exact wp_call (k := 208) (ρ2 := 3) (L2 := [vr 45, vr 37, vi x3]) rfl rfl rfl (Nat.le_of_ble_eq_true rfl) (Nat.le_of_ble_eq_true rfl) (Nat.le_of_ble_eq_true rfl) (rcv_V rfl (congrArg Prod.fst (kf_45 X.1))) rfl H
/-- WarnLines.howManyWarn(L$RuleText;)I, from 24 -/
theorem S35_6_45_24 {X : Nat × (Int → Int)} {h : HP} {Q : bQ} (x2 : Int) (x3 : Int) (s0 : Int) (H : ((s0 = 0 → ((R32 (x3 + 1)) ∧ Wp X 4 35 4 [vr 6, vr 45, vi x2, vi (x3 + 1)] [] h Q)) ∧ (s0 ≠ 0 → ((R32 (x2 + 1)) ∧ ((R32 (x3 + 1)) ∧ Wp X 4 35 4 [vr 6, vr 45, vi (x2 + 1), vi (x3 + 1)] [] h Q))))) : Wp X 4 35 24 [vr 6, vr 45, vi x2, vi x3] [vi s0] h Q := by
  refine wp_ifeq (tn := 30) rfl rfl (fun c1 => ?_) (fun c1 => ?_)
  · replace H := H.1 c1
    have g2 := H.1
    replace H := H.2
    refine wp_iincR (L2 := [vr 6, vr 45, vi x2, vi (x3 + 1)]) rfl rfl g2 rfl ?_
    refine wp_goto (tn := 4) rfl rfl ?_
    exact H
  · replace H := H.2 c1
    have g3 := H.1
    replace H := H.2
    refine wp_iincR (L2 := [vr 6, vr 45, vi (x2 + 1), vi x3]) rfl rfl g3 rfl ?_
    have g4 := H.1
    replace H := H.2
    refine wp_iincR (L2 := [vr 6, vr 45, vi (x2 + 1), vi (x3 + 1)]) rfl rfl g4 rfl ?_
    refine wp_goto (tn := 4) rfl rfl ?_
    exact H
/-- WarnLines.howManyWarn(L$RuleText;)I, from 0 -/
theorem S35_6_53_0 {X : Nat × (Int → Int)} {h : HP} {Q : bQ}  (H : Wp X 4 35 4 [vr 6, vr 53, vi 0, vi 0] [] h Q) : Wp X 4 35 0 [vr 6, vr 53, vu, vu] [] h Q := by
  refine wp_iconst rfl ?_
  refine wp_istore (L2 := [vr 6, vr 53, vi 0, vu]) rfl (Nat.le_of_ble_eq_true rfl) rfl ?_
  refine wp_iconst rfl ?_
  refine wp_istore (L2 := [vr 6, vr 53, vi 0, vi 0]) rfl (Nat.le_of_ble_eq_true rfl) rfl ?_
  exact H
/-- WarnLines.howManyWarn(L$RuleText;)I, from 4 -/
theorem S35_6_53_4 {X : Nat × (Int → Int)} {h : HP} {Q : bQ} (x2 : Int) (x3 : Int) (H : (((h 37 6) ≤ x3 → Q (some (vi x2)) h) ∧ (x3 < (h 37 6) → Wp X 3 208 0 [vr 53, vr 37, vi x3] [] h (fun v h' => Wp X 4 35 24 [vr 6, vr 53, vi x2, vi x3] (psh v []) h' Q)))) : Wp X 4 35 4 [vr 6, vr 53, vi x2, vi x3] [] h Q := by
  refine wp_iload rfl rfl ?_
  refine wp_aload rfl rfl ?_
  refine wp_getR (r := 36) rfl (congrArg Prod.fst (kf_6 X.1)) rfl ?_
  refine wp_call (k := 188) (ρ2 := 0) (L2 := [vr 37]) rfl rfl rfl (Nat.le_of_ble_eq_true rfl) (Nat.le_of_ble_eq_true rfl) (Nat.le_of_ble_eq_true rfl) (rcv_V rfl (congrArg Prod.fst (kf_37 X.1))) rfl ?_
  refine wp_aload rfl rfl ?_
  refine wp_getI (j := 6) rfl (congrArg Prod.fst (kf_37 X.1)) rfl ?_
  refine wp_iret rfl rfl ?_
  show Wp X _ 35 12 [vr 6, vr 53, vi x2, vi x3] [vi (h 37 6), vi x3] _ _
  refine wp_icge (tn := 36) rfl rfl (fun c1 => ?_) (fun c1 => ?_)
  · replace H := H.1 c1
    refine wp_iload rfl rfl ?_
    exact wp_iret rfl rfl H
  · replace H := H.2 c1
    refine wp_aload rfl rfl ?_
    refine wp_aload rfl rfl ?_
    refine wp_getR (r := 36) rfl (congrArg Prod.fst (kf_6 X.1)) rfl ?_
    refine wp_iload rfl rfl ?_
    exact wp_call (k := 208) (ρ2 := 3) (L2 := [vr 53, vr 37, vi x3]) rfl rfl rfl (Nat.le_of_ble_eq_true rfl) (Nat.le_of_ble_eq_true rfl) (Nat.le_of_ble_eq_true rfl) (rcv_V rfl (congrArg Prod.fst (kf_53 X.1))) rfl H
/-- WarnLines.howManyWarn(L$RuleText;)I, from 24 -/
theorem S35_6_53_24 {X : Nat × (Int → Int)} {h : HP} {Q : bQ} (x2 : Int) (x3 : Int) (s0 : Int) (H : ((s0 = 0 → ((R32 (x3 + 1)) ∧ Wp X 4 35 4 [vr 6, vr 53, vi x2, vi (x3 + 1)] [] h Q)) ∧ (s0 ≠ 0 → ((R32 (x2 + 1)) ∧ ((R32 (x3 + 1)) ∧ Wp X 4 35 4 [vr 6, vr 53, vi (x2 + 1), vi (x3 + 1)] [] h Q))))) : Wp X 4 35 24 [vr 6, vr 53, vi x2, vi x3] [vi s0] h Q := by
  refine wp_ifeq (tn := 30) rfl rfl (fun c1 => ?_) (fun c1 => ?_)
  · replace H := H.1 c1
    have g2 := H.1
    replace H := H.2
    refine wp_iincR (L2 := [vr 6, vr 53, vi x2, vi (x3 + 1)]) rfl rfl g2 rfl ?_
    refine wp_goto (tn := 4) rfl rfl ?_
    exact H
  · replace H := H.2 c1
    have g3 := H.1
    replace H := H.2
    refine wp_iincR (L2 := [vr 6, vr 53, vi (x2 + 1), vi x3]) rfl rfl g3 rfl ?_
    have g4 := H.1
    replace H := H.2
    refine wp_iincR (L2 := [vr 6, vr 53, vi (x2 + 1), vi (x3 + 1)]) rfl rfl g4 rfl ?_
    refine wp_goto (tn := 4) rfl rfl ?_
    exact H
/-- WarnLines.howManyBlame(L$RuleText;I)I, from 0 -/
theorem S36_6_45_0 {X : Nat × (Int → Int)} {h : HP} {Q : bQ} (x2 : Int) (H : Wp X 4 36 5 [vr 6, vr 45, vi x2, vi 0, vi 0, vu] [] h Q) : Wp X 4 36 0 [vr 6, vr 45, vi x2, vu, vu, vu] [] h Q := by
  refine wp_iconst rfl ?_
  refine wp_istore (L2 := [vr 6, vr 45, vi x2, vi 0, vu, vu]) rfl (Nat.le_of_ble_eq_true rfl) rfl ?_
  refine wp_iconst rfl ?_
  refine wp_istore (L2 := [vr 6, vr 45, vi x2, vi 0, vi 0, vu]) rfl (Nat.le_of_ble_eq_true rfl) rfl ?_
  exact H
/-- WarnLines.howManyBlame(L$RuleText;I)I, from 5 -/
theorem S36_6_45_5 {X : Nat × (Int → Int)} {h : HP} {Q : bQ} (x2 : Int) (x3 : Int) (x4 : Int) (zx5 : aV) (H : (((h 37 6) ≤ x4 → Q (some (vi x3)) h) ∧ (x4 < (h 37 6) → ((x4 < 0 → Wp X 3 208 0 [vr 45, vr 37, vi x4] [] h (fun v h' => Wp X 4 36 38 [vr 6, vr 45, vi x2, vi x3, vi x4, vi (-1)] (psh v []) h' Q)) ∧ (0 ≤ x4 → ((0 ≤ x4 ∧ x4 < 20) ∧ Wp X 3 208 0 [vr 45, vr 37, vi x4] [] h (fun v h' => Wp X 4 36 38 [vr 6, vr 45, vi x2, vi x3, vi x4, vi (h 38 x4)] (psh v []) h' Q))))))) : Wp X 4 36 5 [vr 6, vr 45, vi x2, vi x3, vi x4, zx5] [] h Q := by
  refine wp_iload rfl rfl ?_
  refine wp_aload rfl rfl ?_
  refine wp_getR (r := 36) rfl (congrArg Prod.fst (kf_6 X.1)) rfl ?_
  refine wp_call (k := 188) (ρ2 := 0) (L2 := [vr 37]) rfl rfl rfl (Nat.le_of_ble_eq_true rfl) (Nat.le_of_ble_eq_true rfl) (Nat.le_of_ble_eq_true rfl) (rcv_V rfl (congrArg Prod.fst (kf_37 X.1))) rfl ?_
  refine wp_aload rfl rfl ?_
  refine wp_getI (j := 6) rfl (congrArg Prod.fst (kf_37 X.1)) rfl ?_
  refine wp_iret rfl rfl ?_
  show Wp X _ 36 14 [vr 6, vr 45, vi x2, vi x3, vi x4, zx5] [vi (h 37 6), vi x4] _ _
  refine wp_icge (tn := 73) rfl rfl (fun c1 => ?_) (fun c1 => ?_)
  · replace H := H.1 c1
    refine wp_iload rfl rfl ?_
    exact wp_iret rfl rfl H
  · replace H := H.2 c1
    refine wp_aload rfl rfl ?_
    refine wp_getR (r := 36) rfl (congrArg Prod.fst (kf_6 X.1)) rfl ?_
    refine wp_iload rfl rfl ?_
    refine wp_call (k := 190) (ρ2 := 1) (L2 := [vr 37, vi x4]) rfl rfl rfl (Nat.le_of_ble_eq_true rfl) (Nat.le_of_ble_eq_true rfl) (Nat.le_of_ble_eq_true rfl) (rcv_V rfl (congrArg Prod.fst (kf_37 X.1))) rfl ?_
    refine wp_aload rfl rfl ?_
    refine wp_iload rfl rfl ?_
    refine wp_call (k := 189) (ρ2 := 0) (L2 := [vr 37, vi x4]) rfl rfl rfl (Nat.le_of_ble_eq_true rfl) (Nat.le_of_ble_eq_true rfl) (Nat.le_of_ble_eq_true rfl) (rcv_V rfl (congrArg Prod.fst (kf_37 X.1))) rfl ?_
    refine wp_iload rfl rfl ?_
    refine wp_iflt (tn := 16) rfl rfl (fun c2 => ?_) (fun c2 => ?_)
    · replace H := H.1 c2
      refine wp_iconst rfl ?_
      refine wp_zret rfl rfl (by decide) ?_
      show Wp X _ 190 5 [vr 37, vi x4] [vi 0] _ _
      refine wp_ifeqT (tn := 17) rfl rfl (by decide) ?_
      refine wp_iconst rfl ?_
      refine wp_iret rfl rfl ?_
      show Wp X _ 36 26 [vr 6, vr 45, vi x2, vi x3, vi x4, zx5] [vi (-1)] _ _
      refine wp_istore (L2 := [vr 6, vr 45, vi x2, vi x3, vi x4, vi (-1)]) rfl (Nat.le_of_ble_eq_true rfl) rfl ?_
      refine wp_aload rfl rfl ?_
      refine wp_aload rfl rfl ?_
      refine wp_getR (r := 36) rfl (congrArg Prod.fst (kf_6 X.1)) rfl ?_
      refine wp_iload rfl rfl ?_
      exact wp_call (k := 208) (ρ2 := 3) (L2 := [vr 45, vr 37, vi x4]) rfl rfl rfl (Nat.le_of_ble_eq_true rfl) (Nat.le_of_ble_eq_true rfl) (Nat.le_of_ble_eq_true rfl) (rcv_V rfl (congrArg Prod.fst (kf_45 X.1))) rfl H
    · replace H := H.2 c2
      refine wp_iload rfl rfl ?_
      refine wp_aload rfl rfl ?_
      refine wp_getI (j := 6) rfl (congrArg Prod.fst (kf_37 X.1)) rfl ?_
      refine wp_icgeF (tn := 16) rfl rfl c1 ?_
      refine wp_iconst rfl ?_
      refine wp_goto (tn := 17) rfl rfl ?_
      refine wp_zret rfl rfl (by decide) ?_
      show Wp X _ 190 5 [vr 37, vi x4] [vi 1] _ _
      refine wp_ifeqF (tn := 17) rfl rfl (by decide) ?_
      refine wp_aload rfl rfl ?_
      refine wp_getR (r := 37) rfl (congrArg Prod.fst (kf_37 X.1)) rfl ?_
      refine wp_iload rfl rfl ?_
      have g3 := H.1
      replace H := H.2
      refine wp_iaload rfl (kf_38 X.1) g3 ?_
      refine wp_goto (tn := 18) rfl rfl ?_
      refine wp_iret rfl rfl ?_
      show Wp X _ 36 26 [vr 6, vr 45, vi x2, vi x3, vi x4, zx5] [vi (h 38 x4)] _ _
      refine wp_istore (L2 := [vr 6, vr 45, vi x2, vi x3, vi x4, vi (h 38 x4)]) rfl (Nat.le_of_ble_eq_true rfl) rfl ?_
      refine wp_aload rfl rfl ?_
      refine wp_aload rfl rfl ?_
      refine wp_getR (r := 36) rfl (congrArg Prod.fst (kf_6 X.1)) rfl ?_
      refine wp_iload rfl rfl ?_
      exact wp_call (k := 208) (ρ2 := 3) (L2 := [vr 45, vr 37, vi x4]) rfl rfl rfl (Nat.le_of_ble_eq_true rfl) (Nat.le_of_ble_eq_true rfl) (Nat.le_of_ble_eq_true rfl) (rcv_V rfl (congrArg Prod.fst (kf_45 X.1))) rfl H
/-- WarnLines.howManyBlame(L$RuleText;I)I, from 38 -/
theorem S36_6_45_38 {X : Nat × (Int → Int)} {h : HP} {Q : bQ} (x2 : Int) (x3 : Int) (x4 : Int) (x5 : Int) (s0 : Int) (H : ((s0 = 0 → ((R32 (x4 + 1)) ∧ Wp X 4 36 5 [vr 6, vr 45, vi x2, vi x3, vi (x4 + 1), vi x5] [] h Q)) ∧ (s0 ≠ 0 → ((R32 (x5 - (h 7 6))) ∧ Wp X 0 140 0 [vr 77, vi x2, vi (x5 - (h 7 6)), vi x5, vu] [] h (fun v h' => Wp X 4 36 61 [vr 6, vr 45, vi x2, vi x3, vi x4, vi x5] (psh v []) h' Q))))) : Wp X 4 36 38 [vr 6, vr 45, vi x2, vi x3, vi x4, vi x5] [vi s0] h Q := by
  refine wp_ifeq (tn := 67) rfl rfl (fun c1 => ?_) (fun c1 => ?_)
  · replace H := H.1 c1
    have g2 := H.1
    replace H := H.2
    refine wp_iincR (L2 := [vr 6, vr 45, vi x2, vi x3, vi (x4 + 1), vi x5]) rfl rfl g2 rfl ?_
    refine wp_goto (tn := 5) rfl rfl ?_
    exact H
  · replace H := H.2 c1
    refine wp_aload rfl rfl ?_
    refine wp_getR (r := 76) rfl (congrArg Prod.fst (kf_6 X.1)) rfl ?_
    refine wp_iload rfl rfl ?_
    refine wp_iload rfl rfl ?_
    refine wp_aload rfl rfl ?_
    refine wp_getR (r := 6) rfl (congrArg Prod.fst (kf_6 X.1)) rfl ?_
    refine wp_iconst rfl ?_
    refine wp_iaload rfl (kf_7 X.1) (by decide) ?_
    refine wp_isub rfl ?_
    have g3 := H.1
    replace H := H.2
    refine Wp.topI (y := (x5 - (h 7 6))) (w32_I g3) ?_
    refine wp_iload rfl rfl ?_
    exact wp_call (k := 140) (ρ2 := 0) (L2 := [vr 77, vi x2, vi (x5 - (h 7 6)), vi x5, vu]) rfl rfl rfl (Nat.le_of_ble_eq_true rfl) (Nat.le_of_ble_eq_true rfl) (Nat.le_of_ble_eq_true rfl) (rcv_V rfl (congrArg Prod.fst (kf_77 X.1))) rfl H
/-- WarnLines.howManyBlame(L$RuleText;I)I, from 61 -/
theorem S36_6_45_61 {X : Nat × (Int → Int)} {h : HP} {Q : bQ} (x2 : Int) (x3 : Int) (x4 : Int) (zx5 : aV) (s0 : Int) (H : ((s0 = 0 → ((R32 (x4 + 1)) ∧ Wp X 4 36 5 [vr 6, vr 45, vi x2, vi x3, vi (x4 + 1), zx5] [] h Q)) ∧ (s0 ≠ 0 → ((R32 (x3 + 1)) ∧ ((R32 (x4 + 1)) ∧ Wp X 4 36 5 [vr 6, vr 45, vi x2, vi (x3 + 1), vi (x4 + 1), zx5] [] h Q))))) : Wp X 4 36 61 [vr 6, vr 45, vi x2, vi x3, vi x4, zx5] [vi s0] h Q := by
  refine wp_ifeq (tn := 67) rfl rfl (fun c1 => ?_) (fun c1 => ?_)
  · replace H := H.1 c1
    have g2 := H.1
    replace H := H.2
    refine wp_iincR (L2 := [vr 6, vr 45, vi x2, vi x3, vi (x4 + 1), zx5]) rfl rfl g2 rfl ?_
    refine wp_goto (tn := 5) rfl rfl ?_
    exact H
  · replace H := H.2 c1
    have g3 := H.1
    replace H := H.2
    refine wp_iincR (L2 := [vr 6, vr 45, vi x2, vi (x3 + 1), vi x4, zx5]) rfl rfl g3 rfl ?_
    have g4 := H.1
    replace H := H.2
    refine wp_iincR (L2 := [vr 6, vr 45, vi x2, vi (x3 + 1), vi (x4 + 1), zx5]) rfl rfl g4 rfl ?_
    refine wp_goto (tn := 5) rfl rfl ?_
    exact H
/-- WarnLines.howManyBlame(L$RuleText;I)I, from 0 -/
theorem S36_6_53_0 {X : Nat × (Int → Int)} {h : HP} {Q : bQ} (x2 : Int) (H : Wp X 4 36 5 [vr 6, vr 53, vi x2, vi 0, vi 0, vu] [] h Q) : Wp X 4 36 0 [vr 6, vr 53, vi x2, vu, vu, vu] [] h Q := by
  refine wp_iconst rfl ?_
  refine wp_istore (L2 := [vr 6, vr 53, vi x2, vi 0, vu, vu]) rfl (Nat.le_of_ble_eq_true rfl) rfl ?_
  refine wp_iconst rfl ?_
  refine wp_istore (L2 := [vr 6, vr 53, vi x2, vi 0, vi 0, vu]) rfl (Nat.le_of_ble_eq_true rfl) rfl ?_
  exact H
/-- WarnLines.howManyBlame(L$RuleText;I)I, from 5 -/
theorem S36_6_53_5 {X : Nat × (Int → Int)} {h : HP} {Q : bQ} (x2 : Int) (x3 : Int) (x4 : Int) (zx5 : aV) (H : (((h 37 6) ≤ x4 → Q (some (vi x3)) h) ∧ (x4 < (h 37 6) → ((x4 < 0 → Wp X 3 208 0 [vr 53, vr 37, vi x4] [] h (fun v h' => Wp X 4 36 38 [vr 6, vr 53, vi x2, vi x3, vi x4, vi (-1)] (psh v []) h' Q)) ∧ (0 ≤ x4 → ((0 ≤ x4 ∧ x4 < 20) ∧ Wp X 3 208 0 [vr 53, vr 37, vi x4] [] h (fun v h' => Wp X 4 36 38 [vr 6, vr 53, vi x2, vi x3, vi x4, vi (h 38 x4)] (psh v []) h' Q))))))) : Wp X 4 36 5 [vr 6, vr 53, vi x2, vi x3, vi x4, zx5] [] h Q := by
  refine wp_iload rfl rfl ?_
  refine wp_aload rfl rfl ?_
  refine wp_getR (r := 36) rfl (congrArg Prod.fst (kf_6 X.1)) rfl ?_
  refine wp_call (k := 188) (ρ2 := 0) (L2 := [vr 37]) rfl rfl rfl (Nat.le_of_ble_eq_true rfl) (Nat.le_of_ble_eq_true rfl) (Nat.le_of_ble_eq_true rfl) (rcv_V rfl (congrArg Prod.fst (kf_37 X.1))) rfl ?_
  refine wp_aload rfl rfl ?_
  refine wp_getI (j := 6) rfl (congrArg Prod.fst (kf_37 X.1)) rfl ?_
  refine wp_iret rfl rfl ?_
  show Wp X _ 36 14 [vr 6, vr 53, vi x2, vi x3, vi x4, zx5] [vi (h 37 6), vi x4] _ _
  refine wp_icge (tn := 73) rfl rfl (fun c1 => ?_) (fun c1 => ?_)
  · replace H := H.1 c1
    refine wp_iload rfl rfl ?_
    exact wp_iret rfl rfl H
  · replace H := H.2 c1
    refine wp_aload rfl rfl ?_
    refine wp_getR (r := 36) rfl (congrArg Prod.fst (kf_6 X.1)) rfl ?_
    refine wp_iload rfl rfl ?_
    refine wp_call (k := 190) (ρ2 := 1) (L2 := [vr 37, vi x4]) rfl rfl rfl (Nat.le_of_ble_eq_true rfl) (Nat.le_of_ble_eq_true rfl) (Nat.le_of_ble_eq_true rfl) (rcv_V rfl (congrArg Prod.fst (kf_37 X.1))) rfl ?_
    refine wp_aload rfl rfl ?_
    refine wp_iload rfl rfl ?_
    refine wp_call (k := 189) (ρ2 := 0) (L2 := [vr 37, vi x4]) rfl rfl rfl (Nat.le_of_ble_eq_true rfl) (Nat.le_of_ble_eq_true rfl) (Nat.le_of_ble_eq_true rfl) (rcv_V rfl (congrArg Prod.fst (kf_37 X.1))) rfl ?_
    refine wp_iload rfl rfl ?_
    refine wp_iflt (tn := 16) rfl rfl (fun c2 => ?_) (fun c2 => ?_)
    · replace H := H.1 c2
      refine wp_iconst rfl ?_
      refine wp_zret rfl rfl (by decide) ?_
      show Wp X _ 190 5 [vr 37, vi x4] [vi 0] _ _
      refine wp_ifeqT (tn := 17) rfl rfl (by decide) ?_
      refine wp_iconst rfl ?_
      refine wp_iret rfl rfl ?_
      show Wp X _ 36 26 [vr 6, vr 53, vi x2, vi x3, vi x4, zx5] [vi (-1)] _ _
      refine wp_istore (L2 := [vr 6, vr 53, vi x2, vi x3, vi x4, vi (-1)]) rfl (Nat.le_of_ble_eq_true rfl) rfl ?_
      refine wp_aload rfl rfl ?_
      refine wp_aload rfl rfl ?_
      refine wp_getR (r := 36) rfl (congrArg Prod.fst (kf_6 X.1)) rfl ?_
      refine wp_iload rfl rfl ?_
      exact wp_call (k := 208) (ρ2 := 3) (L2 := [vr 53, vr 37, vi x4]) rfl rfl rfl (Nat.le_of_ble_eq_true rfl) (Nat.le_of_ble_eq_true rfl) (Nat.le_of_ble_eq_true rfl) (rcv_V rfl (congrArg Prod.fst (kf_53 X.1))) rfl H
    · replace H := H.2 c2
      refine wp_iload rfl rfl ?_
      refine wp_aload rfl rfl ?_
      refine wp_getI (j := 6) rfl (congrArg Prod.fst (kf_37 X.1)) rfl ?_
      refine wp_icgeF (tn := 16) rfl rfl c1 ?_
      refine wp_iconst rfl ?_
      refine wp_goto (tn := 17) rfl rfl ?_
      refine wp_zret rfl rfl (by decide) ?_
      show Wp X _ 190 5 [vr 37, vi x4] [vi 1] _ _
      refine wp_ifeqF (tn := 17) rfl rfl (by decide) ?_
      refine wp_aload rfl rfl ?_
      refine wp_getR (r := 37) rfl (congrArg Prod.fst (kf_37 X.1)) rfl ?_
      refine wp_iload rfl rfl ?_
      have g3 := H.1
      replace H := H.2
      refine wp_iaload rfl (kf_38 X.1) g3 ?_
      refine wp_goto (tn := 18) rfl rfl ?_
      refine wp_iret rfl rfl ?_
      show Wp X _ 36 26 [vr 6, vr 53, vi x2, vi x3, vi x4, zx5] [vi (h 38 x4)] _ _
      refine wp_istore (L2 := [vr 6, vr 53, vi x2, vi x3, vi x4, vi (h 38 x4)]) rfl (Nat.le_of_ble_eq_true rfl) rfl ?_
      refine wp_aload rfl rfl ?_
      refine wp_aload rfl rfl ?_
      refine wp_getR (r := 36) rfl (congrArg Prod.fst (kf_6 X.1)) rfl ?_
      refine wp_iload rfl rfl ?_
      exact wp_call (k := 208) (ρ2 := 3) (L2 := [vr 53, vr 37, vi x4]) rfl rfl rfl (Nat.le_of_ble_eq_true rfl) (Nat.le_of_ble_eq_true rfl) (Nat.le_of_ble_eq_true rfl) (rcv_V rfl (congrArg Prod.fst (kf_53 X.1))) rfl H
/-- WarnLines.howManyBlame(L$RuleText;I)I, from 38 -/
theorem S36_6_53_38 {X : Nat × (Int → Int)} {h : HP} {Q : bQ} (x2 : Int) (x3 : Int) (x4 : Int) (x5 : Int) (s0 : Int) (H : ((s0 = 0 → ((R32 (x4 + 1)) ∧ Wp X 4 36 5 [vr 6, vr 53, vi x2, vi x3, vi (x4 + 1), vi x5] [] h Q)) ∧ (s0 ≠ 0 → ((R32 (x5 - (h 7 6))) ∧ Wp X 0 140 0 [vr 77, vi x2, vi (x5 - (h 7 6)), vi x5, vu] [] h (fun v h' => Wp X 4 36 61 [vr 6, vr 53, vi x2, vi x3, vi x4, vi x5] (psh v []) h' Q))))) : Wp X 4 36 38 [vr 6, vr 53, vi x2, vi x3, vi x4, vi x5] [vi s0] h Q := by
  refine wp_ifeq (tn := 67) rfl rfl (fun c1 => ?_) (fun c1 => ?_)
  · replace H := H.1 c1
    have g2 := H.1
    replace H := H.2
    refine wp_iincR (L2 := [vr 6, vr 53, vi x2, vi x3, vi (x4 + 1), vi x5]) rfl rfl g2 rfl ?_
    refine wp_goto (tn := 5) rfl rfl ?_
    exact H
  · replace H := H.2 c1
    refine wp_aload rfl rfl ?_
    refine wp_getR (r := 76) rfl (congrArg Prod.fst (kf_6 X.1)) rfl ?_
    refine wp_iload rfl rfl ?_
    refine wp_iload rfl rfl ?_
    refine wp_aload rfl rfl ?_
    refine wp_getR (r := 6) rfl (congrArg Prod.fst (kf_6 X.1)) rfl ?_
    refine wp_iconst rfl ?_
    refine wp_iaload rfl (kf_7 X.1) (by decide) ?_
    refine wp_isub rfl ?_
    have g3 := H.1
    replace H := H.2
    refine Wp.topI (y := (x5 - (h 7 6))) (w32_I g3) ?_
    refine wp_iload rfl rfl ?_
    exact wp_call (k := 140) (ρ2 := 0) (L2 := [vr 77, vi x2, vi (x5 - (h 7 6)), vi x5, vu]) rfl rfl rfl (Nat.le_of_ble_eq_true rfl) (Nat.le_of_ble_eq_true rfl) (Nat.le_of_ble_eq_true rfl) (rcv_V rfl (congrArg Prod.fst (kf_77 X.1))) rfl H
/-- WarnLines.howManyBlame(L$RuleText;I)I, from 61 -/
theorem S36_6_53_61 {X : Nat × (Int → Int)} {h : HP} {Q : bQ} (x2 : Int) (x3 : Int) (x4 : Int) (zx5 : aV) (s0 : Int) (H : ((s0 = 0 → ((R32 (x4 + 1)) ∧ Wp X 4 36 5 [vr 6, vr 53, vi x2, vi x3, vi (x4 + 1), zx5] [] h Q)) ∧ (s0 ≠ 0 → ((R32 (x3 + 1)) ∧ ((R32 (x4 + 1)) ∧ Wp X 4 36 5 [vr 6, vr 53, vi x2, vi (x3 + 1), vi (x4 + 1), zx5] [] h Q))))) : Wp X 4 36 61 [vr 6, vr 53, vi x2, vi x3, vi x4, zx5] [vi s0] h Q := by
  refine wp_ifeq (tn := 67) rfl rfl (fun c1 => ?_) (fun c1 => ?_)
  · replace H := H.1 c1
    have g2 := H.1
    replace H := H.2
    refine wp_iincR (L2 := [vr 6, vr 53, vi x2, vi x3, vi (x4 + 1), zx5]) rfl rfl g2 rfl ?_
    refine wp_goto (tn := 5) rfl rfl ?_
    exact H
  · replace H := H.2 c1
    have g3 := H.1
    replace H := H.2
    refine wp_iincR (L2 := [vr 6, vr 53, vi x2, vi (x3 + 1), vi x4, zx5]) rfl rfl g3 rfl ?_
    have g4 := H.1
    replace H := H.2
    refine wp_iincR (L2 := [vr 6, vr 53, vi x2, vi (x3 + 1), vi (x4 + 1), zx5]) rfl rfl g4 rfl ?_
    refine wp_goto (tn := 5) rfl rfl ?_
    exact H
/-- WarnLines.costAbove(L$RuleText;II)J, from 0 -/
theorem S37_6_45_0 {X : Nat × (Int → Int)} {h : HP} {Q : bQ} (x2 : Int) (x3 : Int) (H : Wp X 3 179 0 [vr 69, vr 49, vi x2, vi 0, vu, vu] [] h (fun v h' => Wp X 4 37 13 [vr 6, vr 45, vi x2, vi x3, vu, vu, vu, vu] (psh v []) h' Q)) : Wp X 4 37 0 [vr 6, vr 45, vi x2, vi x3, vu, vu, vu, vu] [] h Q := by
  refine wp_aload rfl rfl ?_
  refine wp_getR (r := 68) rfl (congrArg Prod.fst (kf_6 X.1)) rfl ?_
  refine wp_aload rfl rfl ?_
  refine wp_call (k := 203) (ρ2 := 0) (L2 := [vr 45]) rfl rfl rfl (Nat.le_of_ble_eq_true rfl) (Nat.le_of_ble_eq_true rfl) (Nat.le_of_ble_eq_true rfl) (rcv_V rfl (congrArg Prod.fst (kf_45 X.1))) rfl ?_
  refine wp_aload rfl rfl ?_
  refine wp_getR (r := 48) rfl (congrArg Prod.fst (kf_45 X.1)) rfl ?_
  refine wp_aret rfl rfl ?_
  show Wp X _ 37 8 [vr 6, vr 45, vi x2, vi x3, vu, vu, vu, vu] [vr 49, vr 69] _ _
  refine wp_iload rfl rfl ?_
  refine wp_iconst rfl ?_
  exact wp_call (k := 179) (ρ2 := 3) (L2 := [vr 69, vr 49, vi x2, vi 0, vu, vu]) rfl rfl rfl (Nat.le_of_ble_eq_true rfl) (Nat.le_of_ble_eq_true rfl) (Nat.le_of_ble_eq_true rfl) (rcv_V rfl (congrArg Prod.fst (kf_69 X.1))) rfl H
/-- WarnLines.costAbove(L$RuleText;II)J, from 13 -/
theorem S37_6_45_13 {X : Nat × (Int → Int)} {h : HP} {Q : bQ} (x2 : Int) (x3 : Int) (H : Wp X 3 179 0 [vr 69, vr 49, vi x2, vi x3, vu, vu] [] h (fun v h' => Wp X 4 37 35 [vr 6, vr 45, vi x2, vi x3, vl (h 69 5), vu, vu, vu] (psh v []) h' Q)) : Wp X 4 37 13 [vr 6, vr 45, vi x2, vi x3, vu, vu, vu, vu] [] h Q := by
  refine wp_aload rfl rfl ?_
  refine wp_getR (r := 68) rfl (congrArg Prod.fst (kf_6 X.1)) rfl ?_
  refine wp_call (k := 176) (ρ2 := 0) (L2 := [vr 69]) rfl rfl rfl (Nat.le_of_ble_eq_true rfl) (Nat.le_of_ble_eq_true rfl) (Nat.le_of_ble_eq_true rfl) (rcv_V rfl (congrArg Prod.fst (kf_69 X.1))) rfl ?_
  refine wp_aload rfl rfl ?_
  refine wp_getL (j := 5) rfl (congrArg Prod.fst (kf_69 X.1)) rfl ?_
  refine wp_lret rfl rfl ?_
  show Wp X _ 37 20 [vr 6, vr 45, vi x2, vi x3, vu, vu, vu, vu] [vl (h 69 5)] _ _
  refine wp_lstore (L2 := [vr 6, vr 45, vi x2, vi x3, vl (h 69 5), vu, vu, vu]) rfl (Nat.le_of_ble_eq_true rfl) rfl ?_
  refine wp_aload rfl rfl ?_
  refine wp_getR (r := 68) rfl (congrArg Prod.fst (kf_6 X.1)) rfl ?_
  refine wp_aload rfl rfl ?_
  refine wp_call (k := 203) (ρ2 := 0) (L2 := [vr 45]) rfl rfl rfl (Nat.le_of_ble_eq_true rfl) (Nat.le_of_ble_eq_true rfl) (Nat.le_of_ble_eq_true rfl) (rcv_V rfl (congrArg Prod.fst (kf_45 X.1))) rfl ?_
  refine wp_aload rfl rfl ?_
  refine wp_getR (r := 48) rfl (congrArg Prod.fst (kf_45 X.1)) rfl ?_
  refine wp_aret rfl rfl ?_
  show Wp X _ 37 30 [vr 6, vr 45, vi x2, vi x3, vl (h 69 5), vu, vu, vu] [vr 49, vr 69] _ _
  refine wp_iload rfl rfl ?_
  refine wp_iload rfl rfl ?_
  exact wp_call (k := 179) (ρ2 := 3) (L2 := [vr 69, vr 49, vi x2, vi x3, vu, vu]) rfl rfl rfl (Nat.le_of_ble_eq_true rfl) (Nat.le_of_ble_eq_true rfl) (Nat.le_of_ble_eq_true rfl) (rcv_V rfl (congrArg Prod.fst (kf_69 X.1))) rfl H
/-- WarnLines.costAbove(L$RuleText;II)J, from 35 -/
theorem S37_6_45_35 {X : Nat × (Int → Int)} {h : HP} {Q : bQ} (zx1 : aV) (zx2 : aV) (zx3 : aV) (x4 : Int) (H : ((R64 ((h 69 6) - (h 69 5))) ∧ ((R64 ((h 7 8) * x4)) ∧ ((R64 ((h 7 9) * ((h 69 6) - (h 69 5)))) ∧ ((R64 (((h 7 8) * x4) + ((h 7 9) * ((h 69 6) - (h 69 5))))) ∧ Q (some (vl (((h 7 8) * x4) + ((h 7 9) * ((h 69 6) - (h 69 5)))))) h))))) : Wp X 4 37 35 [vr 6, zx1, zx2, zx3, vl x4, vu, vu, vu] [] h Q := by
  refine wp_aload rfl rfl ?_
  refine wp_getR (r := 68) rfl (congrArg Prod.fst (kf_6 X.1)) rfl ?_
  refine wp_call (k := 177) (ρ2 := 0) (L2 := [vr 69]) rfl rfl rfl (Nat.le_of_ble_eq_true rfl) (Nat.le_of_ble_eq_true rfl) (Nat.le_of_ble_eq_true rfl) (rcv_V rfl (congrArg Prod.fst (kf_69 X.1))) rfl ?_
  refine wp_aload rfl rfl ?_
  refine wp_getL (j := 6) rfl (congrArg Prod.fst (kf_69 X.1)) rfl ?_
  refine wp_lret rfl rfl ?_
  show Wp X _ 37 42 [vr 6, zx1, zx2, zx3, vl x4, vu, vu, vu] [vl (h 69 6)] _ _
  refine wp_aload rfl rfl ?_
  refine wp_getR (r := 68) rfl (congrArg Prod.fst (kf_6 X.1)) rfl ?_
  refine wp_call (k := 176) (ρ2 := 0) (L2 := [vr 69]) rfl rfl rfl (Nat.le_of_ble_eq_true rfl) (Nat.le_of_ble_eq_true rfl) (Nat.le_of_ble_eq_true rfl) (rcv_V rfl (congrArg Prod.fst (kf_69 X.1))) rfl ?_
  refine wp_aload rfl rfl ?_
  refine wp_getL (j := 5) rfl (congrArg Prod.fst (kf_69 X.1)) rfl ?_
  refine wp_lret rfl rfl ?_
  show Wp X _ 37 49 [vr 6, zx1, zx2, zx3, vl x4, vu, vu, vu] [vl (h 69 5), vl (h 69 6)] _ _
  refine wp_lsub rfl ?_
  have g1 := H.1
  replace H := H.2
  refine Wp.topL (y := ((h 69 6) - (h 69 5))) (w64_I g1) ?_
  refine wp_lstore (L2 := [vr 6, zx1, zx2, zx3, vl x4, vu, vl ((h 69 6) - (h 69 5)), vu]) rfl (Nat.le_of_ble_eq_true rfl) rfl ?_
  refine wp_aload rfl rfl ?_
  refine wp_getR (r := 6) rfl (congrArg Prod.fst (kf_6 X.1)) rfl ?_
  refine wp_iconst rfl ?_
  refine wp_iaload rfl (kf_7 X.1) (by decide) ?_
  refine wp_i2l rfl ?_
  refine wp_lload rfl rfl ?_
  refine wp_lmul rfl ?_
  have g2 := H.1
  replace H := H.2
  refine Wp.topL (y := ((h 7 8) * x4)) (w64_I g2) ?_
  refine wp_aload rfl rfl ?_
  refine wp_getR (r := 6) rfl (congrArg Prod.fst (kf_6 X.1)) rfl ?_
  refine wp_iconst rfl ?_
  refine wp_iaload rfl (kf_7 X.1) (by decide) ?_
  refine wp_i2l rfl ?_
  refine wp_lload rfl rfl ?_
  refine wp_lmul rfl ?_
  have g3 := H.1
  replace H := H.2
  refine Wp.topL (y := ((h 7 9) * ((h 69 6) - (h 69 5)))) (w64_I g3) ?_
  refine wp_ladd rfl ?_
  have g4 := H.1
  replace H := H.2
  refine Wp.topL (y := (((h 7 8) * x4) + ((h 7 9) * ((h 69 6) - (h 69 5))))) (w64_I g4) ?_
  exact wp_lret rfl rfl H
/-- WarnLines.costAbove(L$RuleText;II)J, from 0 -/
theorem S37_6_53_0 {X : Nat × (Int → Int)} {h : HP} {Q : bQ} (x2 : Int) (x3 : Int) (H : Wp X 3 179 0 [vr 69, vr 57, vi x2, vi 0, vu, vu] [] h (fun v h' => Wp X 4 37 13 [vr 6, vr 53, vi x2, vi x3, vu, vu, vu, vu] (psh v []) h' Q)) : Wp X 4 37 0 [vr 6, vr 53, vi x2, vi x3, vu, vu, vu, vu] [] h Q := by
  refine wp_aload rfl rfl ?_
  refine wp_getR (r := 68) rfl (congrArg Prod.fst (kf_6 X.1)) rfl ?_
  refine wp_aload rfl rfl ?_
  refine wp_call (k := 203) (ρ2 := 0) (L2 := [vr 53]) rfl rfl rfl (Nat.le_of_ble_eq_true rfl) (Nat.le_of_ble_eq_true rfl) (Nat.le_of_ble_eq_true rfl) (rcv_V rfl (congrArg Prod.fst (kf_53 X.1))) rfl ?_
  refine wp_aload rfl rfl ?_
  refine wp_getR (r := 56) rfl (congrArg Prod.fst (kf_53 X.1)) rfl ?_
  refine wp_aret rfl rfl ?_
  show Wp X _ 37 8 [vr 6, vr 53, vi x2, vi x3, vu, vu, vu, vu] [vr 57, vr 69] _ _
  refine wp_iload rfl rfl ?_
  refine wp_iconst rfl ?_
  exact wp_call (k := 179) (ρ2 := 3) (L2 := [vr 69, vr 57, vi x2, vi 0, vu, vu]) rfl rfl rfl (Nat.le_of_ble_eq_true rfl) (Nat.le_of_ble_eq_true rfl) (Nat.le_of_ble_eq_true rfl) (rcv_V rfl (congrArg Prod.fst (kf_69 X.1))) rfl H
/-- WarnLines.costAbove(L$RuleText;II)J, from 13 -/
theorem S37_6_53_13 {X : Nat × (Int → Int)} {h : HP} {Q : bQ} (x2 : Int) (x3 : Int) (H : Wp X 3 179 0 [vr 69, vr 57, vi x2, vi x3, vu, vu] [] h (fun v h' => Wp X 4 37 35 [vr 6, vr 53, vi x2, vi x3, vl (h 69 5), vu, vu, vu] (psh v []) h' Q)) : Wp X 4 37 13 [vr 6, vr 53, vi x2, vi x3, vu, vu, vu, vu] [] h Q := by
  refine wp_aload rfl rfl ?_
  refine wp_getR (r := 68) rfl (congrArg Prod.fst (kf_6 X.1)) rfl ?_
  refine wp_call (k := 176) (ρ2 := 0) (L2 := [vr 69]) rfl rfl rfl (Nat.le_of_ble_eq_true rfl) (Nat.le_of_ble_eq_true rfl) (Nat.le_of_ble_eq_true rfl) (rcv_V rfl (congrArg Prod.fst (kf_69 X.1))) rfl ?_
  refine wp_aload rfl rfl ?_
  refine wp_getL (j := 5) rfl (congrArg Prod.fst (kf_69 X.1)) rfl ?_
  refine wp_lret rfl rfl ?_
  show Wp X _ 37 20 [vr 6, vr 53, vi x2, vi x3, vu, vu, vu, vu] [vl (h 69 5)] _ _
  refine wp_lstore (L2 := [vr 6, vr 53, vi x2, vi x3, vl (h 69 5), vu, vu, vu]) rfl (Nat.le_of_ble_eq_true rfl) rfl ?_
  refine wp_aload rfl rfl ?_
  refine wp_getR (r := 68) rfl (congrArg Prod.fst (kf_6 X.1)) rfl ?_
  refine wp_aload rfl rfl ?_
  refine wp_call (k := 203) (ρ2 := 0) (L2 := [vr 53]) rfl rfl rfl (Nat.le_of_ble_eq_true rfl) (Nat.le_of_ble_eq_true rfl) (Nat.le_of_ble_eq_true rfl) (rcv_V rfl (congrArg Prod.fst (kf_53 X.1))) rfl ?_
  refine wp_aload rfl rfl ?_
  refine wp_getR (r := 56) rfl (congrArg Prod.fst (kf_53 X.1)) rfl ?_
  refine wp_aret rfl rfl ?_
  show Wp X _ 37 30 [vr 6, vr 53, vi x2, vi x3, vl (h 69 5), vu, vu, vu] [vr 57, vr 69] _ _
  refine wp_iload rfl rfl ?_
  refine wp_iload rfl rfl ?_
  exact wp_call (k := 179) (ρ2 := 3) (L2 := [vr 69, vr 57, vi x2, vi x3, vu, vu]) rfl rfl rfl (Nat.le_of_ble_eq_true rfl) (Nat.le_of_ble_eq_true rfl) (Nat.le_of_ble_eq_true rfl) (rcv_V rfl (congrArg Prod.fst (kf_69 X.1))) rfl H
/-- WarnLines.costAbove(L$RuleText;II)J, from 35 -/
theorem S37_6_53_35 {X : Nat × (Int → Int)} {h : HP} {Q : bQ} (zx1 : aV) (zx2 : aV) (zx3 : aV) (x4 : Int) (H : ((R64 ((h 69 6) - (h 69 5))) ∧ ((R64 ((h 7 8) * x4)) ∧ ((R64 ((h 7 9) * ((h 69 6) - (h 69 5)))) ∧ ((R64 (((h 7 8) * x4) + ((h 7 9) * ((h 69 6) - (h 69 5))))) ∧ Q (some (vl (((h 7 8) * x4) + ((h 7 9) * ((h 69 6) - (h 69 5)))))) h))))) : Wp X 4 37 35 [vr 6, zx1, zx2, zx3, vl x4, vu, vu, vu] [] h Q := by
  refine wp_aload rfl rfl ?_
  refine wp_getR (r := 68) rfl (congrArg Prod.fst (kf_6 X.1)) rfl ?_
  refine wp_call (k := 177) (ρ2 := 0) (L2 := [vr 69]) rfl rfl rfl (Nat.le_of_ble_eq_true rfl) (Nat.le_of_ble_eq_true rfl) (Nat.le_of_ble_eq_true rfl) (rcv_V rfl (congrArg Prod.fst (kf_69 X.1))) rfl ?_
  refine wp_aload rfl rfl ?_
  refine wp_getL (j := 6) rfl (congrArg Prod.fst (kf_69 X.1)) rfl ?_
  refine wp_lret rfl rfl ?_
  show Wp X _ 37 42 [vr 6, zx1, zx2, zx3, vl x4, vu, vu, vu] [vl (h 69 6)] _ _
  refine wp_aload rfl rfl ?_
  refine wp_getR (r := 68) rfl (congrArg Prod.fst (kf_6 X.1)) rfl ?_
  refine wp_call (k := 176) (ρ2 := 0) (L2 := [vr 69]) rfl rfl rfl (Nat.le_of_ble_eq_true rfl) (Nat.le_of_ble_eq_true rfl) (Nat.le_of_ble_eq_true rfl) (rcv_V rfl (congrArg Prod.fst (kf_69 X.1))) rfl ?_
  refine wp_aload rfl rfl ?_
  refine wp_getL (j := 5) rfl (congrArg Prod.fst (kf_69 X.1)) rfl ?_
  refine wp_lret rfl rfl ?_
  show Wp X _ 37 49 [vr 6, zx1, zx2, zx3, vl x4, vu, vu, vu] [vl (h 69 5), vl (h 69 6)] _ _
  refine wp_lsub rfl ?_
  have g1 := H.1
  replace H := H.2
  refine Wp.topL (y := ((h 69 6) - (h 69 5))) (w64_I g1) ?_
  refine wp_lstore (L2 := [vr 6, zx1, zx2, zx3, vl x4, vu, vl ((h 69 6) - (h 69 5)), vu]) rfl (Nat.le_of_ble_eq_true rfl) rfl ?_
  refine wp_aload rfl rfl ?_
  refine wp_getR (r := 6) rfl (congrArg Prod.fst (kf_6 X.1)) rfl ?_
  refine wp_iconst rfl ?_
  refine wp_iaload rfl (kf_7 X.1) (by decide) ?_
  refine wp_i2l rfl ?_
  refine wp_lload rfl rfl ?_
  refine wp_lmul rfl ?_
  have g2 := H.1
  replace H := H.2
  refine Wp.topL (y := ((h 7 8) * x4)) (w64_I g2) ?_
  refine wp_aload rfl rfl ?_
  refine wp_getR (r := 6) rfl (congrArg Prod.fst (kf_6 X.1)) rfl ?_
  refine wp_iconst rfl ?_
  refine wp_iaload rfl (kf_7 X.1) (by decide) ?_
  refine wp_i2l rfl ?_
  refine wp_lload rfl rfl ?_
  refine wp_lmul rfl ?_
  have g3 := H.1
  replace H := H.2
  refine Wp.topL (y := ((h 7 9) * ((h 69 6) - (h 69 5)))) (w64_I g3) ?_
  refine wp_ladd rfl ?_
  have g4 := H.1
  replace H := H.2
  refine Wp.topL (y := (((h 7 8) * x4) + ((h 7 9) * ((h 69 6) - (h 69 5))))) (w64_I g4) ?_
  exact wp_lret rfl rfl H
/-- WarnLines.part(JJI)J, from 0 -/
theorem S45_0 {X : Nat × (Int → Int)} {h : HP} {Q : bQ} (x0 : Int) (x2 : Int) (x4 : Int) (H : Wp X 0 46 0 [vl x0, vu, vl x2, vu, vu, vu, vu, vu, vu, vu, vu] [] h (fun v h' => Wp X 1 45 5 [vl x0, vu, vl x2, vu, vi x4, vu, vu] (psh v []) h' Q)) : Wp X 1 45 0 [vl x0, vu, vl x2, vu, vi x4, vu, vu] [] h Q := by
  refine wp_lload rfl rfl ?_
  refine wp_lload rfl rfl ?_
  exact wp_call (k := 46) (ρ2 := 0) (L2 := [vl x0, vu, vl x2, vu, vu, vu, vu, vu, vu, vu, vu]) rfl rfl rfl (Nat.le_of_ble_eq_true rfl) (Nat.le_of_ble_eq_true rfl) (Nat.le_of_ble_eq_true rfl) (rcv_S rfl) rfl H
/-- WarnLines.part(JJI)J, from 5 -/
theorem S45_5 {X : Nat × (Int → Int)} {h : HP} {Q : bQ} (x0 : Int) (x2 : Int) (x4 : Int) (s0 : Int) (H : ((0 < (lcp s0 0) → ((x4 ≠ 0 → (s0 ≠ 0 ∧ ((R64 (Int.tdiv x2 s0)) ∧ Q (some (vl (Int.tdiv x2 s0))) h))) ∧ (x4 = 0 → (s0 ≠ 0 ∧ ((R64 (Int.tdiv x0 s0)) ∧ Q (some (vl (Int.tdiv x0 s0))) h))))) ∧ ((lcp s0 0) ≤ 0 → Q (some (vl 0)) h))) : Wp X 1 45 5 [vl x0, vu, vl x2, vu, vi x4, vu, vu] [vl s0] h Q := by
  refine wp_lstore (L2 := [vl x0, vu, vl x2, vu, vi x4, vl s0, vu]) rfl (Nat.le_of_ble_eq_true rfl) rfl ?_
  refine wp_lload rfl rfl ?_
  refine wp_sipush rfl ?_
  refine wp_lcmp rfl ?_
  refine wp_ifgt (tn := 16) rfl rfl (fun c1 => ?_) (fun c1 => ?_)
  · replace H := H.1 c1
    refine wp_iload rfl rfl ?_
    refine wp_ifne (tn := 28) rfl rfl (fun c2 => ?_) (fun c2 => ?_)
    · replace H := H.1 c2
      refine wp_lload rfl rfl ?_
      refine wp_lload rfl rfl ?_
      have g3 := H.1
      replace H := H.2
      refine wp_ldiv rfl g3 ?_
      have g4 := H.1
      replace H := H.2
      refine Wp.topL (y := (Int.tdiv x2 s0)) (w64_I g4) ?_
      exact wp_lret rfl rfl H
    · replace H := H.2 c2
      refine wp_lload rfl rfl ?_
      refine wp_lload rfl rfl ?_
      have g5 := H.1
      replace H := H.2
      refine wp_ldiv rfl g5 ?_
      have g6 := H.1
      replace H := H.2
      refine Wp.topL (y := (Int.tdiv x0 s0)) (w64_I g6) ?_
      refine wp_goto (tn := 32) rfl rfl ?_
      exact wp_lret rfl rfl H
  · replace H := H.2 c1
    refine wp_sipush rfl ?_
    exact wp_lret rfl rfl H
/-- WarnLines.commonDivisor(JJ)J, from 0 -/
theorem S46_0 {X : Nat × (Int → Int)} {h : HP} {Q : bQ} (x0 : Int) (x2 : Int) (H : Wp X 0 46 9 [vl x0, vu, vl x2, vu, vl x0, vu, vl x2, vu, vi 0, vu, vu] [] h Q) : Wp X 0 46 0 [vl x0, vu, vl x2, vu, vu, vu, vu, vu, vu, vu, vu] [] h Q := by
  refine wp_lload rfl rfl ?_
  refine wp_lstore (L2 := [vl x0, vu, vl x2, vu, vl x0, vu, vu, vu, vu, vu, vu]) rfl (Nat.le_of_ble_eq_true rfl) rfl ?_
  refine wp_lload rfl rfl ?_
  refine wp_lstore (L2 := [vl x0, vu, vl x2, vu, vl x0, vu, vl x2, vu, vu, vu, vu]) rfl (Nat.le_of_ble_eq_true rfl) rfl ?_
  refine wp_iconst rfl ?_
  refine wp_istore (L2 := [vl x0, vu, vl x2, vu, vl x0, vu, vl x2, vu, vi 0, vu, vu]) rfl (Nat.le_of_ble_eq_true rfl) rfl ?_
  exact H
/-- WarnLines.commonDivisor(JJ)J, from 9 -/
theorem S46_9 {X : Nat × (Int → Int)} {h : HP} {Q : bQ} (zx0 : aV) (zx2 : aV) (x4 : Int) (x6 : Int) (x8 : Int) (zx9 : aV) (H : (((lcp x6 0) = 0 → Q (some (vl x4)) h) ∧ ((lcp x6 0) ≠ 0 → ((200 ≤ x8 → Q (some (vl x4)) h) ∧ (x8 < 200 → (x6 ≠ 0 ∧ ((R32 (x8 + 1)) ∧ Wp X 0 46 9 [zx0, vu, zx2, vu, vl x6, vu, vl (Int.tmod x4 x6), vu, vi (x8 + 1), vl (Int.tmod x4 x6), vu] [] h Q))))))) : Wp X 0 46 9 [zx0, vu, zx2, vu, vl x4, vu, vl x6, vu, vi x8, zx9, vu] [] h Q := by
  refine wp_lload rfl rfl ?_
  refine wp_sipush rfl ?_
  refine wp_lcmp rfl ?_
  refine wp_ifeq (tn := 45) rfl rfl (fun c1 => ?_) (fun c1 => ?_)
  · replace H := H.1 c1
    refine wp_lload rfl rfl ?_
    exact wp_lret rfl rfl H
  · replace H := H.2 c1
    refine wp_iload rfl rfl ?_
    refine wp_iconst rfl ?_
    refine wp_icge (tn := 45) rfl rfl (fun c2 => ?_) (fun c2 => ?_)
    · replace H := H.1 c2
      refine wp_lload rfl rfl ?_
      exact wp_lret rfl rfl H
    · replace H := H.2 c2
      refine wp_lload rfl rfl ?_
      refine wp_lload rfl rfl ?_
      have g3 := H.1
      replace H := H.2
      refine wp_lrem rfl g3 ?_
      refine wp_lstore (L2 := [zx0, vu, zx2, vu, vl x4, vu, vl x6, vu, vi x8, vl (Int.tmod x4 x6), vu]) rfl (Nat.le_of_ble_eq_true rfl) rfl ?_
      refine wp_lload rfl rfl ?_
      refine wp_lstore (L2 := [zx0, vu, zx2, vu, vl x6, vu, vl x6, vu, vi x8, vl (Int.tmod x4 x6), vu]) rfl (Nat.le_of_ble_eq_true rfl) rfl ?_
      refine wp_lload rfl rfl ?_
      refine wp_lstore (L2 := [zx0, vu, zx2, vu, vl x6, vu, vl (Int.tmod x4 x6), vu, vi x8, vl (Int.tmod x4 x6), vu]) rfl (Nat.le_of_ble_eq_true rfl) rfl ?_
      have g4 := H.1
      replace H := H.2
      refine wp_iincR (L2 := [zx0, vu, zx2, vu, vl x6, vu, vl (Int.tmod x4 x6), vu, vi (x8 + 1), vl (Int.tmod x4 x6), vu]) rfl rfl g4 rfl ?_
      refine wp_goto (tn := 9) rfl rfl ?_
      exact H
/-- WarnLinesModel.sheet(III)I, from 0 -/
theorem S53_89_0 {X : Nat × (Int → Int)} {h : HP} {Q : bQ} (x1 : Int) (x2 : Int) (x3 : Int) (H : (((lcp x1 0) < 0 → Q (some (vi (-2))) h) ∧ (0 ≤ (lcp x1 0) → ((0 < (lcp x1 3) → Q (some (vi (-2))) h) ∧ ((lcp x1 3) ≤ 0 → (((lcp x2 0) < 0 → Q (some (vi (-2))) h) ∧ (0 ≤ (lcp x2 0) → ((0 < (lcp x2 2) → Q (some (vi (-2))) h) ∧ ((lcp x2 2) ≤ 0 → ((x3 ≤ 60 → ((0 ≤ x3 → ((0 ≤ x1 ∧ x1 < 4) ∧ Wp X 2 53 55 [vr 89, vi x1, vi x2, vi x3, vi 0] [] (upd2 (upd2 h 90 x1 x2) 91 x1 x3) Q)) ∧ (x3 < 0 → Q (some (vi (-15))) (upd2 h 89 4 5)))) ∧ (60 < x3 → Q (some (vi (-2))) h))))))))))) : Wp X 2 53 0 [vr 89, vi x1, vi x2, vi x3, vu] [] h Q := by
  refine wp_iload rfl rfl ?_
  refine wp_call (k := 52) (ρ2 := 1) (L2 := [vi x1]) rfl rfl rfl (Nat.le_of_ble_eq_true rfl) (Nat.le_of_ble_eq_true rfl) (Nat.le_of_ble_eq_true rfl) (rcv_S rfl) rfl ?_
  refine wp_iload rfl rfl ?_
  refine wp_i2l rfl ?_
  refine wp_sipush rfl ?_
  refine wp_sipush rfl ?_
  refine wp_call (k := 48) (ρ2 := 0) (L2 := [vl x1, vu, vl 0, vu, vl 3, vu]) rfl rfl rfl (Nat.le_of_ble_eq_true rfl) (Nat.le_of_ble_eq_true rfl) (Nat.le_of_ble_eq_true rfl) (rcv_S rfl) rfl ?_
  refine wp_lload rfl rfl ?_
  refine wp_lload rfl rfl ?_
  refine wp_lcmp rfl ?_
  refine wp_iflt (tn := 17) rfl rfl (fun c1 => ?_) (fun c1 => ?_)
  · replace H := H.1 c1
    refine wp_iconst rfl ?_
    refine wp_zret rfl rfl (by decide) ?_
    show Wp X _ 52 9 [vi x1] [vi 0] _ _
    refine wp_zret rfl rfl (by decide) ?_
    show Wp X _ 53 4 [vr 89, vi x1, vi x2, vi x3, vu] [vi 0] _ _
    refine wp_ifeqT (tn := 25) rfl rfl (by decide) ?_
    refine wp_iconst rfl ?_
    exact wp_iret rfl rfl H
  · replace H := H.2 c1
    refine wp_lload rfl rfl ?_
    refine wp_lload rfl rfl ?_
    refine wp_lcmp rfl ?_
    refine wp_ifgt (tn := 17) rfl rfl (fun c2 => ?_) (fun c2 => ?_)
    · replace H := H.1 c2
      refine wp_iconst rfl ?_
      refine wp_zret rfl rfl (by decide) ?_
      show Wp X _ 52 9 [vi x1] [vi 0] _ _
      refine wp_zret rfl rfl (by decide) ?_
      show Wp X _ 53 4 [vr 89, vi x1, vi x2, vi x3, vu] [vi 0] _ _
      refine wp_ifeqT (tn := 25) rfl rfl (by decide) ?_
      refine wp_iconst rfl ?_
      exact wp_iret rfl rfl H
    · replace H := H.2 c2
      refine wp_iconst rfl ?_
      refine wp_goto (tn := 18) rfl rfl ?_
      refine wp_zret rfl rfl (by decide) ?_
      show Wp X _ 52 9 [vi x1] [vi 1] _ _
      refine wp_zret rfl rfl (by decide) ?_
      show Wp X _ 53 4 [vr 89, vi x1, vi x2, vi x3, vu] [vi 1] _ _
      refine wp_ifeqF (tn := 25) rfl rfl (by decide) ?_
      refine wp_iload rfl rfl ?_
      refine wp_i2l rfl ?_
      refine wp_sipush rfl ?_
      refine wp_sipush rfl ?_
      refine wp_call (k := 48) (ρ2 := 0) (L2 := [vl x2, vu, vl 0, vu, vl 2, vu]) rfl rfl rfl (Nat.le_of_ble_eq_true rfl) (Nat.le_of_ble_eq_true rfl) (Nat.le_of_ble_eq_true rfl) (rcv_S rfl) rfl ?_
      refine wp_lload rfl rfl ?_
      refine wp_lload rfl rfl ?_
      refine wp_lcmp rfl ?_
      refine wp_iflt (tn := 17) rfl rfl (fun c3 => ?_) (fun c3 => ?_)
      · replace H := H.1 c3
        refine wp_iconst rfl ?_
        refine wp_zret rfl rfl (by decide) ?_
        show Wp X _ 53 16 [vr 89, vi x1, vi x2, vi x3, vu] [vi 0] _ _
        refine wp_ifeqT (tn := 25) rfl rfl (by decide) ?_
        refine wp_iconst rfl ?_
        exact wp_iret rfl rfl H
      · replace H := H.2 c3
        refine wp_lload rfl rfl ?_
        refine wp_lload rfl rfl ?_
        refine wp_lcmp rfl ?_
        refine wp_ifgt (tn := 17) rfl rfl (fun c4 => ?_) (fun c4 => ?_)
        · replace H := H.1 c4
          refine wp_iconst rfl ?_
          refine wp_zret rfl rfl (by decide) ?_
          show Wp X _ 53 16 [vr 89, vi x1, vi x2, vi x3, vu] [vi 0] _ _
          refine wp_ifeqT (tn := 25) rfl rfl (by decide) ?_
          refine wp_iconst rfl ?_
          exact wp_iret rfl rfl H
        · replace H := H.2 c4
          refine wp_iconst rfl ?_
          refine wp_goto (tn := 18) rfl rfl ?_
          refine wp_zret rfl rfl (by decide) ?_
          show Wp X _ 53 16 [vr 89, vi x1, vi x2, vi x3, vu] [vi 1] _ _
          refine wp_ifeqF (tn := 25) rfl rfl (by decide) ?_
          refine wp_iload rfl rfl ?_
          refine wp_iconst rfl ?_
          refine wp_icle (tn := 28) rfl rfl (fun c5 => ?_) (fun c5 => ?_)
          · replace H := H.1 c5
            refine wp_iload rfl rfl ?_
            refine wp_ifge (tn := 38) rfl rfl (fun c6 => ?_) (fun c6 => ?_)
            · replace H := H.1 c6
              refine wp_aload rfl rfl ?_
              refine wp_getR (r := 89) rfl (congrArg Prod.fst (kf_89 X.1)) rfl ?_
              refine wp_iload rfl rfl ?_
              refine wp_iload rfl rfl ?_
              have g7 := H.1
              replace H := H.2
              refine wp_iastore rfl (kf_90 X.1) g7 ?_
              refine wp_aload rfl rfl ?_
              refine wp_getR (r := 90) rfl (congrArg Prod.fst (kf_89 X.1)) rfl ?_
              refine wp_iload rfl rfl ?_
              refine wp_iload rfl rfl ?_
              refine wp_iastore rfl (kf_91 X.1) ⟨g7.1, g7.2⟩ ?_
              refine wp_iconst rfl ?_
              refine wp_istore (L2 := [vr 89, vi x1, vi x2, vi x3, vi 0]) rfl (Nat.le_of_ble_eq_true rfl) rfl ?_
              exact H
            · replace H := H.2 c6
              refine wp_aload rfl rfl ?_
              refine wp_iconst rfl ?_
              refine wp_call (k := 51) (ρ2 := 0) (L2 := [vr 89, vi 5]) rfl rfl rfl (Nat.le_of_ble_eq_true rfl) (Nat.le_of_ble_eq_true rfl) (Nat.le_of_ble_eq_true rfl) (rcv_V rfl (congrArg Prod.fst (kf_89 X.1))) rfl ?_
              refine wp_aload rfl rfl ?_
              refine wp_iload rfl rfl ?_
              refine wp_putI (j := 4) rfl (congrArg Prod.fst (kf_89 X.1)) rfl rfl rfl ?_
              refine wp_iconst rfl ?_
              refine wp_iload rfl rfl ?_
              refine wp_isub rfl ?_
              refine Wp.topI (y := (-15)) (by decide) ?_
              refine wp_iret rfl rfl ?_
              show Wp X _ 53 37 [vr 89, vi x1, vi x2, vi x3, vu] [vi (-15)] _ _
              exact wp_iret rfl rfl H
          · replace H := H.2 c5
            refine wp_iconst rfl ?_
            exact wp_iret rfl rfl H
/-- WarnLinesModel.sheet(III)I, from 55 -/
theorem S53_89_55 {X : Nat × (Int → Int)} {h : HP} {Q : bQ} (x1 : Int) (zx2 : aV) (x3 : Int) (x4 : Int) (H : ((x3 ≤ x4 → Q (some (vi x3)) h) ∧ (x4 < x3 → ((R32 (60 * x1)) ∧ ((R32 ((60 * x1) + x4)) ∧ ((0 ≤ ((60 * x1) + x4) ∧ ((60 * x1) + x4) < 240) ∧ ((R32 (x4 + 1)) ∧ Wp X 2 53 55 [vr 89, vi x1, zx2, vi x3, vi (x4 + 1)] [] (upd2 h 92 ((60 * x1) + x4) 0) Q))))))) : Wp X 2 53 55 [vr 89, vi x1, zx2, vi x3, vi x4] [] h Q := by
  refine wp_iload rfl rfl ?_
  refine wp_iload rfl rfl ?_
  refine wp_icge (tn := 80) rfl rfl (fun c1 => ?_) (fun c1 => ?_)
  · replace H := H.1 c1
    refine wp_iload rfl rfl ?_
    exact wp_iret rfl rfl H
  · replace H := H.2 c1
    refine wp_aload rfl rfl ?_
    refine wp_getR (r := 91) rfl (congrArg Prod.fst (kf_89 X.1)) rfl ?_
    refine wp_iconst rfl ?_
    refine wp_iload rfl rfl ?_
    refine wp_imul rfl ?_
    have g2 := H.1
    replace H := H.2
    refine Wp.topI (y := (60 * x1)) (w32_I g2) ?_
    refine wp_iload rfl rfl ?_
    refine wp_iadd rfl ?_
    have g3 := H.1
    replace H := H.2
    refine Wp.topI (y := ((60 * x1) + x4)) (w32_I g3) ?_
    refine wp_iconst rfl ?_
    have g4 := H.1
    replace H := H.2
    refine wp_iastore rfl (kf_92 X.1) g4 ?_
    have g5 := H.1
    replace H := H.2
    refine wp_iincR (L2 := [vr 89, vi x1, zx2, vi x3, vi (x4 + 1)]) rfl rfl g5 rfl ?_
    refine wp_goto (tn := 55) rfl rfl ?_
    exact H
/-- WarnLinesModel.lose(I)I, from 0 -/
theorem S54_89_0 {X : Nat × (Int → Int)} {h : HP} {Q : bQ} (x1 : Int) (H : (((lcp x1 0) < 0 → Q (some (vi (-2))) h) ∧ (0 ≤ (lcp x1 0) → ((0 < (lcp x1 3) → Q (some (vi (-2))) h) ∧ ((lcp x1 3) ≤ 0 → ((0 ≤ x1 ∧ x1 < 4) ∧ ((0 ≤ (h 90 x1) → Q (some (vi (h 91 x1))) (upd2 h 90 x1 (-1))) ∧ ((h 90 x1) < 0 → Q (some (vi (-11))) (upd2 h 89 4 1))))))))) : Wp X 2 54 0 [vr 89, vi x1] [] h Q := by
  refine wp_iload rfl rfl ?_
  refine wp_call (k := 52) (ρ2 := 1) (L2 := [vi x1]) rfl rfl rfl (Nat.le_of_ble_eq_true rfl) (Nat.le_of_ble_eq_true rfl) (Nat.le_of_ble_eq_true rfl) (rcv_S rfl) rfl ?_
  refine wp_iload rfl rfl ?_
  refine wp_i2l rfl ?_
  refine wp_sipush rfl ?_
  refine wp_sipush rfl ?_
  refine wp_call (k := 48) (ρ2 := 0) (L2 := [vl x1, vu, vl 0, vu, vl 3, vu]) rfl rfl rfl (Nat.le_of_ble_eq_true rfl) (Nat.le_of_ble_eq_true rfl) (Nat.le_of_ble_eq_true rfl) (rcv_S rfl) rfl ?_
  refine wp_lload rfl rfl ?_
  refine wp_lload rfl rfl ?_
  refine wp_lcmp rfl ?_
  refine wp_iflt (tn := 17) rfl rfl (fun c1 => ?_) (fun c1 => ?_)
  · replace H := H.1 c1
    refine wp_iconst rfl ?_
    refine wp_zret rfl rfl (by decide) ?_
    show Wp X _ 52 9 [vi x1] [vi 0] _ _
    refine wp_zret rfl rfl (by decide) ?_
    show Wp X _ 54 4 [vr 89, vi x1] [vi 0] _ _
    refine wp_ifneF (tn := 10) rfl rfl (by decide) ?_
    refine wp_iconst rfl ?_
    exact wp_iret rfl rfl H
  · replace H := H.2 c1
    refine wp_lload rfl rfl ?_
    refine wp_lload rfl rfl ?_
    refine wp_lcmp rfl ?_
    refine wp_ifgt (tn := 17) rfl rfl (fun c2 => ?_) (fun c2 => ?_)
    · replace H := H.1 c2
      refine wp_iconst rfl ?_
      refine wp_zret rfl rfl (by decide) ?_
      show Wp X _ 52 9 [vi x1] [vi 0] _ _
      refine wp_zret rfl rfl (by decide) ?_
      show Wp X _ 54 4 [vr 89, vi x1] [vi 0] _ _
      refine wp_ifneF (tn := 10) rfl rfl (by decide) ?_
      refine wp_iconst rfl ?_
      exact wp_iret rfl rfl H
    · replace H := H.2 c2
      refine wp_iconst rfl ?_
      refine wp_goto (tn := 18) rfl rfl ?_
      refine wp_zret rfl rfl (by decide) ?_
      show Wp X _ 52 9 [vi x1] [vi 1] _ _
      refine wp_zret rfl rfl (by decide) ?_
      show Wp X _ 54 4 [vr 89, vi x1] [vi 1] _ _
      refine wp_ifneT (tn := 10) rfl rfl (by decide) ?_
      refine wp_aload rfl rfl ?_
      refine wp_getR (r := 89) rfl (congrArg Prod.fst (kf_89 X.1)) rfl ?_
      refine wp_iload rfl rfl ?_
      have g3 := H.1
      replace H := H.2
      refine wp_iaload rfl (kf_90 X.1) g3 ?_
      refine wp_ifge (tn := 25) rfl rfl (fun c4 => ?_) (fun c4 => ?_)
      · replace H := H.1 c4
        refine wp_aload rfl rfl ?_
        refine wp_getR (r := 89) rfl (congrArg Prod.fst (kf_89 X.1)) rfl ?_
        refine wp_iload rfl rfl ?_
        refine wp_iconst rfl ?_
        refine wp_iastore rfl (kf_90 X.1) ⟨g3.1, g3.2⟩ ?_
        refine wp_aload rfl rfl ?_
        refine wp_getR (r := 90) rfl (congrArg Prod.fst (kf_89 X.1)) rfl ?_
        refine wp_iload rfl rfl ?_
        refine wp_iaload rfl (kf_91 X.1) ⟨g3.1, g3.2⟩ ?_
        refine Wp.topI (y := (h 91 x1)) (congrFun (upd2_ne (by decide)) _) ?_
        exact wp_iret rfl rfl H
      · replace H := H.2 c4
        refine wp_aload rfl rfl ?_
        refine wp_iconst rfl ?_
        refine wp_call (k := 51) (ρ2 := 0) (L2 := [vr 89, vi 1]) rfl rfl rfl (Nat.le_of_ble_eq_true rfl) (Nat.le_of_ble_eq_true rfl) (Nat.le_of_ble_eq_true rfl) (rcv_V rfl (congrArg Prod.fst (kf_89 X.1))) rfl ?_
        refine wp_aload rfl rfl ?_
        refine wp_iload rfl rfl ?_
        refine wp_putI (j := 4) rfl (congrArg Prod.fst (kf_89 X.1)) rfl rfl rfl ?_
        refine wp_iconst rfl ?_
        refine wp_iload rfl rfl ?_
        refine wp_isub rfl ?_
        refine Wp.topI (y := (-11)) (by decide) ?_
        refine wp_iret rfl rfl ?_
        show Wp X _ 54 24 [vr 89, vi x1] [vi (-11)] _ _
        exact wp_iret rfl rfl H
/-- WarnLinesModel.lay(IIII)I, from 0 -/
theorem S57_89_0 {X : Nat × (Int → Int)} {h : HP} {Q : bQ} (x1 : Int) (x2 : Int) (x3 : Int) (x4 : Int) (H : (((lcp x1 0) < 0 → Q (some (vi (-2))) h) ∧ (0 ≤ (lcp x1 0) → ((0 < (lcp x1 3) → Q (some (vi (-2))) h) ∧ ((lcp x1 3) ≤ 0 → (((lcp x2 0) < 0 → Q (some (vi (-2))) h) ∧ (0 ≤ (lcp x2 0) → ((0 < (lcp x2 2) → Q (some (vi (-2))) h) ∧ ((lcp x2 2) ≤ 0 → ((0 ≤ x1 ∧ x1 < 4) ∧ ((0 ≤ (h 90 x1) → (((h 90 x1) = x2 → ((R32 ((h 91 x1) - 1)) ∧ (((lcp x3 0) < 0 → Q (some (vi (-12))) (upd2 h 89 4 2)) ∧ (0 ≤ (lcp x3 0) → ((0 < (lcp x3 ((h 91 x1) - 1)) → Q (some (vi (-12))) (upd2 h 89 4 2)) ∧ ((lcp x3 ((h 91 x1) - 1)) ≤ 0 → ((R32 ((60 * x1) + x3)) ∧ ((x2 ≠ 0 → ((x2 ≠ 1 → ((0 ≤ ((60 * x1) + x3) ∧ ((60 * x1) + x3) < 240) ∧ Q (some (vi 1)) (upd2 h 92 ((60 * x1) + x3) x4))) ∧ (x2 = 1 → ((0 ≤ ((60 * x1) + x3) ∧ ((60 * x1) + x3) < 240) ∧ Q (some (vi 1)) (upd2 h 92 ((60 * x1) + x3) (Int.bmod x4 65536)))))) ∧ (x2 = 0 → ((0 ≤ ((60 * x1) + x3) ∧ ((60 * x1) + x3) < 240) ∧ Q (some (vi 1)) (upd2 h 92 ((60 * x1) + x3) (Int.bmod x4 256)))))))))))) ∧ ((h 90 x1) ≠ x2 → Q (some (vi (-13))) (upd2 h 89 4 3)))) ∧ ((h 90 x1) < 0 → Q (some (vi (-11))) (upd2 h 89 4 1))))))))))))) : Wp X 2 57 0 [vr 89, vi x1, vi x2, vi x3, vi x4, vu] [] h Q := by
  refine wp_iload rfl rfl ?_
  refine wp_call (k := 52) (ρ2 := 1) (L2 := [vi x1]) rfl rfl rfl (Nat.le_of_ble_eq_true rfl) (Nat.le_of_ble_eq_true rfl) (Nat.le_of_ble_eq_true rfl) (rcv_S rfl) rfl ?_
  refine wp_iload rfl rfl ?_
  refine wp_i2l rfl ?_
  refine wp_sipush rfl ?_
  refine wp_sipush rfl ?_
  refine wp_call (k := 48) (ρ2 := 0) (L2 := [vl x1, vu, vl 0, vu, vl 3, vu]) rfl rfl rfl (Nat.le_of_ble_eq_true rfl) (Nat.le_of_ble_eq_true rfl) (Nat.le_of_ble_eq_true rfl) (rcv_S rfl) rfl ?_
  refine wp_lload rfl rfl ?_
  refine wp_lload rfl rfl ?_
  refine wp_lcmp rfl ?_
  refine wp_iflt (tn := 17) rfl rfl (fun c1 => ?_) (fun c1 => ?_)
  · replace H := H.1 c1
    refine wp_iconst rfl ?_
    refine wp_zret rfl rfl (by decide) ?_
    show Wp X _ 52 9 [vi x1] [vi 0] _ _
    refine wp_zret rfl rfl (by decide) ?_
    show Wp X _ 57 4 [vr 89, vi x1, vi x2, vi x3, vi x4, vu] [vi 0] _ _
    refine wp_ifeqT (tn := 19) rfl rfl (by decide) ?_
    refine wp_iconst rfl ?_
    exact wp_iret rfl rfl H
  · replace H := H.2 c1
    refine wp_lload rfl rfl ?_
    refine wp_lload rfl rfl ?_
    refine wp_lcmp rfl ?_
    refine wp_ifgt (tn := 17) rfl rfl (fun c2 => ?_) (fun c2 => ?_)
    · replace H := H.1 c2
      refine wp_iconst rfl ?_
      refine wp_zret rfl rfl (by decide) ?_
      show Wp X _ 52 9 [vi x1] [vi 0] _ _
      refine wp_zret rfl rfl (by decide) ?_
      show Wp X _ 57 4 [vr 89, vi x1, vi x2, vi x3, vi x4, vu] [vi 0] _ _
      refine wp_ifeqT (tn := 19) rfl rfl (by decide) ?_
      refine wp_iconst rfl ?_
      exact wp_iret rfl rfl H
    · replace H := H.2 c2
      refine wp_iconst rfl ?_
      refine wp_goto (tn := 18) rfl rfl ?_
      refine wp_zret rfl rfl (by decide) ?_
      show Wp X _ 52 9 [vi x1] [vi 1] _ _
      refine wp_zret rfl rfl (by decide) ?_
      show Wp X _ 57 4 [vr 89, vi x1, vi x2, vi x3, vi x4, vu] [vi 1] _ _
      refine wp_ifeqF (tn := 19) rfl rfl (by decide) ?_
      refine wp_iload rfl rfl ?_
      refine wp_i2l rfl ?_
      refine wp_sipush rfl ?_
      refine wp_sipush rfl ?_
      refine wp_call (k := 48) (ρ2 := 0) (L2 := [vl x2, vu, vl 0, vu, vl 2, vu]) rfl rfl rfl (Nat.le_of_ble_eq_true rfl) (Nat.le_of_ble_eq_true rfl) (Nat.le_of_ble_eq_true rfl) (rcv_S rfl) rfl ?_
      refine wp_lload rfl rfl ?_
      refine wp_lload rfl rfl ?_
      refine wp_lcmp rfl ?_
      refine wp_iflt (tn := 17) rfl rfl (fun c3 => ?_) (fun c3 => ?_)
      · replace H := H.1 c3
        refine wp_iconst rfl ?_
        refine wp_zret rfl rfl (by decide) ?_
        show Wp X _ 57 16 [vr 89, vi x1, vi x2, vi x3, vi x4, vu] [vi 0] _ _
        refine wp_ifneF (tn := 22) rfl rfl (by decide) ?_
        refine wp_iconst rfl ?_
        exact wp_iret rfl rfl H
      · replace H := H.2 c3
        refine wp_lload rfl rfl ?_
        refine wp_lload rfl rfl ?_
        refine wp_lcmp rfl ?_
        refine wp_ifgt (tn := 17) rfl rfl (fun c4 => ?_) (fun c4 => ?_)
        · replace H := H.1 c4
          refine wp_iconst rfl ?_
          refine wp_zret rfl rfl (by decide) ?_
          show Wp X _ 57 16 [vr 89, vi x1, vi x2, vi x3, vi x4, vu] [vi 0] _ _
          refine wp_ifneF (tn := 22) rfl rfl (by decide) ?_
          refine wp_iconst rfl ?_
          exact wp_iret rfl rfl H
        · replace H := H.2 c4
          refine wp_iconst rfl ?_
          refine wp_goto (tn := 18) rfl rfl ?_
          refine wp_zret rfl rfl (by decide) ?_
          show Wp X _ 57 16 [vr 89, vi x1, vi x2, vi x3, vi x4, vu] [vi 1] _ _
          refine wp_ifneT (tn := 22) rfl rfl (by decide) ?_
          refine wp_aload rfl rfl ?_
          refine wp_iload rfl rfl ?_
          refine wp_iload rfl rfl ?_
          refine wp_iload rfl rfl ?_
          refine wp_call (k := 55) (ρ2 := 1) (L2 := [vr 89, vi x1, vi x2, vi x3]) rfl rfl rfl (Nat.le_of_ble_eq_true rfl) (Nat.le_of_ble_eq_true rfl) (Nat.le_of_ble_eq_true rfl) (rcv_V rfl (congrArg Prod.fst (kf_89 X.1))) rfl ?_
          refine wp_aload rfl rfl ?_
          refine wp_getR (r := 89) rfl (congrArg Prod.fst (kf_89 X.1)) rfl ?_
          refine wp_iload rfl rfl ?_
          have g5 := H.1
          replace H := H.2
          refine wp_iaload rfl (kf_90 X.1) g5 ?_
          refine wp_ifge (tn := 15) rfl rfl (fun c6 => ?_) (fun c6 => ?_)
          · replace H := H.1 c6
            refine wp_aload rfl rfl ?_
            refine wp_getR (r := 89) rfl (congrArg Prod.fst (kf_89 X.1)) rfl ?_
            refine wp_iload rfl rfl ?_
            refine wp_iaload rfl (kf_90 X.1) ⟨g5.1, g5.2⟩ ?_
            refine wp_iload rfl rfl ?_
            refine wp_iceq (tn := 31) rfl rfl (fun c7 => ?_) (fun c7 => ?_)
            · replace H := H.1 c7
              refine wp_iload rfl rfl ?_
              refine wp_i2l rfl ?_
              refine wp_sipush rfl ?_
              refine wp_aload rfl rfl ?_
              refine wp_getR (r := 90) rfl (congrArg Prod.fst (kf_89 X.1)) rfl ?_
              refine wp_iload rfl rfl ?_
              refine wp_iaload rfl (kf_91 X.1) ⟨g5.1, g5.2⟩ ?_
              refine wp_iconst rfl ?_
              refine wp_isub rfl ?_
              have g8 := H.1
              replace H := H.2
              refine Wp.topI (y := ((h 91 x1) - 1)) (w32_I g8) ?_
              refine wp_i2l rfl ?_
              refine wp_call (k := 48) (ρ2 := 0) (L2 := [vl x3, vu, vl 0, vu, vl ((h 91 x1) - 1), vu]) rfl rfl rfl (Nat.le_of_ble_eq_true rfl) (Nat.le_of_ble_eq_true rfl) (Nat.le_of_ble_eq_true rfl) (rcv_S rfl) rfl ?_
              refine wp_lload rfl rfl ?_
              refine wp_lload rfl rfl ?_
              refine wp_lcmp rfl ?_
              refine wp_iflt (tn := 17) rfl rfl (fun c9 => ?_) (fun c9 => ?_)
              · replace H := H.1 c9
                refine wp_iconst rfl ?_
                refine wp_zret rfl rfl (by decide) ?_
                show Wp X _ 55 46 [vr 89, vi x1, vi x2, vi x3] [vi 0] _ _
                refine wp_ifeqT (tn := 53) rfl rfl (by decide) ?_
                refine wp_aload rfl rfl ?_
                refine wp_iconst rfl ?_
                refine wp_call (k := 51) (ρ2 := 0) (L2 := [vr 89, vi 2]) rfl rfl rfl (Nat.le_of_ble_eq_true rfl) (Nat.le_of_ble_eq_true rfl) (Nat.le_of_ble_eq_true rfl) (rcv_V rfl (congrArg Prod.fst (kf_89 X.1))) rfl ?_
                refine wp_aload rfl rfl ?_
                refine wp_iload rfl rfl ?_
                refine wp_putI (j := 4) rfl (congrArg Prod.fst (kf_89 X.1)) rfl rfl rfl ?_
                refine wp_iconst rfl ?_
                refine wp_iload rfl rfl ?_
                refine wp_isub rfl ?_
                refine Wp.topI (y := (-12)) (by decide) ?_
                refine wp_iret rfl rfl ?_
                show Wp X _ 55 58 [vr 89, vi x1, vi x2, vi x3] [vi (-12)] _ _
                refine wp_iret rfl rfl ?_
                show Wp X _ 57 29 [vr 89, vi x1, vi x2, vi x3, vi x4, vu] [vi (-12)] _ _
                refine wp_istore (L2 := [vr 89, vi x1, vi x2, vi x3, vi x4, vi (-12)]) rfl (Nat.le_of_ble_eq_true rfl) rfl ?_
                refine wp_iload rfl rfl ?_
                refine wp_ifeqF (tn := 39) rfl rfl (by decide) ?_
                refine wp_iload rfl rfl ?_
                exact wp_iret rfl rfl H
              · replace H := H.2 c9
                refine wp_lload rfl rfl ?_
                refine wp_lload rfl rfl ?_
                refine wp_lcmp rfl ?_
                refine wp_ifgt (tn := 17) rfl rfl (fun c10 => ?_) (fun c10 => ?_)
                · replace H := H.1 c10
                  refine wp_iconst rfl ?_
                  refine wp_zret rfl rfl (by decide) ?_
                  show Wp X _ 55 46 [vr 89, vi x1, vi x2, vi x3] [vi 0] _ _
                  refine wp_ifeqT (tn := 53) rfl rfl (by decide) ?_
                  refine wp_aload rfl rfl ?_
                  refine wp_iconst rfl ?_
                  refine wp_call (k := 51) (ρ2 := 0) (L2 := [vr 89, vi 2]) rfl rfl rfl (Nat.le_of_ble_eq_true rfl) (Nat.le_of_ble_eq_true rfl) (Nat.le_of_ble_eq_true rfl) (rcv_V rfl (congrArg Prod.fst (kf_89 X.1))) rfl ?_
                  refine wp_aload rfl rfl ?_
                  refine wp_iload rfl rfl ?_
                  refine wp_putI (j := 4) rfl (congrArg Prod.fst (kf_89 X.1)) rfl rfl rfl ?_
                  refine wp_iconst rfl ?_
                  refine wp_iload rfl rfl ?_
                  refine wp_isub rfl ?_
                  refine Wp.topI (y := (-12)) (by decide) ?_
                  refine wp_iret rfl rfl ?_
                  show Wp X _ 55 58 [vr 89, vi x1, vi x2, vi x3] [vi (-12)] _ _
                  refine wp_iret rfl rfl ?_
                  show Wp X _ 57 29 [vr 89, vi x1, vi x2, vi x3, vi x4, vu] [vi (-12)] _ _
                  refine wp_istore (L2 := [vr 89, vi x1, vi x2, vi x3, vi x4, vi (-12)]) rfl (Nat.le_of_ble_eq_true rfl) rfl ?_
                  refine wp_iload rfl rfl ?_
                  refine wp_ifeqF (tn := 39) rfl rfl (by decide) ?_
                  refine wp_iload rfl rfl ?_
                  exact wp_iret rfl rfl H
                · replace H := H.2 c10
                  refine wp_iconst rfl ?_
                  refine wp_goto (tn := 18) rfl rfl ?_
                  refine wp_zret rfl rfl (by decide) ?_
                  show Wp X _ 55 46 [vr 89, vi x1, vi x2, vi x3] [vi 1] _ _
                  refine wp_ifeqF (tn := 53) rfl rfl (by decide) ?_
                  refine wp_iconst rfl ?_
                  refine wp_goto (tn := 58) rfl rfl ?_
                  refine wp_iret rfl rfl ?_
                  show Wp X _ 57 29 [vr 89, vi x1, vi x2, vi x3, vi x4, vu] [vi 0] _ _
                  refine wp_istore (L2 := [vr 89, vi x1, vi x2, vi x3, vi x4, vi 0]) rfl (Nat.le_of_ble_eq_true rfl) rfl ?_
                  refine wp_iload rfl rfl ?_
                  refine wp_ifeqT (tn := 39) rfl rfl (by decide) ?_
                  refine wp_aload rfl rfl ?_
                  refine wp_getR (r := 91) rfl (congrArg Prod.fst (kf_89 X.1)) rfl ?_
                  refine wp_iconst rfl ?_
                  refine wp_iload rfl rfl ?_
                  refine wp_imul rfl ?_
                  refine Wp.topI (y := (60 * x1)) (w32_I (by clear H; unfold R32; omega)) ?_
                  refine wp_iload rfl rfl ?_
                  refine wp_iadd rfl ?_
                  have g11 := H.1
                  replace H := H.2
                  refine Wp.topI (y := ((60 * x1) + x3)) (w32_I g11) ?_
                  refine wp_iload rfl rfl ?_
                  refine wp_iload rfl rfl ?_
                  refine wp_call (k := 56) (ρ2 := 0) (L2 := [vi x2, vi x4]) rfl rfl rfl (Nat.le_of_ble_eq_true rfl) (Nat.le_of_ble_eq_true rfl) (Nat.le_of_ble_eq_true rfl) (rcv_S rfl) rfl ?_
                  refine wp_iload rfl rfl ?_
                  refine wp_ifne (tn := 9) rfl rfl (fun c12 => ?_) (fun c12 => ?_)
                  · replace H := H.1 c12
                    refine wp_iload rfl rfl ?_
                    refine wp_iconst rfl ?_
                    refine wp_icne (tn := 19) rfl rfl (fun c13 => ?_) (fun c13 => ?_)
                    · replace H := H.1 c13
                      refine wp_iload rfl rfl ?_
                      refine wp_iret rfl rfl ?_
                      show Wp X _ 57 55 [vr 89, vi x1, vi x2, vi x3, vi x4, vi 0] [vi x4, vi ((60 * x1) + x3), vr 92] _ _
                      have g14 := H.1
                      replace H := H.2
                      refine wp_iastore rfl (kf_92 X.1) g14 ?_
                      refine wp_iconst rfl ?_
                      exact wp_iret rfl rfl H
                    · replace H := H.2 c13
                      refine wp_iload rfl rfl ?_
                      refine wp_i2s rfl ?_
                      refine wp_goto (tn := 20) rfl rfl ?_
                      refine wp_iret rfl rfl ?_
                      show Wp X _ 57 55 [vr 89, vi x1, vi x2, vi x3, vi x4, vi 0] [vi (Int.bmod x4 65536), vi ((60 * x1) + x3), vr 92] _ _
                      have g15 := H.1
                      replace H := H.2
                      refine wp_iastore rfl (kf_92 X.1) g15 ?_
                      refine wp_iconst rfl ?_
                      exact wp_iret rfl rfl H
                  · replace H := H.2 c12
                    refine wp_iload rfl rfl ?_
                    refine wp_i2b rfl ?_
                    refine wp_goto (tn := 20) rfl rfl ?_
                    refine wp_iret rfl rfl ?_
                    show Wp X _ 57 55 [vr 89, vi x1, vi x2, vi x3, vi x4, vi 0] [vi (Int.bmod x4 256), vi ((60 * x1) + x3), vr 92] _ _
                    have g16 := H.1
                    replace H := H.2
                    refine wp_iastore rfl (kf_92 X.1) g16 ?_
                    refine wp_iconst rfl ?_
                    exact wp_iret rfl rfl H
            · replace H := H.2 c7
              refine wp_aload rfl rfl ?_
              refine wp_iconst rfl ?_
              refine wp_call (k := 51) (ρ2 := 0) (L2 := [vr 89, vi 3]) rfl rfl rfl (Nat.le_of_ble_eq_true rfl) (Nat.le_of_ble_eq_true rfl) (Nat.le_of_ble_eq_true rfl) (rcv_V rfl (congrArg Prod.fst (kf_89 X.1))) rfl ?_
              refine wp_aload rfl rfl ?_
              refine wp_iload rfl rfl ?_
              refine wp_putI (j := 4) rfl (congrArg Prod.fst (kf_89 X.1)) rfl rfl rfl ?_
              refine wp_iconst rfl ?_
              refine wp_iload rfl rfl ?_
              refine wp_isub rfl ?_
              refine Wp.topI (y := (-13)) (by decide) ?_
              refine wp_iret rfl rfl ?_
              show Wp X _ 55 30 [vr 89, vi x1, vi x2, vi x3] [vi (-13)] _ _
              refine wp_iret rfl rfl ?_
              show Wp X _ 57 29 [vr 89, vi x1, vi x2, vi x3, vi x4, vu] [vi (-13)] _ _
              refine wp_istore (L2 := [vr 89, vi x1, vi x2, vi x3, vi x4, vi (-13)]) rfl (Nat.le_of_ble_eq_true rfl) rfl ?_
              refine wp_iload rfl rfl ?_
              refine wp_ifeqF (tn := 39) rfl rfl (by decide) ?_
              refine wp_iload rfl rfl ?_
              exact wp_iret rfl rfl H
          · replace H := H.2 c6
            refine wp_aload rfl rfl ?_
            refine wp_iconst rfl ?_
            refine wp_call (k := 51) (ρ2 := 0) (L2 := [vr 89, vi 1]) rfl rfl rfl (Nat.le_of_ble_eq_true rfl) (Nat.le_of_ble_eq_true rfl) (Nat.le_of_ble_eq_true rfl) (rcv_V rfl (congrArg Prod.fst (kf_89 X.1))) rfl ?_
            refine wp_aload rfl rfl ?_
            refine wp_iload rfl rfl ?_
            refine wp_putI (j := 4) rfl (congrArg Prod.fst (kf_89 X.1)) rfl rfl rfl ?_
            refine wp_iconst rfl ?_
            refine wp_iload rfl rfl ?_
            refine wp_isub rfl ?_
            refine Wp.topI (y := (-11)) (by decide) ?_
            refine wp_iret rfl rfl ?_
            show Wp X _ 55 14 [vr 89, vi x1, vi x2, vi x3] [vi (-11)] _ _
            refine wp_iret rfl rfl ?_
            show Wp X _ 57 29 [vr 89, vi x1, vi x2, vi x3, vi x4, vu] [vi (-11)] _ _
            refine wp_istore (L2 := [vr 89, vi x1, vi x2, vi x3, vi x4, vi (-11)]) rfl (Nat.le_of_ble_eq_true rfl) rfl ?_
            refine wp_iload rfl rfl ?_
            refine wp_ifeqF (tn := 39) rfl rfl (by decide) ?_
            refine wp_iload rfl rfl ?_
            exact wp_iret rfl rfl H
/-- WarnLinesModel.get(III)I, from 0 -/
theorem S58_89_0 {X : Nat × (Int → Int)} {h : HP} {Q : bQ} (x1 : Int) (x2 : Int) (x3 : Int) (H : (((lcp x1 0) < 0 → Q (some (vi (-2147483648))) h) ∧ (0 ≤ (lcp x1 0) → ((0 < (lcp x1 3) → Q (some (vi (-2147483648))) h) ∧ ((lcp x1 3) ≤ 0 → (((lcp x2 0) < 0 → Q (some (vi (-2147483648))) h) ∧ (0 ≤ (lcp x2 0) → ((0 < (lcp x2 2) → Q (some (vi (-2147483648))) h) ∧ ((lcp x2 2) ≤ 0 → ((0 ≤ x1 ∧ x1 < 4) ∧ ((0 ≤ (h 90 x1) → (((h 90 x1) = x2 → ((R32 ((h 91 x1) - 1)) ∧ (((lcp x3 0) < 0 → Q (some (vi (-2147483648))) (upd2 h 89 4 2)) ∧ (0 ≤ (lcp x3 0) → ((0 < (lcp x3 ((h 91 x1) - 1)) → Q (some (vi (-2147483648))) (upd2 h 89 4 2)) ∧ ((lcp x3 ((h 91 x1) - 1)) ≤ 0 → ((R32 ((60 * x1) + x3)) ∧ ((0 ≤ ((60 * x1) + x3) ∧ ((60 * x1) + x3) < 240) ∧ Q (some (vi (h 92 ((60 * x1) + x3)))) h)))))))) ∧ ((h 90 x1) ≠ x2 → Q (some (vi (-2147483648))) (upd2 h 89 4 3)))) ∧ ((h 90 x1) < 0 → Q (some (vi (-2147483648))) (upd2 h 89 4 1))))))))))))) : Wp X 2 58 0 [vr 89, vi x1, vi x2, vi x3] [] h Q := by
  refine wp_iload rfl rfl ?_
  refine wp_call (k := 52) (ρ2 := 1) (L2 := [vi x1]) rfl rfl rfl (Nat.le_of_ble_eq_true rfl) (Nat.le_of_ble_eq_true rfl) (Nat.le_of_ble_eq_true rfl) (rcv_S rfl) rfl ?_
  refine wp_iload rfl rfl ?_
  refine wp_i2l rfl ?_
  refine wp_sipush rfl ?_
  refine wp_sipush rfl ?_
  refine wp_call (k := 48) (ρ2 := 0) (L2 := [vl x1, vu, vl 0, vu, vl 3, vu]) rfl rfl rfl (Nat.le_of_ble_eq_true rfl) (Nat.le_of_ble_eq_true rfl) (Nat.le_of_ble_eq_true rfl) (rcv_S rfl) rfl ?_
  refine wp_lload rfl rfl ?_
  refine wp_lload rfl rfl ?_
  refine wp_lcmp rfl ?_
  refine wp_iflt (tn := 17) rfl rfl (fun c1 => ?_) (fun c1 => ?_)
  · replace H := H.1 c1
    refine wp_iconst rfl ?_
    refine wp_zret rfl rfl (by decide) ?_
    show Wp X _ 52 9 [vi x1] [vi 0] _ _
    refine wp_zret rfl rfl (by decide) ?_
    show Wp X _ 58 4 [vr 89, vi x1, vi x2, vi x3] [vi 0] _ _
    refine wp_ifeqT (tn := 29) rfl rfl (by decide) ?_
    refine wp_iconst rfl ?_
    exact wp_iret rfl rfl H
  · replace H := H.2 c1
    refine wp_lload rfl rfl ?_
    refine wp_lload rfl rfl ?_
    refine wp_lcmp rfl ?_
    refine wp_ifgt (tn := 17) rfl rfl (fun c2 => ?_) (fun c2 => ?_)
    · replace H := H.1 c2
      refine wp_iconst rfl ?_
      refine wp_zret rfl rfl (by decide) ?_
      show Wp X _ 52 9 [vi x1] [vi 0] _ _
      refine wp_zret rfl rfl (by decide) ?_
      show Wp X _ 58 4 [vr 89, vi x1, vi x2, vi x3] [vi 0] _ _
      refine wp_ifeqT (tn := 29) rfl rfl (by decide) ?_
      refine wp_iconst rfl ?_
      exact wp_iret rfl rfl H
    · replace H := H.2 c2
      refine wp_iconst rfl ?_
      refine wp_goto (tn := 18) rfl rfl ?_
      refine wp_zret rfl rfl (by decide) ?_
      show Wp X _ 52 9 [vi x1] [vi 1] _ _
      refine wp_zret rfl rfl (by decide) ?_
      show Wp X _ 58 4 [vr 89, vi x1, vi x2, vi x3] [vi 1] _ _
      refine wp_ifeqF (tn := 29) rfl rfl (by decide) ?_
      refine wp_iload rfl rfl ?_
      refine wp_i2l rfl ?_
      refine wp_sipush rfl ?_
      refine wp_sipush rfl ?_
      refine wp_call (k := 48) (ρ2 := 0) (L2 := [vl x2, vu, vl 0, vu, vl 2, vu]) rfl rfl rfl (Nat.le_of_ble_eq_true rfl) (Nat.le_of_ble_eq_true rfl) (Nat.le_of_ble_eq_true rfl) (rcv_S rfl) rfl ?_
      refine wp_lload rfl rfl ?_
      refine wp_lload rfl rfl ?_
      refine wp_lcmp rfl ?_
      refine wp_iflt (tn := 17) rfl rfl (fun c3 => ?_) (fun c3 => ?_)
      · replace H := H.1 c3
        refine wp_iconst rfl ?_
        refine wp_zret rfl rfl (by decide) ?_
        show Wp X _ 58 16 [vr 89, vi x1, vi x2, vi x3] [vi 0] _ _
        refine wp_ifeqT (tn := 29) rfl rfl (by decide) ?_
        refine wp_iconst rfl ?_
        exact wp_iret rfl rfl H
      · replace H := H.2 c3
        refine wp_lload rfl rfl ?_
        refine wp_lload rfl rfl ?_
        refine wp_lcmp rfl ?_
        refine wp_ifgt (tn := 17) rfl rfl (fun c4 => ?_) (fun c4 => ?_)
        · replace H := H.1 c4
          refine wp_iconst rfl ?_
          refine wp_zret rfl rfl (by decide) ?_
          show Wp X _ 58 16 [vr 89, vi x1, vi x2, vi x3] [vi 0] _ _
          refine wp_ifeqT (tn := 29) rfl rfl (by decide) ?_
          refine wp_iconst rfl ?_
          exact wp_iret rfl rfl H
        · replace H := H.2 c4
          refine wp_iconst rfl ?_
          refine wp_goto (tn := 18) rfl rfl ?_
          refine wp_zret rfl rfl (by decide) ?_
          show Wp X _ 58 16 [vr 89, vi x1, vi x2, vi x3] [vi 1] _ _
          refine wp_ifeqF (tn := 29) rfl rfl (by decide) ?_
          refine wp_aload rfl rfl ?_
          refine wp_iload rfl rfl ?_
          refine wp_iload rfl rfl ?_
          refine wp_iload rfl rfl ?_
          refine wp_call (k := 55) (ρ2 := 1) (L2 := [vr 89, vi x1, vi x2, vi x3]) rfl rfl rfl (Nat.le_of_ble_eq_true rfl) (Nat.le_of_ble_eq_true rfl) (Nat.le_of_ble_eq_true rfl) (rcv_V rfl (congrArg Prod.fst (kf_89 X.1))) rfl ?_
          refine wp_aload rfl rfl ?_
          refine wp_getR (r := 89) rfl (congrArg Prod.fst (kf_89 X.1)) rfl ?_
          refine wp_iload rfl rfl ?_
          have g5 := H.1
          replace H := H.2
          refine wp_iaload rfl (kf_90 X.1) g5 ?_
          refine wp_ifge (tn := 15) rfl rfl (fun c6 => ?_) (fun c6 => ?_)
          · replace H := H.1 c6
            refine wp_aload rfl rfl ?_
            refine wp_getR (r := 89) rfl (congrArg Prod.fst (kf_89 X.1)) rfl ?_
            refine wp_iload rfl rfl ?_
            refine wp_iaload rfl (kf_90 X.1) ⟨g5.1, g5.2⟩ ?_
            refine wp_iload rfl rfl ?_
            refine wp_iceq (tn := 31) rfl rfl (fun c7 => ?_) (fun c7 => ?_)
            · replace H := H.1 c7
              refine wp_iload rfl rfl ?_
              refine wp_i2l rfl ?_
              refine wp_sipush rfl ?_
              refine wp_aload rfl rfl ?_
              refine wp_getR (r := 90) rfl (congrArg Prod.fst (kf_89 X.1)) rfl ?_
              refine wp_iload rfl rfl ?_
              refine wp_iaload rfl (kf_91 X.1) ⟨g5.1, g5.2⟩ ?_
              refine wp_iconst rfl ?_
              refine wp_isub rfl ?_
              have g8 := H.1
              replace H := H.2
              refine Wp.topI (y := ((h 91 x1) - 1)) (w32_I g8) ?_
              refine wp_i2l rfl ?_
              refine wp_call (k := 48) (ρ2 := 0) (L2 := [vl x3, vu, vl 0, vu, vl ((h 91 x1) - 1), vu]) rfl rfl rfl (Nat.le_of_ble_eq_true rfl) (Nat.le_of_ble_eq_true rfl) (Nat.le_of_ble_eq_true rfl) (rcv_S rfl) rfl ?_
              refine wp_lload rfl rfl ?_
              refine wp_lload rfl rfl ?_
              refine wp_lcmp rfl ?_
              refine wp_iflt (tn := 17) rfl rfl (fun c9 => ?_) (fun c9 => ?_)
              · replace H := H.1 c9
                refine wp_iconst rfl ?_
                refine wp_zret rfl rfl (by decide) ?_
                show Wp X _ 55 46 [vr 89, vi x1, vi x2, vi x3] [vi 0] _ _
                refine wp_ifeqT (tn := 53) rfl rfl (by decide) ?_
                refine wp_aload rfl rfl ?_
                refine wp_iconst rfl ?_
                refine wp_call (k := 51) (ρ2 := 0) (L2 := [vr 89, vi 2]) rfl rfl rfl (Nat.le_of_ble_eq_true rfl) (Nat.le_of_ble_eq_true rfl) (Nat.le_of_ble_eq_true rfl) (rcv_V rfl (congrArg Prod.fst (kf_89 X.1))) rfl ?_
                refine wp_aload rfl rfl ?_
                refine wp_iload rfl rfl ?_
                refine wp_putI (j := 4) rfl (congrArg Prod.fst (kf_89 X.1)) rfl rfl rfl ?_
                refine wp_iconst rfl ?_
                refine wp_iload rfl rfl ?_
                refine wp_isub rfl ?_
                refine Wp.topI (y := (-12)) (by decide) ?_
                refine wp_iret rfl rfl ?_
                show Wp X _ 55 58 [vr 89, vi x1, vi x2, vi x3] [vi (-12)] _ _
                refine wp_iret rfl rfl ?_
                show Wp X _ 58 26 [vr 89, vi x1, vi x2, vi x3] [vi (-12)] _ _
                refine wp_ifeqF (tn := 32) rfl rfl (by decide) ?_
                refine wp_iconst rfl ?_
                exact wp_iret rfl rfl H
              · replace H := H.2 c9
                refine wp_lload rfl rfl ?_
                refine wp_lload rfl rfl ?_
                refine wp_lcmp rfl ?_
                refine wp_ifgt (tn := 17) rfl rfl (fun c10 => ?_) (fun c10 => ?_)
                · replace H := H.1 c10
                  refine wp_iconst rfl ?_
                  refine wp_zret rfl rfl (by decide) ?_
                  show Wp X _ 55 46 [vr 89, vi x1, vi x2, vi x3] [vi 0] _ _
                  refine wp_ifeqT (tn := 53) rfl rfl (by decide) ?_
                  refine wp_aload rfl rfl ?_
                  refine wp_iconst rfl ?_
                  refine wp_call (k := 51) (ρ2 := 0) (L2 := [vr 89, vi 2]) rfl rfl rfl (Nat.le_of_ble_eq_true rfl) (Nat.le_of_ble_eq_true rfl) (Nat.le_of_ble_eq_true rfl) (rcv_V rfl (congrArg Prod.fst (kf_89 X.1))) rfl ?_
                  refine wp_aload rfl rfl ?_
                  refine wp_iload rfl rfl ?_
                  refine wp_putI (j := 4) rfl (congrArg Prod.fst (kf_89 X.1)) rfl rfl rfl ?_
                  refine wp_iconst rfl ?_
                  refine wp_iload rfl rfl ?_
                  refine wp_isub rfl ?_
                  refine Wp.topI (y := (-12)) (by decide) ?_
                  refine wp_iret rfl rfl ?_
                  show Wp X _ 55 58 [vr 89, vi x1, vi x2, vi x3] [vi (-12)] _ _
                  refine wp_iret rfl rfl ?_
                  show Wp X _ 58 26 [vr 89, vi x1, vi x2, vi x3] [vi (-12)] _ _
                  refine wp_ifeqF (tn := 32) rfl rfl (by decide) ?_
                  refine wp_iconst rfl ?_
                  exact wp_iret rfl rfl H
                · replace H := H.2 c10
                  refine wp_iconst rfl ?_
                  refine wp_goto (tn := 18) rfl rfl ?_
                  refine wp_zret rfl rfl (by decide) ?_
                  show Wp X _ 55 46 [vr 89, vi x1, vi x2, vi x3] [vi 1] _ _
                  refine wp_ifeqF (tn := 53) rfl rfl (by decide) ?_
                  refine wp_iconst rfl ?_
                  refine wp_goto (tn := 58) rfl rfl ?_
                  refine wp_iret rfl rfl ?_
                  show Wp X _ 58 26 [vr 89, vi x1, vi x2, vi x3] [vi 0] _ _
                  refine wp_ifeqT (tn := 32) rfl rfl (by decide) ?_
                  refine wp_aload rfl rfl ?_
                  refine wp_getR (r := 91) rfl (congrArg Prod.fst (kf_89 X.1)) rfl ?_
                  refine wp_iconst rfl ?_
                  refine wp_iload rfl rfl ?_
                  refine wp_imul rfl ?_
                  refine Wp.topI (y := (60 * x1)) (w32_I (by clear H; unfold R32; omega)) ?_
                  refine wp_iload rfl rfl ?_
                  refine wp_iadd rfl ?_
                  have g11 := H.1
                  replace H := H.2
                  refine Wp.topI (y := ((60 * x1) + x3)) (w32_I g11) ?_
                  have g12 := H.1
                  replace H := H.2
                  refine wp_iaload rfl (kf_92 X.1) g12 ?_
                  exact wp_iret rfl rfl H
            · replace H := H.2 c7
              refine wp_aload rfl rfl ?_
              refine wp_iconst rfl ?_
              refine wp_call (k := 51) (ρ2 := 0) (L2 := [vr 89, vi 3]) rfl rfl rfl (Nat.le_of_ble_eq_true rfl) (Nat.le_of_ble_eq_true rfl) (Nat.le_of_ble_eq_true rfl) (rcv_V rfl (congrArg Prod.fst (kf_89 X.1))) rfl ?_
              refine wp_aload rfl rfl ?_
              refine wp_iload rfl rfl ?_
              refine wp_putI (j := 4) rfl (congrArg Prod.fst (kf_89 X.1)) rfl rfl rfl ?_
              refine wp_iconst rfl ?_
              refine wp_iload rfl rfl ?_
              refine wp_isub rfl ?_
              refine Wp.topI (y := (-13)) (by decide) ?_
              refine wp_iret rfl rfl ?_
              show Wp X _ 55 30 [vr 89, vi x1, vi x2, vi x3] [vi (-13)] _ _
              refine wp_iret rfl rfl ?_
              show Wp X _ 58 26 [vr 89, vi x1, vi x2, vi x3] [vi (-13)] _ _
              refine wp_ifeqF (tn := 32) rfl rfl (by decide) ?_
              refine wp_iconst rfl ?_
              exact wp_iret rfl rfl H
          · replace H := H.2 c6
            refine wp_aload rfl rfl ?_
            refine wp_iconst rfl ?_
            refine wp_call (k := 51) (ρ2 := 0) (L2 := [vr 89, vi 1]) rfl rfl rfl (Nat.le_of_ble_eq_true rfl) (Nat.le_of_ble_eq_true rfl) (Nat.le_of_ble_eq_true rfl) (rcv_V rfl (congrArg Prod.fst (kf_89 X.1))) rfl ?_
            refine wp_aload rfl rfl ?_
            refine wp_iload rfl rfl ?_
            refine wp_putI (j := 4) rfl (congrArg Prod.fst (kf_89 X.1)) rfl rfl rfl ?_
            refine wp_iconst rfl ?_
            refine wp_iload rfl rfl ?_
            refine wp_isub rfl ?_
            refine Wp.topI (y := (-11)) (by decide) ?_
            refine wp_iret rfl rfl ?_
            show Wp X _ 55 14 [vr 89, vi x1, vi x2, vi x3] [vi (-11)] _ _
            refine wp_iret rfl rfl ?_
            show Wp X _ 58 26 [vr 89, vi x1, vi x2, vi x3] [vi (-11)] _ _
            refine wp_ifeqF (tn := 32) rfl rfl (by decide) ?_
            refine wp_iconst rfl ?_
            exact wp_iret rfl rfl H
/-- WarnLinesModel.copy(IIIII)I, from 0 -/
theorem S59_89_0 {X : Nat × (Int → Int)} {h : HP} {Q : bQ} (x1 : Int) (x2 : Int) (x3 : Int) (x4 : Int) (x5 : Int) (H : (((lcp x1 0) < 0 → Q (some (vi (-2))) h) ∧ (0 ≤ (lcp x1 0) → ((0 < (lcp x1 3) → Q (some (vi (-2))) h) ∧ ((lcp x1 3) ≤ 0 → (((lcp x3 0) < 0 → Q (some (vi (-2))) h) ∧ (0 ≤ (lcp x3 0) → ((0 < (lcp x3 3) → Q (some (vi (-2))) h) ∧ ((lcp x3 3) ≤ 0 → ((0 ≤ x1 ∧ x1 < 4) ∧ (((h 90 x1) < 0 → Q (some (vi (-11))) (upd2 h 89 4 1)) ∧ (0 ≤ (h 90 x1) → ((0 ≤ x3 ∧ x3 < 4) ∧ ((0 ≤ (h 90 x3) → (((h 90 x1) = (h 90 x3) → ((x2 < 0 → Q (some (vi (-12))) (upd2 h 89 4 2)) ∧ (0 ≤ x2 → ((x4 < 0 → Q (some (vi (-12))) (upd2 h 89 4 2)) ∧ (0 ≤ x4 → ((x5 < 0 → Q (some (vi (-12))) (upd2 h 89 4 2)) ∧ (0 ≤ x5 → ((R64 (x2 + x5)) ∧ ((0 < (lcp (x2 + x5) (h 91 x1)) → Q (some (vi (-12))) (upd2 h 89 4 2)) ∧ ((lcp (x2 + x5) (h 91 x1)) ≤ 0 → ((R64 (x4 + x5)) ∧ (((lcp (x4 + x5) (h 91 x3)) ≤ 0 → Wp X 2 59 120 [vr 89, vi x1, vi x2, vi x3, vi x4, vi x5, vi 0] [] h Q) ∧ (0 < (lcp (x4 + x5) (h 91 x3)) → Q (some (vi (-12))) (upd2 h 89 4 2)))))))))))))) ∧ ((h 90 x1) ≠ (h 90 x3) → Q (some (vi (-14))) (upd2 h 89 4 4)))) ∧ ((h 90 x3) < 0 → Q (some (vi (-11))) (upd2 h 89 4 1)))))))))))))))) : Wp X 2 59 0 [vr 89, vi x1, vi x2, vi x3, vi x4, vi x5, vu] [] h Q := by
  refine wp_iload rfl rfl ?_
  refine wp_call (k := 52) (ρ2 := 1) (L2 := [vi x1]) rfl rfl rfl (Nat.le_of_ble_eq_true rfl) (Nat.le_of_ble_eq_true rfl) (Nat.le_of_ble_eq_true rfl) (rcv_S rfl) rfl ?_
  refine wp_iload rfl rfl ?_
  refine wp_i2l rfl ?_
  refine wp_sipush rfl ?_
  refine wp_sipush rfl ?_
  refine wp_call (k := 48) (ρ2 := 0) (L2 := [vl x1, vu, vl 0, vu, vl 3, vu]) rfl rfl rfl (Nat.le_of_ble_eq_true rfl) (Nat.le_of_ble_eq_true rfl) (Nat.le_of_ble_eq_true rfl) (rcv_S rfl) rfl ?_
  refine wp_lload rfl rfl ?_
  refine wp_lload rfl rfl ?_
  refine wp_lcmp rfl ?_
  refine wp_iflt (tn := 17) rfl rfl (fun c1 => ?_) (fun c1 => ?_)
  · replace H := H.1 c1
    refine wp_iconst rfl ?_
    refine wp_zret rfl rfl (by decide) ?_
    show Wp X _ 52 9 [vi x1] [vi 0] _ _
    refine wp_zret rfl rfl (by decide) ?_
    show Wp X _ 59 4 [vr 89, vi x1, vi x2, vi x3, vi x4, vi x5, vu] [vi 0] _ _
    refine wp_ifeqT (tn := 14) rfl rfl (by decide) ?_
    refine wp_iconst rfl ?_
    exact wp_iret rfl rfl H
  · replace H := H.2 c1
    refine wp_lload rfl rfl ?_
    refine wp_lload rfl rfl ?_
    refine wp_lcmp rfl ?_
    refine wp_ifgt (tn := 17) rfl rfl (fun c2 => ?_) (fun c2 => ?_)
    · replace H := H.1 c2
      refine wp_iconst rfl ?_
      refine wp_zret rfl rfl (by decide) ?_
      show Wp X _ 52 9 [vi x1] [vi 0] _ _
      refine wp_zret rfl rfl (by decide) ?_
      show Wp X _ 59 4 [vr 89, vi x1, vi x2, vi x3, vi x4, vi x5, vu] [vi 0] _ _
      refine wp_ifeqT (tn := 14) rfl rfl (by decide) ?_
      refine wp_iconst rfl ?_
      exact wp_iret rfl rfl H
    · replace H := H.2 c2
      refine wp_iconst rfl ?_
      refine wp_goto (tn := 18) rfl rfl ?_
      refine wp_zret rfl rfl (by decide) ?_
      show Wp X _ 52 9 [vi x1] [vi 1] _ _
      refine wp_zret rfl rfl (by decide) ?_
      show Wp X _ 59 4 [vr 89, vi x1, vi x2, vi x3, vi x4, vi x5, vu] [vi 1] _ _
      refine wp_ifeqF (tn := 14) rfl rfl (by decide) ?_
      refine wp_iload rfl rfl ?_
      refine wp_call (k := 52) (ρ2 := 1) (L2 := [vi x3]) rfl rfl rfl (Nat.le_of_ble_eq_true rfl) (Nat.le_of_ble_eq_true rfl) (Nat.le_of_ble_eq_true rfl) (rcv_S rfl) rfl ?_
      refine wp_iload rfl rfl ?_
      refine wp_i2l rfl ?_
      refine wp_sipush rfl ?_
      refine wp_sipush rfl ?_
      refine wp_call (k := 48) (ρ2 := 0) (L2 := [vl x3, vu, vl 0, vu, vl 3, vu]) rfl rfl rfl (Nat.le_of_ble_eq_true rfl) (Nat.le_of_ble_eq_true rfl) (Nat.le_of_ble_eq_true rfl) (rcv_S rfl) rfl ?_
      refine wp_lload rfl rfl ?_
      refine wp_lload rfl rfl ?_
      refine wp_lcmp rfl ?_
      refine wp_iflt (tn := 17) rfl rfl (fun c3 => ?_) (fun c3 => ?_)
      · replace H := H.1 c3
        refine wp_iconst rfl ?_
        refine wp_zret rfl rfl (by decide) ?_
        show Wp X _ 52 9 [vi x3] [vi 0] _ _
        refine wp_zret rfl rfl (by decide) ?_
        show Wp X _ 59 11 [vr 89, vi x1, vi x2, vi x3, vi x4, vi x5, vu] [vi 0] _ _
        refine wp_ifneF (tn := 17) rfl rfl (by decide) ?_
        refine wp_iconst rfl ?_
        exact wp_iret rfl rfl H
      · replace H := H.2 c3
        refine wp_lload rfl rfl ?_
        refine wp_lload rfl rfl ?_
        refine wp_lcmp rfl ?_
        refine wp_ifgt (tn := 17) rfl rfl (fun c4 => ?_) (fun c4 => ?_)
        · replace H := H.1 c4
          refine wp_iconst rfl ?_
          refine wp_zret rfl rfl (by decide) ?_
          show Wp X _ 52 9 [vi x3] [vi 0] _ _
          refine wp_zret rfl rfl (by decide) ?_
          show Wp X _ 59 11 [vr 89, vi x1, vi x2, vi x3, vi x4, vi x5, vu] [vi 0] _ _
          refine wp_ifneF (tn := 17) rfl rfl (by decide) ?_
          refine wp_iconst rfl ?_
          exact wp_iret rfl rfl H
        · replace H := H.2 c4
          refine wp_iconst rfl ?_
          refine wp_goto (tn := 18) rfl rfl ?_
          refine wp_zret rfl rfl (by decide) ?_
          show Wp X _ 52 9 [vi x3] [vi 1] _ _
          refine wp_zret rfl rfl (by decide) ?_
          show Wp X _ 59 11 [vr 89, vi x1, vi x2, vi x3, vi x4, vi x5, vu] [vi 1] _ _
          refine wp_ifneT (tn := 17) rfl rfl (by decide) ?_
          refine wp_aload rfl rfl ?_
          refine wp_getR (r := 89) rfl (congrArg Prod.fst (kf_89 X.1)) rfl ?_
          refine wp_iload rfl rfl ?_
          have g5 := H.1
          replace H := H.2
          refine wp_iaload rfl (kf_90 X.1) g5 ?_
          refine wp_iflt (tn := 35) rfl rfl (fun c6 => ?_) (fun c6 => ?_)
          · replace H := H.1 c6
            refine wp_aload rfl rfl ?_
            refine wp_iconst rfl ?_
            refine wp_call (k := 51) (ρ2 := 0) (L2 := [vr 89, vi 1]) rfl rfl rfl (Nat.le_of_ble_eq_true rfl) (Nat.le_of_ble_eq_true rfl) (Nat.le_of_ble_eq_true rfl) (rcv_V rfl (congrArg Prod.fst (kf_89 X.1))) rfl ?_
            refine wp_aload rfl rfl ?_
            refine wp_iload rfl rfl ?_
            refine wp_putI (j := 4) rfl (congrArg Prod.fst (kf_89 X.1)) rfl rfl rfl ?_
            refine wp_iconst rfl ?_
            refine wp_iload rfl rfl ?_
            refine wp_isub rfl ?_
            refine Wp.topI (y := (-11)) (by decide) ?_
            refine wp_iret rfl rfl ?_
            show Wp X _ 59 40 [vr 89, vi x1, vi x2, vi x3, vi x4, vi x5, vu] [vi (-11)] _ _
            exact wp_iret rfl rfl H
          · replace H := H.2 c6
            refine wp_aload rfl rfl ?_
            refine wp_getR (r := 89) rfl (congrArg Prod.fst (kf_89 X.1)) rfl ?_
            refine wp_iload rfl rfl ?_
            have g7 := H.1
            replace H := H.2
            refine wp_iaload rfl (kf_90 X.1) g7 ?_
            refine wp_ifge (tn := 41) rfl rfl (fun c8 => ?_) (fun c8 => ?_)
            · replace H := H.1 c8
              refine wp_aload rfl rfl ?_
              refine wp_getR (r := 89) rfl (congrArg Prod.fst (kf_89 X.1)) rfl ?_
              refine wp_iload rfl rfl ?_
              refine wp_iaload rfl (kf_90 X.1) ⟨g5.1, g5.2⟩ ?_
              refine wp_aload rfl rfl ?_
              refine wp_getR (r := 89) rfl (congrArg Prod.fst (kf_89 X.1)) rfl ?_
              refine wp_iload rfl rfl ?_
              refine wp_iaload rfl (kf_90 X.1) ⟨g7.1, g7.2⟩ ?_
              refine wp_iceq (tn := 62) rfl rfl (fun c9 => ?_) (fun c9 => ?_)
              · replace H := H.1 c9
                refine wp_iload rfl rfl ?_
                refine wp_iflt (tn := 111) rfl rfl (fun c10 => ?_) (fun c10 => ?_)
                · replace H := H.1 c10
                  refine wp_aload rfl rfl ?_
                  refine wp_iconst rfl ?_
                  refine wp_call (k := 51) (ρ2 := 0) (L2 := [vr 89, vi 2]) rfl rfl rfl (Nat.le_of_ble_eq_true rfl) (Nat.le_of_ble_eq_true rfl) (Nat.le_of_ble_eq_true rfl) (rcv_V rfl (congrArg Prod.fst (kf_89 X.1))) rfl ?_
                  refine wp_aload rfl rfl ?_
                  refine wp_iload rfl rfl ?_
                  refine wp_putI (j := 4) rfl (congrArg Prod.fst (kf_89 X.1)) rfl rfl rfl ?_
                  refine wp_iconst rfl ?_
                  refine wp_iload rfl rfl ?_
                  refine wp_isub rfl ?_
                  refine Wp.topI (y := (-12)) (by decide) ?_
                  refine wp_iret rfl rfl ?_
                  show Wp X _ 59 116 [vr 89, vi x1, vi x2, vi x3, vi x4, vi x5, vu] [vi (-12)] _ _
                  exact wp_iret rfl rfl H
                · replace H := H.2 c10
                  refine wp_iload rfl rfl ?_
                  refine wp_iflt (tn := 111) rfl rfl (fun c11 => ?_) (fun c11 => ?_)
                  · replace H := H.1 c11
                    refine wp_aload rfl rfl ?_
                    refine wp_iconst rfl ?_
                    refine wp_call (k := 51) (ρ2 := 0) (L2 := [vr 89, vi 2]) rfl rfl rfl (Nat.le_of_ble_eq_true rfl) (Nat.le_of_ble_eq_true rfl) (Nat.le_of_ble_eq_true rfl) (rcv_V rfl (congrArg Prod.fst (kf_89 X.1))) rfl ?_
                    refine wp_aload rfl rfl ?_
                    refine wp_iload rfl rfl ?_
                    refine wp_putI (j := 4) rfl (congrArg Prod.fst (kf_89 X.1)) rfl rfl rfl ?_
                    refine wp_iconst rfl ?_
                    refine wp_iload rfl rfl ?_
                    refine wp_isub rfl ?_
                    refine Wp.topI (y := (-12)) (by decide) ?_
                    refine wp_iret rfl rfl ?_
                    show Wp X _ 59 116 [vr 89, vi x1, vi x2, vi x3, vi x4, vi x5, vu] [vi (-12)] _ _
                    exact wp_iret rfl rfl H
                  · replace H := H.2 c11
                    refine wp_iload rfl rfl ?_
                    refine wp_iflt (tn := 111) rfl rfl (fun c12 => ?_) (fun c12 => ?_)
                    · replace H := H.1 c12
                      refine wp_aload rfl rfl ?_
                      refine wp_iconst rfl ?_
                      refine wp_call (k := 51) (ρ2 := 0) (L2 := [vr 89, vi 2]) rfl rfl rfl (Nat.le_of_ble_eq_true rfl) (Nat.le_of_ble_eq_true rfl) (Nat.le_of_ble_eq_true rfl) (rcv_V rfl (congrArg Prod.fst (kf_89 X.1))) rfl ?_
                      refine wp_aload rfl rfl ?_
                      refine wp_iload rfl rfl ?_
                      refine wp_putI (j := 4) rfl (congrArg Prod.fst (kf_89 X.1)) rfl rfl rfl ?_
                      refine wp_iconst rfl ?_
                      refine wp_iload rfl rfl ?_
                      refine wp_isub rfl ?_
                      refine Wp.topI (y := (-12)) (by decide) ?_
                      refine wp_iret rfl rfl ?_
                      show Wp X _ 59 116 [vr 89, vi x1, vi x2, vi x3, vi x4, vi x5, vu] [vi (-12)] _ _
                      exact wp_iret rfl rfl H
                    · replace H := H.2 c12
                      refine wp_iload rfl rfl ?_
                      refine wp_i2l rfl ?_
                      refine wp_iload rfl rfl ?_
                      refine wp_i2l rfl ?_
                      refine wp_ladd rfl ?_
                      have g13 := H.1
                      replace H := H.2
                      refine Wp.topL (y := (x2 + x5)) (w64_I g13) ?_
                      refine wp_aload rfl rfl ?_
                      refine wp_getR (r := 90) rfl (congrArg Prod.fst (kf_89 X.1)) rfl ?_
                      refine wp_iload rfl rfl ?_
                      refine wp_iaload rfl (kf_91 X.1) ⟨g5.1, g5.2⟩ ?_
                      refine wp_i2l rfl ?_
                      refine wp_lcmp rfl ?_
                      refine wp_ifgt (tn := 111) rfl rfl (fun c14 => ?_) (fun c14 => ?_)
                      · replace H := H.1 c14
                        refine wp_aload rfl rfl ?_
                        refine wp_iconst rfl ?_
                        refine wp_call (k := 51) (ρ2 := 0) (L2 := [vr 89, vi 2]) rfl rfl rfl (Nat.le_of_ble_eq_true rfl) (Nat.le_of_ble_eq_true rfl) (Nat.le_of_ble_eq_true rfl) (rcv_V rfl (congrArg Prod.fst (kf_89 X.1))) rfl ?_
                        refine wp_aload rfl rfl ?_
                        refine wp_iload rfl rfl ?_
                        refine wp_putI (j := 4) rfl (congrArg Prod.fst (kf_89 X.1)) rfl rfl rfl ?_
                        refine wp_iconst rfl ?_
                        refine wp_iload rfl rfl ?_
                        refine wp_isub rfl ?_
                        refine Wp.topI (y := (-12)) (by decide) ?_
                        refine wp_iret rfl rfl ?_
                        show Wp X _ 59 116 [vr 89, vi x1, vi x2, vi x3, vi x4, vi x5, vu] [vi (-12)] _ _
                        exact wp_iret rfl rfl H
                      · replace H := H.2 c14
                        refine wp_iload rfl rfl ?_
                        refine wp_i2l rfl ?_
                        refine wp_iload rfl rfl ?_
                        refine wp_i2l rfl ?_
                        refine wp_ladd rfl ?_
                        have g15 := H.1
                        replace H := H.2
                        refine Wp.topL (y := (x4 + x5)) (w64_I g15) ?_
                        refine wp_aload rfl rfl ?_
                        refine wp_getR (r := 90) rfl (congrArg Prod.fst (kf_89 X.1)) rfl ?_
                        refine wp_iload rfl rfl ?_
                        refine wp_iaload rfl (kf_91 X.1) ⟨g7.1, g7.2⟩ ?_
                        refine wp_i2l rfl ?_
                        refine wp_lcmp rfl ?_
                        refine wp_ifle (tn := 117) rfl rfl (fun c16 => ?_) (fun c16 => ?_)
                        · replace H := H.1 c16
                          refine wp_iconst rfl ?_
                          refine wp_istore (L2 := [vr 89, vi x1, vi x2, vi x3, vi x4, vi x5, vi 0]) rfl (Nat.le_of_ble_eq_true rfl) rfl ?_
                          exact H
                        · replace H := H.2 c16
                          refine wp_aload rfl rfl ?_
                          refine wp_iconst rfl ?_
                          refine wp_call (k := 51) (ρ2 := 0) (L2 := [vr 89, vi 2]) rfl rfl rfl (Nat.le_of_ble_eq_true rfl) (Nat.le_of_ble_eq_true rfl) (Nat.le_of_ble_eq_true rfl) (rcv_V rfl (congrArg Prod.fst (kf_89 X.1))) rfl ?_
                          refine wp_aload rfl rfl ?_
                          refine wp_iload rfl rfl ?_
                          refine wp_putI (j := 4) rfl (congrArg Prod.fst (kf_89 X.1)) rfl rfl rfl ?_
                          refine wp_iconst rfl ?_
                          refine wp_iload rfl rfl ?_
                          refine wp_isub rfl ?_
                          refine Wp.topI (y := (-12)) (by decide) ?_
                          refine wp_iret rfl rfl ?_
                          show Wp X _ 59 116 [vr 89, vi x1, vi x2, vi x3, vi x4, vi x5, vu] [vi (-12)] _ _
                          exact wp_iret rfl rfl H
              · replace H := H.2 c9
                refine wp_aload rfl rfl ?_
                refine wp_iconst rfl ?_
                refine wp_call (k := 51) (ρ2 := 0) (L2 := [vr 89, vi 4]) rfl rfl rfl (Nat.le_of_ble_eq_true rfl) (Nat.le_of_ble_eq_true rfl) (Nat.le_of_ble_eq_true rfl) (rcv_V rfl (congrArg Prod.fst (kf_89 X.1))) rfl ?_
                refine wp_aload rfl rfl ?_
                refine wp_iload rfl rfl ?_
                refine wp_putI (j := 4) rfl (congrArg Prod.fst (kf_89 X.1)) rfl rfl rfl ?_
                refine wp_iconst rfl ?_
                refine wp_iload rfl rfl ?_
                refine wp_isub rfl ?_
                refine Wp.topI (y := (-14)) (by decide) ?_
                refine wp_iret rfl rfl ?_
                show Wp X _ 59 61 [vr 89, vi x1, vi x2, vi x3, vi x4, vi x5, vu] [vi (-14)] _ _
                exact wp_iret rfl rfl H
            · replace H := H.2 c8
              refine wp_aload rfl rfl ?_
              refine wp_iconst rfl ?_
              refine wp_call (k := 51) (ρ2 := 0) (L2 := [vr 89, vi 1]) rfl rfl rfl (Nat.le_of_ble_eq_true rfl) (Nat.le_of_ble_eq_true rfl) (Nat.le_of_ble_eq_true rfl) (rcv_V rfl (congrArg Prod.fst (kf_89 X.1))) rfl ?_
              refine wp_aload rfl rfl ?_
              refine wp_iload rfl rfl ?_
              refine wp_putI (j := 4) rfl (congrArg Prod.fst (kf_89 X.1)) rfl rfl rfl ?_
              refine wp_iconst rfl ?_
              refine wp_iload rfl rfl ?_
              refine wp_isub rfl ?_
              refine Wp.topI (y := (-11)) (by decide) ?_
              refine wp_iret rfl rfl ?_
              show Wp X _ 59 40 [vr 89, vi x1, vi x2, vi x3, vi x4, vi x5, vu] [vi (-11)] _ _
              exact wp_iret rfl rfl H
/-- WarnLinesModel.copy(IIIII)I, from 120 -/
theorem S59_89_120 {X : Nat × (Int → Int)} {h : HP} {Q : bQ} (x1 : Int) (x2 : Int) (x3 : Int) (x4 : Int) (x5 : Int) (x6 : Int) (H : ((x5 ≤ x6 → Wp X 2 59 157 [vr 89, vi x1, vi x2, vi x3, vi x4, vi x5, vi 0] [] h Q) ∧ (x6 < x5 → ((R32 (60 * x1)) ∧ ((R32 ((60 * x1) + x2)) ∧ ((R32 (((60 * x1) + x2) + x6)) ∧ ((0 ≤ (((60 * x1) + x2) + x6) ∧ (((60 * x1) + x2) + x6) < 240) ∧ ((0 ≤ x6 ∧ x6 < 60) ∧ Wp X 2 59 120 [vr 89, vi x1, vi x2, vi x3, vi x4, vi x5, vi (x6 + 1)] [] (upd2 h 93 x6 (h 92 (((60 * x1) + x2) + x6))) Q)))))))) : Wp X 2 59 120 [vr 89, vi x1, vi x2, vi x3, vi x4, vi x5, vi x6] [] h Q := by
  refine wp_iload rfl rfl ?_
  refine wp_iload rfl rfl ?_
  refine wp_icge (tn := 154) rfl rfl (fun c1 => ?_) (fun c1 => ?_)
  · replace H := H.1 c1
    refine wp_iconst rfl ?_
    refine wp_istore (L2 := [vr 89, vi x1, vi x2, vi x3, vi x4, vi x5, vi 0]) rfl (Nat.le_of_ble_eq_true rfl) rfl ?_
    exact H
  · replace H := H.2 c1
    refine wp_aload rfl rfl ?_
    refine wp_getR (r := 92) rfl (congrArg Prod.fst (kf_89 X.1)) rfl ?_
    refine wp_iload rfl rfl ?_
    refine wp_aload rfl rfl ?_
    refine wp_getR (r := 91) rfl (congrArg Prod.fst (kf_89 X.1)) rfl ?_
    refine wp_iconst rfl ?_
    refine wp_iload rfl rfl ?_
    refine wp_imul rfl ?_
    have g2 := H.1
    replace H := H.2
    refine Wp.topI (y := (60 * x1)) (w32_I g2) ?_
    refine wp_iload rfl rfl ?_
    refine wp_iadd rfl ?_
    have g3 := H.1
    replace H := H.2
    refine Wp.topI (y := ((60 * x1) + x2)) (w32_I g3) ?_
    refine wp_iload rfl rfl ?_
    refine wp_iadd rfl ?_
    have g4 := H.1
    replace H := H.2
    refine Wp.topI (y := (((60 * x1) + x2) + x6)) (w32_I g4) ?_
    have g5 := H.1
    replace H := H.2
    refine wp_iaload rfl (kf_92 X.1) g5 ?_
    have g6 := H.1
    replace H := H.2
    refine wp_iastore rfl (kf_93 X.1) g6 ?_
    refine wp_iincR (L2 := [vr 89, vi x1, vi x2, vi x3, vi x4, vi x5, vi (x6 + 1)]) rfl rfl (by clear H; unfold R32; omega) rfl ?_
    refine wp_goto (tn := 120) rfl rfl ?_
    exact H
/-- WarnLinesModel.copy(IIIII)I, from 157 -/
theorem S59_89_157 {X : Nat × (Int → Int)} {h : HP} {Q : bQ} (zx1 : aV) (zx2 : aV) (x3 : Int) (x4 : Int) (x5 : Int) (x6 : Int) (H : ((x5 ≤ x6 → Q (some (vi 1)) h) ∧ (x6 < x5 → ((R32 (60 * x3)) ∧ ((R32 ((60 * x3) + x4)) ∧ ((R32 (((60 * x3) + x4) + x6)) ∧ ((0 ≤ x6 ∧ x6 < 60) ∧ ((0 ≤ (((60 * x3) + x4) + x6) ∧ (((60 * x3) + x4) + x6) < 240) ∧ Wp X 2 59 157 [vr 89, zx1, zx2, vi x3, vi x4, vi x5, vi (x6 + 1)] [] (upd2 h 92 (((60 * x3) + x4) + x6) (h 93 x6)) Q)))))))) : Wp X 2 59 157 [vr 89, zx1, zx2, vi x3, vi x4, vi x5, vi x6] [] h Q := by
  refine wp_iload rfl rfl ?_
  refine wp_iload rfl rfl ?_
  refine wp_icge (tn := 192) rfl rfl (fun c1 => ?_) (fun c1 => ?_)
  · replace H := H.1 c1
    refine wp_iconst rfl ?_
    exact wp_iret rfl rfl H
  · replace H := H.2 c1
    refine wp_aload rfl rfl ?_
    refine wp_getR (r := 91) rfl (congrArg Prod.fst (kf_89 X.1)) rfl ?_
    refine wp_iconst rfl ?_
    refine wp_iload rfl rfl ?_
    refine wp_imul rfl ?_
    have g2 := H.1
    replace H := H.2
    refine Wp.topI (y := (60 * x3)) (w32_I g2) ?_
    refine wp_iload rfl rfl ?_
    refine wp_iadd rfl ?_
    have g3 := H.1
    replace H := H.2
    refine Wp.topI (y := ((60 * x3) + x4)) (w32_I g3) ?_
    refine wp_iload rfl rfl ?_
    refine wp_iadd rfl ?_
    have g4 := H.1
    replace H := H.2
    refine Wp.topI (y := (((60 * x3) + x4) + x6)) (w32_I g4) ?_
    refine wp_aload rfl rfl ?_
    refine wp_getR (r := 92) rfl (congrArg Prod.fst (kf_89 X.1)) rfl ?_
    refine wp_iload rfl rfl ?_
    have g5 := H.1
    replace H := H.2
    refine wp_iaload rfl (kf_93 X.1) g5 ?_
    have g6 := H.1
    replace H := H.2
    refine wp_iastore rfl (kf_92 X.1) g6 ?_
    refine wp_iincR (L2 := [vr 89, zx1, zx2, vi x3, vi x4, vi x5, vi (x6 + 1)]) rfl rfl (by clear H; unfold R32; omega) rfl ?_
    refine wp_goto (tn := 157) rfl rfl ?_
    exact H
/-- WarnLinesModel.divisor(JJ)J, from 0 -/
theorem S60_0 {X : Nat × (Int → Int)} {h : HP} {Q : bQ} (x0 : Int) (x2 : Int) (H : ((0 ≤ (lcp x0 0) → Wp X 0 60 17 [vl x0, vu, vl x2, vu, vl x0, vu, vl x2, vu, vu, vu] [] h Q) ∧ ((lcp x0 0) < 0 → ((R64 (-x0)) ∧ Wp X 0 60 17 [vl x0, vu, vl x2, vu, vl (-x0), vu, vl x2, vu, vu, vu] [] h Q)))) : Wp X 0 60 0 [vl x0, vu, vl x2, vu, vu, vu, vu, vu, vu, vu] [] h Q := by
  refine wp_lload rfl rfl ?_
  refine wp_sipush rfl ?_
  refine wp_lcmp rfl ?_
  refine wp_ifge (tn := 11) rfl rfl (fun c1 => ?_) (fun c1 => ?_)
  · replace H := H.1 c1
    refine wp_lload rfl rfl ?_
    refine wp_lstore (L2 := [vl x0, vu, vl x2, vu, vl x0, vu, vu, vu, vu, vu]) rfl (Nat.le_of_ble_eq_true rfl) rfl ?_
    refine wp_lload rfl rfl ?_
    refine wp_lstore (L2 := [vl x0, vu, vl x2, vu, vl x0, vu, vl x2, vu, vu, vu]) rfl (Nat.le_of_ble_eq_true rfl) rfl ?_
    exact H
  · replace H := H.2 c1
    refine wp_lload rfl rfl ?_
    refine wp_lneg rfl ?_
    have g2 := H.1
    replace H := H.2
    refine Wp.topL (y := (-x0)) (w64_I g2) ?_
    refine wp_goto (tn := 12) rfl rfl ?_
    refine wp_lstore (L2 := [vl x0, vu, vl x2, vu, vl (-x0), vu, vu, vu, vu, vu]) rfl (Nat.le_of_ble_eq_true rfl) rfl ?_
    refine wp_lload rfl rfl ?_
    refine wp_lstore (L2 := [vl x0, vu, vl x2, vu, vl (-x0), vu, vl x2, vu, vu, vu]) rfl (Nat.le_of_ble_eq_true rfl) rfl ?_
    exact H
/-- WarnLinesModel.divisor(JJ)J, from 17 -/
theorem S60_17 {X : Nat × (Int → Int)} {h : HP} {Q : bQ} (zx0 : aV) (zx2 : aV) (x4 : Int) (x6 : Int) (zx8 : aV) (H : (((lcp x6 0) = 0 → Q (some (vl x4)) h) ∧ ((lcp x6 0) ≠ 0 → (x6 ≠ 0 ∧ Wp X 0 60 17 [zx0, vu, zx2, vu, vl x6, vu, vl (Int.tmod x4 x6), vu, vl (Int.tmod x4 x6), vu] [] h Q)))) : Wp X 0 60 17 [zx0, vu, zx2, vu, vl x4, vu, vl x6, vu, zx8, vu] [] h Q := by
  refine wp_lload rfl rfl ?_
  refine wp_sipush rfl ?_
  refine wp_lcmp rfl ?_
  refine wp_ifeq (tn := 42) rfl rfl (fun c1 => ?_) (fun c1 => ?_)
  · replace H := H.1 c1
    refine wp_lload rfl rfl ?_
    exact wp_lret rfl rfl H
  · replace H := H.2 c1
    refine wp_lload rfl rfl ?_
    refine wp_lload rfl rfl ?_
    have g2 := H.1
    replace H := H.2
    refine wp_lrem rfl g2 ?_
    refine wp_lstore (L2 := [zx0, vu, zx2, vu, vl x4, vu, vl x6, vu, vl (Int.tmod x4 x6), vu]) rfl (Nat.le_of_ble_eq_true rfl) rfl ?_
    refine wp_lload rfl rfl ?_
    refine wp_lstore (L2 := [zx0, vu, zx2, vu, vl x6, vu, vl x6, vu, vl (Int.tmod x4 x6), vu]) rfl (Nat.le_of_ble_eq_true rfl) rfl ?_
    refine wp_lload rfl rfl ?_
    refine wp_lstore (L2 := [zx0, vu, zx2, vu, vl x6, vu, vl (Int.tmod x4 x6), vu, vl (Int.tmod x4 x6), vu]) rfl (Nat.le_of_ble_eq_true rfl) rfl ?_
    refine wp_goto (tn := 17) rfl rfl ?_
    exact H
/-- WarnLinesModel.part(JJI)J, from 0 -/
theorem S61_0 {X : Nat × (Int → Int)} {h : HP} {Q : bQ} (x0 : Int) (x2 : Int) (x4 : Int) (H : ((x4 ≠ 0 → Wp X 0 60 0 [vl x0, vu, vl x2, vu, vu, vu, vu, vu, vu, vu] [] h (fun v h' => Wp X 1 61 15 [vl x0, vu, vl x2, vu, vi x4] (psh v [vl x2]) h' Q)) ∧ (x4 = 0 → Wp X 0 60 0 [vl x0, vu, vl x2, vu, vu, vu, vu, vu, vu, vu] [] h (fun v h' => Wp X 1 61 15 [vl x0, vu, vl x2, vu, vi x4] (psh v [vl x0]) h' Q)))) : Wp X 1 61 0 [vl x0, vu, vl x2, vu, vi x4] [] h Q := by
  refine wp_iload rfl rfl ?_
  refine wp_ifne (tn := 9) rfl rfl (fun c1 => ?_) (fun c1 => ?_)
  · replace H := H.1 c1
    refine wp_lload rfl rfl ?_
    refine wp_lload rfl rfl ?_
    refine wp_lload rfl rfl ?_
    exact wp_call (k := 60) (ρ2 := 0) (L2 := [vl x0, vu, vl x2, vu, vu, vu, vu, vu, vu, vu]) rfl rfl rfl (Nat.le_of_ble_eq_true rfl) (Nat.le_of_ble_eq_true rfl) (Nat.le_of_ble_eq_true rfl) (rcv_S rfl) rfl H
  · replace H := H.2 c1
    refine wp_lload rfl rfl ?_
    refine wp_goto (tn := 10) rfl rfl ?_
    refine wp_lload rfl rfl ?_
    refine wp_lload rfl rfl ?_
    exact wp_call (k := 60) (ρ2 := 0) (L2 := [vl x0, vu, vl x2, vu, vu, vu, vu, vu, vu, vu]) rfl rfl rfl (Nat.le_of_ble_eq_true rfl) (Nat.le_of_ble_eq_true rfl) (Nat.le_of_ble_eq_true rfl) (rcv_S rfl) rfl H
/-- WarnLinesModel.part(JJI)J, from 15 -/
theorem S61_15 {X : Nat × (Int → Int)} {h : HP} {Q : bQ} (zx0 : aV) (zx2 : aV) (zx4 : aV) (s0 : Int) (s1 : Int) (H : (s0 ≠ 0 ∧ ((R64 (Int.tdiv s1 s0)) ∧ Q (some (vl (Int.tdiv s1 s0))) h))) : Wp X 1 61 15 [zx0, vu, zx2, vu, zx4] [vl s0, vl s1] h Q := by
  have g1 := H.1
  replace H := H.2
  refine wp_ldiv rfl g1 ?_
  have g2 := H.1
  replace H := H.2
  refine Wp.topL (y := (Int.tdiv s1 s0)) (w64_I g2) ?_
  exact wp_lret rfl rfl H
/-- WarnLinesModel.group()I, from 0 -/
theorem S65_89_0 {X : Nat × (Int → Int)} {h : HP} {Q : bQ}  (H : (((h 89 5) ≠ 20 → ((R32 ((h 89 5) + 1)) ∧ ((R32 (((h 89 5) + 1) - 1)) ∧ Q (some (vi (((h 89 5) + 1) - 1))) (upd2 h 89 5 ((h 89 5) + 1))))) ∧ ((h 89 5) = 20 → Q (some (vi (-4))) h))) : Wp X 0 65 0 [vr 89] [] h Q := by
  refine wp_aload rfl rfl ?_
  refine wp_getI (j := 5) rfl (congrArg Prod.fst (kf_89 X.1)) rfl ?_
  refine wp_iconst rfl ?_
  refine wp_icne (tn := 12) rfl rfl (fun c1 => ?_) (fun c1 => ?_)
  · replace H := H.1 c1
    refine wp_aload rfl rfl ?_
    refine wp_dupR rfl ?_
    refine wp_getI (j := 5) rfl (congrArg Prod.fst (kf_89 X.1)) rfl ?_
    refine wp_iconst rfl ?_
    refine wp_iadd rfl ?_
    have g2 := H.1
    replace H := H.2
    refine Wp.topI (y := ((h 89 5) + 1)) (w32_I g2) ?_
    refine wp_putI (j := 5) rfl (congrArg Prod.fst (kf_89 X.1)) rfl rfl rfl ?_
    refine wp_aload rfl rfl ?_
    refine wp_getI (j := 5) rfl (congrArg Prod.fst (kf_89 X.1)) rfl ?_
    refine Wp.topI (y := ((h 89 5) + 1)) upd2_s ?_
    refine wp_iconst rfl ?_
    refine wp_isub rfl ?_
    have g3 := H.1
    replace H := H.2
    refine Wp.topI (y := (((h 89 5) + 1) - 1)) (w32_I g3) ?_
    exact wp_iret rfl rfl H
  · replace H := H.2 c1
    refine wp_iconst rfl ?_
    exact wp_iret rfl rfl H
/-- WarnLinesModel.told(IIII)I, from 0 -/
theorem S66_89_0 {X : Nat × (Int → Int)} {h : HP} {Q : bQ} (x1 : Int) (x2 : Int) (x3 : Int) (x4 : Int) (H : ((R32 ((h 89 5) - 1)) ∧ (((lcp x1 0) < 0 → Q (some (vi (-2))) h) ∧ (0 ≤ (lcp x1 0) → ((0 < (lcp x1 ((h 89 5) - 1)) → Q (some (vi (-2))) h) ∧ ((lcp x1 ((h 89 5) - 1)) ≤ 0 → (((lcp x2 0) < 0 → Q (some (vi (-2))) h) ∧ (0 ≤ (lcp x2 0) → ((0 < (lcp x2 4) → Q (some (vi (-2))) h) ∧ ((lcp x2 4) ≤ 0 → (((lcp x3 (-1)) < 0 → Q (some (vi (-2))) h) ∧ (0 ≤ (lcp x3 (-1)) → ((0 < (lcp x3 999) → Q (some (vi (-2))) h) ∧ ((lcp x3 999) ≤ 0 → (((lcp x4 0) < 0 → Q (some (vi (-2))) h) ∧ (0 ≤ (lcp x4 0) → ((0 < (lcp x4 999) → Q (some (vi (-2))) h) ∧ ((lcp x4 999) ≤ 0 → (((h 89 6) ≤ 0 → ((R32 (5 * x1)) ∧ ((R32 ((5 * x1) + x2)) ∧ ((0 ≤ (h 89 6) ∧ (h 89 6) < 100) ∧ Q (some (vi ((h 89 6) + 1))) (upd2 (upd2 (upd2 (upd2 h 94 (h 89 6) ((5 * x1) + x2)) 95 (h 89 6) x3) 96 (h 89 6) x4) 89 6 ((h 89 6) + 1)))))) ∧ (0 < (h 89 6) → ((R32 ((h 89 6) - 1)) ∧ ((0 ≤ ((h 89 6) - 1) ∧ ((h 89 6) - 1) < 100) ∧ (((h 96 ((h 89 6) - 1)) ≤ x4 → (((h 89 6) ≠ 100 → ((R32 (5 * x1)) ∧ ((R32 ((5 * x1) + x2)) ∧ ((0 ≤ (h 89 6) ∧ (h 89 6) < 100) ∧ Q (some (vi ((h 89 6) + 1))) (upd2 (upd2 (upd2 (upd2 h 94 (h 89 6) ((5 * x1) + x2)) 95 (h 89 6) x3) 96 (h 89 6) x4) 89 6 ((h 89 6) + 1)))))) ∧ ((h 89 6) = 100 → Q (some (vi (-4))) h))) ∧ (x4 < (h 96 ((h 89 6) - 1)) → Q (some (vi (-2))) h)))))))))))))))))))))))) : Wp X 2 66 0 [vr 89, vi x1, vi x2, vi x3, vi x4] [] h Q := by
  refine wp_aload rfl rfl ?_
  refine wp_iload rfl rfl ?_
  refine wp_call (k := 62) (ρ2 := 1) (L2 := [vr 89, vi x1]) rfl rfl rfl (Nat.le_of_ble_eq_true rfl) (Nat.le_of_ble_eq_true rfl) (Nat.le_of_ble_eq_true rfl) (rcv_V rfl (congrArg Prod.fst (kf_89 X.1))) rfl ?_
  refine wp_iload rfl rfl ?_
  refine wp_i2l rfl ?_
  refine wp_sipush rfl ?_
  refine wp_aload rfl rfl ?_
  refine wp_getI (j := 5) rfl (congrArg Prod.fst (kf_89 X.1)) rfl ?_
  refine wp_iconst rfl ?_
  refine wp_isub rfl ?_
  have g1 := H.1
  replace H := H.2
  refine Wp.topI (y := ((h 89 5) - 1)) (w32_I g1) ?_
  refine wp_i2l rfl ?_
  refine wp_call (k := 48) (ρ2 := 0) (L2 := [vl x1, vu, vl 0, vu, vl ((h 89 5) - 1), vu]) rfl rfl rfl (Nat.le_of_ble_eq_true rfl) (Nat.le_of_ble_eq_true rfl) (Nat.le_of_ble_eq_true rfl) (rcv_S rfl) rfl ?_
  refine wp_lload rfl rfl ?_
  refine wp_lload rfl rfl ?_
  refine wp_lcmp rfl ?_
  refine wp_iflt (tn := 17) rfl rfl (fun c2 => ?_) (fun c2 => ?_)
  · replace H := H.1 c2
    refine wp_iconst rfl ?_
    refine wp_zret rfl rfl (by decide) ?_
    show Wp X _ 62 13 [vr 89, vi x1] [vi 0] _ _
    refine wp_zret rfl rfl (by decide) ?_
    show Wp X _ 66 5 [vr 89, vi x1, vi x2, vi x3, vi x4] [vi 0] _ _
    refine wp_ifeqT (tn := 51) rfl rfl (by decide) ?_
    refine wp_iconst rfl ?_
    exact wp_iret rfl rfl H
  · replace H := H.2 c2
    refine wp_lload rfl rfl ?_
    refine wp_lload rfl rfl ?_
    refine wp_lcmp rfl ?_
    refine wp_ifgt (tn := 17) rfl rfl (fun c3 => ?_) (fun c3 => ?_)
    · replace H := H.1 c3
      refine wp_iconst rfl ?_
      refine wp_zret rfl rfl (by decide) ?_
      show Wp X _ 62 13 [vr 89, vi x1] [vi 0] _ _
      refine wp_zret rfl rfl (by decide) ?_
      show Wp X _ 66 5 [vr 89, vi x1, vi x2, vi x3, vi x4] [vi 0] _ _
      refine wp_ifeqT (tn := 51) rfl rfl (by decide) ?_
      refine wp_iconst rfl ?_
      exact wp_iret rfl rfl H
    · replace H := H.2 c3
      refine wp_iconst rfl ?_
      refine wp_goto (tn := 18) rfl rfl ?_
      refine wp_zret rfl rfl (by decide) ?_
      show Wp X _ 62 13 [vr 89, vi x1] [vi 1] _ _
      refine wp_zret rfl rfl (by decide) ?_
      show Wp X _ 66 5 [vr 89, vi x1, vi x2, vi x3, vi x4] [vi 1] _ _
      refine wp_ifeqF (tn := 51) rfl rfl (by decide) ?_
      refine wp_iload rfl rfl ?_
      refine wp_i2l rfl ?_
      refine wp_sipush rfl ?_
      refine wp_sipush rfl ?_
      refine wp_call (k := 48) (ρ2 := 0) (L2 := [vl x2, vu, vl 0, vu, vl 4, vu]) rfl rfl rfl (Nat.le_of_ble_eq_true rfl) (Nat.le_of_ble_eq_true rfl) (Nat.le_of_ble_eq_true rfl) (rcv_S rfl) rfl ?_
      refine wp_lload rfl rfl ?_
      refine wp_lload rfl rfl ?_
      refine wp_lcmp rfl ?_
      refine wp_iflt (tn := 17) rfl rfl (fun c4 => ?_) (fun c4 => ?_)
      · replace H := H.1 c4
        refine wp_iconst rfl ?_
        refine wp_zret rfl rfl (by decide) ?_
        show Wp X _ 66 17 [vr 89, vi x1, vi x2, vi x3, vi x4] [vi 0] _ _
        refine wp_ifeqT (tn := 51) rfl rfl (by decide) ?_
        refine wp_iconst rfl ?_
        exact wp_iret rfl rfl H
      · replace H := H.2 c4
        refine wp_lload rfl rfl ?_
        refine wp_lload rfl rfl ?_
        refine wp_lcmp rfl ?_
        refine wp_ifgt (tn := 17) rfl rfl (fun c5 => ?_) (fun c5 => ?_)
        · replace H := H.1 c5
          refine wp_iconst rfl ?_
          refine wp_zret rfl rfl (by decide) ?_
          show Wp X _ 66 17 [vr 89, vi x1, vi x2, vi x3, vi x4] [vi 0] _ _
          refine wp_ifeqT (tn := 51) rfl rfl (by decide) ?_
          refine wp_iconst rfl ?_
          exact wp_iret rfl rfl H
        · replace H := H.2 c5
          refine wp_iconst rfl ?_
          refine wp_goto (tn := 18) rfl rfl ?_
          refine wp_zret rfl rfl (by decide) ?_
          show Wp X _ 66 17 [vr 89, vi x1, vi x2, vi x3, vi x4] [vi 1] _ _
          refine wp_ifeqF (tn := 51) rfl rfl (by decide) ?_
          refine wp_iload rfl rfl ?_
          refine wp_i2l rfl ?_
          refine wp_sipush rfl ?_
          refine wp_sipush rfl ?_
          refine wp_call (k := 48) (ρ2 := 0) (L2 := [vl x3, vu, vl (-1), vu, vl 999, vu]) rfl rfl rfl (Nat.le_of_ble_eq_true rfl) (Nat.le_of_ble_eq_true rfl) (Nat.le_of_ble_eq_true rfl) (rcv_S rfl) rfl ?_
          refine wp_lload rfl rfl ?_
          refine wp_lload rfl rfl ?_
          refine wp_lcmp rfl ?_
          refine wp_iflt (tn := 17) rfl rfl (fun c6 => ?_) (fun c6 => ?_)
          · replace H := H.1 c6
            refine wp_iconst rfl ?_
            refine wp_zret rfl rfl (by decide) ?_
            show Wp X _ 66 31 [vr 89, vi x1, vi x2, vi x3, vi x4] [vi 0] _ _
            refine wp_ifeqT (tn := 51) rfl rfl (by decide) ?_
            refine wp_iconst rfl ?_
            exact wp_iret rfl rfl H
          · replace H := H.2 c6
            refine wp_lload rfl rfl ?_
            refine wp_lload rfl rfl ?_
            refine wp_lcmp rfl ?_
            refine wp_ifgt (tn := 17) rfl rfl (fun c7 => ?_) (fun c7 => ?_)
            · replace H := H.1 c7
              refine wp_iconst rfl ?_
              refine wp_zret rfl rfl (by decide) ?_
              show Wp X _ 66 31 [vr 89, vi x1, vi x2, vi x3, vi x4] [vi 0] _ _
              refine wp_ifeqT (tn := 51) rfl rfl (by decide) ?_
              refine wp_iconst rfl ?_
              exact wp_iret rfl rfl H
            · replace H := H.2 c7
              refine wp_iconst rfl ?_
              refine wp_goto (tn := 18) rfl rfl ?_
              refine wp_zret rfl rfl (by decide) ?_
              show Wp X _ 66 31 [vr 89, vi x1, vi x2, vi x3, vi x4] [vi 1] _ _
              refine wp_ifeqF (tn := 51) rfl rfl (by decide) ?_
              refine wp_iload rfl rfl ?_
              refine wp_call (k := 63) (ρ2 := 1) (L2 := [vi x4]) rfl rfl rfl (Nat.le_of_ble_eq_true rfl) (Nat.le_of_ble_eq_true rfl) (Nat.le_of_ble_eq_true rfl) (rcv_S rfl) rfl ?_
              refine wp_iload rfl rfl ?_
              refine wp_i2l rfl ?_
              refine wp_sipush rfl ?_
              refine wp_sipush rfl ?_
              refine wp_call (k := 48) (ρ2 := 0) (L2 := [vl x4, vu, vl 0, vu, vl 999, vu]) rfl rfl rfl (Nat.le_of_ble_eq_true rfl) (Nat.le_of_ble_eq_true rfl) (Nat.le_of_ble_eq_true rfl) (rcv_S rfl) rfl ?_
              refine wp_lload rfl rfl ?_
              refine wp_lload rfl rfl ?_
              refine wp_lcmp rfl ?_
              refine wp_iflt (tn := 17) rfl rfl (fun c8 => ?_) (fun c8 => ?_)
              · replace H := H.1 c8
                refine wp_iconst rfl ?_
                refine wp_zret rfl rfl (by decide) ?_
                show Wp X _ 63 9 [vi x4] [vi 0] _ _
                refine wp_zret rfl rfl (by decide) ?_
                show Wp X _ 66 39 [vr 89, vi x1, vi x2, vi x3, vi x4] [vi 0] _ _
                refine wp_ifeqT (tn := 51) rfl rfl (by decide) ?_
                refine wp_iconst rfl ?_
                exact wp_iret rfl rfl H
              · replace H := H.2 c8
                refine wp_lload rfl rfl ?_
                refine wp_lload rfl rfl ?_
                refine wp_lcmp rfl ?_
                refine wp_ifgt (tn := 17) rfl rfl (fun c9 => ?_) (fun c9 => ?_)
                · replace H := H.1 c9
                  refine wp_iconst rfl ?_
                  refine wp_zret rfl rfl (by decide) ?_
                  show Wp X _ 63 9 [vi x4] [vi 0] _ _
                  refine wp_zret rfl rfl (by decide) ?_
                  show Wp X _ 66 39 [vr 89, vi x1, vi x2, vi x3, vi x4] [vi 0] _ _
                  refine wp_ifeqT (tn := 51) rfl rfl (by decide) ?_
                  refine wp_iconst rfl ?_
                  exact wp_iret rfl rfl H
                · replace H := H.2 c9
                  refine wp_iconst rfl ?_
                  refine wp_goto (tn := 18) rfl rfl ?_
                  refine wp_zret rfl rfl (by decide) ?_
                  show Wp X _ 63 9 [vi x4] [vi 1] _ _
                  refine wp_zret rfl rfl (by decide) ?_
                  show Wp X _ 66 39 [vr 89, vi x1, vi x2, vi x3, vi x4] [vi 1] _ _
                  refine wp_ifeqF (tn := 51) rfl rfl (by decide) ?_
                  refine wp_aload rfl rfl ?_
                  refine wp_iload rfl rfl ?_
                  refine wp_call (k := 64) (ρ2 := 0) (L2 := [vr 89, vi x4]) rfl rfl rfl (Nat.le_of_ble_eq_true rfl) (Nat.le_of_ble_eq_true rfl) (Nat.le_of_ble_eq_true rfl) (rcv_V rfl (congrArg Prod.fst (kf_89 X.1))) rfl ?_
                  refine wp_aload rfl rfl ?_
                  refine wp_getI (j := 6) rfl (congrArg Prod.fst (kf_89 X.1)) rfl ?_
                  refine wp_ifle (tn := 26) rfl rfl (fun c10 => ?_) (fun c10 => ?_)
                  · replace H := H.1 c10
                    refine wp_iconst rfl ?_
                    refine wp_zret rfl rfl (by decide) ?_
                    show Wp X _ 66 48 [vr 89, vi x1, vi x2, vi x3, vi x4] [vi 0] _ _
                    refine wp_ifeqT (tn := 54) rfl rfl (by decide) ?_
                    refine wp_aload rfl rfl ?_
                    refine wp_getI (j := 6) rfl (congrArg Prod.fst (kf_89 X.1)) rfl ?_
                    refine wp_iconst rfl ?_
                    refine wp_icneT (tn := 66) rfl rfl (by clear H; omega) ?_
                    refine wp_aload rfl rfl ?_
                    refine wp_getR (r := 93) rfl (congrArg Prod.fst (kf_89 X.1)) rfl ?_
                    refine wp_aload rfl rfl ?_
                    refine wp_getI (j := 6) rfl (congrArg Prod.fst (kf_89 X.1)) rfl ?_
                    refine wp_iconst rfl ?_
                    refine wp_iload rfl rfl ?_
                    refine wp_imul rfl ?_
                    have g11 := H.1
                    replace H := H.2
                    refine Wp.topI (y := (5 * x1)) (w32_I g11) ?_
                    refine wp_iload rfl rfl ?_
                    refine wp_iadd rfl ?_
                    have g12 := H.1
                    replace H := H.2
                    refine Wp.topI (y := ((5 * x1) + x2)) (w32_I g12) ?_
                    have g13 := H.1
                    replace H := H.2
                    refine wp_iastore rfl (kf_94 X.1) g13 ?_
                    refine wp_aload rfl rfl ?_
                    refine wp_getR (r := 94) rfl (congrArg Prod.fst (kf_89 X.1)) rfl ?_
                    refine wp_aload rfl rfl ?_
                    refine wp_getI (j := 6) rfl (congrArg Prod.fst (kf_89 X.1)) rfl ?_
                    refine Wp.topI (y := (h 89 6)) (congrFun (upd2_ne (by decide)) _) ?_
                    refine wp_iload rfl rfl ?_
                    refine wp_iastore rfl (kf_95 X.1) ⟨g13.1, g13.2⟩ ?_
                    refine wp_aload rfl rfl ?_
                    refine wp_getR (r := 95) rfl (congrArg Prod.fst (kf_89 X.1)) rfl ?_
                    refine wp_aload rfl rfl ?_
                    refine wp_getI (j := 6) rfl (congrArg Prod.fst (kf_89 X.1)) rfl ?_
                    refine Wp.topI (y := (h 89 6)) (congrFun ((upd2_ne (by decide)).trans (upd2_ne (by decide))) _) ?_
                    refine wp_iload rfl rfl ?_
                    refine wp_iastore rfl (kf_96 X.1) ⟨g13.1, g13.2⟩ ?_
                    refine wp_aload rfl rfl ?_
                    refine wp_dupR rfl ?_
                    refine wp_getI (j := 6) rfl (congrArg Prod.fst (kf_89 X.1)) rfl ?_
                    refine Wp.topI (y := (h 89 6)) (congrFun ((upd2_ne (by decide)).trans ((upd2_ne (by decide)).trans (upd2_ne (by decide)))) _) ?_
                    refine wp_iconst rfl ?_
                    refine wp_iadd rfl ?_
                    refine Wp.topI (y := ((h 89 6) + 1)) (w32_I (by clear H; unfold R32; omega)) ?_
                    refine wp_putI (j := 6) rfl (congrArg Prod.fst (kf_89 X.1)) rfl rfl rfl ?_
                    refine wp_aload rfl rfl ?_
                    refine wp_getI (j := 6) rfl (congrArg Prod.fst (kf_89 X.1)) rfl ?_
                    refine Wp.topI (y := ((h 89 6) + 1)) ((congrFun (upd2_cg ((upd2_ne (by decide)).trans ((upd2_ne (by decide)).trans (upd2_ne (by decide))))) _).trans upd2_s) ?_
                    exact wp_iret rfl rfl H
                  · replace H := H.2 c10
                    refine wp_iload rfl rfl ?_
                    refine wp_aload rfl rfl ?_
                    refine wp_getR (r := 95) rfl (congrArg Prod.fst (kf_89 X.1)) rfl ?_
                    refine wp_aload rfl rfl ?_
                    refine wp_getI (j := 6) rfl (congrArg Prod.fst (kf_89 X.1)) rfl ?_
                    refine wp_iconst rfl ?_
                    refine wp_isub rfl ?_
                    have g14 := H.1
                    replace H := H.2
                    refine Wp.topI (y := ((h 89 6) - 1)) (w32_I g14) ?_
                    have g15 := H.1
                    replace H := H.2
                    refine wp_iaload rfl (kf_96 X.1) g15 ?_
                    refine wp_icge (tn := 26) rfl rfl (fun c16 => ?_) (fun c16 => ?_)
                    · replace H := H.1 c16
                      refine wp_iconst rfl ?_
                      refine wp_zret rfl rfl (by decide) ?_
                      show Wp X _ 66 48 [vr 89, vi x1, vi x2, vi x3, vi x4] [vi 0] _ _
                      refine wp_ifeqT (tn := 54) rfl rfl (by decide) ?_
                      refine wp_aload rfl rfl ?_
                      refine wp_getI (j := 6) rfl (congrArg Prod.fst (kf_89 X.1)) rfl ?_
                      refine wp_iconst rfl ?_
                      refine wp_icne (tn := 66) rfl rfl (fun c17 => ?_) (fun c17 => ?_)
                      · replace H := H.1 c17
                        refine wp_aload rfl rfl ?_
                        refine wp_getR (r := 93) rfl (congrArg Prod.fst (kf_89 X.1)) rfl ?_
                        refine wp_aload rfl rfl ?_
                        refine wp_getI (j := 6) rfl (congrArg Prod.fst (kf_89 X.1)) rfl ?_
                        refine wp_iconst rfl ?_
                        refine wp_iload rfl rfl ?_
                        refine wp_imul rfl ?_
                        have g18 := H.1
                        replace H := H.2
                        refine Wp.topI (y := (5 * x1)) (w32_I g18) ?_
                        refine wp_iload rfl rfl ?_
                        refine wp_iadd rfl ?_
                        have g19 := H.1
                        replace H := H.2
                        refine Wp.topI (y := ((5 * x1) + x2)) (w32_I g19) ?_
                        have g20 := H.1
                        replace H := H.2
                        refine wp_iastore rfl (kf_94 X.1) g20 ?_
                        refine wp_aload rfl rfl ?_
                        refine wp_getR (r := 94) rfl (congrArg Prod.fst (kf_89 X.1)) rfl ?_
                        refine wp_aload rfl rfl ?_
                        refine wp_getI (j := 6) rfl (congrArg Prod.fst (kf_89 X.1)) rfl ?_
                        refine Wp.topI (y := (h 89 6)) (congrFun (upd2_ne (by decide)) _) ?_
                        refine wp_iload rfl rfl ?_
                        refine wp_iastore rfl (kf_95 X.1) ⟨g20.1, g20.2⟩ ?_
                        refine wp_aload rfl rfl ?_
                        refine wp_getR (r := 95) rfl (congrArg Prod.fst (kf_89 X.1)) rfl ?_
                        refine wp_aload rfl rfl ?_
                        refine wp_getI (j := 6) rfl (congrArg Prod.fst (kf_89 X.1)) rfl ?_
                        refine Wp.topI (y := (h 89 6)) (congrFun ((upd2_ne (by decide)).trans (upd2_ne (by decide))) _) ?_
                        refine wp_iload rfl rfl ?_
                        refine wp_iastore rfl (kf_96 X.1) ⟨g20.1, g20.2⟩ ?_
                        refine wp_aload rfl rfl ?_
                        refine wp_dupR rfl ?_
                        refine wp_getI (j := 6) rfl (congrArg Prod.fst (kf_89 X.1)) rfl ?_
                        refine Wp.topI (y := (h 89 6)) (congrFun ((upd2_ne (by decide)).trans ((upd2_ne (by decide)).trans (upd2_ne (by decide)))) _) ?_
                        refine wp_iconst rfl ?_
                        refine wp_iadd rfl ?_
                        refine Wp.topI (y := ((h 89 6) + 1)) (w32_I (by clear H; unfold R32; omega)) ?_
                        refine wp_putI (j := 6) rfl (congrArg Prod.fst (kf_89 X.1)) rfl rfl rfl ?_
                        refine wp_aload rfl rfl ?_
                        refine wp_getI (j := 6) rfl (congrArg Prod.fst (kf_89 X.1)) rfl ?_
                        refine Wp.topI (y := ((h 89 6) + 1)) ((congrFun (upd2_cg ((upd2_ne (by decide)).trans ((upd2_ne (by decide)).trans (upd2_ne (by decide))))) _).trans upd2_s) ?_
                        exact wp_iret rfl rfl H
                      · replace H := H.2 c17
                        refine wp_iconst rfl ?_
                        exact wp_iret rfl rfl H
                    · replace H := H.2 c16
                      refine wp_iconst rfl ?_
                      refine wp_goto (tn := 27) rfl rfl ?_
                      refine wp_zret rfl rfl (by decide) ?_
                      show Wp X _ 66 48 [vr 89, vi x1, vi x2, vi x3, vi x4] [vi 1] _ _
                      refine wp_ifeqF (tn := 54) rfl rfl (by decide) ?_
                      refine wp_iconst rfl ?_
                      exact wp_iret rfl rfl H
