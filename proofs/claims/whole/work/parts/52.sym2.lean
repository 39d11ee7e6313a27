-- ===== the methods run symbolically, 2 (by program: wip/whole/gen_sym.py) =====
/-- WarnLines.odds(I)I, from 0 -/
theorem S15_6_0 {X : Nat × (Int → Int)} {h : HP} {Q : bQ} (x1 : Int) (H : ((x1 < 0 → Q (some (vi (-2))) h) ∧ (0 ≤ x1 → ((x1 ≤ 3 → ((x1 = 0 → (((h 81 1) ≠ (-1) → ((8 ≤ (h 81 2) → Wp X 2 178 0 [vr 69, vr 81, vu, vu, vu] [] h (fun v h' => Wp X 3 15 55 [vr 6, vi 0, vr 81] (psh v []) h' Q)) ∧ ((h 81 2) < 8 → Q (some (vi (-12))) (upd2 h 6 10 2)))) ∧ ((h 81 1) = (-1) → Q (some (vi (-11))) (upd2 h 6 10 1)))) ∧ (x1 = 1 → (((h 83 1) ≠ (-1) → ((8 ≤ (h 83 2) → Wp X 2 178 0 [vr 69, vr 83, vu, vu, vu] [] h (fun v h' => Wp X 3 15 55 [vr 6, vi 1, vr 83] (psh v []) h' Q)) ∧ ((h 83 2) < 8 → Q (some (vi (-12))) (upd2 h 6 10 2)))) ∧ ((h 83 1) = (-1) → Q (some (vi (-11))) (upd2 h 6 10 1)))) ∧ (x1 = 2 → (((h 85 1) ≠ (-1) → ((8 ≤ (h 85 2) → Wp X 2 178 0 [vr 69, vr 85, vu, vu, vu] [] h (fun v h' => Wp X 3 15 55 [vr 6, vi 2, vr 85] (psh v []) h' Q)) ∧ ((h 85 2) < 8 → Q (some (vi (-12))) (upd2 h 6 10 2)))) ∧ ((h 85 1) = (-1) → Q (some (vi (-11))) (upd2 h 6 10 1)))) ∧ (x1 = 3 → (((h 87 1) ≠ (-1) → ((8 ≤ (h 87 2) → Wp X 2 178 0 [vr 69, vr 87, vu, vu, vu] [] h (fun v h' => Wp X 3 15 55 [vr 6, vi 3, vr 87] (psh v []) h' Q)) ∧ ((h 87 2) < 8 → Q (some (vi (-12))) (upd2 h 6 10 2)))) ∧ ((h 87 1) = (-1) → Q (some (vi (-11))) (upd2 h 6 10 1)))))) ∧ (3 < x1 → Q (some (vi (-2))) h))))) : Wp X 3 15 0 [vr 6, vi x1, vu] [] h Q := by
  refine wp_iload rfl rfl ?_
  refine wp_iconst rfl ?_
  refine wp_iconst rfl ?_
  refine wp_call (k := 40) (ρ2 := 0) (L2 := [vi x1, vi 0, vi 3]) rfl rfl rfl (Nat.le_of_ble_eq_true rfl) (Nat.le_of_ble_eq_true rfl) (Nat.le_of_ble_eq_true rfl) (rcv_S rfl) rfl ?_
  refine wp_iload rfl rfl ?_
  refine wp_iload rfl rfl ?_
  refine wp_iclt (tn := 10) rfl rfl (fun c1 => ?_) (fun c1 => ?_)
  · replace H := H.1 c1
    refine wp_iconst rfl ?_
    refine wp_goto (tn := 15) rfl rfl ?_
    refine wp_zret rfl rfl (by decide) ?_
    show Wp X _ 15 6 [vr 6, vi x1, vu] [vi 1] _ _
    refine wp_ifeqF (tn := 12) rfl rfl (by decide) ?_
    refine wp_iconst rfl ?_
    exact wp_iret rfl rfl H
  · replace H := H.2 c1
    refine wp_iload rfl rfl ?_
    refine wp_iload rfl rfl ?_
    refine wp_icle (tn := 14) rfl rfl (fun c2 => ?_) (fun c2 => ?_)
    · replace H := H.1 c2
      refine wp_iconst rfl ?_
      refine wp_zret rfl rfl (by decide) ?_
      show Wp X _ 15 6 [vr 6, vi x1, vu] [vi 0] _ _
      refine wp_ifeqT (tn := 12) rfl rfl (by decide) ?_
      refine wp_aload rfl rfl ?_
      refine wp_getR (r := 79) rfl (congrArg Prod.fst (kf_6 X.1)) rfl ?_
      refine wp_iload rfl rfl ?_
      rcases (show x1 = 0 ∨ x1 = 1 ∨ x1 = 2 ∨ x1 = 3 by have := (show 0 ≤ x1 ∧ x1 < 4 from ⟨c1, (by clear H; omega)⟩); clear H; omega) with rfl | rfl | rfl | rfl
      · replace H := H.1 rfl
        refine wp_aaload (r := 80) rfl (kf_80 X.1) (by decide) (by decide) rfl ?_
        refine wp_astore (L2 := [vr 6, vi 0, vr 81]) rfl (Nat.le_of_ble_eq_true rfl) rfl ?_
        refine wp_aload rfl rfl ?_
        refine wp_call (k := 220) (ρ2 := 0) (L2 := [vr 81]) rfl rfl rfl (Nat.le_of_ble_eq_true rfl) (Nat.le_of_ble_eq_true rfl) (Nat.le_of_ble_eq_true rfl) (rcv_V rfl (congrArg Prod.fst (kf_81 X.1))) rfl ?_
        refine wp_aload rfl rfl ?_
        refine wp_getI (j := 1) rfl (congrArg Prod.fst (kf_81 X.1)) rfl ?_
        refine wp_iconst rfl ?_
        refine wp_icne (tn := 12) rfl rfl (fun c3 => ?_) (fun c3 => ?_)
        · replace H := H.1 c3
          refine wp_iconst rfl ?_
          refine wp_zret rfl rfl (by decide) ?_
          show Wp X _ 15 23 [vr 6, vi 0, vr 81] [vi 0] _ _
          refine wp_ifeqT (tn := 32) rfl rfl (by decide) ?_
          refine wp_aload rfl rfl ?_
          refine wp_call (k := 222) (ρ2 := 0) (L2 := [vr 81]) rfl rfl rfl (Nat.le_of_ble_eq_true rfl) (Nat.le_of_ble_eq_true rfl) (Nat.le_of_ble_eq_true rfl) (rcv_V rfl (congrArg Prod.fst (kf_81 X.1))) rfl ?_
          refine wp_aload rfl rfl ?_
          refine wp_getI (j := 2) rfl (congrArg Prod.fst (kf_81 X.1)) rfl ?_
          refine wp_iret rfl rfl ?_
          show Wp X _ 15 36 [vr 6, vi 0, vr 81] [vi (h 81 2)] _ _
          refine wp_iconst rfl ?_
          refine wp_icge (tn := 47) rfl rfl (fun c4 => ?_) (fun c4 => ?_)
          · replace H := H.1 c4
            refine wp_aload rfl rfl ?_
            refine wp_getR (r := 68) rfl (congrArg Prod.fst (kf_6 X.1)) rfl ?_
            refine wp_aload rfl rfl ?_
            exact wp_call (k := 178) (ρ2 := 2) (L2 := [vr 69, vr 81, vu, vu, vu]) rfl rfl rfl (Nat.le_of_ble_eq_true rfl) (Nat.le_of_ble_eq_true rfl) (Nat.le_of_ble_eq_true rfl) (rcv_V rfl (congrArg Prod.fst (kf_69 X.1))) rfl H
          · replace H := H.2 c4
            refine wp_aload rfl rfl ?_
            refine wp_iconst rfl ?_
            refine wp_call (k := 38) (ρ2 := 0) (L2 := [vr 6, vi 2]) rfl rfl rfl (Nat.le_of_ble_eq_true rfl) (Nat.le_of_ble_eq_true rfl) (Nat.le_of_ble_eq_true rfl) (rcv_V rfl (congrArg Prod.fst (kf_6 X.1))) rfl ?_
            refine wp_aload rfl rfl ?_
            refine wp_iload rfl rfl ?_
            refine wp_putI (j := 10) rfl (congrArg Prod.fst (kf_6 X.1)) rfl rfl rfl ?_
            refine wp_iconst rfl ?_
            refine wp_iload rfl rfl ?_
            refine wp_isub rfl ?_
            refine Wp.topI (y := (-12)) (by decide) ?_
            refine wp_iret rfl rfl ?_
            show Wp X _ 15 46 [vr 6, vi 0, vr 81] [vi (-12)] _ _
            exact wp_iret rfl rfl H
        · replace H := H.2 c3
          refine wp_iconst rfl ?_
          refine wp_goto (tn := 13) rfl rfl ?_
          refine wp_zret rfl rfl (by decide) ?_
          show Wp X _ 15 23 [vr 6, vi 0, vr 81] [vi 1] _ _
          refine wp_ifeqF (tn := 32) rfl rfl (by decide) ?_
          refine wp_aload rfl rfl ?_
          refine wp_iconst rfl ?_
          refine wp_call (k := 38) (ρ2 := 0) (L2 := [vr 6, vi 1]) rfl rfl rfl (Nat.le_of_ble_eq_true rfl) (Nat.le_of_ble_eq_true rfl) (Nat.le_of_ble_eq_true rfl) (rcv_V rfl (congrArg Prod.fst (kf_6 X.1))) rfl ?_
          refine wp_aload rfl rfl ?_
          refine wp_iload rfl rfl ?_
          refine wp_putI (j := 10) rfl (congrArg Prod.fst (kf_6 X.1)) rfl rfl rfl ?_
          refine wp_iconst rfl ?_
          refine wp_iload rfl rfl ?_
          refine wp_isub rfl ?_
          refine Wp.topI (y := (-11)) (by decide) ?_
          refine wp_iret rfl rfl ?_
          show Wp X _ 15 31 [vr 6, vi 0, vr 81] [vi (-11)] _ _
          exact wp_iret rfl rfl H
      · replace H := H.2.1 rfl
        refine wp_aaload (r := 82) rfl (kf_80 X.1) (by decide) (by decide) rfl ?_
        refine wp_astore (L2 := [vr 6, vi 1, vr 83]) rfl (Nat.le_of_ble_eq_true rfl) rfl ?_
        refine wp_aload rfl rfl ?_
        refine wp_call (k := 220) (ρ2 := 0) (L2 := [vr 83]) rfl rfl rfl (Nat.le_of_ble_eq_true rfl) (Nat.le_of_ble_eq_true rfl) (Nat.le_of_ble_eq_true rfl) (rcv_V rfl (congrArg Prod.fst (kf_83 X.1))) rfl ?_
        refine wp_aload rfl rfl ?_
        refine wp_getI (j := 1) rfl (congrArg Prod.fst (kf_83 X.1)) rfl ?_
        refine wp_iconst rfl ?_
        refine wp_icne (tn := 12) rfl rfl (fun c5 => ?_) (fun c5 => ?_)
        · replace H := H.1 c5
          refine wp_iconst rfl ?_
          refine wp_zret rfl rfl (by decide) ?_
          show Wp X _ 15 23 [vr 6, vi 1, vr 83] [vi 0] _ _
          refine wp_ifeqT (tn := 32) rfl rfl (by decide) ?_
          refine wp_aload rfl rfl ?_
          refine wp_call (k := 222) (ρ2 := 0) (L2 := [vr 83]) rfl rfl rfl (Nat.le_of_ble_eq_true rfl) (Nat.le_of_ble_eq_true rfl) (Nat.le_of_ble_eq_true rfl) (rcv_V rfl (congrArg Prod.fst (kf_83 X.1))) rfl ?_
          refine wp_aload rfl rfl ?_
          refine wp_getI (j := 2) rfl (congrArg Prod.fst (kf_83 X.1)) rfl ?_
          refine wp_iret rfl rfl ?_
          show Wp X _ 15 36 [vr 6, vi 1, vr 83] [vi (h 83 2)] _ _
          refine wp_iconst rfl ?_
          refine wp_icge (tn := 47) rfl rfl (fun c6 => ?_) (fun c6 => ?_)
          · replace H := H.1 c6
            refine wp_aload rfl rfl ?_
            refine wp_getR (r := 68) rfl (congrArg Prod.fst (kf_6 X.1)) rfl ?_
            refine wp_aload rfl rfl ?_
            exact wp_call (k := 178) (ρ2 := 2) (L2 := [vr 69, vr 83, vu, vu, vu]) rfl rfl rfl (Nat.le_of_ble_eq_true rfl) (Nat.le_of_ble_eq_true rfl) (Nat.le_of_ble_eq_true rfl) (rcv_V rfl (congrArg Prod.fst (kf_69 X.1))) rfl H
          · replace H := H.2 c6
            refine wp_aload rfl rfl ?_
            refine wp_iconst rfl ?_
            refine wp_call (k := 38) (ρ2 := 0) (L2 := [vr 6, vi 2]) rfl rfl rfl (Nat.le_of_ble_eq_true rfl) (Nat.le_of_ble_eq_true rfl) (Nat.le_of_ble_eq_true rfl) (rcv_V rfl (congrArg Prod.fst (kf_6 X.1))) rfl ?_
            refine wp_aload rfl rfl ?_
            refine wp_iload rfl rfl ?_
            refine wp_putI (j := 10) rfl (congrArg Prod.fst (kf_6 X.1)) rfl rfl rfl ?_
            refine wp_iconst rfl ?_
            refine wp_iload rfl rfl ?_
            refine wp_isub rfl ?_
            refine Wp.topI (y := (-12)) (by decide) ?_
            refine wp_iret rfl rfl ?_
            show Wp X _ 15 46 [vr 6, vi 1, vr 83] [vi (-12)] _ _
            exact wp_iret rfl rfl H
        · replace H := H.2 c5
          refine wp_iconst rfl ?_
          refine wp_goto (tn := 13) rfl rfl ?_
          refine wp_zret rfl rfl (by decide) ?_
          show Wp X _ 15 23 [vr 6, vi 1, vr 83] [vi 1] _ _
          refine wp_ifeqF (tn := 32) rfl rfl (by decide) ?_
          refine wp_aload rfl rfl ?_
          refine wp_iconst rfl ?_
          refine wp_call (k := 38) (ρ2 := 0) (L2 := [vr 6, vi 1]) rfl rfl rfl (Nat.le_of_ble_eq_true rfl) (Nat.le_of_ble_eq_true rfl) (Nat.le_of_ble_eq_true rfl) (rcv_V rfl (congrArg Prod.fst (kf_6 X.1))) rfl ?_
          refine wp_aload rfl rfl ?_
          refine wp_iload rfl rfl ?_
          refine wp_putI (j := 10) rfl (congrArg Prod.fst (kf_6 X.1)) rfl rfl rfl ?_
          refine wp_iconst rfl ?_
          refine wp_iload rfl rfl ?_
          refine wp_isub rfl ?_
          refine Wp.topI (y := (-11)) (by decide) ?_
          refine wp_iret rfl rfl ?_
          show Wp X _ 15 31 [vr 6, vi 1, vr 83] [vi (-11)] _ _
          exact wp_iret rfl rfl H
      · replace H := H.2.2.1 rfl
        refine wp_aaload (r := 84) rfl (kf_80 X.1) (by decide) (by decide) rfl ?_
        refine wp_astore (L2 := [vr 6, vi 2, vr 85]) rfl (Nat.le_of_ble_eq_true rfl) rfl ?_
        refine wp_aload rfl rfl ?_
        refine wp_call (k := 220) (ρ2 := 0) (L2 := [vr 85]) rfl rfl rfl (Nat.le_of_ble_eq_true rfl) (Nat.le_of_ble_eq_true rfl) (Nat.le_of_ble_eq_true rfl) (rcv_V rfl (congrArg Prod.fst (kf_85 X.1))) rfl ?_
        refine wp_aload rfl rfl ?_
        refine wp_getI (j := 1) rfl (congrArg Prod.fst (kf_85 X.1)) rfl ?_
        refine wp_iconst rfl ?_
        refine wp_icne (tn := 12) rfl rfl (fun c7 => ?_) (fun c7 => ?_)
        · replace H := H.1 c7
          refine wp_iconst rfl ?_
          refine wp_zret rfl rfl (by decide) ?_
          show Wp X _ 15 23 [vr 6, vi 2, vr 85] [vi 0] _ _
          refine wp_ifeqT (tn := 32) rfl rfl (by decide) ?_
          refine wp_aload rfl rfl ?_
          refine wp_call (k := 222) (ρ2 := 0) (L2 := [vr 85]) rfl rfl rfl (Nat.le_of_ble_eq_true rfl) (Nat.le_of_ble_eq_true rfl) (Nat.le_of_ble_eq_true rfl) (rcv_V rfl (congrArg Prod.fst (kf_85 X.1))) rfl ?_
          refine wp_aload rfl rfl ?_
          refine wp_getI (j := 2) rfl (congrArg Prod.fst (kf_85 X.1)) rfl ?_
          refine wp_iret rfl rfl ?_
          show Wp X _ 15 36 [vr 6, vi 2, vr 85] [vi (h 85 2)] _ _
          refine wp_iconst rfl ?_
          refine wp_icge (tn := 47) rfl rfl (fun c8 => ?_) (fun c8 => ?_)
          · replace H := H.1 c8
            refine wp_aload rfl rfl ?_
            refine wp_getR (r := 68) rfl (congrArg Prod.fst (kf_6 X.1)) rfl ?_
            refine wp_aload rfl rfl ?_
            exact wp_call (k := 178) (ρ2 := 2) (L2 := [vr 69, vr 85, vu, vu, vu]) rfl rfl rfl (Nat.le_of_ble_eq_true rfl) (Nat.le_of_ble_eq_true rfl) (Nat.le_of_ble_eq_true rfl) (rcv_V rfl (congrArg Prod.fst (kf_69 X.1))) rfl H
          · replace H := H.2 c8
            refine wp_aload rfl rfl ?_
            refine wp_iconst rfl ?_
            refine wp_call (k := 38) (ρ2 := 0) (L2 := [vr 6, vi 2]) rfl rfl rfl (Nat.le_of_ble_eq_true rfl) (Nat.le_of_ble_eq_true rfl) (Nat.le_of_ble_eq_true rfl) (rcv_V rfl (congrArg Prod.fst (kf_6 X.1))) rfl ?_
            refine wp_aload rfl rfl ?_
            refine wp_iload rfl rfl ?_
            refine wp_putI (j := 10) rfl (congrArg Prod.fst (kf_6 X.1)) rfl rfl rfl ?_
            refine wp_iconst rfl ?_
            refine wp_iload rfl rfl ?_
            refine wp_isub rfl ?_
            refine Wp.topI (y := (-12)) (by decide) ?_
            refine wp_iret rfl rfl ?_
            show Wp X _ 15 46 [vr 6, vi 2, vr 85] [vi (-12)] _ _
            exact wp_iret rfl rfl H
        · replace H := H.2 c7
          refine wp_iconst rfl ?_
          refine wp_goto (tn := 13) rfl rfl ?_
          refine wp_zret rfl rfl (by decide) ?_
          show Wp X _ 15 23 [vr 6, vi 2, vr 85] [vi 1] _ _
          refine wp_ifeqF (tn := 32) rfl rfl (by decide) ?_
          refine wp_aload rfl rfl ?_
          refine wp_iconst rfl ?_
          refine wp_call (k := 38) (ρ2 := 0) (L2 := [vr 6, vi 1]) rfl rfl rfl (Nat.le_of_ble_eq_true rfl) (Nat.le_of_ble_eq_true rfl) (Nat.le_of_ble_eq_true rfl) (rcv_V rfl (congrArg Prod.fst (kf_6 X.1))) rfl ?_
          refine wp_aload rfl rfl ?_
          refine wp_iload rfl rfl ?_
          refine wp_putI (j := 10) rfl (congrArg Prod.fst (kf_6 X.1)) rfl rfl rfl ?_
          refine wp_iconst rfl ?_
          refine wp_iload rfl rfl ?_
          refine wp_isub rfl ?_
          refine Wp.topI (y := (-11)) (by decide) ?_
          refine wp_iret rfl rfl ?_
          show Wp X _ 15 31 [vr 6, vi 2, vr 85] [vi (-11)] _ _
          exact wp_iret rfl rfl H
      · replace H := H.2.2.2 rfl
        refine wp_aaload (r := 86) rfl (kf_80 X.1) (by decide) (by decide) rfl ?_
        refine wp_astore (L2 := [vr 6, vi 3, vr 87]) rfl (Nat.le_of_ble_eq_true rfl) rfl ?_
        refine wp_aload rfl rfl ?_
        refine wp_call (k := 220) (ρ2 := 0) (L2 := [vr 87]) rfl rfl rfl (Nat.le_of_ble_eq_true rfl) (Nat.le_of_ble_eq_true rfl) (Nat.le_of_ble_eq_true rfl) (rcv_V rfl (congrArg Prod.fst (kf_87 X.1))) rfl ?_
        refine wp_aload rfl rfl ?_
        refine wp_getI (j := 1) rfl (congrArg Prod.fst (kf_87 X.1)) rfl ?_
        refine wp_iconst rfl ?_
        refine wp_icne (tn := 12) rfl rfl (fun c9 => ?_) (fun c9 => ?_)
        · replace H := H.1 c9
          refine wp_iconst rfl ?_
          refine wp_zret rfl rfl (by decide) ?_
          show Wp X _ 15 23 [vr 6, vi 3, vr 87] [vi 0] _ _
          refine wp_ifeqT (tn := 32) rfl rfl (by decide) ?_
          refine wp_aload rfl rfl ?_
          refine wp_call (k := 222) (ρ2 := 0) (L2 := [vr 87]) rfl rfl rfl (Nat.le_of_ble_eq_true rfl) (Nat.le_of_ble_eq_true rfl) (Nat.le_of_ble_eq_true rfl) (rcv_V rfl (congrArg Prod.fst (kf_87 X.1))) rfl ?_
          refine wp_aload rfl rfl ?_
          refine wp_getI (j := 2) rfl (congrArg Prod.fst (kf_87 X.1)) rfl ?_
          refine wp_iret rfl rfl ?_
          show Wp X _ 15 36 [vr 6, vi 3, vr 87] [vi (h 87 2)] _ _
          refine wp_iconst rfl ?_
          refine wp_icge (tn := 47) rfl rfl (fun c10 => ?_) (fun c10 => ?_)
          · replace H := H.1 c10
            refine wp_aload rfl rfl ?_
            refine wp_getR (r := 68) rfl (congrArg Prod.fst (kf_6 X.1)) rfl ?_
            refine wp_aload rfl rfl ?_
            exact wp_call (k := 178) (ρ2 := 2) (L2 := [vr 69, vr 87, vu, vu, vu]) rfl rfl rfl (Nat.le_of_ble_eq_true rfl) (Nat.le_of_ble_eq_true rfl) (Nat.le_of_ble_eq_true rfl) (rcv_V rfl (congrArg Prod.fst (kf_69 X.1))) rfl H
          · replace H := H.2 c10
            refine wp_aload rfl rfl ?_
            refine wp_iconst rfl ?_
            refine wp_call (k := 38) (ρ2 := 0) (L2 := [vr 6, vi 2]) rfl rfl rfl (Nat.le_of_ble_eq_true rfl) (Nat.le_of_ble_eq_true rfl) (Nat.le_of_ble_eq_true rfl) (rcv_V rfl (congrArg Prod.fst (kf_6 X.1))) rfl ?_
            refine wp_aload rfl rfl ?_
            refine wp_iload rfl rfl ?_
            refine wp_putI (j := 10) rfl (congrArg Prod.fst (kf_6 X.1)) rfl rfl rfl ?_
            refine wp_iconst rfl ?_
            refine wp_iload rfl rfl ?_
            refine wp_isub rfl ?_
            refine Wp.topI (y := (-12)) (by decide) ?_
            refine wp_iret rfl rfl ?_
            show Wp X _ 15 46 [vr 6, vi 3, vr 87] [vi (-12)] _ _
            exact wp_iret rfl rfl H
        · replace H := H.2 c9
          refine wp_iconst rfl ?_
          refine wp_goto (tn := 13) rfl rfl ?_
          refine wp_zret rfl rfl (by decide) ?_
          show Wp X _ 15 23 [vr 6, vi 3, vr 87] [vi 1] _ _
          refine wp_ifeqF (tn := 32) rfl rfl (by decide) ?_
          refine wp_aload rfl rfl ?_
          refine wp_iconst rfl ?_
          refine wp_call (k := 38) (ρ2 := 0) (L2 := [vr 6, vi 1]) rfl rfl rfl (Nat.le_of_ble_eq_true rfl) (Nat.le_of_ble_eq_true rfl) (Nat.le_of_ble_eq_true rfl) (rcv_V rfl (congrArg Prod.fst (kf_6 X.1))) rfl ?_
          refine wp_aload rfl rfl ?_
          refine wp_iload rfl rfl ?_
          refine wp_putI (j := 10) rfl (congrArg Prod.fst (kf_6 X.1)) rfl rfl rfl ?_
          refine wp_iconst rfl ?_
          refine wp_iload rfl rfl ?_
          refine wp_isub rfl ?_
          refine Wp.topI (y := (-11)) (by decide) ?_
          refine wp_iret rfl rfl ?_
          show Wp X _ 15 31 [vr 6, vi 3, vr 87] [vi (-11)] _ _
          exact wp_iret rfl rfl H
    · replace H := H.2 c2
      refine wp_iconst rfl ?_
      refine wp_goto (tn := 15) rfl rfl ?_
      refine wp_zret rfl rfl (by decide) ?_
      show Wp X _ 15 6 [vr 6, vi x1, vu] [vi 1] _ _
      refine wp_ifeqF (tn := 12) rfl rfl (by decide) ?_
      refine wp_iconst rfl ?_
      exact wp_iret rfl rfl H
/-- WarnLines.odds(I)I, from 55 -/
theorem S15_6_55 {X : Nat × (Int → Int)} {h : HP} {Q : bQ} (zx0 : aV) (zx1 : aV) (zx2 : aV) (s0 : Int) (H : ((s0 = 0 → Q (some (vi (-3))) h) ∧ (s0 ≠ 0 → Q (some (vi 1)) h))) : Wp X 3 15 55 [zx0, zx1, zx2] [vi s0] h Q := by
  refine wp_ifeq (tn := 62) rfl rfl (fun c1 => ?_) (fun c1 => ?_)
  · replace H := H.1 c1
    refine wp_iconst rfl ?_
    exact wp_iret rfl rfl H
  · replace H := H.2 c1
    refine wp_iconst rfl ?_
    refine wp_goto (tn := 64) rfl rfl ?_
    exact wp_iret rfl rfl H
/-- WarnLines.oddsOf(I)I, from 0 -/
theorem S16_6_0 {X : Nat × (Int → Int)} {h : HP} {Q : bQ} (x1 : Int) (H : ((x1 < 0 → Q (some (vi (-2))) h) ∧ (0 ≤ x1 → ((x1 ≤ 7 → Q (some (vi (h 70 x1))) h) ∧ (7 < x1 → Q (some (vi (-2))) h))))) : Wp X 1 16 0 [vr 6, vi x1] [] h Q := by
  refine wp_iload rfl rfl ?_
  refine wp_iconst rfl ?_
  refine wp_iconst rfl ?_
  refine wp_call (k := 40) (ρ2 := 0) (L2 := [vi x1, vi 0, vi 7]) rfl rfl rfl (Nat.le_of_ble_eq_true rfl) (Nat.le_of_ble_eq_true rfl) (Nat.le_of_ble_eq_true rfl) (rcv_S rfl) rfl ?_
  refine wp_iload rfl rfl ?_
  refine wp_iload rfl rfl ?_
  refine wp_iclt (tn := 10) rfl rfl (fun c1 => ?_) (fun c1 => ?_)
  · replace H := H.1 c1
    refine wp_iconst rfl ?_
    refine wp_goto (tn := 15) rfl rfl ?_
    refine wp_zret rfl rfl (by decide) ?_
    show Wp X _ 16 7 [vr 6, vi x1] [vi 1] _ _
    refine wp_ifeqF (tn := 15) rfl rfl (by decide) ?_
    refine wp_iconst rfl ?_
    refine wp_goto (tn := 23) rfl rfl ?_
    exact wp_iret rfl rfl H
  · replace H := H.2 c1
    refine wp_iload rfl rfl ?_
    refine wp_iload rfl rfl ?_
    refine wp_icle (tn := 14) rfl rfl (fun c2 => ?_) (fun c2 => ?_)
    · replace H := H.1 c2
      refine wp_iconst rfl ?_
      refine wp_zret rfl rfl (by decide) ?_
      show Wp X _ 16 7 [vr 6, vi x1] [vi 0] _ _
      refine wp_ifeqT (tn := 15) rfl rfl (by decide) ?_
      refine wp_aload rfl rfl ?_
      refine wp_getR (r := 68) rfl (congrArg Prod.fst (kf_6 X.1)) rfl ?_
      refine wp_iload rfl rfl ?_
      refine wp_call (k := 174) (ρ2 := 0) (L2 := [vr 69, vi x1]) rfl rfl rfl (Nat.le_of_ble_eq_true rfl) (Nat.le_of_ble_eq_true rfl) (Nat.le_of_ble_eq_true rfl) (rcv_V rfl (congrArg Prod.fst (kf_69 X.1))) rfl ?_
      refine wp_iload rfl rfl ?_
      refine wp_ifltF (tn := 19) rfl rfl c1 ?_
      refine wp_iload rfl rfl ?_
      refine wp_iconst rfl ?_
      refine wp_icgeF (tn := 19) rfl rfl (by clear H; omega) ?_
      refine wp_aload rfl rfl ?_
      refine wp_getR (r := 69) rfl (congrArg Prod.fst (kf_69 X.1)) rfl ?_
      refine wp_iload rfl rfl ?_
      refine wp_iaload rfl (kf_70 X.1) ⟨c1, (by clear H; omega)⟩ ?_
      refine wp_goto (tn := 20) rfl rfl ?_
      refine wp_iret rfl rfl ?_
      show Wp X _ 16 23 [vr 6, vi x1] [vi (h 70 x1)] _ _
      exact wp_iret rfl rfl H
    · replace H := H.2 c2
      refine wp_iconst rfl ?_
      refine wp_goto (tn := 15) rfl rfl ?_
      refine wp_zret rfl rfl (by decide) ?_
      show Wp X _ 16 7 [vr 6, vi x1] [vi 1] _ _
      refine wp_ifeqF (tn := 15) rfl rfl (by decide) ?_
      refine wp_iconst rfl ?_
      refine wp_goto (tn := 23) rfl rfl ?_
      exact wp_iret rfl rfl H
/-- WarnLines.soon(IIIZI)J, from 0 -/
theorem S17_6_0 {X : Nat × (Int → Int)} {h : HP} {Q : bQ} (x1 : Int) (x2 : Int) (x3 : Int) (x4 : Int) (x5 : Int) (H : ((x1 < 0 → Q (some (vl (-9223372036854775806))) h) ∧ (0 ≤ x1 → ((x1 ≤ 1 → ((x2 < 1 → Q (some (vl (-9223372036854775806))) h) ∧ (1 ≤ x2 → ((x2 ≤ 9 → ((x3 < (-7) → Q (some (vl (-9223372036854775806))) h) ∧ ((-7) ≤ x3 → ((x3 ≤ 7 → ((x5 < 0 → Q (some (vl (-9223372036854775806))) h) ∧ (0 ≤ x5 → ((x5 ≤ 1 → ((x1 = 0 → (((h 45 6) ≠ (-1) → Q (some (vl (-9223372036854775805))) h) ∧ ((h 45 6) = (-1) → (((h 45 7) ≠ 99 → Q (some (vl (-9223372036854775805))) h) ∧ ((h 45 7) = 99 → (((h 45 8) ≠ 99 → Q (some (vl (-9223372036854775805))) h) ∧ ((h 45 8) = 99 → Wp X 3 179 0 [vr 69, vr 49, vi x2, vi x3, vu, vu] [] h (fun v h' => Wp X 4 17 69 [vr 6, vi 0, vi x2, vi x3, vi x4, vi x5] (psh v []) h' Q)))))))) ∧ (x1 = 1 → (((h 53 6) ≠ (-1) → Q (some (vl (-9223372036854775805))) h) ∧ ((h 53 6) = (-1) → (((h 53 7) ≠ 99 → Q (some (vl (-9223372036854775805))) h) ∧ ((h 53 7) = 99 → (((h 53 8) ≠ 99 → Q (some (vl (-9223372036854775805))) h) ∧ ((h 53 8) = 99 → Wp X 3 179 0 [vr 69, vr 57, vi x2, vi x3, vu, vu] [] h (fun v h' => Wp X 4 17 69 [vr 6, vi 1, vi x2, vi x3, vi x4, vi x5] (psh v []) h' Q)))))))))) ∧ (1 < x5 → Q (some (vl (-9223372036854775806))) h))))) ∧ (7 < x3 → Q (some (vl (-9223372036854775806))) h))))) ∧ (9 < x2 → Q (some (vl (-9223372036854775806))) h))))) ∧ (1 < x1 → Q (some (vl (-9223372036854775806))) h))))) : Wp X 4 17 0 [vr 6, vi x1, vi x2, vi x3, vi x4, vi x5] [] h Q := by
  refine wp_iload rfl rfl ?_
  refine wp_iconst rfl ?_
  refine wp_iconst rfl ?_
  refine wp_call (k := 40) (ρ2 := 0) (L2 := [vi x1, vi 0, vi 1]) rfl rfl rfl (Nat.le_of_ble_eq_true rfl) (Nat.le_of_ble_eq_true rfl) (Nat.le_of_ble_eq_true rfl) (rcv_S rfl) rfl ?_
  refine wp_iload rfl rfl ?_
  refine wp_iload rfl rfl ?_
  refine wp_iclt (tn := 10) rfl rfl (fun c1 => ?_) (fun c1 => ?_)
  · replace H := H.1 c1
    refine wp_iconst rfl ?_
    refine wp_goto (tn := 15) rfl rfl ?_
    refine wp_zret rfl rfl (by decide) ?_
    show Wp X _ 17 6 [vr 6, vi x1, vi x2, vi x3, vi x4, vi x5] [vi 1] _ _
    refine wp_ifneT (tn := 27) rfl rfl (by decide) ?_
    refine wp_iconst rfl ?_
    refine wp_call (k := 39) (ρ2 := 0) (L2 := [vi (-2)]) rfl rfl rfl (Nat.le_of_ble_eq_true rfl) (Nat.le_of_ble_eq_true rfl) (Nat.le_of_ble_eq_true rfl) (rcv_S rfl) rfl ?_
    refine wp_sipush rfl ?_
    refine wp_iload rfl rfl ?_
    refine wp_i2l rfl ?_
    refine wp_lsub rfl ?_
    refine Wp.topL (y := (-9223372036854775806)) (by decide) ?_
    refine wp_lret rfl rfl ?_
    show Wp X _ 17 32 [vr 6, vi x1, vi x2, vi x3, vi x4, vi x5] [vl (-9223372036854775806)] _ _
    exact wp_lret rfl rfl H
  · replace H := H.2 c1
    refine wp_iload rfl rfl ?_
    refine wp_iload rfl rfl ?_
    refine wp_icle (tn := 14) rfl rfl (fun c2 => ?_) (fun c2 => ?_)
    · replace H := H.1 c2
      refine wp_iconst rfl ?_
      refine wp_zret rfl rfl (by decide) ?_
      show Wp X _ 17 6 [vr 6, vi x1, vi x2, vi x3, vi x4, vi x5] [vi 0] _ _
      refine wp_ifneF (tn := 27) rfl rfl (by decide) ?_
      refine wp_iload rfl rfl ?_
      refine wp_iload rfl rfl ?_
      refine wp_call (k := 42) (ρ2 := 1) (L2 := [vi x2, vi x3]) rfl rfl rfl (Nat.le_of_ble_eq_true rfl) (Nat.le_of_ble_eq_true rfl) (Nat.le_of_ble_eq_true rfl) (rcv_S rfl) rfl ?_
      refine wp_iload rfl rfl ?_
      refine wp_iconst rfl ?_
      refine wp_iconst rfl ?_
      refine wp_call (k := 40) (ρ2 := 0) (L2 := [vi x2, vi 1, vi 9]) rfl rfl rfl (Nat.le_of_ble_eq_true rfl) (Nat.le_of_ble_eq_true rfl) (Nat.le_of_ble_eq_true rfl) (rcv_S rfl) rfl ?_
      refine wp_iload rfl rfl ?_
      refine wp_iload rfl rfl ?_
      refine wp_iclt (tn := 10) rfl rfl (fun c3 => ?_) (fun c3 => ?_)
      · replace H := H.1 c3
        refine wp_iconst rfl ?_
        refine wp_goto (tn := 15) rfl rfl ?_
        refine wp_zret rfl rfl (by decide) ?_
        show Wp X _ 42 7 [vi x2, vi x3] [vi 1] _ _
        refine wp_ifneT (tn := 21) rfl rfl (by decide) ?_
        refine wp_iconst rfl ?_
        refine wp_goto (tn := 26) rfl rfl ?_
        refine wp_zret rfl rfl (by decide) ?_
        show Wp X _ 17 14 [vr 6, vi x1, vi x2, vi x3, vi x4, vi x5] [vi 1] _ _
        refine wp_ifneT (tn := 27) rfl rfl (by decide) ?_
        refine wp_iconst rfl ?_
        refine wp_call (k := 39) (ρ2 := 0) (L2 := [vi (-2)]) rfl rfl rfl (Nat.le_of_ble_eq_true rfl) (Nat.le_of_ble_eq_true rfl) (Nat.le_of_ble_eq_true rfl) (rcv_S rfl) rfl ?_
        refine wp_sipush rfl ?_
        refine wp_iload rfl rfl ?_
        refine wp_i2l rfl ?_
        refine wp_lsub rfl ?_
        refine Wp.topL (y := (-9223372036854775806)) (by decide) ?_
        refine wp_lret rfl rfl ?_
        show Wp X _ 17 32 [vr 6, vi x1, vi x2, vi x3, vi x4, vi x5] [vl (-9223372036854775806)] _ _
        exact wp_lret rfl rfl H
      · replace H := H.2 c3
        refine wp_iload rfl rfl ?_
        refine wp_iload rfl rfl ?_
        refine wp_icle (tn := 14) rfl rfl (fun c4 => ?_) (fun c4 => ?_)
        · replace H := H.1 c4
          refine wp_iconst rfl ?_
          refine wp_zret rfl rfl (by decide) ?_
          show Wp X _ 42 7 [vi x2, vi x3] [vi 0] _ _
          refine wp_ifneF (tn := 21) rfl rfl (by decide) ?_
          refine wp_iload rfl rfl ?_
          refine wp_iconst rfl ?_
          refine wp_iconst rfl ?_
          refine wp_call (k := 40) (ρ2 := 0) (L2 := [vi x3, vi (-7), vi 7]) rfl rfl rfl (Nat.le_of_ble_eq_true rfl) (Nat.le_of_ble_eq_true rfl) (Nat.le_of_ble_eq_true rfl) (rcv_S rfl) rfl ?_
          refine wp_iload rfl rfl ?_
          refine wp_iload rfl rfl ?_
          refine wp_iclt (tn := 10) rfl rfl (fun c5 => ?_) (fun c5 => ?_)
          · replace H := H.1 c5
            refine wp_iconst rfl ?_
            refine wp_goto (tn := 15) rfl rfl ?_
            refine wp_zret rfl rfl (by decide) ?_
            show Wp X _ 42 18 [vi x2, vi x3] [vi 1] _ _
            refine wp_ifeqF (tn := 25) rfl rfl (by decide) ?_
            refine wp_iconst rfl ?_
            refine wp_goto (tn := 26) rfl rfl ?_
            refine wp_zret rfl rfl (by decide) ?_
            show Wp X _ 17 14 [vr 6, vi x1, vi x2, vi x3, vi x4, vi x5] [vi 1] _ _
            refine wp_ifneT (tn := 27) rfl rfl (by decide) ?_
            refine wp_iconst rfl ?_
            refine wp_call (k := 39) (ρ2 := 0) (L2 := [vi (-2)]) rfl rfl rfl (Nat.le_of_ble_eq_true rfl) (Nat.le_of_ble_eq_true rfl) (Nat.le_of_ble_eq_true rfl) (rcv_S rfl) rfl ?_
            refine wp_sipush rfl ?_
            refine wp_iload rfl rfl ?_
            refine wp_i2l rfl ?_
            refine wp_lsub rfl ?_
            refine Wp.topL (y := (-9223372036854775806)) (by decide) ?_
            refine wp_lret rfl rfl ?_
            show Wp X _ 17 32 [vr 6, vi x1, vi x2, vi x3, vi x4, vi x5] [vl (-9223372036854775806)] _ _
            exact wp_lret rfl rfl H
          · replace H := H.2 c5
            refine wp_iload rfl rfl ?_
            refine wp_iload rfl rfl ?_
            refine wp_icle (tn := 14) rfl rfl (fun c6 => ?_) (fun c6 => ?_)
            · replace H := H.1 c6
              refine wp_iconst rfl ?_
              refine wp_zret rfl rfl (by decide) ?_
              show Wp X _ 42 18 [vi x2, vi x3] [vi 0] _ _
              refine wp_ifeqT (tn := 25) rfl rfl (by decide) ?_
              refine wp_iconst rfl ?_
              refine wp_zret rfl rfl (by decide) ?_
              show Wp X _ 17 14 [vr 6, vi x1, vi x2, vi x3, vi x4, vi x5] [vi 0] _ _
              refine wp_ifneF (tn := 27) rfl rfl (by decide) ?_
              refine wp_iload rfl rfl ?_
              refine wp_iconst rfl ?_
              refine wp_iconst rfl ?_
              refine wp_call (k := 40) (ρ2 := 0) (L2 := [vi x5, vi 0, vi 1]) rfl rfl rfl (Nat.le_of_ble_eq_true rfl) (Nat.le_of_ble_eq_true rfl) (Nat.le_of_ble_eq_true rfl) (rcv_S rfl) rfl ?_
              refine wp_iload rfl rfl ?_
              refine wp_iload rfl rfl ?_
              refine wp_iclt (tn := 10) rfl rfl (fun c7 => ?_) (fun c7 => ?_)
              · replace H := H.1 c7
                refine wp_iconst rfl ?_
                refine wp_goto (tn := 15) rfl rfl ?_
                refine wp_zret rfl rfl (by decide) ?_
                show Wp X _ 17 24 [vr 6, vi x1, vi x2, vi x3, vi x4, vi x5] [vi 1] _ _
                refine wp_ifeqF (tn := 33) rfl rfl (by decide) ?_
                refine wp_iconst rfl ?_
                refine wp_call (k := 39) (ρ2 := 0) (L2 := [vi (-2)]) rfl rfl rfl (Nat.le_of_ble_eq_true rfl) (Nat.le_of_ble_eq_true rfl) (Nat.le_of_ble_eq_true rfl) (rcv_S rfl) rfl ?_
                refine wp_sipush rfl ?_
                refine wp_iload rfl rfl ?_
                refine wp_i2l rfl ?_
                refine wp_lsub rfl ?_
                refine Wp.topL (y := (-9223372036854775806)) (by decide) ?_
                refine wp_lret rfl rfl ?_
                show Wp X _ 17 32 [vr 6, vi x1, vi x2, vi x3, vi x4, vi x5] [vl (-9223372036854775806)] _ _
                exact wp_lret rfl rfl H
              · replace H := H.2 c7
                refine wp_iload rfl rfl ?_
                refine wp_iload rfl rfl ?_
                refine wp_icle (tn := 14) rfl rfl (fun c8 => ?_) (fun c8 => ?_)
                · replace H := H.1 c8
                  refine wp_iconst rfl ?_
                  refine wp_zret rfl rfl (by decide) ?_
                  show Wp X _ 17 24 [vr 6, vi x1, vi x2, vi x3, vi x4, vi x5] [vi 0] _ _
                  refine wp_ifeqT (tn := 33) rfl rfl (by decide) ?_
                  refine wp_aload rfl rfl ?_
                  refine wp_getR (r := 43) rfl (congrArg Prod.fst (kf_6 X.1)) rfl ?_
                  refine wp_iload rfl rfl ?_
                  rcases (show x1 = 0 ∨ x1 = 1 by have := (show 0 ≤ x1 ∧ x1 < 2 from ⟨c1, (by clear H; omega)⟩); clear H; omega) with rfl | rfl
                  · replace H := H.1 rfl
                    refine wp_aaload (r := 44) rfl (kf_44 X.1) (by decide) (by decide) rfl ?_
                    refine wp_call (k := 205) (ρ2 := 0) (L2 := [vr 45]) rfl rfl rfl (Nat.le_of_ble_eq_true rfl) (Nat.le_of_ble_eq_true rfl) (Nat.le_of_ble_eq_true rfl) (rcv_V rfl (congrArg Prod.fst (kf_45 X.1))) rfl ?_
                    refine wp_aload rfl rfl ?_
                    refine wp_getI (j := 6) rfl (congrArg Prod.fst (kf_45 X.1)) rfl ?_
                    refine wp_iconst rfl ?_
                    refine wp_icne (tn := 30) rfl rfl (fun c9 => ?_) (fun c9 => ?_)
                    · replace H := H.1 c9
                      refine wp_iconst rfl ?_
                      refine wp_zret rfl rfl (by decide) ?_
                      show Wp X _ 17 42 [vr 6, vi 0, vi x2, vi x3, vi x4, vi x5] [vi 0] _ _
                      refine wp_ifneF (tn := 51) rfl rfl (by decide) ?_
                      refine wp_iconst rfl ?_
                      refine wp_call (k := 39) (ρ2 := 0) (L2 := [vi (-3)]) rfl rfl rfl (Nat.le_of_ble_eq_true rfl) (Nat.le_of_ble_eq_true rfl) (Nat.le_of_ble_eq_true rfl) (rcv_S rfl) rfl ?_
                      refine wp_sipush rfl ?_
                      refine wp_iload rfl rfl ?_
                      refine wp_i2l rfl ?_
                      refine wp_lsub rfl ?_
                      refine Wp.topL (y := (-9223372036854775805)) (by decide) ?_
                      refine wp_lret rfl rfl ?_
                      show Wp X _ 17 50 [vr 6, vi 0, vi x2, vi x3, vi x4, vi x5] [vl (-9223372036854775805)] _ _
                      exact wp_lret rfl rfl H
                    · replace H := H.2 c9
                      refine wp_aload rfl rfl ?_
                      refine wp_getI (j := 7) rfl (congrArg Prod.fst (kf_45 X.1)) rfl ?_
                      refine wp_iconst rfl ?_
                      refine wp_icne (tn := 30) rfl rfl (fun c10 => ?_) (fun c10 => ?_)
                      · replace H := H.1 c10
                        refine wp_iconst rfl ?_
                        refine wp_zret rfl rfl (by decide) ?_
                        show Wp X _ 17 42 [vr 6, vi 0, vi x2, vi x3, vi x4, vi x5] [vi 0] _ _
                        refine wp_ifneF (tn := 51) rfl rfl (by decide) ?_
                        refine wp_iconst rfl ?_
                        refine wp_call (k := 39) (ρ2 := 0) (L2 := [vi (-3)]) rfl rfl rfl (Nat.le_of_ble_eq_true rfl) (Nat.le_of_ble_eq_true rfl) (Nat.le_of_ble_eq_true rfl) (rcv_S rfl) rfl ?_
                        refine wp_sipush rfl ?_
                        refine wp_iload rfl rfl ?_
                        refine wp_i2l rfl ?_
                        refine wp_lsub rfl ?_
                        refine Wp.topL (y := (-9223372036854775805)) (by decide) ?_
                        refine wp_lret rfl rfl ?_
                        show Wp X _ 17 50 [vr 6, vi 0, vi x2, vi x3, vi x4, vi x5] [vl (-9223372036854775805)] _ _
                        exact wp_lret rfl rfl H
                      · replace H := H.2 c10
                        refine wp_aload rfl rfl ?_
                        refine wp_getI (j := 8) rfl (congrArg Prod.fst (kf_45 X.1)) rfl ?_
                        refine wp_iconst rfl ?_
                        refine wp_icne (tn := 30) rfl rfl (fun c11 => ?_) (fun c11 => ?_)
                        · replace H := H.1 c11
                          refine wp_iconst rfl ?_
                          refine wp_zret rfl rfl (by decide) ?_
                          show Wp X _ 17 42 [vr 6, vi 0, vi x2, vi x3, vi x4, vi x5] [vi 0] _ _
                          refine wp_ifneF (tn := 51) rfl rfl (by decide) ?_
                          refine wp_iconst rfl ?_
                          refine wp_call (k := 39) (ρ2 := 0) (L2 := [vi (-3)]) rfl rfl rfl (Nat.le_of_ble_eq_true rfl) (Nat.le_of_ble_eq_true rfl) (Nat.le_of_ble_eq_true rfl) (rcv_S rfl) rfl ?_
                          refine wp_sipush rfl ?_
                          refine wp_iload rfl rfl ?_
                          refine wp_i2l rfl ?_
                          refine wp_lsub rfl ?_
                          refine Wp.topL (y := (-9223372036854775805)) (by decide) ?_
                          refine wp_lret rfl rfl ?_
                          show Wp X _ 17 50 [vr 6, vi 0, vi x2, vi x3, vi x4, vi x5] [vl (-9223372036854775805)] _ _
                          exact wp_lret rfl rfl H
                        · replace H := H.2 c11
                          refine wp_iconst rfl ?_
                          refine wp_goto (tn := 31) rfl rfl ?_
                          refine wp_zret rfl rfl (by decide) ?_
                          show Wp X _ 17 42 [vr 6, vi 0, vi x2, vi x3, vi x4, vi x5] [vi 1] _ _
                          refine wp_ifneT (tn := 51) rfl rfl (by decide) ?_
                          refine wp_aload rfl rfl ?_
                          refine wp_getR (r := 68) rfl (congrArg Prod.fst (kf_6 X.1)) rfl ?_
                          refine wp_aload rfl rfl ?_
                          refine wp_getR (r := 43) rfl (congrArg Prod.fst (kf_6 X.1)) rfl ?_
                          refine wp_iload rfl rfl ?_
                          refine wp_aaload (r := 44) rfl (kf_44 X.1) (by decide) (by decide) rfl ?_
                          refine wp_call (k := 203) (ρ2 := 0) (L2 := [vr 45]) rfl rfl rfl (Nat.le_of_ble_eq_true rfl) (Nat.le_of_ble_eq_true rfl) (Nat.le_of_ble_eq_true rfl) (rcv_V rfl (congrArg Prod.fst (kf_45 X.1))) rfl ?_
                          refine wp_aload rfl rfl ?_
                          refine wp_getR (r := 48) rfl (congrArg Prod.fst (kf_45 X.1)) rfl ?_
                          refine wp_aret rfl rfl ?_
                          show Wp X _ 17 64 [vr 6, vi 0, vi x2, vi x3, vi x4, vi x5] [vr 49, vr 69] _ _
                          refine wp_iload rfl rfl ?_
                          refine wp_iload rfl rfl ?_
                          exact wp_call (k := 179) (ρ2 := 3) (L2 := [vr 69, vr 49, vi x2, vi x3, vu, vu]) rfl rfl rfl (Nat.le_of_ble_eq_true rfl) (Nat.le_of_ble_eq_true rfl) (Nat.le_of_ble_eq_true rfl) (rcv_V rfl (congrArg Prod.fst (kf_69 X.1))) rfl H
                  · replace H := H.2 rfl
                    refine wp_aaload (r := 52) rfl (kf_44 X.1) (by decide) (by decide) rfl ?_
                    refine wp_call (k := 205) (ρ2 := 0) (L2 := [vr 53]) rfl rfl rfl (Nat.le_of_ble_eq_true rfl) (Nat.le_of_ble_eq_true rfl) (Nat.le_of_ble_eq_true rfl) (rcv_V rfl (congrArg Prod.fst (kf_53 X.1))) rfl ?_
                    refine wp_aload rfl rfl ?_
                    refine wp_getI (j := 6) rfl (congrArg Prod.fst (kf_53 X.1)) rfl ?_
                    refine wp_iconst rfl ?_
                    refine wp_icne (tn := 30) rfl rfl (fun c12 => ?_) (fun c12 => ?_)
                    · replace H := H.1 c12
                      refine wp_iconst rfl ?_
                      refine wp_zret rfl rfl (by decide) ?_
                      show Wp X _ 17 42 [vr 6, vi 1, vi x2, vi x3, vi x4, vi x5] [vi 0] _ _
                      refine wp_ifneF (tn := 51) rfl rfl (by decide) ?_
                      refine wp_iconst rfl ?_
                      refine wp_call (k := 39) (ρ2 := 0) (L2 := [vi (-3)]) rfl rfl rfl (Nat.le_of_ble_eq_true rfl) (Nat.le_of_ble_eq_true rfl) (Nat.le_of_ble_eq_true rfl) (rcv_S rfl) rfl ?_
                      refine wp_sipush rfl ?_
                      refine wp_iload rfl rfl ?_
                      refine wp_i2l rfl ?_
                      refine wp_lsub rfl ?_
                      refine Wp.topL (y := (-9223372036854775805)) (by decide) ?_
                      refine wp_lret rfl rfl ?_
                      show Wp X _ 17 50 [vr 6, vi 1, vi x2, vi x3, vi x4, vi x5] [vl (-9223372036854775805)] _ _
                      exact wp_lret rfl rfl H
                    · replace H := H.2 c12
                      refine wp_aload rfl rfl ?_
                      refine wp_getI (j := 7) rfl (congrArg Prod.fst (kf_53 X.1)) rfl ?_
                      refine wp_iconst rfl ?_
                      refine wp_icne (tn := 30) rfl rfl (fun c13 => ?_) (fun c13 => ?_)
                      · replace H := H.1 c13
                        refine wp_iconst rfl ?_
                        refine wp_zret rfl rfl (by decide) ?_
                        show Wp X _ 17 42 [vr 6, vi 1, vi x2, vi x3, vi x4, vi x5] [vi 0] _ _
                        refine wp_ifneF (tn := 51) rfl rfl (by decide) ?_
                        refine wp_iconst rfl ?_
                        refine wp_call (k := 39) (ρ2 := 0) (L2 := [vi (-3)]) rfl rfl rfl (Nat.le_of_ble_eq_true rfl) (Nat.le_of_ble_eq_true rfl) (Nat.le_of_ble_eq_true rfl) (rcv_S rfl) rfl ?_
                        refine wp_sipush rfl ?_
                        refine wp_iload rfl rfl ?_
                        refine wp_i2l rfl ?_
                        refine wp_lsub rfl ?_
                        refine Wp.topL (y := (-9223372036854775805)) (by decide) ?_
                        refine wp_lret rfl rfl ?_
                        show Wp X _ 17 50 [vr 6, vi 1, vi x2, vi x3, vi x4, vi x5] [vl (-9223372036854775805)] _ _
                        exact wp_lret rfl rfl H
                      · replace H := H.2 c13
                        refine wp_aload rfl rfl ?_
                        refine wp_getI (j := 8) rfl (congrArg Prod.fst (kf_53 X.1)) rfl ?_
                        refine wp_iconst rfl ?_
                        refine wp_icne (tn := 30) rfl rfl (fun c14 => ?_) (fun c14 => ?_)
                        · replace H := H.1 c14
                          refine wp_iconst rfl ?_
                          refine wp_zret rfl rfl (by decide) ?_
                          show Wp X _ 17 42 [vr 6, vi 1, vi x2, vi x3, vi x4, vi x5] [vi 0] _ _
                          refine wp_ifneF (tn := 51) rfl rfl (by decide) ?_
                          refine wp_iconst rfl ?_
                          refine wp_call (k := 39) (ρ2 := 0) (L2 := [vi (-3)]) rfl rfl rfl (Nat.le_of_ble_eq_true rfl) (Nat.le_of_ble_eq_true rfl) (Nat.le_of_ble_eq_true rfl) (rcv_S rfl) rfl ?_
                          refine wp_sipush rfl ?_
                          refine wp_iload rfl rfl ?_
                          refine wp_i2l rfl ?_
                          refine wp_lsub rfl ?_
                          refine Wp.topL (y := (-9223372036854775805)) (by decide) ?_
                          refine wp_lret rfl rfl ?_
                          show Wp X _ 17 50 [vr 6, vi 1, vi x2, vi x3, vi x4, vi x5] [vl (-9223372036854775805)] _ _
                          exact wp_lret rfl rfl H
                        · replace H := H.2 c14
                          refine wp_iconst rfl ?_
                          refine wp_goto (tn := 31) rfl rfl ?_
                          refine wp_zret rfl rfl (by decide) ?_
                          show Wp X _ 17 42 [vr 6, vi 1, vi x2, vi x3, vi x4, vi x5] [vi 1] _ _
                          refine wp_ifneT (tn := 51) rfl rfl (by decide) ?_
                          refine wp_aload rfl rfl ?_
                          refine wp_getR (r := 68) rfl (congrArg Prod.fst (kf_6 X.1)) rfl ?_
                          refine wp_aload rfl rfl ?_
                          refine wp_getR (r := 43) rfl (congrArg Prod.fst (kf_6 X.1)) rfl ?_
                          refine wp_iload rfl rfl ?_
                          refine wp_aaload (r := 52) rfl (kf_44 X.1) (by decide) (by decide) rfl ?_
                          refine wp_call (k := 203) (ρ2 := 0) (L2 := [vr 53]) rfl rfl rfl (Nat.le_of_ble_eq_true rfl) (Nat.le_of_ble_eq_true rfl) (Nat.le_of_ble_eq_true rfl) (rcv_V rfl (congrArg Prod.fst (kf_53 X.1))) rfl ?_
                          refine wp_aload rfl rfl ?_
                          refine wp_getR (r := 56) rfl (congrArg Prod.fst (kf_53 X.1)) rfl ?_
                          refine wp_aret rfl rfl ?_
                          show Wp X _ 17 64 [vr 6, vi 1, vi x2, vi x3, vi x4, vi x5] [vr 57, vr 69] _ _
                          refine wp_iload rfl rfl ?_
                          refine wp_iload rfl rfl ?_
                          exact wp_call (k := 179) (ρ2 := 3) (L2 := [vr 69, vr 57, vi x2, vi x3, vu, vu]) rfl rfl rfl (Nat.le_of_ble_eq_true rfl) (Nat.le_of_ble_eq_true rfl) (Nat.le_of_ble_eq_true rfl) (rcv_V rfl (congrArg Prod.fst (kf_69 X.1))) rfl H
                · replace H := H.2 c8
                  refine wp_iconst rfl ?_
                  refine wp_goto (tn := 15) rfl rfl ?_
                  refine wp_zret rfl rfl (by decide) ?_
                  show Wp X _ 17 24 [vr 6, vi x1, vi x2, vi x3, vi x4, vi x5] [vi 1] _ _
                  refine wp_ifeqF (tn := 33) rfl rfl (by decide) ?_
                  refine wp_iconst rfl ?_
                  refine wp_call (k := 39) (ρ2 := 0) (L2 := [vi (-2)]) rfl rfl rfl (Nat.le_of_ble_eq_true rfl) (Nat.le_of_ble_eq_true rfl) (Nat.le_of_ble_eq_true rfl) (rcv_S rfl) rfl ?_
                  refine wp_sipush rfl ?_
                  refine wp_iload rfl rfl ?_
                  refine wp_i2l rfl ?_
                  refine wp_lsub rfl ?_
                  refine Wp.topL (y := (-9223372036854775806)) (by decide) ?_
                  refine wp_lret rfl rfl ?_
                  show Wp X _ 17 32 [vr 6, vi x1, vi x2, vi x3, vi x4, vi x5] [vl (-9223372036854775806)] _ _
                  exact wp_lret rfl rfl H
            · replace H := H.2 c6
              refine wp_iconst rfl ?_
              refine wp_goto (tn := 15) rfl rfl ?_
              refine wp_zret rfl rfl (by decide) ?_
              show Wp X _ 42 18 [vi x2, vi x3] [vi 1] _ _
              refine wp_ifeqF (tn := 25) rfl rfl (by decide) ?_
              refine wp_iconst rfl ?_
              refine wp_goto (tn := 26) rfl rfl ?_
              refine wp_zret rfl rfl (by decide) ?_
              show Wp X _ 17 14 [vr 6, vi x1, vi x2, vi x3, vi x4, vi x5] [vi 1] _ _
              refine wp_ifneT (tn := 27) rfl rfl (by decide) ?_
              refine wp_iconst rfl ?_
              refine wp_call (k := 39) (ρ2 := 0) (L2 := [vi (-2)]) rfl rfl rfl (Nat.le_of_ble_eq_true rfl) (Nat.le_of_ble_eq_true rfl) (Nat.le_of_ble_eq_true rfl) (rcv_S rfl) rfl ?_
              refine wp_sipush rfl ?_
              refine wp_iload rfl rfl ?_
              refine wp_i2l rfl ?_
              refine wp_lsub rfl ?_
              refine Wp.topL (y := (-9223372036854775806)) (by decide) ?_
              refine wp_lret rfl rfl ?_
              show Wp X _ 17 32 [vr 6, vi x1, vi x2, vi x3, vi x4, vi x5] [vl (-9223372036854775806)] _ _
              exact wp_lret rfl rfl H
        · replace H := H.2 c4
          refine wp_iconst rfl ?_
          refine wp_goto (tn := 15) rfl rfl ?_
          refine wp_zret rfl rfl (by decide) ?_
          show Wp X _ 42 7 [vi x2, vi x3] [vi 1] _ _
          refine wp_ifneT (tn := 21) rfl rfl (by decide) ?_
          refine wp_iconst rfl ?_
          refine wp_goto (tn := 26) rfl rfl ?_
          refine wp_zret rfl rfl (by decide) ?_
          show Wp X _ 17 14 [vr 6, vi x1, vi x2, vi x3, vi x4, vi x5] [vi 1] _ _
          refine wp_ifneT (tn := 27) rfl rfl (by decide) ?_
          refine wp_iconst rfl ?_
          refine wp_call (k := 39) (ρ2 := 0) (L2 := [vi (-2)]) rfl rfl rfl (Nat.le_of_ble_eq_true rfl) (Nat.le_of_ble_eq_true rfl) (Nat.le_of_ble_eq_true rfl) (rcv_S rfl) rfl ?_
          refine wp_sipush rfl ?_
          refine wp_iload rfl rfl ?_
          refine wp_i2l rfl ?_
          refine wp_lsub rfl ?_
          refine Wp.topL (y := (-9223372036854775806)) (by decide) ?_
          refine wp_lret rfl rfl ?_
          show Wp X _ 17 32 [vr 6, vi x1, vi x2, vi x3, vi x4, vi x5] [vl (-9223372036854775806)] _ _
          exact wp_lret rfl rfl H
    · replace H := H.2 c2
      refine wp_iconst rfl ?_
      refine wp_goto (tn := 15) rfl rfl ?_
      refine wp_zret rfl rfl (by decide) ?_
      show Wp X _ 17 6 [vr 6, vi x1, vi x2, vi x3, vi x4, vi x5] [vi 1] _ _
      refine wp_ifneT (tn := 27) rfl rfl (by decide) ?_
      refine wp_iconst rfl ?_
      refine wp_call (k := 39) (ρ2 := 0) (L2 := [vi (-2)]) rfl rfl rfl (Nat.le_of_ble_eq_true rfl) (Nat.le_of_ble_eq_true rfl) (Nat.le_of_ble_eq_true rfl) (rcv_S rfl) rfl ?_
      refine wp_sipush rfl ?_
      refine wp_iload rfl rfl ?_
      refine wp_i2l rfl ?_
      refine wp_lsub rfl ?_
      refine Wp.topL (y := (-9223372036854775806)) (by decide) ?_
      refine wp_lret rfl rfl ?_
      show Wp X _ 17 32 [vr 6, vi x1, vi x2, vi x3, vi x4, vi x5] [vl (-9223372036854775806)] _ _
      exact wp_lret rfl rfl H
/-- WarnLines.soon(IIIZI)J, from 69 -/
theorem S17_6_69 {X : Nat × (Int → Int)} {h : HP} {Q : bQ} (zx1 : aV) (zx2 : aV) (zx3 : aV) (x4 : Int) (x5 : Int) (H : ((x4 = 0 → Wp X 1 45 0 [vl (h 69 5), vu, vl (h 69 6), vu, vi x5, vu, vu] [] h (fun v h' => Wp X 4 17 103 [vr 6, zx1, zx2, zx3, vi x4, vi x5] (psh v []) h' Q)) ∧ (x4 ≠ 0 → Wp X 1 45 0 [vl (h 69 4), vu, vl (h 69 6), vu, vi x5, vu, vu] [] h (fun v h' => Wp X 4 17 103 [vr 6, zx1, zx2, zx3, vi x4, vi x5] (psh v []) h' Q)))) : Wp X 4 17 69 [vr 6, zx1, zx2, zx3, vi x4, vi x5] [] h Q := by
  refine wp_iload rfl rfl ?_
  refine wp_ifeq (tn := 84) rfl rfl (fun c1 => ?_) (fun c1 => ?_)
  · replace H := H.1 c1
    refine wp_aload rfl rfl ?_
    refine wp_getR (r := 68) rfl (congrArg Prod.fst (kf_6 X.1)) rfl ?_
    refine wp_call (k := 176) (ρ2 := 0) (L2 := [vr 69]) rfl rfl rfl (Nat.le_of_ble_eq_true rfl) (Nat.le_of_ble_eq_true rfl) (Nat.le_of_ble_eq_true rfl) (rcv_V rfl (congrArg Prod.fst (kf_69 X.1))) rfl ?_
    refine wp_aload rfl rfl ?_
    refine wp_getL (j := 5) rfl (congrArg Prod.fst (kf_69 X.1)) rfl ?_
    refine wp_lret rfl rfl ?_
    show Wp X _ 17 91 [vr 6, zx1, zx2, zx3, vi x4, vi x5] [vl (h 69 5)] _ _
    refine wp_aload rfl rfl ?_
    refine wp_getR (r := 68) rfl (congrArg Prod.fst (kf_6 X.1)) rfl ?_
    refine wp_call (k := 177) (ρ2 := 0) (L2 := [vr 69]) rfl rfl rfl (Nat.le_of_ble_eq_true rfl) (Nat.le_of_ble_eq_true rfl) (Nat.le_of_ble_eq_true rfl) (rcv_V rfl (congrArg Prod.fst (kf_69 X.1))) rfl ?_
    refine wp_aload rfl rfl ?_
    refine wp_getL (j := 6) rfl (congrArg Prod.fst (kf_69 X.1)) rfl ?_
    refine wp_lret rfl rfl ?_
    show Wp X _ 17 98 [vr 6, zx1, zx2, zx3, vi x4, vi x5] [vl (h 69 6), vl (h 69 5)] _ _
    refine wp_iload rfl rfl ?_
    exact wp_call (k := 45) (ρ2 := 1) (L2 := [vl (h 69 5), vu, vl (h 69 6), vu, vi x5, vu, vu]) rfl rfl rfl (Nat.le_of_ble_eq_true rfl) (Nat.le_of_ble_eq_true rfl) (Nat.le_of_ble_eq_true rfl) (rcv_S rfl) rfl H
  · replace H := H.2 c1
    refine wp_aload rfl rfl ?_
    refine wp_getR (r := 68) rfl (congrArg Prod.fst (kf_6 X.1)) rfl ?_
    refine wp_call (k := 175) (ρ2 := 0) (L2 := [vr 69]) rfl rfl rfl (Nat.le_of_ble_eq_true rfl) (Nat.le_of_ble_eq_true rfl) (Nat.le_of_ble_eq_true rfl) (rcv_V rfl (congrArg Prod.fst (kf_69 X.1))) rfl ?_
    refine wp_aload rfl rfl ?_
    refine wp_getL (j := 4) rfl (congrArg Prod.fst (kf_69 X.1)) rfl ?_
    refine wp_lret rfl rfl ?_
    show Wp X _ 17 81 [vr 6, zx1, zx2, zx3, vi x4, vi x5] [vl (h 69 4)] _ _
    refine wp_goto (tn := 91) rfl rfl ?_
    refine wp_aload rfl rfl ?_
    refine wp_getR (r := 68) rfl (congrArg Prod.fst (kf_6 X.1)) rfl ?_
    refine wp_call (k := 177) (ρ2 := 0) (L2 := [vr 69]) rfl rfl rfl (Nat.le_of_ble_eq_true rfl) (Nat.le_of_ble_eq_true rfl) (Nat.le_of_ble_eq_true rfl) (rcv_V rfl (congrArg Prod.fst (kf_69 X.1))) rfl ?_
    refine wp_aload rfl rfl ?_
    refine wp_getL (j := 6) rfl (congrArg Prod.fst (kf_69 X.1)) rfl ?_
    refine wp_lret rfl rfl ?_
    show Wp X _ 17 98 [vr 6, zx1, zx2, zx3, vi x4, vi x5] [vl (h 69 6), vl (h 69 4)] _ _
    refine wp_iload rfl rfl ?_
    exact wp_call (k := 45) (ρ2 := 1) (L2 := [vl (h 69 4), vu, vl (h 69 6), vu, vi x5, vu, vu]) rfl rfl rfl (Nat.le_of_ble_eq_true rfl) (Nat.le_of_ble_eq_true rfl) (Nat.le_of_ble_eq_true rfl) (rcv_S rfl) rfl H
/-- WarnLines.soon(IIIZI)J, from 103 -/
theorem S17_6_103 {X : Nat × (Int → Int)} {h : HP} {Q : bQ} (zx0 : aV) (zx1 : aV) (zx2 : aV) (zx3 : aV) (zx4 : aV) (zx5 : aV) (s0 : Int) (H : Q (some (vl s0)) h) : Wp X 4 17 103 [zx0, zx1, zx2, zx3, zx4, zx5] [vl s0] h Q := by
  exact wp_lret rfl rfl H
/-- WarnLines.cheaper(III)J, from 0 -/
theorem S18_6_0 {X : Nat × (Int → Int)} {h : HP} {Q : bQ} (x1 : Int) (x2 : Int) (x3 : Int) (H : ((x1 < 1 → Q (some (vl (-9223372036854775806))) h) ∧ (1 ≤ x1 → ((x1 ≤ 9 → ((x2 < (-7) → Q (some (vl (-9223372036854775806))) h) ∧ ((-7) ≤ x2 → ((x2 ≤ 7 → ((x3 < 0 → Q (some (vl (-9223372036854775806))) h) ∧ (0 ≤ x3 → ((x3 ≤ 2 → (((h 45 6) ≠ (-1) → Q (some (vl (-9223372036854775805))) h) ∧ ((h 45 6) = (-1) → (((h 45 7) ≠ 99 → Q (some (vl (-9223372036854775805))) h) ∧ ((h 45 7) = 99 → (((h 45 8) ≠ 99 → Q (some (vl (-9223372036854775805))) h) ∧ ((h 45 8) = 99 → (((h 53 6) ≠ (-1) → Q (some (vl (-9223372036854775805))) h) ∧ ((h 53 6) = (-1) → (((h 53 7) ≠ 99 → Q (some (vl (-9223372036854775805))) h) ∧ ((h 53 7) = 99 → (((h 53 8) ≠ 99 → Q (some (vl (-9223372036854775805))) h) ∧ ((h 53 8) = 99 → Wp X 4 37 0 [vr 6, vr 45, vi x1, vi x2, vu, vu, vu, vu] [] h (fun v h' => Wp X 5 18 65 [vr 6, vi x1, vi x2, vi x3, vu, vu, vu, vu] (psh v []) h' Q)))))))))))))) ∧ (2 < x3 → Q (some (vl (-9223372036854775806))) h))))) ∧ (7 < x2 → Q (some (vl (-9223372036854775806))) h))))) ∧ (9 < x1 → Q (some (vl (-9223372036854775806))) h))))) : Wp X 5 18 0 [vr 6, vi x1, vi x2, vi x3, vu, vu, vu, vu] [] h Q := by
  refine wp_iload rfl rfl ?_
  refine wp_iload rfl rfl ?_
  refine wp_call (k := 42) (ρ2 := 1) (L2 := [vi x1, vi x2]) rfl rfl rfl (Nat.le_of_ble_eq_true rfl) (Nat.le_of_ble_eq_true rfl) (Nat.le_of_ble_eq_true rfl) (rcv_S rfl) rfl ?_
  refine wp_iload rfl rfl ?_
  refine wp_iconst rfl ?_
  refine wp_iconst rfl ?_
  refine wp_call (k := 40) (ρ2 := 0) (L2 := [vi x1, vi 1, vi 9]) rfl rfl rfl (Nat.le_of_ble_eq_true rfl) (Nat.le_of_ble_eq_true rfl) (Nat.le_of_ble_eq_true rfl) (rcv_S rfl) rfl ?_
  refine wp_iload rfl rfl ?_
  refine wp_iload rfl rfl ?_
  refine wp_iclt (tn := 10) rfl rfl (fun c1 => ?_) (fun c1 => ?_)
  · replace H := H.1 c1
    refine wp_iconst rfl ?_
    refine wp_goto (tn := 15) rfl rfl ?_
    refine wp_zret rfl rfl (by decide) ?_
    show Wp X _ 42 7 [vi x1, vi x2] [vi 1] _ _
    refine wp_ifneT (tn := 21) rfl rfl (by decide) ?_
    refine wp_iconst rfl ?_
    refine wp_goto (tn := 26) rfl rfl ?_
    refine wp_zret rfl rfl (by decide) ?_
    show Wp X _ 18 5 [vr 6, vi x1, vi x2, vi x3, vu, vu, vu, vu] [vi 1] _ _
    refine wp_ifneT (tn := 17) rfl rfl (by decide) ?_
    refine wp_iconst rfl ?_
    refine wp_call (k := 39) (ρ2 := 0) (L2 := [vi (-2)]) rfl rfl rfl (Nat.le_of_ble_eq_true rfl) (Nat.le_of_ble_eq_true rfl) (Nat.le_of_ble_eq_true rfl) (rcv_S rfl) rfl ?_
    refine wp_sipush rfl ?_
    refine wp_iload rfl rfl ?_
    refine wp_i2l rfl ?_
    refine wp_lsub rfl ?_
    refine Wp.topL (y := (-9223372036854775806)) (by decide) ?_
    refine wp_lret rfl rfl ?_
    show Wp X _ 18 22 [vr 6, vi x1, vi x2, vi x3, vu, vu, vu, vu] [vl (-9223372036854775806)] _ _
    exact wp_lret rfl rfl H
  · replace H := H.2 c1
    refine wp_iload rfl rfl ?_
    refine wp_iload rfl rfl ?_
    refine wp_icle (tn := 14) rfl rfl (fun c2 => ?_) (fun c2 => ?_)
    · replace H := H.1 c2
      refine wp_iconst rfl ?_
      refine wp_zret rfl rfl (by decide) ?_
      show Wp X _ 42 7 [vi x1, vi x2] [vi 0] _ _
      refine wp_ifneF (tn := 21) rfl rfl (by decide) ?_
      refine wp_iload rfl rfl ?_
      refine wp_iconst rfl ?_
      refine wp_iconst rfl ?_
      refine wp_call (k := 40) (ρ2 := 0) (L2 := [vi x2, vi (-7), vi 7]) rfl rfl rfl (Nat.le_of_ble_eq_true rfl) (Nat.le_of_ble_eq_true rfl) (Nat.le_of_ble_eq_true rfl) (rcv_S rfl) rfl ?_
      refine wp_iload rfl rfl ?_
      refine wp_iload rfl rfl ?_
      refine wp_iclt (tn := 10) rfl rfl (fun c3 => ?_) (fun c3 => ?_)
      · replace H := H.1 c3
        refine wp_iconst rfl ?_
        refine wp_goto (tn := 15) rfl rfl ?_
        refine wp_zret rfl rfl (by decide) ?_
        show Wp X _ 42 18 [vi x1, vi x2] [vi 1] _ _
        refine wp_ifeqF (tn := 25) rfl rfl (by decide) ?_
        refine wp_iconst rfl ?_
        refine wp_goto (tn := 26) rfl rfl ?_
        refine wp_zret rfl rfl (by decide) ?_
        show Wp X _ 18 5 [vr 6, vi x1, vi x2, vi x3, vu, vu, vu, vu] [vi 1] _ _
        refine wp_ifneT (tn := 17) rfl rfl (by decide) ?_
        refine wp_iconst rfl ?_
        refine wp_call (k := 39) (ρ2 := 0) (L2 := [vi (-2)]) rfl rfl rfl (Nat.le_of_ble_eq_true rfl) (Nat.le_of_ble_eq_true rfl) (Nat.le_of_ble_eq_true rfl) (rcv_S rfl) rfl ?_
        refine wp_sipush rfl ?_
        refine wp_iload rfl rfl ?_
        refine wp_i2l rfl ?_
        refine wp_lsub rfl ?_
        refine Wp.topL (y := (-9223372036854775806)) (by decide) ?_
        refine wp_lret rfl rfl ?_
        show Wp X _ 18 22 [vr 6, vi x1, vi x2, vi x3, vu, vu, vu, vu] [vl (-9223372036854775806)] _ _
        exact wp_lret rfl rfl H
      · replace H := H.2 c3
        refine wp_iload rfl rfl ?_
        refine wp_iload rfl rfl ?_
        refine wp_icle (tn := 14) rfl rfl (fun c4 => ?_) (fun c4 => ?_)
        · replace H := H.1 c4
          refine wp_iconst rfl ?_
          refine wp_zret rfl rfl (by decide) ?_
          show Wp X _ 42 18 [vi x1, vi x2] [vi 0] _ _
          refine wp_ifeqT (tn := 25) rfl rfl (by decide) ?_
          refine wp_iconst rfl ?_
          refine wp_zret rfl rfl (by decide) ?_
          show Wp X _ 18 5 [vr 6, vi x1, vi x2, vi x3, vu, vu, vu, vu] [vi 0] _ _
          refine wp_ifneF (tn := 17) rfl rfl (by decide) ?_
          refine wp_iload rfl rfl ?_
          refine wp_iconst rfl ?_
          refine wp_iconst rfl ?_
          refine wp_call (k := 40) (ρ2 := 0) (L2 := [vi x3, vi 0, vi 2]) rfl rfl rfl (Nat.le_of_ble_eq_true rfl) (Nat.le_of_ble_eq_true rfl) (Nat.le_of_ble_eq_true rfl) (rcv_S rfl) rfl ?_
          refine wp_iload rfl rfl ?_
          refine wp_iload rfl rfl ?_
          refine wp_iclt (tn := 10) rfl rfl (fun c5 => ?_) (fun c5 => ?_)
          · replace H := H.1 c5
            refine wp_iconst rfl ?_
            refine wp_goto (tn := 15) rfl rfl ?_
            refine wp_zret rfl rfl (by decide) ?_
            show Wp X _ 18 14 [vr 6, vi x1, vi x2, vi x3, vu, vu, vu, vu] [vi 1] _ _
            refine wp_ifeqF (tn := 23) rfl rfl (by decide) ?_
            refine wp_iconst rfl ?_
            refine wp_call (k := 39) (ρ2 := 0) (L2 := [vi (-2)]) rfl rfl rfl (Nat.le_of_ble_eq_true rfl) (Nat.le_of_ble_eq_true rfl) (Nat.le_of_ble_eq_true rfl) (rcv_S rfl) rfl ?_
            refine wp_sipush rfl ?_
            refine wp_iload rfl rfl ?_
            refine wp_i2l rfl ?_
            refine wp_lsub rfl ?_
            refine Wp.topL (y := (-9223372036854775806)) (by decide) ?_
            refine wp_lret rfl rfl ?_
            show Wp X _ 18 22 [vr 6, vi x1, vi x2, vi x3, vu, vu, vu, vu] [vl (-9223372036854775806)] _ _
            exact wp_lret rfl rfl H
          · replace H := H.2 c5
            refine wp_iload rfl rfl ?_
            refine wp_iload rfl rfl ?_
            refine wp_icle (tn := 14) rfl rfl (fun c6 => ?_) (fun c6 => ?_)
            · replace H := H.1 c6
              refine wp_iconst rfl ?_
              refine wp_zret rfl rfl (by decide) ?_
              show Wp X _ 18 14 [vr 6, vi x1, vi x2, vi x3, vu, vu, vu, vu] [vi 0] _ _
              refine wp_ifeqT (tn := 23) rfl rfl (by decide) ?_
              refine wp_aload rfl rfl ?_
              refine wp_getR (r := 43) rfl (congrArg Prod.fst (kf_6 X.1)) rfl ?_
              refine wp_iconst rfl ?_
              refine wp_aaload (r := 44) rfl (kf_44 X.1) (by decide) (by decide) rfl ?_
              refine wp_call (k := 205) (ρ2 := 0) (L2 := [vr 45]) rfl rfl rfl (Nat.le_of_ble_eq_true rfl) (Nat.le_of_ble_eq_true rfl) (Nat.le_of_ble_eq_true rfl) (rcv_V rfl (congrArg Prod.fst (kf_45 X.1))) rfl ?_
              refine wp_aload rfl rfl ?_
              refine wp_getI (j := 6) rfl (congrArg Prod.fst (kf_45 X.1)) rfl ?_
              refine wp_iconst rfl ?_
              refine wp_icne (tn := 30) rfl rfl (fun c7 => ?_) (fun c7 => ?_)
              · replace H := H.1 c7
                refine wp_iconst rfl ?_
                refine wp_zret rfl rfl (by decide) ?_
                show Wp X _ 18 32 [vr 6, vi x1, vi x2, vi x3, vu, vu, vu, vu] [vi 0] _ _
                refine wp_ifeqT (tn := 47) rfl rfl (by decide) ?_
                refine wp_iconst rfl ?_
                refine wp_call (k := 39) (ρ2 := 0) (L2 := [vi (-3)]) rfl rfl rfl (Nat.le_of_ble_eq_true rfl) (Nat.le_of_ble_eq_true rfl) (Nat.le_of_ble_eq_true rfl) (rcv_S rfl) rfl ?_
                refine wp_sipush rfl ?_
                refine wp_iload rfl rfl ?_
                refine wp_i2l rfl ?_
                refine wp_lsub rfl ?_
                refine Wp.topL (y := (-9223372036854775805)) (by decide) ?_
                refine wp_lret rfl rfl ?_
                show Wp X _ 18 52 [vr 6, vi x1, vi x2, vi x3, vu, vu, vu, vu] [vl (-9223372036854775805)] _ _
                exact wp_lret rfl rfl H
              · replace H := H.2 c7
                refine wp_aload rfl rfl ?_
                refine wp_getI (j := 7) rfl (congrArg Prod.fst (kf_45 X.1)) rfl ?_
                refine wp_iconst rfl ?_
                refine wp_icne (tn := 30) rfl rfl (fun c8 => ?_) (fun c8 => ?_)
                · replace H := H.1 c8
                  refine wp_iconst rfl ?_
                  refine wp_zret rfl rfl (by decide) ?_
                  show Wp X _ 18 32 [vr 6, vi x1, vi x2, vi x3, vu, vu, vu, vu] [vi 0] _ _
                  refine wp_ifeqT (tn := 47) rfl rfl (by decide) ?_
                  refine wp_iconst rfl ?_
                  refine wp_call (k := 39) (ρ2 := 0) (L2 := [vi (-3)]) rfl rfl rfl (Nat.le_of_ble_eq_true rfl) (Nat.le_of_ble_eq_true rfl) (Nat.le_of_ble_eq_true rfl) (rcv_S rfl) rfl ?_
                  refine wp_sipush rfl ?_
                  refine wp_iload rfl rfl ?_
                  refine wp_i2l rfl ?_
                  refine wp_lsub rfl ?_
                  refine Wp.topL (y := (-9223372036854775805)) (by decide) ?_
                  refine wp_lret rfl rfl ?_
                  show Wp X _ 18 52 [vr 6, vi x1, vi x2, vi x3, vu, vu, vu, vu] [vl (-9223372036854775805)] _ _
                  exact wp_lret rfl rfl H
                · replace H := H.2 c8
                  refine wp_aload rfl rfl ?_
                  refine wp_getI (j := 8) rfl (congrArg Prod.fst (kf_45 X.1)) rfl ?_
                  refine wp_iconst rfl ?_
                  refine wp_icne (tn := 30) rfl rfl (fun c9 => ?_) (fun c9 => ?_)
                  · replace H := H.1 c9
                    refine wp_iconst rfl ?_
                    refine wp_zret rfl rfl (by decide) ?_
                    show Wp X _ 18 32 [vr 6, vi x1, vi x2, vi x3, vu, vu, vu, vu] [vi 0] _ _
                    refine wp_ifeqT (tn := 47) rfl rfl (by decide) ?_
                    refine wp_iconst rfl ?_
                    refine wp_call (k := 39) (ρ2 := 0) (L2 := [vi (-3)]) rfl rfl rfl (Nat.le_of_ble_eq_true rfl) (Nat.le_of_ble_eq_true rfl) (Nat.le_of_ble_eq_true rfl) (rcv_S rfl) rfl ?_
                    refine wp_sipush rfl ?_
                    refine wp_iload rfl rfl ?_
                    refine wp_i2l rfl ?_
                    refine wp_lsub rfl ?_
                    refine Wp.topL (y := (-9223372036854775805)) (by decide) ?_
                    refine wp_lret rfl rfl ?_
                    show Wp X _ 18 52 [vr 6, vi x1, vi x2, vi x3, vu, vu, vu, vu] [vl (-9223372036854775805)] _ _
                    exact wp_lret rfl rfl H
                  · replace H := H.2 c9
                    refine wp_iconst rfl ?_
                    refine wp_goto (tn := 31) rfl rfl ?_
                    refine wp_zret rfl rfl (by decide) ?_
                    show Wp X _ 18 32 [vr 6, vi x1, vi x2, vi x3, vu, vu, vu, vu] [vi 1] _ _
                    refine wp_ifeqF (tn := 47) rfl rfl (by decide) ?_
                    refine wp_aload rfl rfl ?_
                    refine wp_getR (r := 43) rfl (congrArg Prod.fst (kf_6 X.1)) rfl ?_
                    refine wp_iconst rfl ?_
                    refine wp_aaload (r := 52) rfl (kf_44 X.1) (by decide) (by decide) rfl ?_
                    refine wp_call (k := 205) (ρ2 := 0) (L2 := [vr 53]) rfl rfl rfl (Nat.le_of_ble_eq_true rfl) (Nat.le_of_ble_eq_true rfl) (Nat.le_of_ble_eq_true rfl) (rcv_V rfl (congrArg Prod.fst (kf_53 X.1))) rfl ?_
                    refine wp_aload rfl rfl ?_
                    refine wp_getI (j := 6) rfl (congrArg Prod.fst (kf_53 X.1)) rfl ?_
                    refine wp_iconst rfl ?_
                    refine wp_icne (tn := 30) rfl rfl (fun c10 => ?_) (fun c10 => ?_)
                    · replace H := H.1 c10
                      refine wp_iconst rfl ?_
                      refine wp_zret rfl rfl (by decide) ?_
                      show Wp X _ 18 44 [vr 6, vi x1, vi x2, vi x3, vu, vu, vu, vu] [vi 0] _ _
                      refine wp_ifneF (tn := 53) rfl rfl (by decide) ?_
                      refine wp_iconst rfl ?_
                      refine wp_call (k := 39) (ρ2 := 0) (L2 := [vi (-3)]) rfl rfl rfl (Nat.le_of_ble_eq_true rfl) (Nat.le_of_ble_eq_true rfl) (Nat.le_of_ble_eq_true rfl) (rcv_S rfl) rfl ?_
                      refine wp_sipush rfl ?_
                      refine wp_iload rfl rfl ?_
                      refine wp_i2l rfl ?_
                      refine wp_lsub rfl ?_
                      refine Wp.topL (y := (-9223372036854775805)) (by decide) ?_
                      refine wp_lret rfl rfl ?_
                      show Wp X _ 18 52 [vr 6, vi x1, vi x2, vi x3, vu, vu, vu, vu] [vl (-9223372036854775805)] _ _
                      exact wp_lret rfl rfl H
                    · replace H := H.2 c10
                      refine wp_aload rfl rfl ?_
                      refine wp_getI (j := 7) rfl (congrArg Prod.fst (kf_53 X.1)) rfl ?_
                      refine wp_iconst rfl ?_
                      refine wp_icne (tn := 30) rfl rfl (fun c11 => ?_) (fun c11 => ?_)
                      · replace H := H.1 c11
                        refine wp_iconst rfl ?_
                        refine wp_zret rfl rfl (by decide) ?_
                        show Wp X _ 18 44 [vr 6, vi x1, vi x2, vi x3, vu, vu, vu, vu] [vi 0] _ _
                        refine wp_ifneF (tn := 53) rfl rfl (by decide) ?_
                        refine wp_iconst rfl ?_
                        refine wp_call (k := 39) (ρ2 := 0) (L2 := [vi (-3)]) rfl rfl rfl (Nat.le_of_ble_eq_true rfl) (Nat.le_of_ble_eq_true rfl) (Nat.le_of_ble_eq_true rfl) (rcv_S rfl) rfl ?_
                        refine wp_sipush rfl ?_
                        refine wp_iload rfl rfl ?_
                        refine wp_i2l rfl ?_
                        refine wp_lsub rfl ?_
                        refine Wp.topL (y := (-9223372036854775805)) (by decide) ?_
                        refine wp_lret rfl rfl ?_
                        show Wp X _ 18 52 [vr 6, vi x1, vi x2, vi x3, vu, vu, vu, vu] [vl (-9223372036854775805)] _ _
                        exact wp_lret rfl rfl H
                      · replace H := H.2 c11
                        refine wp_aload rfl rfl ?_
                        refine wp_getI (j := 8) rfl (congrArg Prod.fst (kf_53 X.1)) rfl ?_
                        refine wp_iconst rfl ?_
                        refine wp_icne (tn := 30) rfl rfl (fun c12 => ?_) (fun c12 => ?_)
                        · replace H := H.1 c12
                          refine wp_iconst rfl ?_
                          refine wp_zret rfl rfl (by decide) ?_
                          show Wp X _ 18 44 [vr 6, vi x1, vi x2, vi x3, vu, vu, vu, vu] [vi 0] _ _
                          refine wp_ifneF (tn := 53) rfl rfl (by decide) ?_
                          refine wp_iconst rfl ?_
                          refine wp_call (k := 39) (ρ2 := 0) (L2 := [vi (-3)]) rfl rfl rfl (Nat.le_of_ble_eq_true rfl) (Nat.le_of_ble_eq_true rfl) (Nat.le_of_ble_eq_true rfl) (rcv_S rfl) rfl ?_
                          refine wp_sipush rfl ?_
                          refine wp_iload rfl rfl ?_
                          refine wp_i2l rfl ?_
                          refine wp_lsub rfl ?_
                          refine Wp.topL (y := (-9223372036854775805)) (by decide) ?_
                          refine wp_lret rfl rfl ?_
                          show Wp X _ 18 52 [vr 6, vi x1, vi x2, vi x3, vu, vu, vu, vu] [vl (-9223372036854775805)] _ _
                          exact wp_lret rfl rfl H
                        · replace H := H.2 c12
                          refine wp_iconst rfl ?_
                          refine wp_goto (tn := 31) rfl rfl ?_
                          refine wp_zret rfl rfl (by decide) ?_
                          show Wp X _ 18 44 [vr 6, vi x1, vi x2, vi x3, vu, vu, vu, vu] [vi 1] _ _
                          refine wp_ifneT (tn := 53) rfl rfl (by decide) ?_
                          refine wp_aload rfl rfl ?_
                          refine wp_aload rfl rfl ?_
                          refine wp_getR (r := 43) rfl (congrArg Prod.fst (kf_6 X.1)) rfl ?_
                          refine wp_iconst rfl ?_
                          refine wp_aaload (r := 44) rfl (kf_44 X.1) (by decide) (by decide) rfl ?_
                          refine wp_iload rfl rfl ?_
                          refine wp_iload rfl rfl ?_
                          exact wp_call (k := 37) (ρ2 := 4) (L2 := [vr 6, vr 45, vi x1, vi x2, vu, vu, vu, vu]) rfl rfl rfl (Nat.le_of_ble_eq_true rfl) (Nat.le_of_ble_eq_true rfl) (Nat.le_of_ble_eq_true rfl) (rcv_V rfl (congrArg Prod.fst (kf_6 X.1))) rfl H
            · replace H := H.2 c6
              refine wp_iconst rfl ?_
              refine wp_goto (tn := 15) rfl rfl ?_
              refine wp_zret rfl rfl (by decide) ?_
              show Wp X _ 18 14 [vr 6, vi x1, vi x2, vi x3, vu, vu, vu, vu] [vi 1] _ _
              refine wp_ifeqF (tn := 23) rfl rfl (by decide) ?_
              refine wp_iconst rfl ?_
              refine wp_call (k := 39) (ρ2 := 0) (L2 := [vi (-2)]) rfl rfl rfl (Nat.le_of_ble_eq_true rfl) (Nat.le_of_ble_eq_true rfl) (Nat.le_of_ble_eq_true rfl) (rcv_S rfl) rfl ?_
              refine wp_sipush rfl ?_
              refine wp_iload rfl rfl ?_
              refine wp_i2l rfl ?_
              refine wp_lsub rfl ?_
              refine Wp.topL (y := (-9223372036854775806)) (by decide) ?_
              refine wp_lret rfl rfl ?_
              show Wp X _ 18 22 [vr 6, vi x1, vi x2, vi x3, vu, vu, vu, vu] [vl (-9223372036854775806)] _ _
              exact wp_lret rfl rfl H
        · replace H := H.2 c4
          refine wp_iconst rfl ?_
          refine wp_goto (tn := 15) rfl rfl ?_
          refine wp_zret rfl rfl (by decide) ?_
          show Wp X _ 42 18 [vi x1, vi x2] [vi 1] _ _
          refine wp_ifeqF (tn := 25) rfl rfl (by decide) ?_
          refine wp_iconst rfl ?_
          refine wp_goto (tn := 26) rfl rfl ?_
          refine wp_zret rfl rfl (by decide) ?_
          show Wp X _ 18 5 [vr 6, vi x1, vi x2, vi x3, vu, vu, vu, vu] [vi 1] _ _
          refine wp_ifneT (tn := 17) rfl rfl (by decide) ?_
          refine wp_iconst rfl ?_
          refine wp_call (k := 39) (ρ2 := 0) (L2 := [vi (-2)]) rfl rfl rfl (Nat.le_of_ble_eq_true rfl) (Nat.le_of_ble_eq_true rfl) (Nat.le_of_ble_eq_true rfl) (rcv_S rfl) rfl ?_
          refine wp_sipush rfl ?_
          refine wp_iload rfl rfl ?_
          refine wp_i2l rfl ?_
          refine wp_lsub rfl ?_
          refine Wp.topL (y := (-9223372036854775806)) (by decide) ?_
          refine wp_lret rfl rfl ?_
          show Wp X _ 18 22 [vr 6, vi x1, vi x2, vi x3, vu, vu, vu, vu] [vl (-9223372036854775806)] _ _
          exact wp_lret rfl rfl H
    · replace H := H.2 c2
      refine wp_iconst rfl ?_
      refine wp_goto (tn := 15) rfl rfl ?_
      refine wp_zret rfl rfl (by decide) ?_
      show Wp X _ 42 7 [vi x1, vi x2] [vi 1] _ _
      refine wp_ifneT (tn := 21) rfl rfl (by decide) ?_
      refine wp_iconst rfl ?_
      refine wp_goto (tn := 26) rfl rfl ?_
      refine wp_zret rfl rfl (by decide) ?_
      show Wp X _ 18 5 [vr 6, vi x1, vi x2, vi x3, vu, vu, vu, vu] [vi 1] _ _
      refine wp_ifneT (tn := 17) rfl rfl (by decide) ?_
      refine wp_iconst rfl ?_
      refine wp_call (k := 39) (ρ2 := 0) (L2 := [vi (-2)]) rfl rfl rfl (Nat.le_of_ble_eq_true rfl) (Nat.le_of_ble_eq_true rfl) (Nat.le_of_ble_eq_true rfl) (rcv_S rfl) rfl ?_
      refine wp_sipush rfl ?_
      refine wp_iload rfl rfl ?_
      refine wp_i2l rfl ?_
      refine wp_lsub rfl ?_
      refine Wp.topL (y := (-9223372036854775806)) (by decide) ?_
      refine wp_lret rfl rfl ?_
      show Wp X _ 18 22 [vr 6, vi x1, vi x2, vi x3, vu, vu, vu, vu] [vl (-9223372036854775806)] _ _
      exact wp_lret rfl rfl H
/-- WarnLines.cheaper(III)J, from 65 -/
theorem S18_6_65 {X : Nat × (Int → Int)} {h : HP} {Q : bQ} (x1 : Int) (x2 : Int) (x3 : Int) (s0 : Int) (H : Wp X 4 37 0 [vr 6, vr 53, vi x1, vi x2, vu, vu, vu, vu] [] h (fun v h' => Wp X 5 18 79 [vr 6, vi x1, vi x2, vi x3, vl s0, vu, vu, vu] (psh v []) h' Q)) : Wp X 5 18 65 [vr 6, vi x1, vi x2, vi x3, vu, vu, vu, vu] [vl s0] h Q := by
  refine wp_lstore (L2 := [vr 6, vi x1, vi x2, vi x3, vl s0, vu, vu, vu]) rfl (Nat.le_of_ble_eq_true rfl) rfl ?_
  refine wp_aload rfl rfl ?_
  refine wp_aload rfl rfl ?_
  refine wp_getR (r := 43) rfl (congrArg Prod.fst (kf_6 X.1)) rfl ?_
  refine wp_iconst rfl ?_
  refine wp_aaload (r := 52) rfl (kf_44 X.1) (by decide) (by decide) rfl ?_
  refine wp_iload rfl rfl ?_
  refine wp_iload rfl rfl ?_
  exact wp_call (k := 37) (ρ2 := 4) (L2 := [vr 6, vr 53, vi x1, vi x2, vu, vu, vu, vu]) rfl rfl rfl (Nat.le_of_ble_eq_true rfl) (Nat.le_of_ble_eq_true rfl) (Nat.le_of_ble_eq_true rfl) (rcv_V rfl (congrArg Prod.fst (kf_6 X.1))) rfl H
/-- WarnLines.cheaper(III)J, from 79 -/
theorem S18_6_79 {X : Nat × (Int → Int)} {h : HP} {Q : bQ} (zx1 : aV) (zx2 : aV) (x3 : Int) (x4 : Int) (s0 : Int) (H : ((x3 ≠ 2 → ((0 < (lcp x4 s0) → Wp X 1 45 0 [vl s0, vu, vl (h 69 6), vu, vi x3, vu, vu] [] h (fun v h' => Wp X 5 18 118 [vr 6, zx1, zx2, vi x3, vl x4, vu, vl s0, vu] (psh v []) h' Q)) ∧ ((lcp x4 s0) ≤ 0 → Wp X 1 45 0 [vl x4, vu, vl (h 69 6), vu, vi x3, vu, vu] [] h (fun v h' => Wp X 5 18 118 [vr 6, zx1, zx2, vi x3, vl x4, vu, vl s0, vu] (psh v []) h' Q)))) ∧ (x3 = 2 → ((0 ≤ (lcp s0 x4) → Q (some (vl 0)) h) ∧ ((lcp s0 x4) < 0 → Q (some (vl 1)) h))))) : Wp X 5 18 79 [vr 6, zx1, zx2, vi x3, vl x4, vu, vu, vu] [vl s0] h Q := by
  refine wp_lstore (L2 := [vr 6, zx1, zx2, vi x3, vl x4, vu, vl s0, vu]) rfl (Nat.le_of_ble_eq_true rfl) rfl ?_
  refine wp_iload rfl rfl ?_
  refine wp_iconst rfl ?_
  refine wp_icne (tn := 100) rfl rfl (fun c1 => ?_) (fun c1 => ?_)
  · replace H := H.1 c1
    refine wp_lload rfl rfl ?_
    refine wp_lload rfl rfl ?_
    refine wp_call (k := 254) (ρ2 := 0) (L2 := [vl x4, vu, vl s0, vu]) rfl rfl rfl (Nat.le_of_ble_eq_true rfl) (Nat.le_of_ble_eq_true rfl) (Nat.le_of_ble_eq_true rfl) (rcv_S rfl) rfl ?_
    refine wp_lload rfl rfl ?_
    refine wp_lload rfl rfl ?_
    refine wp_lcmp rfl ?_
    refine wp_ifgt (tn := 10) rfl rfl (fun c2 => ?_) (fun c2 => ?_)
    · replace H := H.1 c2
      refine wp_lload rfl rfl ?_
      refine wp_lret rfl rfl ?_
      show Wp X _ 18 107 [vr 6, zx1, zx2, vi x3, vl x4, vu, vl s0, vu] [vl s0] _ _
      refine wp_aload rfl rfl ?_
      refine wp_getR (r := 68) rfl (congrArg Prod.fst (kf_6 X.1)) rfl ?_
      refine wp_call (k := 177) (ρ2 := 0) (L2 := [vr 69]) rfl rfl rfl (Nat.le_of_ble_eq_true rfl) (Nat.le_of_ble_eq_true rfl) (Nat.le_of_ble_eq_true rfl) (rcv_V rfl (congrArg Prod.fst (kf_69 X.1))) rfl ?_
      refine wp_aload rfl rfl ?_
      refine wp_getL (j := 6) rfl (congrArg Prod.fst (kf_69 X.1)) rfl ?_
      refine wp_lret rfl rfl ?_
      show Wp X _ 18 114 [vr 6, zx1, zx2, vi x3, vl x4, vu, vl s0, vu] [vl (h 69 6), vl s0] _ _
      refine wp_iload rfl rfl ?_
      exact wp_call (k := 45) (ρ2 := 1) (L2 := [vl s0, vu, vl (h 69 6), vu, vi x3, vu, vu]) rfl rfl rfl (Nat.le_of_ble_eq_true rfl) (Nat.le_of_ble_eq_true rfl) (Nat.le_of_ble_eq_true rfl) (rcv_S rfl) rfl H
    · replace H := H.2 c2
      refine wp_lload rfl rfl ?_
      refine wp_goto (tn := 11) rfl rfl ?_
      refine wp_lret rfl rfl ?_
      show Wp X _ 18 107 [vr 6, zx1, zx2, vi x3, vl x4, vu, vl s0, vu] [vl x4] _ _
      refine wp_aload rfl rfl ?_
      refine wp_getR (r := 68) rfl (congrArg Prod.fst (kf_6 X.1)) rfl ?_
      refine wp_call (k := 177) (ρ2 := 0) (L2 := [vr 69]) rfl rfl rfl (Nat.le_of_ble_eq_true rfl) (Nat.le_of_ble_eq_true rfl) (Nat.le_of_ble_eq_true rfl) (rcv_V rfl (congrArg Prod.fst (kf_69 X.1))) rfl ?_
      refine wp_aload rfl rfl ?_
      refine wp_getL (j := 6) rfl (congrArg Prod.fst (kf_69 X.1)) rfl ?_
      refine wp_lret rfl rfl ?_
      show Wp X _ 18 114 [vr 6, zx1, zx2, vi x3, vl x4, vu, vl s0, vu] [vl (h 69 6), vl x4] _ _
      refine wp_iload rfl rfl ?_
      exact wp_call (k := 45) (ρ2 := 1) (L2 := [vl x4, vu, vl (h 69 6), vu, vi x3, vu, vu]) rfl rfl rfl (Nat.le_of_ble_eq_true rfl) (Nat.le_of_ble_eq_true rfl) (Nat.le_of_ble_eq_true rfl) (rcv_S rfl) rfl H
  · replace H := H.2 c1
    refine wp_lload rfl rfl ?_
    refine wp_lload rfl rfl ?_
    refine wp_lcmp rfl ?_
    refine wp_ifge (tn := 98) rfl rfl (fun c3 => ?_) (fun c3 => ?_)
    · replace H := H.1 c3
      refine wp_sipush rfl ?_
      exact wp_lret rfl rfl H
    · replace H := H.2 c3
      refine wp_sipush rfl ?_
      refine wp_goto (tn := 99) rfl rfl ?_
      exact wp_lret rfl rfl H
/-- WarnLines.cheaper(III)J, from 118 -/
theorem S18_6_118 {X : Nat × (Int → Int)} {h : HP} {Q : bQ} (zx0 : aV) (zx1 : aV) (zx2 : aV) (zx3 : aV) (zx4 : aV) (zx6 : aV) (s0 : Int) (H : Q (some (vl s0)) h) : Wp X 5 18 118 [zx0, zx1, zx2, zx3, zx4, vu, zx6, vu] [vl s0] h Q := by
  exact wp_lret rfl rfl H
/-- WarnLines.sum(III)J, from 0 -/
theorem S19_6_0 {X : Nat × (Int → Int)} {h : HP} {Q : bQ} (x1 : Int) (x2 : Int) (x3 : Int) (H : ((x1 < 0 → Q (some (vl (-9223372036854775806))) h) ∧ (0 ≤ x1 → (((h 8 8) ≤ x1 → Q (some (vl (-9223372036854775806))) h) ∧ (x1 < (h 8 8) → ((x2 = 1 → ((x3 < 0 → Q (some (vl (-9223372036854775806))) h) ∧ (0 ≤ x3 → ((x3 ≤ 1 → ((0 ≤ x1 ∧ x1 < 20) ∧ (((h 34 x1) ≠ (-1) → (((h 36 0) ≤ 0 → Q (some (vl (-9223372036854775805))) h) ∧ (0 < (h 36 0) → Wp X 2 231 0 [vr 74, vr 37, vr 36, vi (h 7 4), vu, vu, vu, vu, vu] [] h (fun v h' => Wp X 3 19 84 [vr 6, vi x1, vi x2, vi x3] (psh v []) h' Q)))) ∧ ((h 34 x1) = (-1) → Q (some (vl (-9223372036854775805))) h)))) ∧ (1 < x3 → Q (some (vl (-9223372036854775806))) h))))) ∧ (x2 ≠ 1 → ((x2 ≠ (-1) → Q (some (vl (-9223372036854775806))) h) ∧ (x2 = (-1) → ((x3 < 0 → Q (some (vl (-9223372036854775806))) h) ∧ (0 ≤ x3 → ((x3 ≤ 1 → ((0 ≤ x1 ∧ x1 < 20) ∧ (((h 34 x1) ≠ (-1) → (((h 36 0) ≤ 0 → Q (some (vl (-9223372036854775805))) h) ∧ (0 < (h 36 0) → Wp X 2 231 0 [vr 74, vr 37, vr 36, vi (h 7 4), vu, vu, vu, vu, vu] [] h (fun v h' => Wp X 3 19 84 [vr 6, vi x1, vi x2, vi x3] (psh v []) h' Q)))) ∧ ((h 34 x1) = (-1) → Q (some (vl (-9223372036854775805))) h)))) ∧ (1 < x3 → Q (some (vl (-9223372036854775806))) h))))))))))))) : Wp X 3 19 0 [vr 6, vi x1, vi x2, vi x3] [] h Q := by
  refine wp_aload rfl rfl ?_
  refine wp_getR (r := 7) rfl (congrArg Prod.fst (kf_6 X.1)) rfl ?_
  refine wp_iload rfl rfl ?_
  refine wp_call (k := 145) (ρ2 := 0) (L2 := [vr 8, vi x1]) rfl rfl rfl (Nat.le_of_ble_eq_true rfl) (Nat.le_of_ble_eq_true rfl) (Nat.le_of_ble_eq_true rfl) (rcv_V rfl (congrArg Prod.fst (kf_8 X.1))) rfl ?_
  refine wp_iload rfl rfl ?_
  refine wp_iflt (tn := 16) rfl rfl (fun c1 => ?_) (fun c1 => ?_)
  · replace H := H.1 c1
    refine wp_iconst rfl ?_
    refine wp_zret rfl rfl (by decide) ?_
    show Wp X _ 19 8 [vr 6, vi x1, vi x2, vi x3] [vi 0] _ _
    refine wp_ifeqT (tn := 30) rfl rfl (by decide) ?_
    refine wp_iconst rfl ?_
    refine wp_call (k := 39) (ρ2 := 0) (L2 := [vi (-2)]) rfl rfl rfl (Nat.le_of_ble_eq_true rfl) (Nat.le_of_ble_eq_true rfl) (Nat.le_of_ble_eq_true rfl) (rcv_S rfl) rfl ?_
    refine wp_sipush rfl ?_
    refine wp_iload rfl rfl ?_
    refine wp_i2l rfl ?_
    refine wp_lsub rfl ?_
    refine Wp.topL (y := (-9223372036854775806)) (by decide) ?_
    refine wp_lret rfl rfl ?_
    show Wp X _ 19 35 [vr 6, vi x1, vi x2, vi x3] [vl (-9223372036854775806)] _ _
    exact wp_lret rfl rfl H
  · replace H := H.2 c1
    refine wp_iload rfl rfl ?_
    refine wp_aload rfl rfl ?_
    refine wp_getI (j := 8) rfl (congrArg Prod.fst (kf_8 X.1)) rfl ?_
    refine wp_icge (tn := 16) rfl rfl (fun c2 => ?_) (fun c2 => ?_)
    · replace H := H.1 c2
      refine wp_iconst rfl ?_
      refine wp_zret rfl rfl (by decide) ?_
      show Wp X _ 19 8 [vr 6, vi x1, vi x2, vi x3] [vi 0] _ _
      refine wp_ifeqT (tn := 30) rfl rfl (by decide) ?_
      refine wp_iconst rfl ?_
      refine wp_call (k := 39) (ρ2 := 0) (L2 := [vi (-2)]) rfl rfl rfl (Nat.le_of_ble_eq_true rfl) (Nat.le_of_ble_eq_true rfl) (Nat.le_of_ble_eq_true rfl) (rcv_S rfl) rfl ?_
      refine wp_sipush rfl ?_
      refine wp_iload rfl rfl ?_
      refine wp_i2l rfl ?_
      refine wp_lsub rfl ?_
      refine Wp.topL (y := (-9223372036854775806)) (by decide) ?_
      refine wp_lret rfl rfl ?_
      show Wp X _ 19 35 [vr 6, vi x1, vi x2, vi x3] [vl (-9223372036854775806)] _ _
      exact wp_lret rfl rfl H
    · replace H := H.2 c2
      refine wp_iconst rfl ?_
      refine wp_goto (tn := 17) rfl rfl ?_
      refine wp_zret rfl rfl (by decide) ?_
      show Wp X _ 19 8 [vr 6, vi x1, vi x2, vi x3] [vi 1] _ _
      refine wp_ifeqF (tn := 30) rfl rfl (by decide) ?_
      refine wp_iload rfl rfl ?_
      refine wp_iconst rfl ?_
      refine wp_iceq (tn := 21) rfl rfl (fun c3 => ?_) (fun c3 => ?_)
      · replace H := H.1 c3
        refine wp_iload rfl rfl ?_
        refine wp_iconst rfl ?_
        refine wp_iconst rfl ?_
        refine wp_call (k := 40) (ρ2 := 0) (L2 := [vi x3, vi 0, vi 1]) rfl rfl rfl (Nat.le_of_ble_eq_true rfl) (Nat.le_of_ble_eq_true rfl) (Nat.le_of_ble_eq_true rfl) (rcv_S rfl) rfl ?_
        refine wp_iload rfl rfl ?_
        refine wp_iload rfl rfl ?_
        refine wp_iclt (tn := 10) rfl rfl (fun c4 => ?_) (fun c4 => ?_)
        · replace H := H.1 c4
          refine wp_iconst rfl ?_
          refine wp_goto (tn := 15) rfl rfl ?_
          refine wp_zret rfl rfl (by decide) ?_
          show Wp X _ 19 27 [vr 6, vi x1, vi x2, vi x3] [vi 1] _ _
          refine wp_ifeqF (tn := 36) rfl rfl (by decide) ?_
          refine wp_iconst rfl ?_
          refine wp_call (k := 39) (ρ2 := 0) (L2 := [vi (-2)]) rfl rfl rfl (Nat.le_of_ble_eq_true rfl) (Nat.le_of_ble_eq_true rfl) (Nat.le_of_ble_eq_true rfl) (rcv_S rfl) rfl ?_
          refine wp_sipush rfl ?_
          refine wp_iload rfl rfl ?_
          refine wp_i2l rfl ?_
          refine wp_lsub rfl ?_
          refine Wp.topL (y := (-9223372036854775806)) (by decide) ?_
          refine wp_lret rfl rfl ?_
          show Wp X _ 19 35 [vr 6, vi x1, vi x2, vi x3] [vl (-9223372036854775806)] _ _
          exact wp_lret rfl rfl H
        · replace H := H.2 c4
          refine wp_iload rfl rfl ?_
          refine wp_iload rfl rfl ?_
          refine wp_icle (tn := 14) rfl rfl (fun c5 => ?_) (fun c5 => ?_)
          · replace H := H.1 c5
            refine wp_iconst rfl ?_
            refine wp_zret rfl rfl (by decide) ?_
            show Wp X _ 19 27 [vr 6, vi x1, vi x2, vi x3] [vi 0] _ _
            refine wp_ifeqT (tn := 36) rfl rfl (by decide) ?_
            refine wp_aload rfl rfl ?_
            refine wp_getR (r := 7) rfl (congrArg Prod.fst (kf_6 X.1)) rfl ?_
            refine wp_iload rfl rfl ?_
            refine wp_call (k := 149) (ρ2 := 1) (L2 := [vr 8, vi x1]) rfl rfl rfl (Nat.le_of_ble_eq_true rfl) (Nat.le_of_ble_eq_true rfl) (Nat.le_of_ble_eq_true rfl) (rcv_V rfl (congrArg Prod.fst (kf_8 X.1))) rfl ?_
            refine wp_aload rfl rfl ?_
            refine wp_iload rfl rfl ?_
            refine wp_call (k := 145) (ρ2 := 0) (L2 := [vr 8, vi x1]) rfl rfl rfl (Nat.le_of_ble_eq_true rfl) (Nat.le_of_ble_eq_true rfl) (Nat.le_of_ble_eq_true rfl) (rcv_V rfl (congrArg Prod.fst (kf_8 X.1))) rfl ?_
            refine wp_iload rfl rfl ?_
            refine wp_ifltF (tn := 16) rfl rfl c1 ?_
            refine wp_iload rfl rfl ?_
            refine wp_aload rfl rfl ?_
            refine wp_getI (j := 8) rfl (congrArg Prod.fst (kf_8 X.1)) rfl ?_
            refine wp_icgeF (tn := 16) rfl rfl c2 ?_
            refine wp_iconst rfl ?_
            refine wp_goto (tn := 17) rfl rfl ?_
            refine wp_zret rfl rfl (by decide) ?_
            show Wp X _ 149 5 [vr 8, vi x1] [vi 1] _ _
            refine wp_ifeqF (tn := 18) rfl rfl (by decide) ?_
            refine wp_aload rfl rfl ?_
            refine wp_getR (r := 33) rfl (congrArg Prod.fst (kf_8 X.1)) rfl ?_
            refine wp_iload rfl rfl ?_
            have g6 := H.1
            replace H := H.2
            refine wp_iaload rfl (kf_34 X.1) g6 ?_
            refine wp_iconst rfl ?_
            refine wp_icne (tn := 22) rfl rfl (fun c7 => ?_) (fun c7 => ?_)
            · replace H := H.1 c7
              refine wp_iconst rfl ?_
              refine wp_zret rfl rfl (by decide) ?_
              show Wp X _ 19 44 [vr 6, vi x1, vi x2, vi x3] [vi 0] _ _
              refine wp_ifneF (tn := 57) rfl rfl (by decide) ?_
              refine wp_aload rfl rfl ?_
              refine wp_getR (r := 35) rfl (congrArg Prod.fst (kf_6 X.1)) rfl ?_
              refine wp_call (k := 159) (ρ2 := 0) (L2 := [vr 36]) rfl rfl rfl (Nat.le_of_ble_eq_true rfl) (Nat.le_of_ble_eq_true rfl) (Nat.le_of_ble_eq_true rfl) (rcv_V rfl (congrArg Prod.fst (kf_36 X.1))) rfl ?_
              refine wp_aload rfl rfl ?_
              refine wp_getI (j := 0) rfl (congrArg Prod.fst (kf_36 X.1)) rfl ?_
              refine wp_ifle (tn := 11) rfl rfl (fun c8 => ?_) (fun c8 => ?_)
              · replace H := H.1 c8
                refine wp_iconst rfl ?_
                refine wp_zret rfl rfl (by decide) ?_
                show Wp X _ 19 54 [vr 6, vi x1, vi x2, vi x3] [vi 0] _ _
                refine wp_ifneF (tn := 63) rfl rfl (by decide) ?_
                refine wp_iconst rfl ?_
                refine wp_call (k := 39) (ρ2 := 0) (L2 := [vi (-3)]) rfl rfl rfl (Nat.le_of_ble_eq_true rfl) (Nat.le_of_ble_eq_true rfl) (Nat.le_of_ble_eq_true rfl) (rcv_S rfl) rfl ?_
                refine wp_sipush rfl ?_
                refine wp_iload rfl rfl ?_
                refine wp_i2l rfl ?_
                refine wp_lsub rfl ?_
                refine Wp.topL (y := (-9223372036854775805)) (by decide) ?_
                refine wp_lret rfl rfl ?_
                show Wp X _ 19 62 [vr 6, vi x1, vi x2, vi x3] [vl (-9223372036854775805)] _ _
                exact wp_lret rfl rfl H
              · replace H := H.2 c8
                refine wp_iconst rfl ?_
                refine wp_goto (tn := 12) rfl rfl ?_
                refine wp_zret rfl rfl (by decide) ?_
                show Wp X _ 19 54 [vr 6, vi x1, vi x2, vi x3] [vi 1] _ _
                refine wp_ifneT (tn := 63) rfl rfl (by decide) ?_
                refine wp_aload rfl rfl ?_
                refine wp_getR (r := 73) rfl (congrArg Prod.fst (kf_6 X.1)) rfl ?_
                refine wp_aload rfl rfl ?_
                refine wp_getR (r := 36) rfl (congrArg Prod.fst (kf_6 X.1)) rfl ?_
                refine wp_aload rfl rfl ?_
                refine wp_getR (r := 35) rfl (congrArg Prod.fst (kf_6 X.1)) rfl ?_
                refine wp_aload rfl rfl ?_
                refine wp_getR (r := 6) rfl (congrArg Prod.fst (kf_6 X.1)) rfl ?_
                refine wp_iconst rfl ?_
                refine wp_iaload rfl (kf_7 X.1) (by decide) ?_
                exact wp_call (k := 231) (ρ2 := 2) (L2 := [vr 74, vr 37, vr 36, vi (h 7 4), vu, vu, vu, vu, vu]) rfl rfl rfl (Nat.le_of_ble_eq_true rfl) (Nat.le_of_ble_eq_true rfl) (Nat.le_of_ble_eq_true rfl) (rcv_V rfl (congrArg Prod.fst (kf_74 X.1))) rfl H
            · replace H := H.2 c7
              refine wp_iconst rfl ?_
              refine wp_goto (tn := 23) rfl rfl ?_
              refine wp_zret rfl rfl (by decide) ?_
              show Wp X _ 19 44 [vr 6, vi x1, vi x2, vi x3] [vi 1] _ _
              refine wp_ifneT (tn := 57) rfl rfl (by decide) ?_
              refine wp_iconst rfl ?_
              refine wp_call (k := 39) (ρ2 := 0) (L2 := [vi (-3)]) rfl rfl rfl (Nat.le_of_ble_eq_true rfl) (Nat.le_of_ble_eq_true rfl) (Nat.le_of_ble_eq_true rfl) (rcv_S rfl) rfl ?_
              refine wp_sipush rfl ?_
              refine wp_iload rfl rfl ?_
              refine wp_i2l rfl ?_
              refine wp_lsub rfl ?_
              refine Wp.topL (y := (-9223372036854775805)) (by decide) ?_
              refine wp_lret rfl rfl ?_
              show Wp X _ 19 62 [vr 6, vi x1, vi x2, vi x3] [vl (-9223372036854775805)] _ _
              exact wp_lret rfl rfl H
          · replace H := H.2 c5
            refine wp_iconst rfl ?_
            refine wp_goto (tn := 15) rfl rfl ?_
            refine wp_zret rfl rfl (by decide) ?_
            show Wp X _ 19 27 [vr 6, vi x1, vi x2, vi x3] [vi 1] _ _
            refine wp_ifeqF (tn := 36) rfl rfl (by decide) ?_
            refine wp_iconst rfl ?_
            refine wp_call (k := 39) (ρ2 := 0) (L2 := [vi (-2)]) rfl rfl rfl (Nat.le_of_ble_eq_true rfl) (Nat.le_of_ble_eq_true rfl) (Nat.le_of_ble_eq_true rfl) (rcv_S rfl) rfl ?_
            refine wp_sipush rfl ?_
            refine wp_iload rfl rfl ?_
            refine wp_i2l rfl ?_
            refine wp_lsub rfl ?_
            refine Wp.topL (y := (-9223372036854775806)) (by decide) ?_
            refine wp_lret rfl rfl ?_
            show Wp X _ 19 35 [vr 6, vi x1, vi x2, vi x3] [vl (-9223372036854775806)] _ _
            exact wp_lret rfl rfl H
      · replace H := H.2 c3
        refine wp_iload rfl rfl ?_
        refine wp_iconst rfl ?_
        refine wp_icne (tn := 30) rfl rfl (fun c9 => ?_) (fun c9 => ?_)
        · replace H := H.1 c9
          refine wp_iconst rfl ?_
          refine wp_call (k := 39) (ρ2 := 0) (L2 := [vi (-2)]) rfl rfl rfl (Nat.le_of_ble_eq_true rfl) (Nat.le_of_ble_eq_true rfl) (Nat.le_of_ble_eq_true rfl) (rcv_S rfl) rfl ?_
          refine wp_sipush rfl ?_
          refine wp_iload rfl rfl ?_
          refine wp_i2l rfl ?_
          refine wp_lsub rfl ?_
          refine Wp.topL (y := (-9223372036854775806)) (by decide) ?_
          refine wp_lret rfl rfl ?_
          show Wp X _ 19 35 [vr 6, vi x1, vi x2, vi x3] [vl (-9223372036854775806)] _ _
          exact wp_lret rfl rfl H
        · replace H := H.2 c9
          refine wp_iload rfl rfl ?_
          refine wp_iconst rfl ?_
          refine wp_iconst rfl ?_
          refine wp_call (k := 40) (ρ2 := 0) (L2 := [vi x3, vi 0, vi 1]) rfl rfl rfl (Nat.le_of_ble_eq_true rfl) (Nat.le_of_ble_eq_true rfl) (Nat.le_of_ble_eq_true rfl) (rcv_S rfl) rfl ?_
          refine wp_iload rfl rfl ?_
          refine wp_iload rfl rfl ?_
          refine wp_iclt (tn := 10) rfl rfl (fun c10 => ?_) (fun c10 => ?_)
          · replace H := H.1 c10
            refine wp_iconst rfl ?_
            refine wp_goto (tn := 15) rfl rfl ?_
            refine wp_zret rfl rfl (by decide) ?_
            show Wp X _ 19 27 [vr 6, vi x1, vi x2, vi x3] [vi 1] _ _
            refine wp_ifeqF (tn := 36) rfl rfl (by decide) ?_
            refine wp_iconst rfl ?_
            refine wp_call (k := 39) (ρ2 := 0) (L2 := [vi (-2)]) rfl rfl rfl (Nat.le_of_ble_eq_true rfl) (Nat.le_of_ble_eq_true rfl) (Nat.le_of_ble_eq_true rfl) (rcv_S rfl) rfl ?_
            refine wp_sipush rfl ?_
            refine wp_iload rfl rfl ?_
            refine wp_i2l rfl ?_
            refine wp_lsub rfl ?_
            refine Wp.topL (y := (-9223372036854775806)) (by decide) ?_
            refine wp_lret rfl rfl ?_
            show Wp X _ 19 35 [vr 6, vi x1, vi x2, vi x3] [vl (-9223372036854775806)] _ _
            exact wp_lret rfl rfl H
          · replace H := H.2 c10
            refine wp_iload rfl rfl ?_
            refine wp_iload rfl rfl ?_
            refine wp_icle (tn := 14) rfl rfl (fun c11 => ?_) (fun c11 => ?_)
            · replace H := H.1 c11
              refine wp_iconst rfl ?_
              refine wp_zret rfl rfl (by decide) ?_
              show Wp X _ 19 27 [vr 6, vi x1, vi x2, vi x3] [vi 0] _ _
              refine wp_ifeqT (tn := 36) rfl rfl (by decide) ?_
              refine wp_aload rfl rfl ?_
              refine wp_getR (r := 7) rfl (congrArg Prod.fst (kf_6 X.1)) rfl ?_
              refine wp_iload rfl rfl ?_
              refine wp_call (k := 149) (ρ2 := 1) (L2 := [vr 8, vi x1]) rfl rfl rfl (Nat.le_of_ble_eq_true rfl) (Nat.le_of_ble_eq_true rfl) (Nat.le_of_ble_eq_true rfl) (rcv_V rfl (congrArg Prod.fst (kf_8 X.1))) rfl ?_
              refine wp_aload rfl rfl ?_
              refine wp_iload rfl rfl ?_
              refine wp_call (k := 145) (ρ2 := 0) (L2 := [vr 8, vi x1]) rfl rfl rfl (Nat.le_of_ble_eq_true rfl) (Nat.le_of_ble_eq_true rfl) (Nat.le_of_ble_eq_true rfl) (rcv_V rfl (congrArg Prod.fst (kf_8 X.1))) rfl ?_
              refine wp_iload rfl rfl ?_
              refine wp_ifltF (tn := 16) rfl rfl c1 ?_
              refine wp_iload rfl rfl ?_
              refine wp_aload rfl rfl ?_
              refine wp_getI (j := 8) rfl (congrArg Prod.fst (kf_8 X.1)) rfl ?_
              refine wp_icgeF (tn := 16) rfl rfl c2 ?_
              refine wp_iconst rfl ?_
              refine wp_goto (tn := 17) rfl rfl ?_
              refine wp_zret rfl rfl (by decide) ?_
              show Wp X _ 149 5 [vr 8, vi x1] [vi 1] _ _
              refine wp_ifeqF (tn := 18) rfl rfl (by decide) ?_
              refine wp_aload rfl rfl ?_
              refine wp_getR (r := 33) rfl (congrArg Prod.fst (kf_8 X.1)) rfl ?_
              refine wp_iload rfl rfl ?_
              have g12 := H.1
              replace H := H.2
              refine wp_iaload rfl (kf_34 X.1) g12 ?_
              refine wp_iconst rfl ?_
              refine wp_icne (tn := 22) rfl rfl (fun c13 => ?_) (fun c13 => ?_)
              · replace H := H.1 c13
                refine wp_iconst rfl ?_
                refine wp_zret rfl rfl (by decide) ?_
                show Wp X _ 19 44 [vr 6, vi x1, vi x2, vi x3] [vi 0] _ _
                refine wp_ifneF (tn := 57) rfl rfl (by decide) ?_
                refine wp_aload rfl rfl ?_
                refine wp_getR (r := 35) rfl (congrArg Prod.fst (kf_6 X.1)) rfl ?_
                refine wp_call (k := 159) (ρ2 := 0) (L2 := [vr 36]) rfl rfl rfl (Nat.le_of_ble_eq_true rfl) (Nat.le_of_ble_eq_true rfl) (Nat.le_of_ble_eq_true rfl) (rcv_V rfl (congrArg Prod.fst (kf_36 X.1))) rfl ?_
                refine wp_aload rfl rfl ?_
                refine wp_getI (j := 0) rfl (congrArg Prod.fst (kf_36 X.1)) rfl ?_
                refine wp_ifle (tn := 11) rfl rfl (fun c14 => ?_) (fun c14 => ?_)
                · replace H := H.1 c14
                  refine wp_iconst rfl ?_
                  refine wp_zret rfl rfl (by decide) ?_
                  show Wp X _ 19 54 [vr 6, vi x1, vi x2, vi x3] [vi 0] _ _
                  refine wp_ifneF (tn := 63) rfl rfl (by decide) ?_
                  refine wp_iconst rfl ?_
                  refine wp_call (k := 39) (ρ2 := 0) (L2 := [vi (-3)]) rfl rfl rfl (Nat.le_of_ble_eq_true rfl) (Nat.le_of_ble_eq_true rfl) (Nat.le_of_ble_eq_true rfl) (rcv_S rfl) rfl ?_
                  refine wp_sipush rfl ?_
                  refine wp_iload rfl rfl ?_
                  refine wp_i2l rfl ?_
                  refine wp_lsub rfl ?_
                  refine Wp.topL (y := (-9223372036854775805)) (by decide) ?_
                  refine wp_lret rfl rfl ?_
                  show Wp X _ 19 62 [vr 6, vi x1, vi x2, vi x3] [vl (-9223372036854775805)] _ _
                  exact wp_lret rfl rfl H
                · replace H := H.2 c14
                  refine wp_iconst rfl ?_
                  refine wp_goto (tn := 12) rfl rfl ?_
                  refine wp_zret rfl rfl (by decide) ?_
                  show Wp X _ 19 54 [vr 6, vi x1, vi x2, vi x3] [vi 1] _ _
                  refine wp_ifneT (tn := 63) rfl rfl (by decide) ?_
                  refine wp_aload rfl rfl ?_
                  refine wp_getR (r := 73) rfl (congrArg Prod.fst (kf_6 X.1)) rfl ?_
                  refine wp_aload rfl rfl ?_
                  refine wp_getR (r := 36) rfl (congrArg Prod.fst (kf_6 X.1)) rfl ?_
                  refine wp_aload rfl rfl ?_
                  refine wp_getR (r := 35) rfl (congrArg Prod.fst (kf_6 X.1)) rfl ?_
                  refine wp_aload rfl rfl ?_
                  refine wp_getR (r := 6) rfl (congrArg Prod.fst (kf_6 X.1)) rfl ?_
                  refine wp_iconst rfl ?_
                  refine wp_iaload rfl (kf_7 X.1) (by decide) ?_
                  exact wp_call (k := 231) (ρ2 := 2) (L2 := [vr 74, vr 37, vr 36, vi (h 7 4), vu, vu, vu, vu, vu]) rfl rfl rfl (Nat.le_of_ble_eq_true rfl) (Nat.le_of_ble_eq_true rfl) (Nat.le_of_ble_eq_true rfl) (rcv_V rfl (congrArg Prod.fst (kf_74 X.1))) rfl H
              · replace H := H.2 c13
                refine wp_iconst rfl ?_
                refine wp_goto (tn := 23) rfl rfl ?_
                refine wp_zret rfl rfl (by decide) ?_
                show Wp X _ 19 44 [vr 6, vi x1, vi x2, vi x3] [vi 1] _ _
                refine wp_ifneT (tn := 57) rfl rfl (by decide) ?_
                refine wp_iconst rfl ?_
                refine wp_call (k := 39) (ρ2 := 0) (L2 := [vi (-3)]) rfl rfl rfl (Nat.le_of_ble_eq_true rfl) (Nat.le_of_ble_eq_true rfl) (Nat.le_of_ble_eq_true rfl) (rcv_S rfl) rfl ?_
                refine wp_sipush rfl ?_
                refine wp_iload rfl rfl ?_
                refine wp_i2l rfl ?_
                refine wp_lsub rfl ?_
                refine Wp.topL (y := (-9223372036854775805)) (by decide) ?_
                refine wp_lret rfl rfl ?_
                show Wp X _ 19 62 [vr 6, vi x1, vi x2, vi x3] [vl (-9223372036854775805)] _ _
                exact wp_lret rfl rfl H
            · replace H := H.2 c11
              refine wp_iconst rfl ?_
              refine wp_goto (tn := 15) rfl rfl ?_
              refine wp_zret rfl rfl (by decide) ?_
              show Wp X _ 19 27 [vr 6, vi x1, vi x2, vi x3] [vi 1] _ _
              refine wp_ifeqF (tn := 36) rfl rfl (by decide) ?_
              refine wp_iconst rfl ?_
              refine wp_call (k := 39) (ρ2 := 0) (L2 := [vi (-2)]) rfl rfl rfl (Nat.le_of_ble_eq_true rfl) (Nat.le_of_ble_eq_true rfl) (Nat.le_of_ble_eq_true rfl) (rcv_S rfl) rfl ?_
              refine wp_sipush rfl ?_
              refine wp_iload rfl rfl ?_
              refine wp_i2l rfl ?_
              refine wp_lsub rfl ?_
              refine Wp.topL (y := (-9223372036854775806)) (by decide) ?_
              refine wp_lret rfl rfl ?_
              show Wp X _ 19 35 [vr 6, vi x1, vi x2, vi x3] [vl (-9223372036854775806)] _ _
              exact wp_lret rfl rfl H
/-- WarnLines.sum(III)J, from 84 -/
theorem S19_6_84 {X : Nat × (Int → Int)} {h : HP} {Q : bQ} (x1 : Int) (x2 : Int) (x3 : Int) (H : Wp X 0 195 0 [vr 37, vi x1, vu] [] h (fun v h' => Wp X 3 19 97 [vr 6, vi x1, vi x2, vi x3] (psh v [vi x2, vr 74]) h' Q)) : Wp X 3 19 84 [vr 6, vi x1, vi x2, vi x3] [] h Q := by
  refine wp_aload rfl rfl ?_
  refine wp_getR (r := 73) rfl (congrArg Prod.fst (kf_6 X.1)) rfl ?_
  refine wp_iload rfl rfl ?_
  refine wp_aload rfl rfl ?_
  refine wp_getR (r := 36) rfl (congrArg Prod.fst (kf_6 X.1)) rfl ?_
  refine wp_iload rfl rfl ?_
  exact wp_call (k := 195) (ρ2 := 0) (L2 := [vr 37, vi x1, vu]) rfl rfl rfl (Nat.le_of_ble_eq_true rfl) (Nat.le_of_ble_eq_true rfl) (Nat.le_of_ble_eq_true rfl) (rcv_V rfl (congrArg Prod.fst (kf_37 X.1))) rfl H
/-- WarnLines.sum(III)J, from 97 -/
theorem S19_6_97 {X : Nat × (Int → Int)} {h : HP} {Q : bQ} (zx1 : aV) (zx2 : aV) (x3 : Int) (s0 : Int) (s1 : Int) (H : ((s0 < 0 → ((R32 (60 * (h 36 0))) ∧ Wp X 1 45 0 [vl 0, vu, vl (60 * (h 36 0)), vu, vi x3, vu, vu] [] h (fun v h' => Wp X 3 19 113 [vr 6, zx1, zx2, vi x3] (psh v []) h' Q))) ∧ (0 ≤ s0 → ((s0 < (h 74 2) → ((s1 ≤ 0 → ((0 ≤ s0 ∧ s0 < 20) ∧ ((R32 (60 * (h 36 0))) ∧ Wp X 1 45 0 [vl (h 76 s0), vu, vl (60 * (h 36 0)), vu, vi x3, vu, vu] [] h (fun v h' => Wp X 3 19 113 [vr 6, zx1, zx2, vi x3] (psh v []) h' Q)))) ∧ (0 < s1 → ((0 ≤ s0 ∧ s0 < 20) ∧ ((R32 (60 * (h 36 0))) ∧ Wp X 1 45 0 [vl (h 75 s0), vu, vl (60 * (h 36 0)), vu, vi x3, vu, vu] [] h (fun v h' => Wp X 3 19 113 [vr 6, zx1, zx2, vi x3] (psh v []) h' Q)))))) ∧ ((h 74 2) ≤ s0 → ((R32 (60 * (h 36 0))) ∧ Wp X 1 45 0 [vl 0, vu, vl (60 * (h 36 0)), vu, vi x3, vu, vu] [] h (fun v h' => Wp X 3 19 113 [vr 6, zx1, zx2, vi x3] (psh v []) h' Q))))))) : Wp X 3 19 97 [vr 6, zx1, zx2, vi x3] [vi s0, vi s1, vr 74] h Q := by
  refine wp_call (k := 232) (ρ2 := 0) (L2 := [vr 74, vi s1, vi s0]) rfl rfl rfl (Nat.le_of_ble_eq_true rfl) (Nat.le_of_ble_eq_true rfl) (Nat.le_of_ble_eq_true rfl) (rcv_V rfl (congrArg Prod.fst (kf_74 X.1))) rfl ?_
  refine wp_iload rfl rfl ?_
  refine wp_iflt (tn := 12) rfl rfl (fun c1 => ?_) (fun c1 => ?_)
  · replace H := H.1 c1
    refine wp_iconst rfl ?_
    refine wp_iret rfl rfl ?_
    show Wp X _ 19 100 [vr 6, zx1, zx2, vi x3] [vi 0] _ _
    refine wp_i2l rfl ?_
    refine wp_aload rfl rfl ?_
    refine wp_getR (r := 35) rfl (congrArg Prod.fst (kf_6 X.1)) rfl ?_
    refine wp_call (k := 162) (ρ2 := 0) (L2 := [vr 36]) rfl rfl rfl (Nat.le_of_ble_eq_true rfl) (Nat.le_of_ble_eq_true rfl) (Nat.le_of_ble_eq_true rfl) (rcv_V rfl (congrArg Prod.fst (kf_36 X.1))) rfl ?_
    refine wp_iconst rfl ?_
    refine wp_aload rfl rfl ?_
    refine wp_getI (j := 0) rfl (congrArg Prod.fst (kf_36 X.1)) rfl ?_
    refine wp_imul rfl ?_
    have g2 := H.1
    replace H := H.2
    refine Wp.topI (y := (60 * (h 36 0))) (w32_I g2) ?_
    refine wp_iret rfl rfl ?_
    show Wp X _ 19 108 [vr 6, zx1, zx2, vi x3] [vi (60 * (h 36 0)), vl 0] _ _
    refine wp_i2l rfl ?_
    refine wp_iload rfl rfl ?_
    exact wp_call (k := 45) (ρ2 := 1) (L2 := [vl 0, vu, vl (60 * (h 36 0)), vu, vi x3, vu, vu]) rfl rfl rfl (Nat.le_of_ble_eq_true rfl) (Nat.le_of_ble_eq_true rfl) (Nat.le_of_ble_eq_true rfl) (rcv_S rfl) rfl H
  · replace H := H.2 c1
    refine wp_iload rfl rfl ?_
    refine wp_aload rfl rfl ?_
    refine wp_getI (j := 2) rfl (congrArg Prod.fst (kf_74 X.1)) rfl ?_
    refine wp_iclt (tn := 14) rfl rfl (fun c3 => ?_) (fun c3 => ?_)
    · replace H := H.1 c3
      refine wp_iload rfl rfl ?_
      refine wp_ifle (tn := 27) rfl rfl (fun c4 => ?_) (fun c4 => ?_)
      · replace H := H.1 c4
        refine wp_aload rfl rfl ?_
        refine wp_getR (r := 75) rfl (congrArg Prod.fst (kf_74 X.1)) rfl ?_
        refine wp_iload rfl rfl ?_
        have g5 := H.1
        replace H := H.2
        refine wp_iaload rfl (kf_76 X.1) g5 ?_
        refine wp_iret rfl rfl ?_
        show Wp X _ 19 100 [vr 6, zx1, zx2, vi x3] [vi (h 76 s0)] _ _
        refine wp_i2l rfl ?_
        refine wp_aload rfl rfl ?_
        refine wp_getR (r := 35) rfl (congrArg Prod.fst (kf_6 X.1)) rfl ?_
        refine wp_call (k := 162) (ρ2 := 0) (L2 := [vr 36]) rfl rfl rfl (Nat.le_of_ble_eq_true rfl) (Nat.le_of_ble_eq_true rfl) (Nat.le_of_ble_eq_true rfl) (rcv_V rfl (congrArg Prod.fst (kf_36 X.1))) rfl ?_
        refine wp_iconst rfl ?_
        refine wp_aload rfl rfl ?_
        refine wp_getI (j := 0) rfl (congrArg Prod.fst (kf_36 X.1)) rfl ?_
        refine wp_imul rfl ?_
        have g6 := H.1
        replace H := H.2
        refine Wp.topI (y := (60 * (h 36 0))) (w32_I g6) ?_
        refine wp_iret rfl rfl ?_
        show Wp X _ 19 108 [vr 6, zx1, zx2, vi x3] [vi (60 * (h 36 0)), vl (h 76 s0)] _ _
        refine wp_i2l rfl ?_
        refine wp_iload rfl rfl ?_
        exact wp_call (k := 45) (ρ2 := 1) (L2 := [vl (h 76 s0), vu, vl (60 * (h 36 0)), vu, vi x3, vu, vu]) rfl rfl rfl (Nat.le_of_ble_eq_true rfl) (Nat.le_of_ble_eq_true rfl) (Nat.le_of_ble_eq_true rfl) (rcv_S rfl) rfl H
      · replace H := H.2 c4
        refine wp_aload rfl rfl ?_
        refine wp_getR (r := 74) rfl (congrArg Prod.fst (kf_74 X.1)) rfl ?_
        refine wp_iload rfl rfl ?_
        have g7 := H.1
        replace H := H.2
        refine wp_iaload rfl (kf_75 X.1) g7 ?_
        refine wp_goto (tn := 33) rfl rfl ?_
        refine wp_iret rfl rfl ?_
        show Wp X _ 19 100 [vr 6, zx1, zx2, vi x3] [vi (h 75 s0)] _ _
        refine wp_i2l rfl ?_
        refine wp_aload rfl rfl ?_
        refine wp_getR (r := 35) rfl (congrArg Prod.fst (kf_6 X.1)) rfl ?_
        refine wp_call (k := 162) (ρ2 := 0) (L2 := [vr 36]) rfl rfl rfl (Nat.le_of_ble_eq_true rfl) (Nat.le_of_ble_eq_true rfl) (Nat.le_of_ble_eq_true rfl) (rcv_V rfl (congrArg Prod.fst (kf_36 X.1))) rfl ?_
        refine wp_iconst rfl ?_
        refine wp_aload rfl rfl ?_
        refine wp_getI (j := 0) rfl (congrArg Prod.fst (kf_36 X.1)) rfl ?_
        refine wp_imul rfl ?_
        have g8 := H.1
        replace H := H.2
        refine Wp.topI (y := (60 * (h 36 0))) (w32_I g8) ?_
        refine wp_iret rfl rfl ?_
        show Wp X _ 19 108 [vr 6, zx1, zx2, vi x3] [vi (60 * (h 36 0)), vl (h 75 s0)] _ _
        refine wp_i2l rfl ?_
        refine wp_iload rfl rfl ?_
        exact wp_call (k := 45) (ρ2 := 1) (L2 := [vl (h 75 s0), vu, vl (60 * (h 36 0)), vu, vi x3, vu, vu]) rfl rfl rfl (Nat.le_of_ble_eq_true rfl) (Nat.le_of_ble_eq_true rfl) (Nat.le_of_ble_eq_true rfl) (rcv_S rfl) rfl H
    · replace H := H.2 c3
      refine wp_iconst rfl ?_
      refine wp_iret rfl rfl ?_
      show Wp X _ 19 100 [vr 6, zx1, zx2, vi x3] [vi 0] _ _
      refine wp_i2l rfl ?_
      refine wp_aload rfl rfl ?_
      refine wp_getR (r := 35) rfl (congrArg Prod.fst (kf_6 X.1)) rfl ?_
      refine wp_call (k := 162) (ρ2 := 0) (L2 := [vr 36]) rfl rfl rfl (Nat.le_of_ble_eq_true rfl) (Nat.le_of_ble_eq_true rfl) (Nat.le_of_ble_eq_true rfl) (rcv_V rfl (congrArg Prod.fst (kf_36 X.1))) rfl ?_
      refine wp_iconst rfl ?_
      refine wp_aload rfl rfl ?_
      refine wp_getI (j := 0) rfl (congrArg Prod.fst (kf_36 X.1)) rfl ?_
      refine wp_imul rfl ?_
      have g9 := H.1
      replace H := H.2
      refine Wp.topI (y := (60 * (h 36 0))) (w32_I g9) ?_
      refine wp_iret rfl rfl ?_
      show Wp X _ 19 108 [vr 6, zx1, zx2, vi x3] [vi (60 * (h 36 0)), vl 0] _ _
      refine wp_i2l rfl ?_
      refine wp_iload rfl rfl ?_
      exact wp_call (k := 45) (ρ2 := 1) (L2 := [vl 0, vu, vl (60 * (h 36 0)), vu, vi x3, vu, vu]) rfl rfl rfl (Nat.le_of_ble_eq_true rfl) (Nat.le_of_ble_eq_true rfl) (Nat.le_of_ble_eq_true rfl) (rcv_S rfl) rfl H
/-- WarnLines.sum(III)J, from 113 -/
theorem S19_6_113 {X : Nat × (Int → Int)} {h : HP} {Q : bQ} (zx0 : aV) (zx1 : aV) (zx2 : aV) (zx3 : aV) (s0 : Int) (H : Q (some (vl s0)) h) : Wp X 3 19 113 [zx0, zx1, zx2, zx3] [vl s0] h Q := by
  exact wp_lret rfl rfl H
/-- WarnLines.over(I)I, from 0 -/
theorem S20_6_0 {X : Nat × (Int → Int)} {h : HP} {Q : bQ} (x1 : Int) (H : ((x1 < 0 → Q (some (vi (-2))) h) ∧ (0 ≤ x1 → ((x1 ≤ 3 → (((h 36 0) ≤ 0 → Q (some (vi (-3))) h) ∧ (0 < (h 36 0) → Wp X 2 231 0 [vr 74, vr 37, vr 36, vi (h 7 4), vu, vu, vu, vu, vu] [] h (fun v h' => Wp X 3 20 46 [vr 6, vi x1, vu, vu, vu, vu] (psh v []) h' Q)))) ∧ (3 < x1 → Q (some (vi (-2))) h))))) : Wp X 3 20 0 [vr 6, vi x1, vu, vu, vu, vu] [] h Q := by
  refine wp_iload rfl rfl ?_
  refine wp_iconst rfl ?_
  refine wp_iconst rfl ?_
  refine wp_call (k := 40) (ρ2 := 0) (L2 := [vi x1, vi 0, vi 3]) rfl rfl rfl (Nat.le_of_ble_eq_true rfl) (Nat.le_of_ble_eq_true rfl) (Nat.le_of_ble_eq_true rfl) (rcv_S rfl) rfl ?_
  refine wp_iload rfl rfl ?_
  refine wp_iload rfl rfl ?_
  refine wp_iclt (tn := 10) rfl rfl (fun c1 => ?_) (fun c1 => ?_)
  · replace H := H.1 c1
    refine wp_iconst rfl ?_
    refine wp_goto (tn := 15) rfl rfl ?_
    refine wp_zret rfl rfl (by decide) ?_
    show Wp X _ 20 6 [vr 6, vi x1, vu, vu, vu, vu] [vi 1] _ _
    refine wp_ifeqF (tn := 12) rfl rfl (by decide) ?_
    refine wp_iconst rfl ?_
    exact wp_iret rfl rfl H
  · replace H := H.2 c1
    refine wp_iload rfl rfl ?_
    refine wp_iload rfl rfl ?_
    refine wp_icle (tn := 14) rfl rfl (fun c2 => ?_) (fun c2 => ?_)
    · replace H := H.1 c2
      refine wp_iconst rfl ?_
      refine wp_zret rfl rfl (by decide) ?_
      show Wp X _ 20 6 [vr 6, vi x1, vu, vu, vu, vu] [vi 0] _ _
      refine wp_ifeqT (tn := 12) rfl rfl (by decide) ?_
      refine wp_aload rfl rfl ?_
      refine wp_getR (r := 35) rfl (congrArg Prod.fst (kf_6 X.1)) rfl ?_
      refine wp_call (k := 159) (ρ2 := 0) (L2 := [vr 36]) rfl rfl rfl (Nat.le_of_ble_eq_true rfl) (Nat.le_of_ble_eq_true rfl) (Nat.le_of_ble_eq_true rfl) (rcv_V rfl (congrArg Prod.fst (kf_36 X.1))) rfl ?_
      refine wp_aload rfl rfl ?_
      refine wp_getI (j := 0) rfl (congrArg Prod.fst (kf_36 X.1)) rfl ?_
      refine wp_ifle (tn := 11) rfl rfl (fun c3 => ?_) (fun c3 => ?_)
      · replace H := H.1 c3
        refine wp_iconst rfl ?_
        refine wp_zret rfl rfl (by decide) ?_
        show Wp X _ 20 19 [vr 6, vi x1, vu, vu, vu, vu] [vi 0] _ _
        refine wp_ifneF (tn := 25) rfl rfl (by decide) ?_
        refine wp_iconst rfl ?_
        exact wp_iret rfl rfl H
      · replace H := H.2 c3
        refine wp_iconst rfl ?_
        refine wp_goto (tn := 12) rfl rfl ?_
        refine wp_zret rfl rfl (by decide) ?_
        show Wp X _ 20 19 [vr 6, vi x1, vu, vu, vu, vu] [vi 1] _ _
        refine wp_ifneT (tn := 25) rfl rfl (by decide) ?_
        refine wp_aload rfl rfl ?_
        refine wp_getR (r := 73) rfl (congrArg Prod.fst (kf_6 X.1)) rfl ?_
        refine wp_aload rfl rfl ?_
        refine wp_getR (r := 36) rfl (congrArg Prod.fst (kf_6 X.1)) rfl ?_
        refine wp_aload rfl rfl ?_
        refine wp_getR (r := 35) rfl (congrArg Prod.fst (kf_6 X.1)) rfl ?_
        refine wp_aload rfl rfl ?_
        refine wp_getR (r := 6) rfl (congrArg Prod.fst (kf_6 X.1)) rfl ?_
        refine wp_iconst rfl ?_
        refine wp_iaload rfl (kf_7 X.1) (by decide) ?_
        exact wp_call (k := 231) (ρ2 := 2) (L2 := [vr 74, vr 37, vr 36, vi (h 7 4), vu, vu, vu, vu, vu]) rfl rfl rfl (Nat.le_of_ble_eq_true rfl) (Nat.le_of_ble_eq_true rfl) (Nat.le_of_ble_eq_true rfl) (rcv_V rfl (congrArg Prod.fst (kf_74 X.1))) rfl H
    · replace H := H.2 c2
      refine wp_iconst rfl ?_
      refine wp_goto (tn := 15) rfl rfl ?_
      refine wp_zret rfl rfl (by decide) ?_
      show Wp X _ 20 6 [vr 6, vi x1, vu, vu, vu, vu] [vi 1] _ _
      refine wp_ifeqF (tn := 12) rfl rfl (by decide) ?_
      refine wp_iconst rfl ?_
      exact wp_iret rfl rfl H
/-- WarnLines.over(I)I, from 46 -/
theorem S20_6_46 {X : Nat × (Int → Int)} {h : HP} {Q : bQ} (x1 : Int) (H : ((R32 (60 * (h 36 0))) ∧ ((R32 ((h 7 5) * (60 * (h 36 0)))) ∧ Wp X 2 233 0 [vr 74, vi ((h 7 5) * (60 * (h 36 0))), vu] [] h (fun v h' => Wp X 3 20 69 [vr 6, vi x1, vi ((h 7 5) * (60 * (h 36 0))), vu, vu, vu] (psh v []) h' Q)))) : Wp X 3 20 46 [vr 6, vi x1, vu, vu, vu, vu] [] h Q := by
  refine wp_aload rfl rfl ?_
  refine wp_getR (r := 6) rfl (congrArg Prod.fst (kf_6 X.1)) rfl ?_
  refine wp_iconst rfl ?_
  refine wp_iaload rfl (kf_7 X.1) (by decide) ?_
  refine wp_aload rfl rfl ?_
  refine wp_getR (r := 35) rfl (congrArg Prod.fst (kf_6 X.1)) rfl ?_
  refine wp_call (k := 162) (ρ2 := 0) (L2 := [vr 36]) rfl rfl rfl (Nat.le_of_ble_eq_true rfl) (Nat.le_of_ble_eq_true rfl) (Nat.le_of_ble_eq_true rfl) (rcv_V rfl (congrArg Prod.fst (kf_36 X.1))) rfl ?_
  refine wp_iconst rfl ?_
  refine wp_aload rfl rfl ?_
  refine wp_getI (j := 0) rfl (congrArg Prod.fst (kf_36 X.1)) rfl ?_
  refine wp_imul rfl ?_
  have g1 := H.1
  replace H := H.2
  refine Wp.topI (y := (60 * (h 36 0))) (w32_I g1) ?_
  refine wp_iret rfl rfl ?_
  show Wp X _ 20 59 [vr 6, vi x1, vu, vu, vu, vu] [vi (60 * (h 36 0)), vi (h 7 5)] _ _
  refine wp_imul rfl ?_
  have g2 := H.1
  replace H := H.2
  refine Wp.topI (y := ((h 7 5) * (60 * (h 36 0)))) (w32_I g2) ?_
  refine wp_istore (L2 := [vr 6, vi x1, vi ((h 7 5) * (60 * (h 36 0))), vu, vu, vu]) rfl (Nat.le_of_ble_eq_true rfl) rfl ?_
  refine wp_aload rfl rfl ?_
  refine wp_getR (r := 73) rfl (congrArg Prod.fst (kf_6 X.1)) rfl ?_
  refine wp_iload rfl rfl ?_
  exact wp_call (k := 233) (ρ2 := 2) (L2 := [vr 74, vi ((h 7 5) * (60 * (h 36 0))), vu]) rfl rfl rfl (Nat.le_of_ble_eq_true rfl) (Nat.le_of_ble_eq_true rfl) (Nat.le_of_ble_eq_true rfl) (rcv_V rfl (congrArg Prod.fst (kf_74 X.1))) rfl H
/-- WarnLines.over(I)I, from 69 -/
theorem S20_6_69 {X : Nat × (Int → Int)} {h : HP} {Q : bQ} (x1 : Int) (x2 : Int) (s0 : Int) (H : ((s0 ≠ (-1) → ((s0 < 0 → ((0 ≤ x2 → Wp X 1 235 0 [vr 74, vi s0, vi 0, vu] [] h (fun v h' => Wp X 3 20 102 [vr 6, vi x1, vi x2, vi s0, vi 0, vu] (psh v [vr 37]) h' Q)) ∧ (x2 < 0 → Wp X 1 235 0 [vr 74, vi s0, vi 1, vu] [] h (fun v h' => Wp X 3 20 102 [vr 6, vi x1, vi x2, vi s0, vi 1, vu] (psh v [vr 37]) h' Q)))) ∧ (0 ≤ s0 → ((s0 < (h 74 2) → ((0 ≤ s0 ∧ s0 < 20) ∧ (((h 75 s0) ≤ x2 → (((h 76 s0) ≤ x2 → Wp X 1 235 0 [vr 74, vi s0, vi 0, vu] [] h (fun v h' => Wp X 3 20 102 [vr 6, vi x1, vi x2, vi s0, vi 0, vu] (psh v [vr 37]) h' Q)) ∧ (x2 < (h 76 s0) → Wp X 1 235 0 [vr 74, vi s0, vi (-1), vu] [] h (fun v h' => Wp X 3 20 102 [vr 6, vi x1, vi x2, vi s0, vi (-1), vu] (psh v [vr 37]) h' Q)))) ∧ (x2 < (h 75 s0) → Wp X 1 235 0 [vr 74, vi s0, vi 1, vu] [] h (fun v h' => Wp X 3 20 102 [vr 6, vi x1, vi x2, vi s0, vi 1, vu] (psh v [vr 37]) h' Q))))) ∧ ((h 74 2) ≤ s0 → ((0 ≤ x2 → Wp X 1 235 0 [vr 74, vi s0, vi 0, vu] [] h (fun v h' => Wp X 3 20 102 [vr 6, vi x1, vi x2, vi s0, vi 0, vu] (psh v [vr 37]) h' Q)) ∧ (x2 < 0 → Wp X 1 235 0 [vr 74, vi s0, vi 1, vu] [] h (fun v h' => Wp X 3 20 102 [vr 6, vi x1, vi x2, vi s0, vi 1, vu] (psh v [vr 37]) h' Q)))))))) ∧ (s0 = (-1) → Q (some (vi (-1))) h))) : Wp X 3 20 69 [vr 6, vi x1, vi x2, vu, vu, vu] [vi s0] h Q := by
  refine wp_istore (L2 := [vr 6, vi x1, vi x2, vi s0, vu, vu]) rfl (Nat.le_of_ble_eq_true rfl) rfl ?_
  refine wp_iload rfl rfl ?_
  refine wp_iconst rfl ?_
  refine wp_icne (tn := 77) rfl rfl (fun c1 => ?_) (fun c1 => ?_)
  · replace H := H.1 c1
    refine wp_aload rfl rfl ?_
    refine wp_getR (r := 73) rfl (congrArg Prod.fst (kf_6 X.1)) rfl ?_
    refine wp_iload rfl rfl ?_
    refine wp_iload rfl rfl ?_
    refine wp_call (k := 234) (ρ2 := 1) (L2 := [vr 74, vi s0, vi x2]) rfl rfl rfl (Nat.le_of_ble_eq_true rfl) (Nat.le_of_ble_eq_true rfl) (Nat.le_of_ble_eq_true rfl) (rcv_V rfl (congrArg Prod.fst (kf_74 X.1))) rfl ?_
    refine wp_aload rfl rfl ?_
    refine wp_iconst rfl ?_
    refine wp_iload rfl rfl ?_
    refine wp_call (k := 232) (ρ2 := 0) (L2 := [vr 74, vi 1, vi s0]) rfl rfl rfl (Nat.le_of_ble_eq_true rfl) (Nat.le_of_ble_eq_true rfl) (Nat.le_of_ble_eq_true rfl) (rcv_V rfl (congrArg Prod.fst (kf_74 X.1))) rfl ?_
    refine wp_iload rfl rfl ?_
    refine wp_iflt (tn := 12) rfl rfl (fun c2 => ?_) (fun c2 => ?_)
    · replace H := H.1 c2
      refine wp_iconst rfl ?_
      refine wp_iret rfl rfl ?_
      show Wp X _ 234 6 [vr 74, vi s0, vi x2] [vi 0] _ _
      refine wp_iload rfl rfl ?_
      refine wp_icle (tn := 12) rfl rfl (fun c3 => ?_) (fun c3 => ?_)
      · replace H := H.1 c3
        refine wp_aload rfl rfl ?_
        refine wp_iconst rfl ?_
        refine wp_iload rfl rfl ?_
        refine wp_call (k := 232) (ρ2 := 0) (L2 := [vr 74, vi (-1), vi s0]) rfl rfl rfl (Nat.le_of_ble_eq_true rfl) (Nat.le_of_ble_eq_true rfl) (Nat.le_of_ble_eq_true rfl) (rcv_V rfl (congrArg Prod.fst (kf_74 X.1))) rfl ?_
        refine wp_iload rfl rfl ?_
        refine wp_ifltT (tn := 12) rfl rfl c2 ?_
        refine wp_iconst rfl ?_
        refine wp_iret rfl rfl ?_
        show Wp X _ 234 18 [vr 74, vi s0, vi x2] [vi 0] _ _
        refine wp_iload rfl rfl ?_
        refine wp_icleT (tn := 26) rfl rfl c3 ?_
        refine wp_iconst rfl ?_
        refine wp_iret rfl rfl ?_
        show Wp X _ 20 86 [vr 6, vi x1, vi x2, vi s0, vu, vu] [vi 0] _ _
        refine wp_istore (L2 := [vr 6, vi x1, vi x2, vi s0, vi 0, vu]) rfl (Nat.le_of_ble_eq_true rfl) rfl ?_
        refine wp_aload rfl rfl ?_
        refine wp_getR (r := 36) rfl (congrArg Prod.fst (kf_6 X.1)) rfl ?_
        refine wp_aload rfl rfl ?_
        refine wp_getR (r := 73) rfl (congrArg Prod.fst (kf_6 X.1)) rfl ?_
        refine wp_iload rfl rfl ?_
        refine wp_iload rfl rfl ?_
        exact wp_call (k := 235) (ρ2 := 1) (L2 := [vr 74, vi s0, vi 0, vu]) rfl rfl rfl (Nat.le_of_ble_eq_true rfl) (Nat.le_of_ble_eq_true rfl) (Nat.le_of_ble_eq_true rfl) (rcv_V rfl (congrArg Prod.fst (kf_74 X.1))) rfl H
      · replace H := H.2 c3
        refine wp_iconst rfl ?_
        refine wp_iret rfl rfl ?_
        show Wp X _ 20 86 [vr 6, vi x1, vi x2, vi s0, vu, vu] [vi 1] _ _
        refine wp_istore (L2 := [vr 6, vi x1, vi x2, vi s0, vi 1, vu]) rfl (Nat.le_of_ble_eq_true rfl) rfl ?_
        refine wp_aload rfl rfl ?_
        refine wp_getR (r := 36) rfl (congrArg Prod.fst (kf_6 X.1)) rfl ?_
        refine wp_aload rfl rfl ?_
        refine wp_getR (r := 73) rfl (congrArg Prod.fst (kf_6 X.1)) rfl ?_
        refine wp_iload rfl rfl ?_
        refine wp_iload rfl rfl ?_
        exact wp_call (k := 235) (ρ2 := 1) (L2 := [vr 74, vi s0, vi 1, vu]) rfl rfl rfl (Nat.le_of_ble_eq_true rfl) (Nat.le_of_ble_eq_true rfl) (Nat.le_of_ble_eq_true rfl) (rcv_V rfl (congrArg Prod.fst (kf_74 X.1))) rfl H
    · replace H := H.2 c2
      refine wp_iload rfl rfl ?_
      refine wp_aload rfl rfl ?_
      refine wp_getI (j := 2) rfl (congrArg Prod.fst (kf_74 X.1)) rfl ?_
      refine wp_iclt (tn := 14) rfl rfl (fun c4 => ?_) (fun c4 => ?_)
      · replace H := H.1 c4
        refine wp_iload rfl rfl ?_
        refine wp_ifleF (tn := 27) rfl rfl (by decide) ?_
        refine wp_aload rfl rfl ?_
        refine wp_getR (r := 74) rfl (congrArg Prod.fst (kf_74 X.1)) rfl ?_
        refine wp_iload rfl rfl ?_
        have g5 := H.1
        replace H := H.2
        refine wp_iaload rfl (kf_75 X.1) g5 ?_
        refine wp_goto (tn := 33) rfl rfl ?_
        refine wp_iret rfl rfl ?_
        show Wp X _ 234 6 [vr 74, vi s0, vi x2] [vi (h 75 s0)] _ _
        refine wp_iload rfl rfl ?_
        refine wp_icle (tn := 12) rfl rfl (fun c6 => ?_) (fun c6 => ?_)
        · replace H := H.1 c6
          refine wp_aload rfl rfl ?_
          refine wp_iconst rfl ?_
          refine wp_iload rfl rfl ?_
          refine wp_call (k := 232) (ρ2 := 0) (L2 := [vr 74, vi (-1), vi s0]) rfl rfl rfl (Nat.le_of_ble_eq_true rfl) (Nat.le_of_ble_eq_true rfl) (Nat.le_of_ble_eq_true rfl) (rcv_V rfl (congrArg Prod.fst (kf_74 X.1))) rfl ?_
          refine wp_iload rfl rfl ?_
          refine wp_ifltF (tn := 12) rfl rfl g5.1 ?_
          refine wp_iload rfl rfl ?_
          refine wp_aload rfl rfl ?_
          refine wp_getI (j := 2) rfl (congrArg Prod.fst (kf_74 X.1)) rfl ?_
          refine wp_icltT (tn := 14) rfl rfl c4 ?_
          refine wp_iload rfl rfl ?_
          refine wp_ifleT (tn := 27) rfl rfl (by decide) ?_
          refine wp_aload rfl rfl ?_
          refine wp_getR (r := 75) rfl (congrArg Prod.fst (kf_74 X.1)) rfl ?_
          refine wp_iload rfl rfl ?_
          refine wp_iaload rfl (kf_76 X.1) ⟨g5.1, g5.2⟩ ?_
          refine wp_iret rfl rfl ?_
          show Wp X _ 234 18 [vr 74, vi s0, vi x2] [vi (h 76 s0)] _ _
          refine wp_iload rfl rfl ?_
          refine wp_icle (tn := 26) rfl rfl (fun c7 => ?_) (fun c7 => ?_)
          · replace H := H.1 c7
            refine wp_iconst rfl ?_
            refine wp_iret rfl rfl ?_
            show Wp X _ 20 86 [vr 6, vi x1, vi x2, vi s0, vu, vu] [vi 0] _ _
            refine wp_istore (L2 := [vr 6, vi x1, vi x2, vi s0, vi 0, vu]) rfl (Nat.le_of_ble_eq_true rfl) rfl ?_
            refine wp_aload rfl rfl ?_
            refine wp_getR (r := 36) rfl (congrArg Prod.fst (kf_6 X.1)) rfl ?_
            refine wp_aload rfl rfl ?_
            refine wp_getR (r := 73) rfl (congrArg Prod.fst (kf_6 X.1)) rfl ?_
            refine wp_iload rfl rfl ?_
            refine wp_iload rfl rfl ?_
            exact wp_call (k := 235) (ρ2 := 1) (L2 := [vr 74, vi s0, vi 0, vu]) rfl rfl rfl (Nat.le_of_ble_eq_true rfl) (Nat.le_of_ble_eq_true rfl) (Nat.le_of_ble_eq_true rfl) (rcv_V rfl (congrArg Prod.fst (kf_74 X.1))) rfl H
          · replace H := H.2 c7
            refine wp_iconst rfl ?_
            refine wp_goto (tn := 27) rfl rfl ?_
            refine wp_iret rfl rfl ?_
            show Wp X _ 20 86 [vr 6, vi x1, vi x2, vi s0, vu, vu] [vi (-1)] _ _
            refine wp_istore (L2 := [vr 6, vi x1, vi x2, vi s0, vi (-1), vu]) rfl (Nat.le_of_ble_eq_true rfl) rfl ?_
            refine wp_aload rfl rfl ?_
            refine wp_getR (r := 36) rfl (congrArg Prod.fst (kf_6 X.1)) rfl ?_
            refine wp_aload rfl rfl ?_
            refine wp_getR (r := 73) rfl (congrArg Prod.fst (kf_6 X.1)) rfl ?_
            refine wp_iload rfl rfl ?_
            refine wp_iload rfl rfl ?_
            exact wp_call (k := 235) (ρ2 := 1) (L2 := [vr 74, vi s0, vi (-1), vu]) rfl rfl rfl (Nat.le_of_ble_eq_true rfl) (Nat.le_of_ble_eq_true rfl) (Nat.le_of_ble_eq_true rfl) (rcv_V rfl (congrArg Prod.fst (kf_74 X.1))) rfl H
        · replace H := H.2 c6
          refine wp_iconst rfl ?_
          refine wp_iret rfl rfl ?_
          show Wp X _ 20 86 [vr 6, vi x1, vi x2, vi s0, vu, vu] [vi 1] _ _
          refine wp_istore (L2 := [vr 6, vi x1, vi x2, vi s0, vi 1, vu]) rfl (Nat.le_of_ble_eq_true rfl) rfl ?_
          refine wp_aload rfl rfl ?_
          refine wp_getR (r := 36) rfl (congrArg Prod.fst (kf_6 X.1)) rfl ?_
          refine wp_aload rfl rfl ?_
          refine wp_getR (r := 73) rfl (congrArg Prod.fst (kf_6 X.1)) rfl ?_
          refine wp_iload rfl rfl ?_
          refine wp_iload rfl rfl ?_
          exact wp_call (k := 235) (ρ2 := 1) (L2 := [vr 74, vi s0, vi 1, vu]) rfl rfl rfl (Nat.le_of_ble_eq_true rfl) (Nat.le_of_ble_eq_true rfl) (Nat.le_of_ble_eq_true rfl) (rcv_V rfl (congrArg Prod.fst (kf_74 X.1))) rfl H
      · replace H := H.2 c4
        refine wp_iconst rfl ?_
        refine wp_iret rfl rfl ?_
        show Wp X _ 234 6 [vr 74, vi s0, vi x2] [vi 0] _ _
        refine wp_iload rfl rfl ?_
        refine wp_icle (tn := 12) rfl rfl (fun c8 => ?_) (fun c8 => ?_)
        · replace H := H.1 c8
          refine wp_aload rfl rfl ?_
          refine wp_iconst rfl ?_
          refine wp_iload rfl rfl ?_
          refine wp_call (k := 232) (ρ2 := 0) (L2 := [vr 74, vi (-1), vi s0]) rfl rfl rfl (Nat.le_of_ble_eq_true rfl) (Nat.le_of_ble_eq_true rfl) (Nat.le_of_ble_eq_true rfl) (rcv_V rfl (congrArg Prod.fst (kf_74 X.1))) rfl ?_
          refine wp_iload rfl rfl ?_
          refine wp_ifltF (tn := 12) rfl rfl c2 ?_
          refine wp_iload rfl rfl ?_
          refine wp_aload rfl rfl ?_
          refine wp_getI (j := 2) rfl (congrArg Prod.fst (kf_74 X.1)) rfl ?_
          refine wp_icltF (tn := 14) rfl rfl c4 ?_
          refine wp_iconst rfl ?_
          refine wp_iret rfl rfl ?_
          show Wp X _ 234 18 [vr 74, vi s0, vi x2] [vi 0] _ _
          refine wp_iload rfl rfl ?_
          refine wp_icleT (tn := 26) rfl rfl c8 ?_
          refine wp_iconst rfl ?_
          refine wp_iret rfl rfl ?_
          show Wp X _ 20 86 [vr 6, vi x1, vi x2, vi s0, vu, vu] [vi 0] _ _
          refine wp_istore (L2 := [vr 6, vi x1, vi x2, vi s0, vi 0, vu]) rfl (Nat.le_of_ble_eq_true rfl) rfl ?_
          refine wp_aload rfl rfl ?_
          refine wp_getR (r := 36) rfl (congrArg Prod.fst (kf_6 X.1)) rfl ?_
          refine wp_aload rfl rfl ?_
          refine wp_getR (r := 73) rfl (congrArg Prod.fst (kf_6 X.1)) rfl ?_
          refine wp_iload rfl rfl ?_
          refine wp_iload rfl rfl ?_
          exact wp_call (k := 235) (ρ2 := 1) (L2 := [vr 74, vi s0, vi 0, vu]) rfl rfl rfl (Nat.le_of_ble_eq_true rfl) (Nat.le_of_ble_eq_true rfl) (Nat.le_of_ble_eq_true rfl) (rcv_V rfl (congrArg Prod.fst (kf_74 X.1))) rfl H
        · replace H := H.2 c8
          refine wp_iconst rfl ?_
          refine wp_iret rfl rfl ?_
          show Wp X _ 20 86 [vr 6, vi x1, vi x2, vi s0, vu, vu] [vi 1] _ _
          refine wp_istore (L2 := [vr 6, vi x1, vi x2, vi s0, vi 1, vu]) rfl (Nat.le_of_ble_eq_true rfl) rfl ?_
          refine wp_aload rfl rfl ?_
          refine wp_getR (r := 36) rfl (congrArg Prod.fst (kf_6 X.1)) rfl ?_
          refine wp_aload rfl rfl ?_
          refine wp_getR (r := 73) rfl (congrArg Prod.fst (kf_6 X.1)) rfl ?_
          refine wp_iload rfl rfl ?_
          refine wp_iload rfl rfl ?_
          exact wp_call (k := 235) (ρ2 := 1) (L2 := [vr 74, vi s0, vi 1, vu]) rfl rfl rfl (Nat.le_of_ble_eq_true rfl) (Nat.le_of_ble_eq_true rfl) (Nat.le_of_ble_eq_true rfl) (rcv_V rfl (congrArg Prod.fst (kf_74 X.1))) rfl H
  · replace H := H.2 c1
    refine wp_iconst rfl ?_
    exact wp_iret rfl rfl H
/-- WarnLines.over(I)I, from 102 -/
theorem S20_6_102 {X : Nat × (Int → Int)} {h : HP} {Q : bQ} (x1 : Int) (zx2 : aV) (x3 : Int) (x4 : Int) (s0 : Int) (H : ((s0 < 0 → ((x1 = 0 → ((x3 < 0 → Q (some (vi (-1))) h) ∧ (0 ≤ x3 → (((h 37 6) ≤ x3 → Q (some (vi (-1))) h) ∧ (x3 < (h 37 6) → ((0 ≤ x3 ∧ x3 < 20) ∧ Q (some (vi (h 38 x3))) h)))))) ∧ (x1 ≠ 0 → ((x1 = 1 → ((0 ≤ x4 → Q (some (vi x4)) h) ∧ (x4 < 0 → Q (some (vi 2)) h))) ∧ (x1 ≠ 1 → ((x1 = 2 → Q (some (vi (-1))) h) ∧ (x1 ≠ 2 → Wp X 0 139 0 [vr 77, vi (-1), vu, vu, vu] [] h (fun v h' => Wp X 3 20 163 [vr 6, vi x1, zx2, vi x3, vi x4, vi (-1)] (psh v []) h' Q)))))))) ∧ (0 ≤ s0 → (((h 37 6) ≤ s0 → ((x1 = 0 → ((x3 < 0 → Q (some (vi (-1))) h) ∧ (0 ≤ x3 → (((h 37 6) ≤ x3 → Q (some (vi (-1))) h) ∧ (x3 < (h 37 6) → ((0 ≤ x3 ∧ x3 < 20) ∧ Q (some (vi (h 38 x3))) h)))))) ∧ (x1 ≠ 0 → ((x1 = 1 → ((0 ≤ x4 → Q (some (vi x4)) h) ∧ (x4 < 0 → Q (some (vi 2)) h))) ∧ (x1 ≠ 1 → ((x1 = 2 → Q (some (vi (-1))) h) ∧ (x1 ≠ 2 → Wp X 0 139 0 [vr 77, vi (-1), vu, vu, vu] [] h (fun v h' => Wp X 3 20 163 [vr 6, vi x1, zx2, vi x3, vi x4, vi (-1)] (psh v []) h' Q)))))))) ∧ (s0 < (h 37 6) → ((0 ≤ s0 ∧ s0 < 20) ∧ ((x1 = 0 → ((x3 < 0 → Q (some (vi (-1))) h) ∧ (0 ≤ x3 → (((h 37 6) ≤ x3 → Q (some (vi (-1))) h) ∧ (x3 < (h 37 6) → ((0 ≤ x3 ∧ x3 < 20) ∧ Q (some (vi (h 38 x3))) h)))))) ∧ (x1 ≠ 0 → ((x1 = 1 → ((0 ≤ x4 → Q (some (vi x4)) h) ∧ (x4 < 0 → Q (some (vi 2)) h))) ∧ (x1 ≠ 1 → ((x1 = 2 → Q (some (vi (h 38 s0))) h) ∧ (x1 ≠ 2 → Wp X 0 139 0 [vr 77, vi (h 38 s0), vu, vu, vu] [] h (fun v h' => Wp X 3 20 163 [vr 6, vi x1, zx2, vi x3, vi x4, vi (h 38 s0)] (psh v []) h' Q))))))))))))) : Wp X 3 20 102 [vr 6, vi x1, zx2, vi x3, vi x4, vu] [vi s0, vr 37] h Q := by
  refine wp_call (k := 190) (ρ2 := 1) (L2 := [vr 37, vi s0]) rfl rfl rfl (Nat.le_of_ble_eq_true rfl) (Nat.le_of_ble_eq_true rfl) (Nat.le_of_ble_eq_true rfl) (rcv_V rfl (congrArg Prod.fst (kf_37 X.1))) rfl ?_
  refine wp_aload rfl rfl ?_
  refine wp_iload rfl rfl ?_
  refine wp_call (k := 189) (ρ2 := 0) (L2 := [vr 37, vi s0]) rfl rfl rfl (Nat.le_of_ble_eq_true rfl) (Nat.le_of_ble_eq_true rfl) (Nat.le_of_ble_eq_true rfl) (rcv_V rfl (congrArg Prod.fst (kf_37 X.1))) rfl ?_
  refine wp_iload rfl rfl ?_
  refine wp_iflt (tn := 16) rfl rfl (fun c1 => ?_) (fun c1 => ?_)
  · replace H := H.1 c1
    refine wp_iconst rfl ?_
    refine wp_zret rfl rfl (by decide) ?_
    show Wp X _ 190 5 [vr 37, vi s0] [vi 0] _ _
    refine wp_ifeqT (tn := 17) rfl rfl (by decide) ?_
    refine wp_iconst rfl ?_
    refine wp_iret rfl rfl ?_
    show Wp X _ 20 105 [vr 6, vi x1, zx2, vi x3, vi x4, vu] [vi (-1)] _ _
    refine wp_istore (L2 := [vr 6, vi x1, zx2, vi x3, vi x4, vi (-1)]) rfl (Nat.le_of_ble_eq_true rfl) rfl ?_
    refine wp_iload rfl rfl ?_
    by_cases c2 : x1 = 0
    · replace H := H.1 c2
      refine wp_tabIn (tn := 136) rfl (by rw [c2]; decide) (by rw [c2]; rfl) ?_
      refine wp_aload rfl rfl ?_
      refine wp_getR (r := 36) rfl (congrArg Prod.fst (kf_6 X.1)) rfl ?_
      refine wp_iload rfl rfl ?_
      refine wp_call (k := 190) (ρ2 := 1) (L2 := [vr 37, vi x3]) rfl rfl rfl (Nat.le_of_ble_eq_true rfl) (Nat.le_of_ble_eq_true rfl) (Nat.le_of_ble_eq_true rfl) (rcv_V rfl (congrArg Prod.fst (kf_37 X.1))) rfl ?_
      refine wp_aload rfl rfl ?_
      refine wp_iload rfl rfl ?_
      refine wp_call (k := 189) (ρ2 := 0) (L2 := [vr 37, vi x3]) rfl rfl rfl (Nat.le_of_ble_eq_true rfl) (Nat.le_of_ble_eq_true rfl) (Nat.le_of_ble_eq_true rfl) (rcv_V rfl (congrArg Prod.fst (kf_37 X.1))) rfl ?_
      refine wp_iload rfl rfl ?_
      refine wp_iflt (tn := 16) rfl rfl (fun c3 => ?_) (fun c3 => ?_)
      · replace H := H.1 c3
        refine wp_iconst rfl ?_
        refine wp_zret rfl rfl (by decide) ?_
        show Wp X _ 190 5 [vr 37, vi x3] [vi 0] _ _
        refine wp_ifeqT (tn := 17) rfl rfl (by decide) ?_
        refine wp_iconst rfl ?_
        refine wp_iret rfl rfl ?_
        show Wp X _ 20 144 [vr 6, vi x1, zx2, vi x3, vi x4, vi (-1)] [vi (-1)] _ _
        exact wp_iret rfl rfl H
      · replace H := H.2 c3
        refine wp_iload rfl rfl ?_
        refine wp_aload rfl rfl ?_
        refine wp_getI (j := 6) rfl (congrArg Prod.fst (kf_37 X.1)) rfl ?_
        refine wp_icge (tn := 16) rfl rfl (fun c4 => ?_) (fun c4 => ?_)
        · replace H := H.1 c4
          refine wp_iconst rfl ?_
          refine wp_zret rfl rfl (by decide) ?_
          show Wp X _ 190 5 [vr 37, vi x3] [vi 0] _ _
          refine wp_ifeqT (tn := 17) rfl rfl (by decide) ?_
          refine wp_iconst rfl ?_
          refine wp_iret rfl rfl ?_
          show Wp X _ 20 144 [vr 6, vi x1, zx2, vi x3, vi x4, vi (-1)] [vi (-1)] _ _
          exact wp_iret rfl rfl H
        · replace H := H.2 c4
          refine wp_iconst rfl ?_
          refine wp_goto (tn := 17) rfl rfl ?_
          refine wp_zret rfl rfl (by decide) ?_
          show Wp X _ 190 5 [vr 37, vi x3] [vi 1] _ _
          refine wp_ifeqF (tn := 17) rfl rfl (by decide) ?_
          refine wp_aload rfl rfl ?_
          refine wp_getR (r := 37) rfl (congrArg Prod.fst (kf_37 X.1)) rfl ?_
          refine wp_iload rfl rfl ?_
          have g5 := H.1
          replace H := H.2
          refine wp_iaload rfl (kf_38 X.1) g5 ?_
          refine wp_goto (tn := 18) rfl rfl ?_
          refine wp_iret rfl rfl ?_
          show Wp X _ 20 144 [vr 6, vi x1, zx2, vi x3, vi x4, vi (-1)] [vi (h 38 x3)] _ _
          exact wp_iret rfl rfl H
    replace H := H.2 c2
    by_cases c6 : x1 = 1
    · replace H := H.1 c6
      refine wp_tabIn (tn := 145) rfl (by rw [c6]; decide) (by rw [c6]; rfl) ?_
      refine wp_iload rfl rfl ?_
      refine wp_call (k := 43) (ρ2 := 0) (L2 := [vi x4]) rfl rfl rfl (Nat.le_of_ble_eq_true rfl) (Nat.le_of_ble_eq_true rfl) (Nat.le_of_ble_eq_true rfl) (rcv_S rfl) rfl ?_
      refine wp_iload rfl rfl ?_
      refine wp_ifge (tn := 8) rfl rfl (fun c7 => ?_) (fun c7 => ?_)
      · replace H := H.1 c7
        refine wp_iload rfl rfl ?_
        refine wp_iret rfl rfl ?_
        show Wp X _ 20 150 [vr 6, vi x1, zx2, vi x3, vi x4, vi (-1)] [vi x4] _ _
        exact wp_iret rfl rfl H
      · replace H := H.2 c7
        refine wp_iconst rfl ?_
        refine wp_goto (tn := 9) rfl rfl ?_
        refine wp_iret rfl rfl ?_
        show Wp X _ 20 150 [vr 6, vi x1, zx2, vi x3, vi x4, vi (-1)] [vi 2] _ _
        exact wp_iret rfl rfl H
    replace H := H.2 c6
    by_cases c8 : x1 = 2
    · replace H := H.1 c8
      refine wp_tabIn (tn := 151) rfl (by rw [c8]; decide) (by rw [c8]; rfl) ?_
      refine wp_iload rfl rfl ?_
      exact wp_iret rfl rfl H
    replace H := H.2 c8
    refine wp_tabOut (tn := 154) rfl (by clear H; omega) rfl ?_
    refine wp_aload rfl rfl ?_
    refine wp_getR (r := 76) rfl (congrArg Prod.fst (kf_6 X.1)) rfl ?_
    refine wp_iload rfl rfl ?_
    exact wp_call (k := 139) (ρ2 := 0) (L2 := [vr 77, vi (-1), vu, vu, vu]) rfl rfl rfl (Nat.le_of_ble_eq_true rfl) (Nat.le_of_ble_eq_true rfl) (Nat.le_of_ble_eq_true rfl) (rcv_V rfl (congrArg Prod.fst (kf_77 X.1))) rfl H
  · replace H := H.2 c1
    refine wp_iload rfl rfl ?_
    refine wp_aload rfl rfl ?_
    refine wp_getI (j := 6) rfl (congrArg Prod.fst (kf_37 X.1)) rfl ?_
    refine wp_icge (tn := 16) rfl rfl (fun c10 => ?_) (fun c10 => ?_)
    · replace H := H.1 c10
      refine wp_iconst rfl ?_
      refine wp_zret rfl rfl (by decide) ?_
      show Wp X _ 190 5 [vr 37, vi s0] [vi 0] _ _
      refine wp_ifeqT (tn := 17) rfl rfl (by decide) ?_
      refine wp_iconst rfl ?_
      refine wp_iret rfl rfl ?_
      show Wp X _ 20 105 [vr 6, vi x1, zx2, vi x3, vi x4, vu] [vi (-1)] _ _
      refine wp_istore (L2 := [vr 6, vi x1, zx2, vi x3, vi x4, vi (-1)]) rfl (Nat.le_of_ble_eq_true rfl) rfl ?_
      refine wp_iload rfl rfl ?_
      by_cases c11 : x1 = 0
      · replace H := H.1 c11
        refine wp_tabIn (tn := 136) rfl (by rw [c11]; decide) (by rw [c11]; rfl) ?_
        refine wp_aload rfl rfl ?_
        refine wp_getR (r := 36) rfl (congrArg Prod.fst (kf_6 X.1)) rfl ?_
        refine wp_iload rfl rfl ?_
        refine wp_call (k := 190) (ρ2 := 1) (L2 := [vr 37, vi x3]) rfl rfl rfl (Nat.le_of_ble_eq_true rfl) (Nat.le_of_ble_eq_true rfl) (Nat.le_of_ble_eq_true rfl) (rcv_V rfl (congrArg Prod.fst (kf_37 X.1))) rfl ?_
        refine wp_aload rfl rfl ?_
        refine wp_iload rfl rfl ?_
        refine wp_call (k := 189) (ρ2 := 0) (L2 := [vr 37, vi x3]) rfl rfl rfl (Nat.le_of_ble_eq_true rfl) (Nat.le_of_ble_eq_true rfl) (Nat.le_of_ble_eq_true rfl) (rcv_V rfl (congrArg Prod.fst (kf_37 X.1))) rfl ?_
        refine wp_iload rfl rfl ?_
        refine wp_iflt (tn := 16) rfl rfl (fun c12 => ?_) (fun c12 => ?_)
        · replace H := H.1 c12
          refine wp_iconst rfl ?_
          refine wp_zret rfl rfl (by decide) ?_
          show Wp X _ 190 5 [vr 37, vi x3] [vi 0] _ _
          refine wp_ifeqT (tn := 17) rfl rfl (by decide) ?_
          refine wp_iconst rfl ?_
          refine wp_iret rfl rfl ?_
          show Wp X _ 20 144 [vr 6, vi x1, zx2, vi x3, vi x4, vi (-1)] [vi (-1)] _ _
          exact wp_iret rfl rfl H
        · replace H := H.2 c12
          refine wp_iload rfl rfl ?_
          refine wp_aload rfl rfl ?_
          refine wp_getI (j := 6) rfl (congrArg Prod.fst (kf_37 X.1)) rfl ?_
          refine wp_icge (tn := 16) rfl rfl (fun c13 => ?_) (fun c13 => ?_)
          · replace H := H.1 c13
            refine wp_iconst rfl ?_
            refine wp_zret rfl rfl (by decide) ?_
            show Wp X _ 190 5 [vr 37, vi x3] [vi 0] _ _
            refine wp_ifeqT (tn := 17) rfl rfl (by decide) ?_
            refine wp_iconst rfl ?_
            refine wp_iret rfl rfl ?_
            show Wp X _ 20 144 [vr 6, vi x1, zx2, vi x3, vi x4, vi (-1)] [vi (-1)] _ _
            exact wp_iret rfl rfl H
          · replace H := H.2 c13
            refine wp_iconst rfl ?_
            refine wp_goto (tn := 17) rfl rfl ?_
            refine wp_zret rfl rfl (by decide) ?_
            show Wp X _ 190 5 [vr 37, vi x3] [vi 1] _ _
            refine wp_ifeqF (tn := 17) rfl rfl (by decide) ?_
            refine wp_aload rfl rfl ?_
            refine wp_getR (r := 37) rfl (congrArg Prod.fst (kf_37 X.1)) rfl ?_
            refine wp_iload rfl rfl ?_
            have g14 := H.1
            replace H := H.2
            refine wp_iaload rfl (kf_38 X.1) g14 ?_
            refine wp_goto (tn := 18) rfl rfl ?_
            refine wp_iret rfl rfl ?_
            show Wp X _ 20 144 [vr 6, vi x1, zx2, vi x3, vi x4, vi (-1)] [vi (h 38 x3)] _ _
            exact wp_iret rfl rfl H
      replace H := H.2 c11
      by_cases c15 : x1 = 1
      · replace H := H.1 c15
        refine wp_tabIn (tn := 145) rfl (by rw [c15]; decide) (by rw [c15]; rfl) ?_
        refine wp_iload rfl rfl ?_
        refine wp_call (k := 43) (ρ2 := 0) (L2 := [vi x4]) rfl rfl rfl (Nat.le_of_ble_eq_true rfl) (Nat.le_of_ble_eq_true rfl) (Nat.le_of_ble_eq_true rfl) (rcv_S rfl) rfl ?_
        refine wp_iload rfl rfl ?_
        refine wp_ifge (tn := 8) rfl rfl (fun c16 => ?_) (fun c16 => ?_)
        · replace H := H.1 c16
          refine wp_iload rfl rfl ?_
          refine wp_iret rfl rfl ?_
          show Wp X _ 20 150 [vr 6, vi x1, zx2, vi x3, vi x4, vi (-1)] [vi x4] _ _
          exact wp_iret rfl rfl H
        · replace H := H.2 c16
          refine wp_iconst rfl ?_
          refine wp_goto (tn := 9) rfl rfl ?_
          refine wp_iret rfl rfl ?_
          show Wp X _ 20 150 [vr 6, vi x1, zx2, vi x3, vi x4, vi (-1)] [vi 2] _ _
          exact wp_iret rfl rfl H
      replace H := H.2 c15
      by_cases c17 : x1 = 2
      · replace H := H.1 c17
        refine wp_tabIn (tn := 151) rfl (by rw [c17]; decide) (by rw [c17]; rfl) ?_
        refine wp_iload rfl rfl ?_
        exact wp_iret rfl rfl H
      replace H := H.2 c17
      refine wp_tabOut (tn := 154) rfl (by clear H; omega) rfl ?_
      refine wp_aload rfl rfl ?_
      refine wp_getR (r := 76) rfl (congrArg Prod.fst (kf_6 X.1)) rfl ?_
      refine wp_iload rfl rfl ?_
      exact wp_call (k := 139) (ρ2 := 0) (L2 := [vr 77, vi (-1), vu, vu, vu]) rfl rfl rfl (Nat.le_of_ble_eq_true rfl) (Nat.le_of_ble_eq_true rfl) (Nat.le_of_ble_eq_true rfl) (rcv_V rfl (congrArg Prod.fst (kf_77 X.1))) rfl H
    · replace H := H.2 c10
      refine wp_iconst rfl ?_
      refine wp_goto (tn := 17) rfl rfl ?_
      refine wp_zret rfl rfl (by decide) ?_
      show Wp X _ 190 5 [vr 37, vi s0] [vi 1] _ _
      refine wp_ifeqF (tn := 17) rfl rfl (by decide) ?_
      refine wp_aload rfl rfl ?_
      refine wp_getR (r := 37) rfl (congrArg Prod.fst (kf_37 X.1)) rfl ?_
      refine wp_iload rfl rfl ?_
      have g19 := H.1
      replace H := H.2
      refine wp_iaload rfl (kf_38 X.1) g19 ?_
      refine wp_goto (tn := 18) rfl rfl ?_
      refine wp_iret rfl rfl ?_
      show Wp X _ 20 105 [vr 6, vi x1, zx2, vi x3, vi x4, vu] [vi (h 38 s0)] _ _
      refine wp_istore (L2 := [vr 6, vi x1, zx2, vi x3, vi x4, vi (h 38 s0)]) rfl (Nat.le_of_ble_eq_true rfl) rfl ?_
      refine wp_iload rfl rfl ?_
      by_cases c20 : x1 = 0
      · replace H := H.1 c20
        refine wp_tabIn (tn := 136) rfl (by rw [c20]; decide) (by rw [c20]; rfl) ?_
        refine wp_aload rfl rfl ?_
        refine wp_getR (r := 36) rfl (congrArg Prod.fst (kf_6 X.1)) rfl ?_
        refine wp_iload rfl rfl ?_
        refine wp_call (k := 190) (ρ2 := 1) (L2 := [vr 37, vi x3]) rfl rfl rfl (Nat.le_of_ble_eq_true rfl) (Nat.le_of_ble_eq_true rfl) (Nat.le_of_ble_eq_true rfl) (rcv_V rfl (congrArg Prod.fst (kf_37 X.1))) rfl ?_
        refine wp_aload rfl rfl ?_
        refine wp_iload rfl rfl ?_
        refine wp_call (k := 189) (ρ2 := 0) (L2 := [vr 37, vi x3]) rfl rfl rfl (Nat.le_of_ble_eq_true rfl) (Nat.le_of_ble_eq_true rfl) (Nat.le_of_ble_eq_true rfl) (rcv_V rfl (congrArg Prod.fst (kf_37 X.1))) rfl ?_
        refine wp_iload rfl rfl ?_
        refine wp_iflt (tn := 16) rfl rfl (fun c21 => ?_) (fun c21 => ?_)
        · replace H := H.1 c21
          refine wp_iconst rfl ?_
          refine wp_zret rfl rfl (by decide) ?_
          show Wp X _ 190 5 [vr 37, vi x3] [vi 0] _ _
          refine wp_ifeqT (tn := 17) rfl rfl (by decide) ?_
          refine wp_iconst rfl ?_
          refine wp_iret rfl rfl ?_
          show Wp X _ 20 144 [vr 6, vi x1, zx2, vi x3, vi x4, vi (h 38 s0)] [vi (-1)] _ _
          exact wp_iret rfl rfl H
        · replace H := H.2 c21
          refine wp_iload rfl rfl ?_
          refine wp_aload rfl rfl ?_
          refine wp_getI (j := 6) rfl (congrArg Prod.fst (kf_37 X.1)) rfl ?_
          refine wp_icge (tn := 16) rfl rfl (fun c22 => ?_) (fun c22 => ?_)
          · replace H := H.1 c22
            refine wp_iconst rfl ?_
            refine wp_zret rfl rfl (by decide) ?_
            show Wp X _ 190 5 [vr 37, vi x3] [vi 0] _ _
            refine wp_ifeqT (tn := 17) rfl rfl (by decide) ?_
            refine wp_iconst rfl ?_
            refine wp_iret rfl rfl ?_
            show Wp X _ 20 144 [vr 6, vi x1, zx2, vi x3, vi x4, vi (h 38 s0)] [vi (-1)] _ _
            exact wp_iret rfl rfl H
          · replace H := H.2 c22
            refine wp_iconst rfl ?_
            refine wp_goto (tn := 17) rfl rfl ?_
            refine wp_zret rfl rfl (by decide) ?_
            show Wp X _ 190 5 [vr 37, vi x3] [vi 1] _ _
            refine wp_ifeqF (tn := 17) rfl rfl (by decide) ?_
            refine wp_aload rfl rfl ?_
            refine wp_getR (r := 37) rfl (congrArg Prod.fst (kf_37 X.1)) rfl ?_
            refine wp_iload rfl rfl ?_
            have g23 := H.1
            replace H := H.2
            refine wp_iaload rfl (kf_38 X.1) g23 ?_
            refine wp_goto (tn := 18) rfl rfl ?_
            refine wp_iret rfl rfl ?_
            show Wp X _ 20 144 [vr 6, vi x1, zx2, vi x3, vi x4, vi (h 38 s0)] [vi (h 38 x3)] _ _
            exact wp_iret rfl rfl H
      replace H := H.2 c20
      by_cases c24 : x1 = 1
      · replace H := H.1 c24
        refine wp_tabIn (tn := 145) rfl (by rw [c24]; decide) (by rw [c24]; rfl) ?_
        refine wp_iload rfl rfl ?_
        refine wp_call (k := 43) (ρ2 := 0) (L2 := [vi x4]) rfl rfl rfl (Nat.le_of_ble_eq_true rfl) (Nat.le_of_ble_eq_true rfl) (Nat.le_of_ble_eq_true rfl) (rcv_S rfl) rfl ?_
        refine wp_iload rfl rfl ?_
        refine wp_ifge (tn := 8) rfl rfl (fun c25 => ?_) (fun c25 => ?_)
        · replace H := H.1 c25
          refine wp_iload rfl rfl ?_
          refine wp_iret rfl rfl ?_
          show Wp X _ 20 150 [vr 6, vi x1, zx2, vi x3, vi x4, vi (h 38 s0)] [vi x4] _ _
          exact wp_iret rfl rfl H
        · replace H := H.2 c25
          refine wp_iconst rfl ?_
          refine wp_goto (tn := 9) rfl rfl ?_
          refine wp_iret rfl rfl ?_
          show Wp X _ 20 150 [vr 6, vi x1, zx2, vi x3, vi x4, vi (h 38 s0)] [vi 2] _ _
          exact wp_iret rfl rfl H
      replace H := H.2 c24
      by_cases c26 : x1 = 2
      · replace H := H.1 c26
        refine wp_tabIn (tn := 151) rfl (by rw [c26]; decide) (by rw [c26]; rfl) ?_
        refine wp_iload rfl rfl ?_
        exact wp_iret rfl rfl H
      replace H := H.2 c26
      refine wp_tabOut (tn := 154) rfl (by clear H; omega) rfl ?_
      refine wp_aload rfl rfl ?_
      refine wp_getR (r := 76) rfl (congrArg Prod.fst (kf_6 X.1)) rfl ?_
      refine wp_iload rfl rfl ?_
      exact wp_call (k := 139) (ρ2 := 0) (L2 := [vr 77, vi (h 38 s0), vu, vu, vu]) rfl rfl rfl (Nat.le_of_ble_eq_true rfl) (Nat.le_of_ble_eq_true rfl) (Nat.le_of_ble_eq_true rfl) (rcv_V rfl (congrArg Prod.fst (kf_77 X.1))) rfl H
/-- WarnLines.over(I)I, from 163 -/
theorem S20_6_163 {X : Nat × (Int → Int)} {h : HP} {Q : bQ} (zx0 : aV) (zx1 : aV) (zx2 : aV) (zx3 : aV) (zx4 : aV) (zx5 : aV) (s0 : Int) (H : Q (some (vi s0)) h) : Wp X 3 20 163 [zx0, zx1, zx2, zx3, zx4, zx5] [vi s0] h Q := by
  exact wp_iret rfl rfl H
/-- WarnLines.cause(II)I, from 0 -/
theorem S21_6_0 {X : Nat × (Int → Int)} {h : HP} {Q : bQ} (x1 : Int) (x2 : Int) (H : ((x1 < 0 → Q (some (vi (-2))) h) ∧ (0 ≤ x1 → ((x1 ≤ 5 → ((x2 < 0 → Q (some (vi (-2))) h) ∧ (0 ≤ x2 → ((x2 ≤ 19 → ((12 ≤ (h 77 2) → Q (some (vi (-4))) h) ∧ ((h 77 2) < 12 → ((0 ≤ (h 77 2) ∧ (h 77 2) < 12) ∧ Q (some (vi ((h 77 2) + 1))) (upd2 (upd2 (upd2 h 78 (h 77 2) x1) 79 (h 77 2) x2) 77 2 ((h 77 2) + 1)))))) ∧ (19 < x2 → Q (some (vi (-2))) h))))) ∧ (5 < x1 → Q (some (vi (-2))) h))))) : Wp X 2 21 0 [vr 6, vi x1, vi x2] [] h Q := by
  refine wp_iload rfl rfl ?_
  refine wp_iconst rfl ?_
  refine wp_iconst rfl ?_
  refine wp_call (k := 40) (ρ2 := 0) (L2 := [vi x1, vi 0, vi 5]) rfl rfl rfl (Nat.le_of_ble_eq_true rfl) (Nat.le_of_ble_eq_true rfl) (Nat.le_of_ble_eq_true rfl) (rcv_S rfl) rfl ?_
  refine wp_iload rfl rfl ?_
  refine wp_iload rfl rfl ?_
  refine wp_iclt (tn := 10) rfl rfl (fun c1 => ?_) (fun c1 => ?_)
  · replace H := H.1 c1
    refine wp_iconst rfl ?_
    refine wp_goto (tn := 15) rfl rfl ?_
    refine wp_zret rfl rfl (by decide) ?_
    show Wp X _ 21 6 [vr 6, vi x1, vi x2] [vi 1] _ _
    refine wp_ifneT (tn := 19) rfl rfl (by decide) ?_
    refine wp_iconst rfl ?_
    exact wp_iret rfl rfl H
  · replace H := H.2 c1
    refine wp_iload rfl rfl ?_
    refine wp_iload rfl rfl ?_
    refine wp_icle (tn := 14) rfl rfl (fun c2 => ?_) (fun c2 => ?_)
    · replace H := H.1 c2
      refine wp_iconst rfl ?_
      refine wp_zret rfl rfl (by decide) ?_
      show Wp X _ 21 6 [vr 6, vi x1, vi x2] [vi 0] _ _
      refine wp_ifneF (tn := 19) rfl rfl (by decide) ?_
      refine wp_iload rfl rfl ?_
      refine wp_iconst rfl ?_
      refine wp_iconst rfl ?_
      refine wp_call (k := 40) (ρ2 := 0) (L2 := [vi x2, vi 0, vi 19]) rfl rfl rfl (Nat.le_of_ble_eq_true rfl) (Nat.le_of_ble_eq_true rfl) (Nat.le_of_ble_eq_true rfl) (rcv_S rfl) rfl ?_
      refine wp_iload rfl rfl ?_
      refine wp_iload rfl rfl ?_
      refine wp_iclt (tn := 10) rfl rfl (fun c3 => ?_) (fun c3 => ?_)
      · replace H := H.1 c3
        refine wp_iconst rfl ?_
        refine wp_goto (tn := 15) rfl rfl ?_
        refine wp_zret rfl rfl (by decide) ?_
        show Wp X _ 21 16 [vr 6, vi x1, vi x2] [vi 1] _ _
        refine wp_ifeqF (tn := 22) rfl rfl (by decide) ?_
        refine wp_iconst rfl ?_
        exact wp_iret rfl rfl H
      · replace H := H.2 c3
        refine wp_iload rfl rfl ?_
        refine wp_iload rfl rfl ?_
        refine wp_icle (tn := 14) rfl rfl (fun c4 => ?_) (fun c4 => ?_)
        · replace H := H.1 c4
          refine wp_iconst rfl ?_
          refine wp_zret rfl rfl (by decide) ?_
          show Wp X _ 21 16 [vr 6, vi x1, vi x2] [vi 0] _ _
          refine wp_ifeqT (tn := 22) rfl rfl (by decide) ?_
          refine wp_aload rfl rfl ?_
          refine wp_getR (r := 76) rfl (congrArg Prod.fst (kf_6 X.1)) rfl ?_
          refine wp_call (k := 137) (ρ2 := 0) (L2 := [vr 77]) rfl rfl rfl (Nat.le_of_ble_eq_true rfl) (Nat.le_of_ble_eq_true rfl) (Nat.le_of_ble_eq_true rfl) (rcv_V rfl (congrArg Prod.fst (kf_77 X.1))) rfl ?_
          refine wp_aload rfl rfl ?_
          refine wp_getI (j := 2) rfl (congrArg Prod.fst (kf_77 X.1)) rfl ?_
          refine wp_iconst rfl ?_
          refine wp_icge (tn := 13) rfl rfl (fun c5 => ?_) (fun c5 => ?_)
          · replace H := H.1 c5
            refine wp_iconst rfl ?_
            refine wp_zret rfl rfl (by decide) ?_
            show Wp X _ 21 29 [vr 6, vi x1, vi x2] [vi 0] _ _
            refine wp_ifneF (tn := 35) rfl rfl (by decide) ?_
            refine wp_iconst rfl ?_
            exact wp_iret rfl rfl H
          · replace H := H.2 c5
            refine wp_iconst rfl ?_
            refine wp_goto (tn := 14) rfl rfl ?_
            refine wp_zret rfl rfl (by decide) ?_
            show Wp X _ 21 29 [vr 6, vi x1, vi x2] [vi 1] _ _
            refine wp_ifneT (tn := 35) rfl rfl (by decide) ?_
            refine wp_aload rfl rfl ?_
            refine wp_getR (r := 76) rfl (congrArg Prod.fst (kf_6 X.1)) rfl ?_
            refine wp_iload rfl rfl ?_
            refine wp_iload rfl rfl ?_
            refine wp_call (k := 138) (ρ2 := 1) (L2 := [vr 77, vi x1, vi x2]) rfl rfl rfl (Nat.le_of_ble_eq_true rfl) (Nat.le_of_ble_eq_true rfl) (Nat.le_of_ble_eq_true rfl) (rcv_V rfl (congrArg Prod.fst (kf_77 X.1))) rfl ?_
            refine wp_aload rfl rfl ?_
            refine wp_call (k := 137) (ρ2 := 0) (L2 := [vr 77]) rfl rfl rfl (Nat.le_of_ble_eq_true rfl) (Nat.le_of_ble_eq_true rfl) (Nat.le_of_ble_eq_true rfl) (rcv_V rfl (congrArg Prod.fst (kf_77 X.1))) rfl ?_
            refine wp_aload rfl rfl ?_
            refine wp_getI (j := 2) rfl (congrArg Prod.fst (kf_77 X.1)) rfl ?_
            refine wp_iconst rfl ?_
            refine wp_icgeF (tn := 13) rfl rfl c5 ?_
            refine wp_iconst rfl ?_
            refine wp_goto (tn := 14) rfl rfl ?_
            refine wp_zret rfl rfl (by decide) ?_
            show Wp X _ 138 4 [vr 77, vi x1, vi x2] [vi 1] _ _
            refine wp_ifeqF (tn := 37) rfl rfl (by decide) ?_
            refine wp_aload rfl rfl ?_
            refine wp_getR (r := 77) rfl (congrArg Prod.fst (kf_77 X.1)) rfl ?_
            refine wp_aload rfl rfl ?_
            refine wp_getI (j := 2) rfl (congrArg Prod.fst (kf_77 X.1)) rfl ?_
            refine wp_iload rfl rfl ?_
            have g6 := H.1
            replace H := H.2
            refine wp_iastore rfl (kf_78 X.1) g6 ?_
            refine wp_aload rfl rfl ?_
            refine wp_getR (r := 78) rfl (congrArg Prod.fst (kf_77 X.1)) rfl ?_
            refine wp_aload rfl rfl ?_
            refine wp_getI (j := 2) rfl (congrArg Prod.fst (kf_77 X.1)) rfl ?_
            refine Wp.topI (y := (h 77 2)) (congrFun (upd2_ne (by decide)) _) ?_
            refine wp_iload rfl rfl ?_
            refine wp_iastore rfl (kf_79 X.1) ⟨g6.1, g6.2⟩ ?_
            refine wp_aload rfl rfl ?_
            refine wp_dupR rfl ?_
            refine wp_getI (j := 2) rfl (congrArg Prod.fst (kf_77 X.1)) rfl ?_
            refine Wp.topI (y := (h 77 2)) (congrFun ((upd2_ne (by decide)).trans (upd2_ne (by decide))) _) ?_
            refine wp_iconst rfl ?_
            refine wp_iadd rfl ?_
            refine Wp.topI (y := ((h 77 2) + 1)) (w32_I (by clear H; unfold R32; omega)) ?_
            refine wp_putI (j := 2) rfl (congrArg Prod.fst (kf_77 X.1)) rfl rfl rfl ?_
            refine wp_vret rfl rfl ?_
            show Wp X _ 21 44 [vr 6, vi x1, vi x2] [] _ _
            refine wp_aload rfl rfl ?_
            refine wp_getR (r := 76) rfl (congrArg Prod.fst (kf_6 X.1)) rfl ?_
            refine wp_call (k := 136) (ρ2 := 0) (L2 := [vr 77]) rfl rfl rfl (Nat.le_of_ble_eq_true rfl) (Nat.le_of_ble_eq_true rfl) (Nat.le_of_ble_eq_true rfl) (rcv_V rfl (congrArg Prod.fst (kf_77 X.1))) rfl ?_
            refine wp_aload rfl rfl ?_
            refine wp_getI (j := 2) rfl (congrArg Prod.fst (kf_77 X.1)) rfl ?_
            refine Wp.topI (y := ((h 77 2) + 1)) ((congrFun (upd2_cg ((upd2_ne (by decide)).trans (upd2_ne (by decide)))) _).trans upd2_s) ?_
            refine wp_iret rfl rfl ?_
            show Wp X _ 21 51 [vr 6, vi x1, vi x2] [vi ((h 77 2) + 1)] _ _
            exact wp_iret rfl rfl H
        · replace H := H.2 c4
          refine wp_iconst rfl ?_
          refine wp_goto (tn := 15) rfl rfl ?_
          refine wp_zret rfl rfl (by decide) ?_
          show Wp X _ 21 16 [vr 6, vi x1, vi x2] [vi 1] _ _
          refine wp_ifeqF (tn := 22) rfl rfl (by decide) ?_
          refine wp_iconst rfl ?_
          exact wp_iret rfl rfl H
    · replace H := H.2 c2
      refine wp_iconst rfl ?_
      refine wp_goto (tn := 15) rfl rfl ?_
      refine wp_zret rfl rfl (by decide) ?_
      show Wp X _ 21 6 [vr 6, vi x1, vi x2] [vi 1] _ _
      refine wp_ifneT (tn := 19) rfl rfl (by decide) ?_
      refine wp_iconst rfl ?_
      exact wp_iret rfl rfl H
/-- WarnLines.blamed(I)I, from 0 -/
theorem S22_6_0 {X : Nat × (Int → Int)} {h : HP} {Q : bQ} (x1 : Int) (H : ((x1 < 0 → Q (some (vi (-2))) h) ∧ (0 ≤ x1 → ((x1 ≤ 1 → ((x1 = 0 → (((h 45 6) ≠ (-1) → Q (some (vi (-3))) h) ∧ ((h 45 6) = (-1) → (((h 36 0) ≤ 0 → Q (some (vi (-3))) h) ∧ (0 < (h 36 0) → Wp X 5 22 30 [vr 6, vi 0, vi 0, vi (-1), vi 0, vu] [] h Q))))) ∧ (x1 = 1 → (((h 53 6) ≠ (-1) → Q (some (vi (-3))) h) ∧ ((h 53 6) = (-1) → (((h 36 0) ≤ 0 → Q (some (vi (-3))) h) ∧ (0 < (h 36 0) → Wp X 5 22 30 [vr 6, vi 1, vi 0, vi (-1), vi 0, vu] [] h Q))))))) ∧ (1 < x1 → Q (some (vi (-2))) h))))) : Wp X 5 22 0 [vr 6, vi x1, vu, vu, vu, vu] [] h Q := by
  refine wp_iload rfl rfl ?_
  refine wp_iconst rfl ?_
  refine wp_iconst rfl ?_
  refine wp_call (k := 40) (ρ2 := 0) (L2 := [vi x1, vi 0, vi 1]) rfl rfl rfl (Nat.le_of_ble_eq_true rfl) (Nat.le_of_ble_eq_true rfl) (Nat.le_of_ble_eq_true rfl) (rcv_S rfl) rfl ?_
  refine wp_iload rfl rfl ?_
  refine wp_iload rfl rfl ?_
  refine wp_iclt (tn := 10) rfl rfl (fun c1 => ?_) (fun c1 => ?_)
  · replace H := H.1 c1
    refine wp_iconst rfl ?_
    refine wp_goto (tn := 15) rfl rfl ?_
    refine wp_zret rfl rfl (by decide) ?_
    show Wp X _ 22 6 [vr 6, vi x1, vu, vu, vu, vu] [vi 1] _ _
    refine wp_ifeqF (tn := 12) rfl rfl (by decide) ?_
    refine wp_iconst rfl ?_
    exact wp_iret rfl rfl H
  · replace H := H.2 c1
    refine wp_iload rfl rfl ?_
    refine wp_iload rfl rfl ?_
    refine wp_icle (tn := 14) rfl rfl (fun c2 => ?_) (fun c2 => ?_)
    · replace H := H.1 c2
      refine wp_iconst rfl ?_
      refine wp_zret rfl rfl (by decide) ?_
      show Wp X _ 22 6 [vr 6, vi x1, vu, vu, vu, vu] [vi 0] _ _
      refine wp_ifeqT (tn := 12) rfl rfl (by decide) ?_
      refine wp_aload rfl rfl ?_
      refine wp_iload rfl rfl ?_
      refine wp_call (k := 33) (ρ2 := 1) (L2 := [vr 6, vi x1]) rfl rfl rfl (Nat.le_of_ble_eq_true rfl) (Nat.le_of_ble_eq_true rfl) (Nat.le_of_ble_eq_true rfl) (rcv_V rfl (congrArg Prod.fst (kf_6 X.1))) rfl ?_
      refine wp_aload rfl rfl ?_
      refine wp_getR (r := 43) rfl (congrArg Prod.fst (kf_6 X.1)) rfl ?_
      refine wp_iload rfl rfl ?_
      rcases (show x1 = 0 ∨ x1 = 1 by have := (show 0 ≤ x1 ∧ x1 < 2 from ⟨c1, (by clear H; omega)⟩); clear H; omega) with rfl | rfl
      · replace H := H.1 rfl
        refine wp_aaload (r := 44) rfl (kf_44 X.1) (by decide) (by decide) rfl ?_
        refine wp_call (k := 202) (ρ2 := 0) (L2 := [vr 45]) rfl rfl rfl (Nat.le_of_ble_eq_true rfl) (Nat.le_of_ble_eq_true rfl) (Nat.le_of_ble_eq_true rfl) (rcv_V rfl (congrArg Prod.fst (kf_45 X.1))) rfl ?_
        refine wp_aload rfl rfl ?_
        refine wp_getI (j := 6) rfl (congrArg Prod.fst (kf_45 X.1)) rfl ?_
        refine wp_iret rfl rfl ?_
        show Wp X _ 33 9 [vr 6, vi 0] [vi (h 45 6)] _ _
        refine wp_iconst rfl ?_
        refine wp_icne (tn := 27) rfl rfl (fun c3 => ?_) (fun c3 => ?_)
        · replace H := H.1 c3
          refine wp_iconst rfl ?_
          refine wp_zret rfl rfl (by decide) ?_
          show Wp X _ 22 17 [vr 6, vi 0, vu, vu, vu, vu] [vi 0] _ _
          refine wp_ifneF (tn := 23) rfl rfl (by decide) ?_
          refine wp_iconst rfl ?_
          exact wp_iret rfl rfl H
        · replace H := H.2 c3
          refine wp_aload rfl rfl ?_
          refine wp_getR (r := 35) rfl (congrArg Prod.fst (kf_6 X.1)) rfl ?_
          refine wp_call (k := 159) (ρ2 := 0) (L2 := [vr 36]) rfl rfl rfl (Nat.le_of_ble_eq_true rfl) (Nat.le_of_ble_eq_true rfl) (Nat.le_of_ble_eq_true rfl) (rcv_V rfl (congrArg Prod.fst (kf_36 X.1))) rfl ?_
          refine wp_aload rfl rfl ?_
          refine wp_getI (j := 0) rfl (congrArg Prod.fst (kf_36 X.1)) rfl ?_
          refine wp_ifle (tn := 11) rfl rfl (fun c4 => ?_) (fun c4 => ?_)
          · replace H := H.1 c4
            refine wp_iconst rfl ?_
            refine wp_zret rfl rfl (by decide) ?_
            show Wp X _ 33 20 [vr 6, vi 0] [vi 0] _ _
            refine wp_ifeqT (tn := 27) rfl rfl (by decide) ?_
            refine wp_iconst rfl ?_
            refine wp_zret rfl rfl (by decide) ?_
            show Wp X _ 22 17 [vr 6, vi 0, vu, vu, vu, vu] [vi 0] _ _
            refine wp_ifneF (tn := 23) rfl rfl (by decide) ?_
            refine wp_iconst rfl ?_
            exact wp_iret rfl rfl H
          · replace H := H.2 c4
            refine wp_iconst rfl ?_
            refine wp_goto (tn := 12) rfl rfl ?_
            refine wp_zret rfl rfl (by decide) ?_
            show Wp X _ 33 20 [vr 6, vi 0] [vi 1] _ _
            refine wp_ifeqF (tn := 27) rfl rfl (by decide) ?_
            refine wp_iconst rfl ?_
            refine wp_goto (tn := 28) rfl rfl ?_
            refine wp_zret rfl rfl (by decide) ?_
            show Wp X _ 22 17 [vr 6, vi 0, vu, vu, vu, vu] [vi 1] _ _
            refine wp_ifneT (tn := 23) rfl rfl (by decide) ?_
            refine wp_iconst rfl ?_
            refine wp_istore (L2 := [vr 6, vi 0, vi 0, vu, vu, vu]) rfl (Nat.le_of_ble_eq_true rfl) rfl ?_
            refine wp_iconst rfl ?_
            refine wp_istore (L2 := [vr 6, vi 0, vi 0, vi (-1), vu, vu]) rfl (Nat.le_of_ble_eq_true rfl) rfl ?_
            refine wp_iconst rfl ?_
            refine wp_istore (L2 := [vr 6, vi 0, vi 0, vi (-1), vi 0, vu]) rfl (Nat.le_of_ble_eq_true rfl) rfl ?_
            exact H
      · replace H := H.2 rfl
        refine wp_aaload (r := 52) rfl (kf_44 X.1) (by decide) (by decide) rfl ?_
        refine wp_call (k := 202) (ρ2 := 0) (L2 := [vr 53]) rfl rfl rfl (Nat.le_of_ble_eq_true rfl) (Nat.le_of_ble_eq_true rfl) (Nat.le_of_ble_eq_true rfl) (rcv_V rfl (congrArg Prod.fst (kf_53 X.1))) rfl ?_
        refine wp_aload rfl rfl ?_
        refine wp_getI (j := 6) rfl (congrArg Prod.fst (kf_53 X.1)) rfl ?_
        refine wp_iret rfl rfl ?_
        show Wp X _ 33 9 [vr 6, vi 1] [vi (h 53 6)] _ _
        refine wp_iconst rfl ?_
        refine wp_icne (tn := 27) rfl rfl (fun c5 => ?_) (fun c5 => ?_)
        · replace H := H.1 c5
          refine wp_iconst rfl ?_
          refine wp_zret rfl rfl (by decide) ?_
          show Wp X _ 22 17 [vr 6, vi 1, vu, vu, vu, vu] [vi 0] _ _
          refine wp_ifneF (tn := 23) rfl rfl (by decide) ?_
          refine wp_iconst rfl ?_
          exact wp_iret rfl rfl H
        · replace H := H.2 c5
          refine wp_aload rfl rfl ?_
          refine wp_getR (r := 35) rfl (congrArg Prod.fst (kf_6 X.1)) rfl ?_
          refine wp_call (k := 159) (ρ2 := 0) (L2 := [vr 36]) rfl rfl rfl (Nat.le_of_ble_eq_true rfl) (Nat.le_of_ble_eq_true rfl) (Nat.le_of_ble_eq_true rfl) (rcv_V rfl (congrArg Prod.fst (kf_36 X.1))) rfl ?_
          refine wp_aload rfl rfl ?_
          refine wp_getI (j := 0) rfl (congrArg Prod.fst (kf_36 X.1)) rfl ?_
          refine wp_ifle (tn := 11) rfl rfl (fun c6 => ?_) (fun c6 => ?_)
          · replace H := H.1 c6
            refine wp_iconst rfl ?_
            refine wp_zret rfl rfl (by decide) ?_
            show Wp X _ 33 20 [vr 6, vi 1] [vi 0] _ _
            refine wp_ifeqT (tn := 27) rfl rfl (by decide) ?_
            refine wp_iconst rfl ?_
            refine wp_zret rfl rfl (by decide) ?_
            show Wp X _ 22 17 [vr 6, vi 1, vu, vu, vu, vu] [vi 0] _ _
            refine wp_ifneF (tn := 23) rfl rfl (by decide) ?_
            refine wp_iconst rfl ?_
            exact wp_iret rfl rfl H
          · replace H := H.2 c6
            refine wp_iconst rfl ?_
            refine wp_goto (tn := 12) rfl rfl ?_
            refine wp_zret rfl rfl (by decide) ?_
            show Wp X _ 33 20 [vr 6, vi 1] [vi 1] _ _
            refine wp_ifeqF (tn := 27) rfl rfl (by decide) ?_
            refine wp_iconst rfl ?_
            refine wp_goto (tn := 28) rfl rfl ?_
            refine wp_zret rfl rfl (by decide) ?_
            show Wp X _ 22 17 [vr 6, vi 1, vu, vu, vu, vu] [vi 1] _ _
            refine wp_ifneT (tn := 23) rfl rfl (by decide) ?_
            refine wp_iconst rfl ?_
            refine wp_istore (L2 := [vr 6, vi 1, vi 0, vu, vu, vu]) rfl (Nat.le_of_ble_eq_true rfl) rfl ?_
            refine wp_iconst rfl ?_
            refine wp_istore (L2 := [vr 6, vi 1, vi 0, vi (-1), vu, vu]) rfl (Nat.le_of_ble_eq_true rfl) rfl ?_
            refine wp_iconst rfl ?_
            refine wp_istore (L2 := [vr 6, vi 1, vi 0, vi (-1), vi 0, vu]) rfl (Nat.le_of_ble_eq_true rfl) rfl ?_
            exact H
    · replace H := H.2 c2
      refine wp_iconst rfl ?_
      refine wp_goto (tn := 15) rfl rfl ?_
      refine wp_zret rfl rfl (by decide) ?_
      show Wp X _ 22 6 [vr 6, vi x1, vu, vu, vu, vu] [vi 1] _ _
      refine wp_ifeqF (tn := 12) rfl rfl (by decide) ?_
      refine wp_iconst rfl ?_
      exact wp_iret rfl rfl H
/-- WarnLines.blamed(I)I, from 30 -/
theorem S22_6_30 {X : Nat × (Int → Int)} {h : HP} {Q : bQ} (x1 : Int) (x2 : Int) (x3 : Int) (x4 : Int) (zx5 : aV) (H : ((6 ≤ x4 → Q (some (vi x3)) h) ∧ (x4 < 6 → ((0 ≤ x1 ∧ x1 < 2) ∧ ((x1 = 0 → Wp X 4 36 0 [vr 6, vr 45, vi x4, vu, vu, vu] [] h (fun v h' => Wp X 5 22 49 [vr 6, vi 0, vi x2, vi x3, vi x4, zx5] (psh v []) h' Q)) ∧ (x1 = 1 → Wp X 4 36 0 [vr 6, vr 53, vi x4, vu, vu, vu] [] h (fun v h' => Wp X 5 22 49 [vr 6, vi 1, vi x2, vi x3, vi x4, zx5] (psh v []) h' Q))))))) : Wp X 5 22 30 [vr 6, vi x1, vi x2, vi x3, vi x4, zx5] [] h Q := by
  refine wp_iload rfl rfl ?_
  refine wp_iconst rfl ?_
  refine wp_icge (tn := 69) rfl rfl (fun c1 => ?_) (fun c1 => ?_)
  · replace H := H.1 c1
    refine wp_iload rfl rfl ?_
    exact wp_iret rfl rfl H
  · replace H := H.2 c1
    refine wp_aload rfl rfl ?_
    refine wp_aload rfl rfl ?_
    refine wp_getR (r := 43) rfl (congrArg Prod.fst (kf_6 X.1)) rfl ?_
    refine wp_iload rfl rfl ?_
    have g2 := H.1
    replace H := H.2
    rcases (show x1 = 0 ∨ x1 = 1 by have := (show 0 ≤ x1 ∧ x1 < 2 from g2); clear H; omega) with rfl | rfl
    · replace H := H.1 rfl
      refine wp_aaload (r := 44) rfl (kf_44 X.1) (by decide) (by decide) rfl ?_
      refine wp_iload rfl rfl ?_
      exact wp_call (k := 36) (ρ2 := 4) (L2 := [vr 6, vr 45, vi x4, vu, vu, vu]) rfl rfl rfl (Nat.le_of_ble_eq_true rfl) (Nat.le_of_ble_eq_true rfl) (Nat.le_of_ble_eq_true rfl) (rcv_V rfl (congrArg Prod.fst (kf_6 X.1))) rfl H
    · replace H := H.2 rfl
      refine wp_aaload (r := 52) rfl (kf_44 X.1) (by decide) (by decide) rfl ?_
      refine wp_iload rfl rfl ?_
      exact wp_call (k := 36) (ρ2 := 4) (L2 := [vr 6, vr 53, vi x4, vu, vu, vu]) rfl rfl rfl (Nat.le_of_ble_eq_true rfl) (Nat.le_of_ble_eq_true rfl) (Nat.le_of_ble_eq_true rfl) (rcv_V rfl (congrArg Prod.fst (kf_6 X.1))) rfl H
/-- WarnLines.blamed(I)I, from 49 -/
theorem S22_6_49 {X : Nat × (Int → Int)} {h : HP} {Q : bQ} (x1 : Int) (x2 : Int) (x3 : Int) (x4 : Int) (zx5 : aV) (s0 : Int) (H : ((s0 ≤ x2 → ((R32 (x4 + 1)) ∧ Wp X 5 22 30 [vr 6, vi x1, vi x2, vi x3, vi (x4 + 1), vi s0] [] h Q)) ∧ (x2 < s0 → ((R32 (x4 + 1)) ∧ Wp X 5 22 30 [vr 6, vi x1, vi s0, vi x4, vi (x4 + 1), vi s0] [] h Q)))) : Wp X 5 22 49 [vr 6, vi x1, vi x2, vi x3, vi x4, zx5] [vi s0] h Q := by
  refine wp_istore (L2 := [vr 6, vi x1, vi x2, vi x3, vi x4, vi s0]) rfl (Nat.le_of_ble_eq_true rfl) rfl ?_
  refine wp_iload rfl rfl ?_
  refine wp_iload rfl rfl ?_
  refine wp_icle (tn := 63) rfl rfl (fun c1 => ?_) (fun c1 => ?_)
  · replace H := H.1 c1
    have g2 := H.1
    replace H := H.2
    refine wp_iincR (L2 := [vr 6, vi x1, vi x2, vi x3, vi (x4 + 1), vi s0]) rfl rfl g2 rfl ?_
    refine wp_goto (tn := 30) rfl rfl ?_
    exact H
  · replace H := H.2 c1
    refine wp_iload rfl rfl ?_
    refine wp_istore (L2 := [vr 6, vi x1, vi s0, vi x3, vi x4, vi s0]) rfl (Nat.le_of_ble_eq_true rfl) rfl ?_
    refine wp_iload rfl rfl ?_
    refine wp_istore (L2 := [vr 6, vi x1, vi s0, vi x4, vi x4, vi s0]) rfl (Nat.le_of_ble_eq_true rfl) rfl ?_
    have g3 := H.1
    replace H := H.2
    refine wp_iincR (L2 := [vr 6, vi x1, vi s0, vi x4, vi (x4 + 1), vi s0]) rfl rfl g3 rfl ?_
    refine wp_goto (tn := 30) rfl rfl ?_
    exact H
/-- WarnLines.smoothed(I)I, from 0 -/
theorem S23_6_0 {X : Nat × (Int → Int)} {h : HP} {Q : bQ} (x1 : Int) (H : ((x1 < 0 → Q (some (vi (-2))) h) ∧ (0 ≤ x1 → (((h 8 8) ≤ x1 → Q (some (vi (-2))) h) ∧ (x1 < (h 8 8) → ((0 ≤ x1 ∧ x1 < 20) ∧ (((h 34 x1) ≠ (-1) → Wp X 0 195 0 [vr 37, vi x1, vu] [] h (fun v h' => Wp X 2 23 42 [vr 6, vi x1] (psh v [vr 37]) h' Q)) ∧ ((h 34 x1) = (-1) → Wp X 2 23 52 [vr 6, vi x1] [vi (-3)] h Q)))))))) : Wp X 2 23 0 [vr 6, vi x1] [] h Q := by
  refine wp_aload rfl rfl ?_
  refine wp_getR (r := 7) rfl (congrArg Prod.fst (kf_6 X.1)) rfl ?_
  refine wp_iload rfl rfl ?_
  refine wp_call (k := 145) (ρ2 := 0) (L2 := [vr 8, vi x1]) rfl rfl rfl (Nat.le_of_ble_eq_true rfl) (Nat.le_of_ble_eq_true rfl) (Nat.le_of_ble_eq_true rfl) (rcv_V rfl (congrArg Prod.fst (kf_8 X.1))) rfl ?_
  refine wp_iload rfl rfl ?_
  refine wp_iflt (tn := 16) rfl rfl (fun c1 => ?_) (fun c1 => ?_)
  · replace H := H.1 c1
    refine wp_iconst rfl ?_
    refine wp_zret rfl rfl (by decide) ?_
    show Wp X _ 23 8 [vr 6, vi x1] [vi 0] _ _
    refine wp_ifneF (tn := 14) rfl rfl (by decide) ?_
    refine wp_iconst rfl ?_
    exact wp_iret rfl rfl H
  · replace H := H.2 c1
    refine wp_iload rfl rfl ?_
    refine wp_aload rfl rfl ?_
    refine wp_getI (j := 8) rfl (congrArg Prod.fst (kf_8 X.1)) rfl ?_
    refine wp_icge (tn := 16) rfl rfl (fun c2 => ?_) (fun c2 => ?_)
    · replace H := H.1 c2
      refine wp_iconst rfl ?_
      refine wp_zret rfl rfl (by decide) ?_
      show Wp X _ 23 8 [vr 6, vi x1] [vi 0] _ _
      refine wp_ifneF (tn := 14) rfl rfl (by decide) ?_
      refine wp_iconst rfl ?_
      exact wp_iret rfl rfl H
    · replace H := H.2 c2
      refine wp_iconst rfl ?_
      refine wp_goto (tn := 17) rfl rfl ?_
      refine wp_zret rfl rfl (by decide) ?_
      show Wp X _ 23 8 [vr 6, vi x1] [vi 1] _ _
      refine wp_ifneT (tn := 14) rfl rfl (by decide) ?_
      refine wp_aload rfl rfl ?_
      refine wp_getR (r := 7) rfl (congrArg Prod.fst (kf_6 X.1)) rfl ?_
      refine wp_iload rfl rfl ?_
      refine wp_call (k := 149) (ρ2 := 1) (L2 := [vr 8, vi x1]) rfl rfl rfl (Nat.le_of_ble_eq_true rfl) (Nat.le_of_ble_eq_true rfl) (Nat.le_of_ble_eq_true rfl) (rcv_V rfl (congrArg Prod.fst (kf_8 X.1))) rfl ?_
      refine wp_aload rfl rfl ?_
      refine wp_iload rfl rfl ?_
      refine wp_call (k := 145) (ρ2 := 0) (L2 := [vr 8, vi x1]) rfl rfl rfl (Nat.le_of_ble_eq_true rfl) (Nat.le_of_ble_eq_true rfl) (Nat.le_of_ble_eq_true rfl) (rcv_V rfl (congrArg Prod.fst (kf_8 X.1))) rfl ?_
      refine wp_iload rfl rfl ?_
      refine wp_ifltF (tn := 16) rfl rfl c1 ?_
      refine wp_iload rfl rfl ?_
      refine wp_aload rfl rfl ?_
      refine wp_getI (j := 8) rfl (congrArg Prod.fst (kf_8 X.1)) rfl ?_
      refine wp_icgeF (tn := 16) rfl rfl c2 ?_
      refine wp_iconst rfl ?_
      refine wp_goto (tn := 17) rfl rfl ?_
      refine wp_zret rfl rfl (by decide) ?_
      show Wp X _ 149 5 [vr 8, vi x1] [vi 1] _ _
      refine wp_ifeqF (tn := 18) rfl rfl (by decide) ?_
      refine wp_aload rfl rfl ?_
      refine wp_getR (r := 33) rfl (congrArg Prod.fst (kf_8 X.1)) rfl ?_
      refine wp_iload rfl rfl ?_
      have g3 := H.1
      replace H := H.2
      refine wp_iaload rfl (kf_34 X.1) g3 ?_
      refine wp_iconst rfl ?_
      refine wp_icne (tn := 22) rfl rfl (fun c4 => ?_) (fun c4 => ?_)
      · replace H := H.1 c4
        refine wp_iconst rfl ?_
        refine wp_zret rfl rfl (by decide) ?_
        show Wp X _ 23 22 [vr 6, vi x1] [vi 0] _ _
        refine wp_ifeqT (tn := 30) rfl rfl (by decide) ?_
        refine wp_aload rfl rfl ?_
        refine wp_getR (r := 36) rfl (congrArg Prod.fst (kf_6 X.1)) rfl ?_
        refine wp_aload rfl rfl ?_
        refine wp_getR (r := 36) rfl (congrArg Prod.fst (kf_6 X.1)) rfl ?_
        refine wp_iload rfl rfl ?_
        exact wp_call (k := 195) (ρ2 := 0) (L2 := [vr 37, vi x1, vu]) rfl rfl rfl (Nat.le_of_ble_eq_true rfl) (Nat.le_of_ble_eq_true rfl) (Nat.le_of_ble_eq_true rfl) (rcv_V rfl (congrArg Prod.fst (kf_37 X.1))) rfl H
      · replace H := H.2 c4
        refine wp_iconst rfl ?_
        refine wp_goto (tn := 23) rfl rfl ?_
        refine wp_zret rfl rfl (by decide) ?_
        show Wp X _ 23 22 [vr 6, vi x1] [vi 1] _ _
        refine wp_ifeqF (tn := 30) rfl rfl (by decide) ?_
        refine wp_iconst rfl ?_
        refine wp_goto (tn := 52) rfl rfl ?_
        exact H
/-- WarnLines.smoothed(I)I, from 42 -/
theorem S23_6_42 {X : Nat × (Int → Int)} {h : HP} {Q : bQ} (zx1 : aV) (s0 : Int) (H : Wp X 1 199 0 [vr 37, vi s0, vi (h 7 7), vu, vu, vu, vu, vu] [] h (fun v h' => Wp X 2 23 52 [vr 6, zx1] (psh v []) h' Q)) : Wp X 2 23 42 [vr 6, zx1] [vi s0, vr 37] h Q := by
  refine wp_aload rfl rfl ?_
  refine wp_getR (r := 6) rfl (congrArg Prod.fst (kf_6 X.1)) rfl ?_
  refine wp_iconst rfl ?_
  refine wp_iaload rfl (kf_7 X.1) (by decide) ?_
  exact wp_call (k := 199) (ρ2 := 1) (L2 := [vr 37, vi s0, vi (h 7 7), vu, vu, vu, vu, vu]) rfl rfl rfl (Nat.le_of_ble_eq_true rfl) (Nat.le_of_ble_eq_true rfl) (Nat.le_of_ble_eq_true rfl) (rcv_V rfl (congrArg Prod.fst (kf_37 X.1))) rfl H
/-- WarnLines.smoothed(I)I, from 52 -/
theorem S23_6_52 {X : Nat × (Int → Int)} {h : HP} {Q : bQ} (zx0 : aV) (zx1 : aV) (s0 : Int) (H : Q (some (vi s0)) h) : Wp X 2 23 52 [zx0, zx1] [vi s0] h Q := by
  exact wp_iret rfl rfl H
/-- WarnLines.sheet(III)I, from 0 -/
theorem S24_6_0 {X : Nat × (Int → Int)} {h : HP} {Q : bQ} (x1 : Int) (x2 : Int) (x3 : Int) (H : ((x1 < 0 → Q (some (vi (-2))) h) ∧ (0 ≤ x1 → ((x1 ≤ 3 → ((x2 < 0 → Q (some (vi (-2))) h) ∧ (0 ≤ x2 → ((x2 ≤ 2 → ((x3 ≤ 60 → ((0 ≤ x3 → ((x1 = 0 → Wp X 1 223 0 [vr 81, vi x2, vi x3, vu] [] h (fun v h' => Wp X 2 24 48 [vr 6, vi 0, vi x2, vi x3] (psh v []) h' Q)) ∧ (x1 = 1 → Wp X 1 223 0 [vr 83, vi x2, vi x3, vu] [] h (fun v h' => Wp X 2 24 48 [vr 6, vi 1, vi x2, vi x3] (psh v []) h' Q)) ∧ (x1 = 2 → Wp X 1 223 0 [vr 85, vi x2, vi x3, vu] [] h (fun v h' => Wp X 2 24 48 [vr 6, vi 2, vi x2, vi x3] (psh v []) h' Q)) ∧ (x1 = 3 → Wp X 1 223 0 [vr 87, vi x2, vi x3, vu] [] h (fun v h' => Wp X 2 24 48 [vr 6, vi 3, vi x2, vi x3] (psh v []) h' Q)))) ∧ (x3 < 0 → Q (some (vi (-15))) (upd2 h 6 10 5)))) ∧ (60 < x3 → Q (some (vi (-2))) h))) ∧ (2 < x2 → Q (some (vi (-2))) h))))) ∧ (3 < x1 → Q (some (vi (-2))) h))))) : Wp X 2 24 0 [vr 6, vi x1, vi x2, vi x3] [] h Q := by
  refine wp_iload rfl rfl ?_
  refine wp_iconst rfl ?_
  refine wp_iconst rfl ?_
  refine wp_call (k := 40) (ρ2 := 0) (L2 := [vi x1, vi 0, vi 3]) rfl rfl rfl (Nat.le_of_ble_eq_true rfl) (Nat.le_of_ble_eq_true rfl) (Nat.le_of_ble_eq_true rfl) (rcv_S rfl) rfl ?_
  refine wp_iload rfl rfl ?_
  refine wp_iload rfl rfl ?_
  refine wp_iclt (tn := 10) rfl rfl (fun c1 => ?_) (fun c1 => ?_)
  · replace H := H.1 c1
    refine wp_iconst rfl ?_
    refine wp_goto (tn := 15) rfl rfl ?_
    refine wp_zret rfl rfl (by decide) ?_
    show Wp X _ 24 6 [vr 6, vi x1, vi x2, vi x3] [vi 1] _ _
    refine wp_ifneT (tn := 24) rfl rfl (by decide) ?_
    refine wp_iconst rfl ?_
    exact wp_iret rfl rfl H
  · replace H := H.2 c1
    refine wp_iload rfl rfl ?_
    refine wp_iload rfl rfl ?_
    refine wp_icle (tn := 14) rfl rfl (fun c2 => ?_) (fun c2 => ?_)
    · replace H := H.1 c2
      refine wp_iconst rfl ?_
      refine wp_zret rfl rfl (by decide) ?_
      show Wp X _ 24 6 [vr 6, vi x1, vi x2, vi x3] [vi 0] _ _
      refine wp_ifneF (tn := 24) rfl rfl (by decide) ?_
      refine wp_iload rfl rfl ?_
      refine wp_iconst rfl ?_
      refine wp_iconst rfl ?_
      refine wp_call (k := 40) (ρ2 := 0) (L2 := [vi x2, vi 0, vi 2]) rfl rfl rfl (Nat.le_of_ble_eq_true rfl) (Nat.le_of_ble_eq_true rfl) (Nat.le_of_ble_eq_true rfl) (rcv_S rfl) rfl ?_
      refine wp_iload rfl rfl ?_
      refine wp_iload rfl rfl ?_
      refine wp_iclt (tn := 10) rfl rfl (fun c3 => ?_) (fun c3 => ?_)
      · replace H := H.1 c3
        refine wp_iconst rfl ?_
        refine wp_goto (tn := 15) rfl rfl ?_
        refine wp_zret rfl rfl (by decide) ?_
        show Wp X _ 24 15 [vr 6, vi x1, vi x2, vi x3] [vi 1] _ _
        refine wp_ifneT (tn := 24) rfl rfl (by decide) ?_
        refine wp_iconst rfl ?_
        exact wp_iret rfl rfl H
      · replace H := H.2 c3
        refine wp_iload rfl rfl ?_
        refine wp_iload rfl rfl ?_
        refine wp_icle (tn := 14) rfl rfl (fun c4 => ?_) (fun c4 => ?_)
        · replace H := H.1 c4
          refine wp_iconst rfl ?_
          refine wp_zret rfl rfl (by decide) ?_
          show Wp X _ 24 15 [vr 6, vi x1, vi x2, vi x3] [vi 0] _ _
          refine wp_ifneF (tn := 24) rfl rfl (by decide) ?_
          refine wp_iload rfl rfl ?_
          refine wp_iconst rfl ?_
          refine wp_icle (tn := 27) rfl rfl (fun c5 => ?_) (fun c5 => ?_)
          · replace H := H.1 c5
            refine wp_iload rfl rfl ?_
            refine wp_ifge (tn := 37) rfl rfl (fun c6 => ?_) (fun c6 => ?_)
            · replace H := H.1 c6
              refine wp_aload rfl rfl ?_
              refine wp_getR (r := 79) rfl (congrArg Prod.fst (kf_6 X.1)) rfl ?_
              refine wp_iload rfl rfl ?_
              rcases (show x1 = 0 ∨ x1 = 1 ∨ x1 = 2 ∨ x1 = 3 by have := (show 0 ≤ x1 ∧ x1 < 4 from ⟨c1, (by clear H; omega)⟩); clear H; omega) with rfl | rfl | rfl | rfl
              · replace H := H.1 rfl
                refine wp_aaload (r := 80) rfl (kf_80 X.1) (by decide) (by decide) rfl ?_
                refine wp_iload rfl rfl ?_
                refine wp_iload rfl rfl ?_
                exact wp_call (k := 223) (ρ2 := 1) (L2 := [vr 81, vi x2, vi x3, vu]) rfl rfl rfl (Nat.le_of_ble_eq_true rfl) (Nat.le_of_ble_eq_true rfl) (Nat.le_of_ble_eq_true rfl) (rcv_V rfl (congrArg Prod.fst (kf_81 X.1))) rfl H
              · replace H := H.2.1 rfl
                refine wp_aaload (r := 82) rfl (kf_80 X.1) (by decide) (by decide) rfl ?_
                refine wp_iload rfl rfl ?_
                refine wp_iload rfl rfl ?_
                exact wp_call (k := 223) (ρ2 := 1) (L2 := [vr 83, vi x2, vi x3, vu]) rfl rfl rfl (Nat.le_of_ble_eq_true rfl) (Nat.le_of_ble_eq_true rfl) (Nat.le_of_ble_eq_true rfl) (rcv_V rfl (congrArg Prod.fst (kf_83 X.1))) rfl H
              · replace H := H.2.2.1 rfl
                refine wp_aaload (r := 84) rfl (kf_80 X.1) (by decide) (by decide) rfl ?_
                refine wp_iload rfl rfl ?_
                refine wp_iload rfl rfl ?_
                exact wp_call (k := 223) (ρ2 := 1) (L2 := [vr 85, vi x2, vi x3, vu]) rfl rfl rfl (Nat.le_of_ble_eq_true rfl) (Nat.le_of_ble_eq_true rfl) (Nat.le_of_ble_eq_true rfl) (rcv_V rfl (congrArg Prod.fst (kf_85 X.1))) rfl H
              · replace H := H.2.2.2 rfl
                refine wp_aaload (r := 86) rfl (kf_80 X.1) (by decide) (by decide) rfl ?_
                refine wp_iload rfl rfl ?_
                refine wp_iload rfl rfl ?_
                exact wp_call (k := 223) (ρ2 := 1) (L2 := [vr 87, vi x2, vi x3, vu]) rfl rfl rfl (Nat.le_of_ble_eq_true rfl) (Nat.le_of_ble_eq_true rfl) (Nat.le_of_ble_eq_true rfl) (rcv_V rfl (congrArg Prod.fst (kf_87 X.1))) rfl H
            · replace H := H.2 c6
              refine wp_aload rfl rfl ?_
              refine wp_iconst rfl ?_
              refine wp_call (k := 38) (ρ2 := 0) (L2 := [vr 6, vi 5]) rfl rfl rfl (Nat.le_of_ble_eq_true rfl) (Nat.le_of_ble_eq_true rfl) (Nat.le_of_ble_eq_true rfl) (rcv_V rfl (congrArg Prod.fst (kf_6 X.1))) rfl ?_
              refine wp_aload rfl rfl ?_
              refine wp_iload rfl rfl ?_
              refine wp_putI (j := 10) rfl (congrArg Prod.fst (kf_6 X.1)) rfl rfl rfl ?_
              refine wp_iconst rfl ?_
              refine wp_iload rfl rfl ?_
              refine wp_isub rfl ?_
              refine Wp.topI (y := (-15)) (by decide) ?_
              refine wp_iret rfl rfl ?_
              show Wp X _ 24 36 [vr 6, vi x1, vi x2, vi x3] [vi (-15)] _ _
              exact wp_iret rfl rfl H
          · replace H := H.2 c5
            refine wp_iconst rfl ?_
            exact wp_iret rfl rfl H
        · replace H := H.2 c4
          refine wp_iconst rfl ?_
          refine wp_goto (tn := 15) rfl rfl ?_
          refine wp_zret rfl rfl (by decide) ?_
          show Wp X _ 24 15 [vr 6, vi x1, vi x2, vi x3] [vi 1] _ _
          refine wp_ifneT (tn := 24) rfl rfl (by decide) ?_
          refine wp_iconst rfl ?_
          exact wp_iret rfl rfl H
    · replace H := H.2 c2
      refine wp_iconst rfl ?_
      refine wp_goto (tn := 15) rfl rfl ?_
      refine wp_zret rfl rfl (by decide) ?_
      show Wp X _ 24 6 [vr 6, vi x1, vi x2, vi x3] [vi 1] _ _
      refine wp_ifneT (tn := 24) rfl rfl (by decide) ?_
      refine wp_iconst rfl ?_
      exact wp_iret rfl rfl H
/-- WarnLines.sheet(III)I, from 48 -/
theorem S24_6_48 {X : Nat × (Int → Int)} {h : HP} {Q : bQ} (zx0 : aV) (zx1 : aV) (zx2 : aV) (x3 : Int) (H : Q (some (vi x3)) h) : Wp X 2 24 48 [zx0, zx1, zx2, vi x3] [] h Q := by
  refine wp_iload rfl rfl ?_
  exact wp_iret rfl rfl H
/-- WarnLines.lose(I)I, from 0 -/
theorem S25_6_0 {X : Nat × (Int → Int)} {h : HP} {Q : bQ} (x1 : Int) (H : ((x1 < 0 → Q (some (vi (-2))) h) ∧ (0 ≤ x1 → ((x1 ≤ 3 → ((x1 = 0 → (((h 81 1) ≠ (-1) → Q (some (vi (h 81 2))) (upd2 (upd2 h 81 1 (-1)) 81 2 0)) ∧ ((h 81 1) = (-1) → Q (some (vi (-11))) (upd2 h 6 10 1)))) ∧ (x1 = 1 → (((h 83 1) ≠ (-1) → Q (some (vi (h 83 2))) (upd2 (upd2 h 83 1 (-1)) 83 2 0)) ∧ ((h 83 1) = (-1) → Q (some (vi (-11))) (upd2 h 6 10 1)))) ∧ (x1 = 2 → (((h 85 1) ≠ (-1) → Q (some (vi (h 85 2))) (upd2 (upd2 h 85 1 (-1)) 85 2 0)) ∧ ((h 85 1) = (-1) → Q (some (vi (-11))) (upd2 h 6 10 1)))) ∧ (x1 = 3 → (((h 87 1) ≠ (-1) → Q (some (vi (h 87 2))) (upd2 (upd2 h 87 1 (-1)) 87 2 0)) ∧ ((h 87 1) = (-1) → Q (some (vi (-11))) (upd2 h 6 10 1)))))) ∧ (3 < x1 → Q (some (vi (-2))) h))))) : Wp X 1 25 0 [vr 6, vi x1, vu] [] h Q := by
  refine wp_iload rfl rfl ?_
  refine wp_iconst rfl ?_
  refine wp_iconst rfl ?_
  refine wp_call (k := 40) (ρ2 := 0) (L2 := [vi x1, vi 0, vi 3]) rfl rfl rfl (Nat.le_of_ble_eq_true rfl) (Nat.le_of_ble_eq_true rfl) (Nat.le_of_ble_eq_true rfl) (rcv_S rfl) rfl ?_
  refine wp_iload rfl rfl ?_
  refine wp_iload rfl rfl ?_
  refine wp_iclt (tn := 10) rfl rfl (fun c1 => ?_) (fun c1 => ?_)
  · replace H := H.1 c1
    refine wp_iconst rfl ?_
    refine wp_goto (tn := 15) rfl rfl ?_
    refine wp_zret rfl rfl (by decide) ?_
    show Wp X _ 25 6 [vr 6, vi x1, vu] [vi 1] _ _
    refine wp_ifeqF (tn := 12) rfl rfl (by decide) ?_
    refine wp_iconst rfl ?_
    exact wp_iret rfl rfl H
  · replace H := H.2 c1
    refine wp_iload rfl rfl ?_
    refine wp_iload rfl rfl ?_
    refine wp_icle (tn := 14) rfl rfl (fun c2 => ?_) (fun c2 => ?_)
    · replace H := H.1 c2
      refine wp_iconst rfl ?_
      refine wp_zret rfl rfl (by decide) ?_
      show Wp X _ 25 6 [vr 6, vi x1, vu] [vi 0] _ _
      refine wp_ifeqT (tn := 12) rfl rfl (by decide) ?_
      refine wp_aload rfl rfl ?_
      refine wp_getR (r := 79) rfl (congrArg Prod.fst (kf_6 X.1)) rfl ?_
      refine wp_iload rfl rfl ?_
      rcases (show x1 = 0 ∨ x1 = 1 ∨ x1 = 2 ∨ x1 = 3 by have := (show 0 ≤ x1 ∧ x1 < 4 from ⟨c1, (by clear H; omega)⟩); clear H; omega) with rfl | rfl | rfl | rfl
      · replace H := H.1 rfl
        refine wp_aaload (r := 80) rfl (kf_80 X.1) (by decide) (by decide) rfl ?_
        refine wp_call (k := 220) (ρ2 := 0) (L2 := [vr 81]) rfl rfl rfl (Nat.le_of_ble_eq_true rfl) (Nat.le_of_ble_eq_true rfl) (Nat.le_of_ble_eq_true rfl) (rcv_V rfl (congrArg Prod.fst (kf_81 X.1))) rfl ?_
        refine wp_aload rfl rfl ?_
        refine wp_getI (j := 1) rfl (congrArg Prod.fst (kf_81 X.1)) rfl ?_
        refine wp_iconst rfl ?_
        refine wp_icne (tn := 12) rfl rfl (fun c3 => ?_) (fun c3 => ?_)
        · replace H := H.1 c3
          refine wp_iconst rfl ?_
          refine wp_zret rfl rfl (by decide) ?_
          show Wp X _ 25 21 [vr 6, vi 0, vu] [vi 0] _ _
          refine wp_ifeqT (tn := 30) rfl rfl (by decide) ?_
          refine wp_aload rfl rfl ?_
          refine wp_getR (r := 79) rfl (congrArg Prod.fst (kf_6 X.1)) rfl ?_
          refine wp_iload rfl rfl ?_
          refine wp_aaload (r := 80) rfl (kf_80 X.1) (by decide) (by decide) rfl ?_
          refine wp_call (k := 222) (ρ2 := 0) (L2 := [vr 81]) rfl rfl rfl (Nat.le_of_ble_eq_true rfl) (Nat.le_of_ble_eq_true rfl) (Nat.le_of_ble_eq_true rfl) (rcv_V rfl (congrArg Prod.fst (kf_81 X.1))) rfl ?_
          refine wp_aload rfl rfl ?_
          refine wp_getI (j := 2) rfl (congrArg Prod.fst (kf_81 X.1)) rfl ?_
          refine wp_iret rfl rfl ?_
          show Wp X _ 25 39 [vr 6, vi 0, vu] [vi (h 81 2)] _ _
          refine wp_istore (L2 := [vr 6, vi 0, vi (h 81 2)]) rfl (Nat.le_of_ble_eq_true rfl) rfl ?_
          refine wp_aload rfl rfl ?_
          refine wp_getR (r := 79) rfl (congrArg Prod.fst (kf_6 X.1)) rfl ?_
          refine wp_iload rfl rfl ?_
          refine wp_aaload (r := 80) rfl (kf_80 X.1) (by decide) (by decide) rfl ?_
          refine wp_call (k := 224) (ρ2 := 0) (L2 := [vr 81]) rfl rfl rfl (Nat.le_of_ble_eq_true rfl) (Nat.le_of_ble_eq_true rfl) (Nat.le_of_ble_eq_true rfl) (rcv_V rfl (congrArg Prod.fst (kf_81 X.1))) rfl ?_
          refine wp_aload rfl rfl ?_
          refine wp_iconst rfl ?_
          refine wp_putI (j := 1) rfl (congrArg Prod.fst (kf_81 X.1)) rfl rfl rfl ?_
          refine wp_aload rfl rfl ?_
          refine wp_iconst rfl ?_
          refine wp_putI (j := 2) rfl (congrArg Prod.fst (kf_81 X.1)) rfl rfl rfl ?_
          refine wp_vret rfl rfl ?_
          show Wp X _ 25 49 [vr 6, vi 0, vi (h 81 2)] [] _ _
          refine wp_iload rfl rfl ?_
          exact wp_iret rfl rfl H
        · replace H := H.2 c3
          refine wp_iconst rfl ?_
          refine wp_goto (tn := 13) rfl rfl ?_
          refine wp_zret rfl rfl (by decide) ?_
          show Wp X _ 25 21 [vr 6, vi 0, vu] [vi 1] _ _
          refine wp_ifeqF (tn := 30) rfl rfl (by decide) ?_
          refine wp_aload rfl rfl ?_
          refine wp_iconst rfl ?_
          refine wp_call (k := 38) (ρ2 := 0) (L2 := [vr 6, vi 1]) rfl rfl rfl (Nat.le_of_ble_eq_true rfl) (Nat.le_of_ble_eq_true rfl) (Nat.le_of_ble_eq_true rfl) (rcv_V rfl (congrArg Prod.fst (kf_6 X.1))) rfl ?_
          refine wp_aload rfl rfl ?_
          refine wp_iload rfl rfl ?_
          refine wp_putI (j := 10) rfl (congrArg Prod.fst (kf_6 X.1)) rfl rfl rfl ?_
          refine wp_iconst rfl ?_
          refine wp_iload rfl rfl ?_
          refine wp_isub rfl ?_
          refine Wp.topI (y := (-11)) (by decide) ?_
          refine wp_iret rfl rfl ?_
          show Wp X _ 25 29 [vr 6, vi 0, vu] [vi (-11)] _ _
          exact wp_iret rfl rfl H
      · replace H := H.2.1 rfl
        refine wp_aaload (r := 82) rfl (kf_80 X.1) (by decide) (by decide) rfl ?_
        refine wp_call (k := 220) (ρ2 := 0) (L2 := [vr 83]) rfl rfl rfl (Nat.le_of_ble_eq_true rfl) (Nat.le_of_ble_eq_true rfl) (Nat.le_of_ble_eq_true rfl) (rcv_V rfl (congrArg Prod.fst (kf_83 X.1))) rfl ?_
        refine wp_aload rfl rfl ?_
        refine wp_getI (j := 1) rfl (congrArg Prod.fst (kf_83 X.1)) rfl ?_
        refine wp_iconst rfl ?_
        refine wp_icne (tn := 12) rfl rfl (fun c4 => ?_) (fun c4 => ?_)
        · replace H := H.1 c4
          refine wp_iconst rfl ?_
          refine wp_zret rfl rfl (by decide) ?_
          show Wp X _ 25 21 [vr 6, vi 1, vu] [vi 0] _ _
          refine wp_ifeqT (tn := 30) rfl rfl (by decide) ?_
          refine wp_aload rfl rfl ?_
          refine wp_getR (r := 79) rfl (congrArg Prod.fst (kf_6 X.1)) rfl ?_
          refine wp_iload rfl rfl ?_
          refine wp_aaload (r := 82) rfl (kf_80 X.1) (by decide) (by decide) rfl ?_
          refine wp_call (k := 222) (ρ2 := 0) (L2 := [vr 83]) rfl rfl rfl (Nat.le_of_ble_eq_true rfl) (Nat.le_of_ble_eq_true rfl) (Nat.le_of_ble_eq_true rfl) (rcv_V rfl (congrArg Prod.fst (kf_83 X.1))) rfl ?_
          refine wp_aload rfl rfl ?_
          refine wp_getI (j := 2) rfl (congrArg Prod.fst (kf_83 X.1)) rfl ?_
          refine wp_iret rfl rfl ?_
          show Wp X _ 25 39 [vr 6, vi 1, vu] [vi (h 83 2)] _ _
          refine wp_istore (L2 := [vr 6, vi 1, vi (h 83 2)]) rfl (Nat.le_of_ble_eq_true rfl) rfl ?_
          refine wp_aload rfl rfl ?_
          refine wp_getR (r := 79) rfl (congrArg Prod.fst (kf_6 X.1)) rfl ?_
          refine wp_iload rfl rfl ?_
          refine wp_aaload (r := 82) rfl (kf_80 X.1) (by decide) (by decide) rfl ?_
          refine wp_call (k := 224) (ρ2 := 0) (L2 := [vr 83]) rfl rfl rfl (Nat.le_of_ble_eq_true rfl) (Nat.le_of_ble_eq_true rfl) (Nat.le_of_ble_eq_true rfl) (rcv_V rfl (congrArg Prod.fst (kf_83 X.1))) rfl ?_
          refine wp_aload rfl rfl ?_
          refine wp_iconst rfl ?_
          refine wp_putI (j := 1) rfl (congrArg Prod.fst (kf_83 X.1)) rfl rfl rfl ?_
          refine wp_aload rfl rfl ?_
          refine wp_iconst rfl ?_
          refine wp_putI (j := 2) rfl (congrArg Prod.fst (kf_83 X.1)) rfl rfl rfl ?_
          refine wp_vret rfl rfl ?_
          show Wp X _ 25 49 [vr 6, vi 1, vi (h 83 2)] [] _ _
          refine wp_iload rfl rfl ?_
          exact wp_iret rfl rfl H
        · replace H := H.2 c4
          refine wp_iconst rfl ?_
          refine wp_goto (tn := 13) rfl rfl ?_
          refine wp_zret rfl rfl (by decide) ?_
          show Wp X _ 25 21 [vr 6, vi 1, vu] [vi 1] _ _
          refine wp_ifeqF (tn := 30) rfl rfl (by decide) ?_
          refine wp_aload rfl rfl ?_
          refine wp_iconst rfl ?_
          refine wp_call (k := 38) (ρ2 := 0) (L2 := [vr 6, vi 1]) rfl rfl rfl (Nat.le_of_ble_eq_true rfl) (Nat.le_of_ble_eq_true rfl) (Nat.le_of_ble_eq_true rfl) (rcv_V rfl (congrArg Prod.fst (kf_6 X.1))) rfl ?_
          refine wp_aload rfl rfl ?_
          refine wp_iload rfl rfl ?_
          refine wp_putI (j := 10) rfl (congrArg Prod.fst (kf_6 X.1)) rfl rfl rfl ?_
          refine wp_iconst rfl ?_
          refine wp_iload rfl rfl ?_
          refine wp_isub rfl ?_
          refine Wp.topI (y := (-11)) (by decide) ?_
          refine wp_iret rfl rfl ?_
          show Wp X _ 25 29 [vr 6, vi 1, vu] [vi (-11)] _ _
          exact wp_iret rfl rfl H
      · replace H := H.2.2.1 rfl
        refine wp_aaload (r := 84) rfl (kf_80 X.1) (by decide) (by decide) rfl ?_
        refine wp_call (k := 220) (ρ2 := 0) (L2 := [vr 85]) rfl rfl rfl (Nat.le_of_ble_eq_true rfl) (Nat.le_of_ble_eq_true rfl) (Nat.le_of_ble_eq_true rfl) (rcv_V rfl (congrArg Prod.fst (kf_85 X.1))) rfl ?_
        refine wp_aload rfl rfl ?_
        refine wp_getI (j := 1) rfl (congrArg Prod.fst (kf_85 X.1)) rfl ?_
        refine wp_iconst rfl ?_
        refine wp_icne (tn := 12) rfl rfl (fun c5 => ?_) (fun c5 => ?_)
        · replace H := H.1 c5
          refine wp_iconst rfl ?_
          refine wp_zret rfl rfl (by decide) ?_
          show Wp X _ 25 21 [vr 6, vi 2, vu] [vi 0] _ _
          refine wp_ifeqT (tn := 30) rfl rfl (by decide) ?_
          refine wp_aload rfl rfl ?_
          refine wp_getR (r := 79) rfl (congrArg Prod.fst (kf_6 X.1)) rfl ?_
          refine wp_iload rfl rfl ?_
          refine wp_aaload (r := 84) rfl (kf_80 X.1) (by decide) (by decide) rfl ?_
          refine wp_call (k := 222) (ρ2 := 0) (L2 := [vr 85]) rfl rfl rfl (Nat.le_of_ble_eq_true rfl) (Nat.le_of_ble_eq_true rfl) (Nat.le_of_ble_eq_true rfl) (rcv_V rfl (congrArg Prod.fst (kf_85 X.1))) rfl ?_
          refine wp_aload rfl rfl ?_
          refine wp_getI (j := 2) rfl (congrArg Prod.fst (kf_85 X.1)) rfl ?_
          refine wp_iret rfl rfl ?_
          show Wp X _ 25 39 [vr 6, vi 2, vu] [vi (h 85 2)] _ _
          refine wp_istore (L2 := [vr 6, vi 2, vi (h 85 2)]) rfl (Nat.le_of_ble_eq_true rfl) rfl ?_
          refine wp_aload rfl rfl ?_
          refine wp_getR (r := 79) rfl (congrArg Prod.fst (kf_6 X.1)) rfl ?_
          refine wp_iload rfl rfl ?_
          refine wp_aaload (r := 84) rfl (kf_80 X.1) (by decide) (by decide) rfl ?_
          refine wp_call (k := 224) (ρ2 := 0) (L2 := [vr 85]) rfl rfl rfl (Nat.le_of_ble_eq_true rfl) (Nat.le_of_ble_eq_true rfl) (Nat.le_of_ble_eq_true rfl) (rcv_V rfl (congrArg Prod.fst (kf_85 X.1))) rfl ?_
          refine wp_aload rfl rfl ?_
          refine wp_iconst rfl ?_
          refine wp_putI (j := 1) rfl (congrArg Prod.fst (kf_85 X.1)) rfl rfl rfl ?_
          refine wp_aload rfl rfl ?_
          refine wp_iconst rfl ?_
          refine wp_putI (j := 2) rfl (congrArg Prod.fst (kf_85 X.1)) rfl rfl rfl ?_
          refine wp_vret rfl rfl ?_
          show Wp X _ 25 49 [vr 6, vi 2, vi (h 85 2)] [] _ _
          refine wp_iload rfl rfl ?_
          exact wp_iret rfl rfl H
        · replace H := H.2 c5
          refine wp_iconst rfl ?_
          refine wp_goto (tn := 13) rfl rfl ?_
          refine wp_zret rfl rfl (by decide) ?_
          show Wp X _ 25 21 [vr 6, vi 2, vu] [vi 1] _ _
          refine wp_ifeqF (tn := 30) rfl rfl (by decide) ?_
          refine wp_aload rfl rfl ?_
          refine wp_iconst rfl ?_
          refine wp_call (k := 38) (ρ2 := 0) (L2 := [vr 6, vi 1]) rfl rfl rfl (Nat.le_of_ble_eq_true rfl) (Nat.le_of_ble_eq_true rfl) (Nat.le_of_ble_eq_true rfl) (rcv_V rfl (congrArg Prod.fst (kf_6 X.1))) rfl ?_
          refine wp_aload rfl rfl ?_
          refine wp_iload rfl rfl ?_
          refine wp_putI (j := 10) rfl (congrArg Prod.fst (kf_6 X.1)) rfl rfl rfl ?_
          refine wp_iconst rfl ?_
          refine wp_iload rfl rfl ?_
          refine wp_isub rfl ?_
          refine Wp.topI (y := (-11)) (by decide) ?_
          refine wp_iret rfl rfl ?_
          show Wp X _ 25 29 [vr 6, vi 2, vu] [vi (-11)] _ _
          exact wp_iret rfl rfl H
      · replace H := H.2.2.2 rfl
        refine wp_aaload (r := 86) rfl (kf_80 X.1) (by decide) (by decide) rfl ?_
        refine wp_call (k := 220) (ρ2 := 0) (L2 := [vr 87]) rfl rfl rfl (Nat.le_of_ble_eq_true rfl) (Nat.le_of_ble_eq_true rfl) (Nat.le_of_ble_eq_true rfl) (rcv_V rfl (congrArg Prod.fst (kf_87 X.1))) rfl ?_
        refine wp_aload rfl rfl ?_
        refine wp_getI (j := 1) rfl (congrArg Prod.fst (kf_87 X.1)) rfl ?_
        refine wp_iconst rfl ?_
        refine wp_icne (tn := 12) rfl rfl (fun c6 => ?_) (fun c6 => ?_)
        · replace H := H.1 c6
          refine wp_iconst rfl ?_
          refine wp_zret rfl rfl (by decide) ?_
          show Wp X _ 25 21 [vr 6, vi 3, vu] [vi 0] _ _
          refine wp_ifeqT (tn := 30) rfl rfl (by decide) ?_
          refine wp_aload rfl rfl ?_
          refine wp_getR (r := 79) rfl (congrArg Prod.fst (kf_6 X.1)) rfl ?_
          refine wp_iload rfl rfl ?_
          refine wp_aaload (r := 86) rfl (kf_80 X.1) (by decide) (by decide) rfl ?_
          refine wp_call (k := 222) (ρ2 := 0) (L2 := [vr 87]) rfl rfl rfl (Nat.le_of_ble_eq_true rfl) (Nat.le_of_ble_eq_true rfl) (Nat.le_of_ble_eq_true rfl) (rcv_V rfl (congrArg Prod.fst (kf_87 X.1))) rfl ?_
          refine wp_aload rfl rfl ?_
          refine wp_getI (j := 2) rfl (congrArg Prod.fst (kf_87 X.1)) rfl ?_
          refine wp_iret rfl rfl ?_
          show Wp X _ 25 39 [vr 6, vi 3, vu] [vi (h 87 2)] _ _
          refine wp_istore (L2 := [vr 6, vi 3, vi (h 87 2)]) rfl (Nat.le_of_ble_eq_true rfl) rfl ?_
          refine wp_aload rfl rfl ?_
          refine wp_getR (r := 79) rfl (congrArg Prod.fst (kf_6 X.1)) rfl ?_
          refine wp_iload rfl rfl ?_
          refine wp_aaload (r := 86) rfl (kf_80 X.1) (by decide) (by decide) rfl ?_
          refine wp_call (k := 224) (ρ2 := 0) (L2 := [vr 87]) rfl rfl rfl (Nat.le_of_ble_eq_true rfl) (Nat.le_of_ble_eq_true rfl) (Nat.le_of_ble_eq_true rfl) (rcv_V rfl (congrArg Prod.fst (kf_87 X.1))) rfl ?_
          refine wp_aload rfl rfl ?_
          refine wp_iconst rfl ?_
          refine wp_putI (j := 1) rfl (congrArg Prod.fst (kf_87 X.1)) rfl rfl rfl ?_
          refine wp_aload rfl rfl ?_
          refine wp_iconst rfl ?_
          refine wp_putI (j := 2) rfl (congrArg Prod.fst (kf_87 X.1)) rfl rfl rfl ?_
          refine wp_vret rfl rfl ?_
          show Wp X _ 25 49 [vr 6, vi 3, vi (h 87 2)] [] _ _
          refine wp_iload rfl rfl ?_
          exact wp_iret rfl rfl H
        · replace H := H.2 c6
          refine wp_iconst rfl ?_
          refine wp_goto (tn := 13) rfl rfl ?_
          refine wp_zret rfl rfl (by decide) ?_
          show Wp X _ 25 21 [vr 6, vi 3, vu] [vi 1] _ _
          refine wp_ifeqF (tn := 30) rfl rfl (by decide) ?_
          refine wp_aload rfl rfl ?_
          refine wp_iconst rfl ?_
          refine wp_call (k := 38) (ρ2 := 0) (L2 := [vr 6, vi 1]) rfl rfl rfl (Nat.le_of_ble_eq_true rfl) (Nat.le_of_ble_eq_true rfl) (Nat.le_of_ble_eq_true rfl) (rcv_V rfl (congrArg Prod.fst (kf_6 X.1))) rfl ?_
          refine wp_aload rfl rfl ?_
          refine wp_iload rfl rfl ?_
          refine wp_putI (j := 10) rfl (congrArg Prod.fst (kf_6 X.1)) rfl rfl rfl ?_
          refine wp_iconst rfl ?_
          refine wp_iload rfl rfl ?_
          refine wp_isub rfl ?_
          refine Wp.topI (y := (-11)) (by decide) ?_
          refine wp_iret rfl rfl ?_
          show Wp X _ 25 29 [vr 6, vi 3, vu] [vi (-11)] _ _
          exact wp_iret rfl rfl H
    · replace H := H.2 c2
      refine wp_iconst rfl ?_
      refine wp_goto (tn := 15) rfl rfl ?_
      refine wp_zret rfl rfl (by decide) ?_
      show Wp X _ 25 6 [vr 6, vi x1, vu] [vi 1] _ _
      refine wp_ifeqF (tn := 12) rfl rfl (by decide) ?_
      refine wp_iconst rfl ?_
      exact wp_iret rfl rfl H
/-- WarnLines.lay(IIII)I, from 0 -/
theorem S26_6_0 {X : Nat × (Int → Int)} {h : HP} {Q : bQ} (x1 : Int) (x2 : Int) (x3 : Int) (x4 : Int) (H : ((x1 < 0 → Q (some (vi (-2))) h) ∧ (0 ≤ x1 → ((x1 ≤ 3 → ((x2 < 0 → Q (some (vi (-2))) h) ∧ (0 ≤ x2 → ((x2 ≤ 2 → ((x1 = 0 → (((h 81 1) ≠ (-1) → (((h 81 1) = x2 → ((x3 < 0 → Q (some (vi (-12))) (upd2 h 6 10 2)) ∧ (0 ≤ x3 → ((R32 ((h 81 2) - 1)) ∧ ((((h 81 2) - 1) < x3 → Q (some (vi (-12))) (upd2 h 6 10 2)) ∧ (x3 ≤ ((h 81 2) - 1) → (((h 81 1) ≠ 0 → (((h 81 1) ≠ 1 → ((0 ≤ x3 ∧ x3 < 60) ∧ Q (some (vi 1)) (upd2 h 82 x3 x4))) ∧ ((h 81 1) = 1 → ((0 ≤ x3 ∧ x3 < 60) ∧ Q (some (vi 1)) (upd2 h 82 x3 (Int.bmod x4 65536)))))) ∧ ((h 81 1) = 0 → ((0 ≤ x3 ∧ x3 < 60) ∧ Q (some (vi 1)) (upd2 h 82 x3 (Int.bmod x4 256))))))))))) ∧ ((h 81 1) ≠ x2 → Q (some (vi (-13))) (upd2 h 6 10 3)))) ∧ ((h 81 1) = (-1) → Q (some (vi (-11))) (upd2 h 6 10 1)))) ∧ (x1 = 1 → (((h 83 1) ≠ (-1) → (((h 83 1) = x2 → ((x3 < 0 → Q (some (vi (-12))) (upd2 h 6 10 2)) ∧ (0 ≤ x3 → ((R32 ((h 83 2) - 1)) ∧ ((((h 83 2) - 1) < x3 → Q (some (vi (-12))) (upd2 h 6 10 2)) ∧ (x3 ≤ ((h 83 2) - 1) → (((h 83 1) ≠ 0 → (((h 83 1) ≠ 1 → ((0 ≤ x3 ∧ x3 < 60) ∧ Q (some (vi 1)) (upd2 h 84 x3 x4))) ∧ ((h 83 1) = 1 → ((0 ≤ x3 ∧ x3 < 60) ∧ Q (some (vi 1)) (upd2 h 84 x3 (Int.bmod x4 65536)))))) ∧ ((h 83 1) = 0 → ((0 ≤ x3 ∧ x3 < 60) ∧ Q (some (vi 1)) (upd2 h 84 x3 (Int.bmod x4 256))))))))))) ∧ ((h 83 1) ≠ x2 → Q (some (vi (-13))) (upd2 h 6 10 3)))) ∧ ((h 83 1) = (-1) → Q (some (vi (-11))) (upd2 h 6 10 1)))) ∧ (x1 = 2 → (((h 85 1) ≠ (-1) → (((h 85 1) = x2 → ((x3 < 0 → Q (some (vi (-12))) (upd2 h 6 10 2)) ∧ (0 ≤ x3 → ((R32 ((h 85 2) - 1)) ∧ ((((h 85 2) - 1) < x3 → Q (some (vi (-12))) (upd2 h 6 10 2)) ∧ (x3 ≤ ((h 85 2) - 1) → (((h 85 1) ≠ 0 → (((h 85 1) ≠ 1 → ((0 ≤ x3 ∧ x3 < 60) ∧ Q (some (vi 1)) (upd2 h 86 x3 x4))) ∧ ((h 85 1) = 1 → ((0 ≤ x3 ∧ x3 < 60) ∧ Q (some (vi 1)) (upd2 h 86 x3 (Int.bmod x4 65536)))))) ∧ ((h 85 1) = 0 → ((0 ≤ x3 ∧ x3 < 60) ∧ Q (some (vi 1)) (upd2 h 86 x3 (Int.bmod x4 256))))))))))) ∧ ((h 85 1) ≠ x2 → Q (some (vi (-13))) (upd2 h 6 10 3)))) ∧ ((h 85 1) = (-1) → Q (some (vi (-11))) (upd2 h 6 10 1)))) ∧ (x1 = 3 → (((h 87 1) ≠ (-1) → (((h 87 1) = x2 → ((x3 < 0 → Q (some (vi (-12))) (upd2 h 6 10 2)) ∧ (0 ≤ x3 → ((R32 ((h 87 2) - 1)) ∧ ((((h 87 2) - 1) < x3 → Q (some (vi (-12))) (upd2 h 6 10 2)) ∧ (x3 ≤ ((h 87 2) - 1) → (((h 87 1) ≠ 0 → (((h 87 1) ≠ 1 → ((0 ≤ x3 ∧ x3 < 60) ∧ Q (some (vi 1)) (upd2 h 88 x3 x4))) ∧ ((h 87 1) = 1 → ((0 ≤ x3 ∧ x3 < 60) ∧ Q (some (vi 1)) (upd2 h 88 x3 (Int.bmod x4 65536)))))) ∧ ((h 87 1) = 0 → ((0 ≤ x3 ∧ x3 < 60) ∧ Q (some (vi 1)) (upd2 h 88 x3 (Int.bmod x4 256))))))))))) ∧ ((h 87 1) ≠ x2 → Q (some (vi (-13))) (upd2 h 6 10 3)))) ∧ ((h 87 1) = (-1) → Q (some (vi (-11))) (upd2 h 6 10 1)))))) ∧ (2 < x2 → Q (some (vi (-2))) h))))) ∧ (3 < x1 → Q (some (vi (-2))) h))))) : Wp X 2 26 0 [vr 6, vi x1, vi x2, vi x3, vi x4, vu] [] h Q := by
  refine wp_iload rfl rfl ?_
  refine wp_iconst rfl ?_
  refine wp_iconst rfl ?_
  refine wp_call (k := 40) (ρ2 := 0) (L2 := [vi x1, vi 0, vi 3]) rfl rfl rfl (Nat.le_of_ble_eq_true rfl) (Nat.le_of_ble_eq_true rfl) (Nat.le_of_ble_eq_true rfl) (rcv_S rfl) rfl ?_
  refine wp_iload rfl rfl ?_
  refine wp_iload rfl rfl ?_
  refine wp_iclt (tn := 10) rfl rfl (fun c1 => ?_) (fun c1 => ?_)
  · replace H := H.1 c1
    refine wp_iconst rfl ?_
    refine wp_goto (tn := 15) rfl rfl ?_
    refine wp_zret rfl rfl (by decide) ?_
    show Wp X _ 26 6 [vr 6, vi x1, vi x2, vi x3, vi x4, vu] [vi 1] _ _
    refine wp_ifneT (tn := 18) rfl rfl (by decide) ?_
    refine wp_iconst rfl ?_
    exact wp_iret rfl rfl H
  · replace H := H.2 c1
    refine wp_iload rfl rfl ?_
    refine wp_iload rfl rfl ?_
    refine wp_icle (tn := 14) rfl rfl (fun c2 => ?_) (fun c2 => ?_)
    · replace H := H.1 c2
      refine wp_iconst rfl ?_
      refine wp_zret rfl rfl (by decide) ?_
      show Wp X _ 26 6 [vr 6, vi x1, vi x2, vi x3, vi x4, vu] [vi 0] _ _
      refine wp_ifneF (tn := 18) rfl rfl (by decide) ?_
      refine wp_iload rfl rfl ?_
      refine wp_iconst rfl ?_
      refine wp_iconst rfl ?_
      refine wp_call (k := 40) (ρ2 := 0) (L2 := [vi x2, vi 0, vi 2]) rfl rfl rfl (Nat.le_of_ble_eq_true rfl) (Nat.le_of_ble_eq_true rfl) (Nat.le_of_ble_eq_true rfl) (rcv_S rfl) rfl ?_
      refine wp_iload rfl rfl ?_
      refine wp_iload rfl rfl ?_
      refine wp_iclt (tn := 10) rfl rfl (fun c3 => ?_) (fun c3 => ?_)
      · replace H := H.1 c3
        refine wp_iconst rfl ?_
        refine wp_goto (tn := 15) rfl rfl ?_
        refine wp_zret rfl rfl (by decide) ?_
        show Wp X _ 26 15 [vr 6, vi x1, vi x2, vi x3, vi x4, vu] [vi 1] _ _
        refine wp_ifeqF (tn := 21) rfl rfl (by decide) ?_
        refine wp_iconst rfl ?_
        exact wp_iret rfl rfl H
      · replace H := H.2 c3
        refine wp_iload rfl rfl ?_
        refine wp_iload rfl rfl ?_
        refine wp_icle (tn := 14) rfl rfl (fun c4 => ?_) (fun c4 => ?_)
        · replace H := H.1 c4
          refine wp_iconst rfl ?_
          refine wp_zret rfl rfl (by decide) ?_
          show Wp X _ 26 15 [vr 6, vi x1, vi x2, vi x3, vi x4, vu] [vi 0] _ _
          refine wp_ifeqT (tn := 21) rfl rfl (by decide) ?_
          refine wp_aload rfl rfl ?_
          refine wp_getR (r := 79) rfl (congrArg Prod.fst (kf_6 X.1)) rfl ?_
          refine wp_iload rfl rfl ?_
          rcases (show x1 = 0 ∨ x1 = 1 ∨ x1 = 2 ∨ x1 = 3 by have := (show 0 ≤ x1 ∧ x1 < 4 from ⟨c1, (by clear H; omega)⟩); clear H; omega) with rfl | rfl | rfl | rfl
          · replace H := H.1 rfl
            refine wp_aaload (r := 80) rfl (kf_80 X.1) (by decide) (by decide) rfl ?_
            refine wp_iload rfl rfl ?_
            refine wp_iload rfl rfl ?_
            refine wp_call (k := 225) (ρ2 := 1) (L2 := [vr 81, vi x2, vi x3]) rfl rfl rfl (Nat.le_of_ble_eq_true rfl) (Nat.le_of_ble_eq_true rfl) (Nat.le_of_ble_eq_true rfl) (rcv_V rfl (congrArg Prod.fst (kf_81 X.1))) rfl ?_
            refine wp_aload rfl rfl ?_
            refine wp_call (k := 220) (ρ2 := 0) (L2 := [vr 81]) rfl rfl rfl (Nat.le_of_ble_eq_true rfl) (Nat.le_of_ble_eq_true rfl) (Nat.le_of_ble_eq_true rfl) (rcv_V rfl (congrArg Prod.fst (kf_81 X.1))) rfl ?_
            refine wp_aload rfl rfl ?_
            refine wp_getI (j := 1) rfl (congrArg Prod.fst (kf_81 X.1)) rfl ?_
            refine wp_iconst rfl ?_
            refine wp_icne (tn := 12) rfl rfl (fun c5 => ?_) (fun c5 => ?_)
            · replace H := H.1 c5
              refine wp_iconst rfl ?_
              refine wp_zret rfl rfl (by decide) ?_
              show Wp X _ 225 4 [vr 81, vi x2, vi x3] [vi 0] _ _
              refine wp_ifeqT (tn := 9) rfl rfl (by decide) ?_
              refine wp_aload rfl rfl ?_
              refine wp_getI (j := 1) rfl (congrArg Prod.fst (kf_81 X.1)) rfl ?_
              refine wp_iload rfl rfl ?_
              refine wp_iceq (tn := 19) rfl rfl (fun c6 => ?_) (fun c6 => ?_)
              · replace H := H.1 c6
                refine wp_aload rfl rfl ?_
                refine wp_iload rfl rfl ?_
                refine wp_iconst rfl ?_
                refine wp_call (k := 226) (ρ2 := 0) (L2 := [vr 81, vi x3, vi 1]) rfl rfl rfl (Nat.le_of_ble_eq_true rfl) (Nat.le_of_ble_eq_true rfl) (Nat.le_of_ble_eq_true rfl) (rcv_V rfl (congrArg Prod.fst (kf_81 X.1))) rfl ?_
                refine wp_iload rfl rfl ?_
                refine wp_iflt (tn := 22) rfl rfl (fun c7 => ?_) (fun c7 => ?_)
                · replace H := H.1 c7
                  refine wp_iconst rfl ?_
                  refine wp_zret rfl rfl (by decide) ?_
                  show Wp X _ 225 25 [vr 81, vi x2, vi x3] [vi 0] _ _
                  refine wp_ifeqT (tn := 32) rfl rfl (by decide) ?_
                  refine wp_iconst rfl ?_
                  refine wp_iret rfl rfl ?_
                  show Wp X _ 26 32 [vr 6, vi 0, vi x2, vi x3, vi x4, vu] [vi 2] _ _
                  refine wp_istore (L2 := [vr 6, vi 0, vi x2, vi x3, vi x4, vi 2]) rfl (Nat.le_of_ble_eq_true rfl) rfl ?_
                  refine wp_iload rfl rfl ?_
                  refine wp_ifeqF (tn := 46) rfl rfl (by decide) ?_
                  refine wp_aload rfl rfl ?_
                  refine wp_iload rfl rfl ?_
                  refine wp_call (k := 38) (ρ2 := 0) (L2 := [vr 6, vi 2]) rfl rfl rfl (Nat.le_of_ble_eq_true rfl) (Nat.le_of_ble_eq_true rfl) (Nat.le_of_ble_eq_true rfl) (rcv_V rfl (congrArg Prod.fst (kf_6 X.1))) rfl ?_
                  refine wp_aload rfl rfl ?_
                  refine wp_iload rfl rfl ?_
                  refine wp_putI (j := 10) rfl (congrArg Prod.fst (kf_6 X.1)) rfl rfl rfl ?_
                  refine wp_iconst rfl ?_
                  refine wp_iload rfl rfl ?_
                  refine wp_isub rfl ?_
                  refine Wp.topI (y := (-12)) (by decide) ?_
                  refine wp_iret rfl rfl ?_
                  show Wp X _ 26 45 [vr 6, vi 0, vi x2, vi x3, vi x4, vi 2] [vi (-12)] _ _
                  exact wp_iret rfl rfl H
                · replace H := H.2 c7
                  refine wp_iload rfl rfl ?_
                  refine wp_ifltF (tn := 22) rfl rfl (by decide) ?_
                  refine wp_iload rfl rfl ?_
                  refine wp_aload rfl rfl ?_
                  refine wp_getI (j := 2) rfl (congrArg Prod.fst (kf_81 X.1)) rfl ?_
                  refine wp_iload rfl rfl ?_
                  refine wp_isub rfl ?_
                  have g8 := H.1
                  replace H := H.2
                  refine Wp.topI (y := ((h 81 2) - 1)) (w32_I g8) ?_
                  refine wp_icgt (tn := 22) rfl rfl (fun c9 => ?_) (fun c9 => ?_)
                  · replace H := H.1 c9
                    refine wp_iconst rfl ?_
                    refine wp_zret rfl rfl (by decide) ?_
                    show Wp X _ 225 25 [vr 81, vi x2, vi x3] [vi 0] _ _
                    refine wp_ifeqT (tn := 32) rfl rfl (by decide) ?_
                    refine wp_iconst rfl ?_
                    refine wp_iret rfl rfl ?_
                    show Wp X _ 26 32 [vr 6, vi 0, vi x2, vi x3, vi x4, vu] [vi 2] _ _
                    refine wp_istore (L2 := [vr 6, vi 0, vi x2, vi x3, vi x4, vi 2]) rfl (Nat.le_of_ble_eq_true rfl) rfl ?_
                    refine wp_iload rfl rfl ?_
                    refine wp_ifeqF (tn := 46) rfl rfl (by decide) ?_
                    refine wp_aload rfl rfl ?_
                    refine wp_iload rfl rfl ?_
                    refine wp_call (k := 38) (ρ2 := 0) (L2 := [vr 6, vi 2]) rfl rfl rfl (Nat.le_of_ble_eq_true rfl) (Nat.le_of_ble_eq_true rfl) (Nat.le_of_ble_eq_true rfl) (rcv_V rfl (congrArg Prod.fst (kf_6 X.1))) rfl ?_
                    refine wp_aload rfl rfl ?_
                    refine wp_iload rfl rfl ?_
                    refine wp_putI (j := 10) rfl (congrArg Prod.fst (kf_6 X.1)) rfl rfl rfl ?_
                    refine wp_iconst rfl ?_
                    refine wp_iload rfl rfl ?_
                    refine wp_isub rfl ?_
                    refine Wp.topI (y := (-12)) (by decide) ?_
                    refine wp_iret rfl rfl ?_
                    show Wp X _ 26 45 [vr 6, vi 0, vi x2, vi x3, vi x4, vi 2] [vi (-12)] _ _
                    exact wp_iret rfl rfl H
                  · replace H := H.2 c9
                    refine wp_iconst rfl ?_
                    refine wp_goto (tn := 23) rfl rfl ?_
                    refine wp_zret rfl rfl (by decide) ?_
                    show Wp X _ 225 25 [vr 81, vi x2, vi x3] [vi 1] _ _
                    refine wp_ifeqF (tn := 32) rfl rfl (by decide) ?_
                    refine wp_iconst rfl ?_
                    refine wp_goto (tn := 33) rfl rfl ?_
                    refine wp_iret rfl rfl ?_
                    show Wp X _ 26 32 [vr 6, vi 0, vi x2, vi x3, vi x4, vu] [vi 0] _ _
                    refine wp_istore (L2 := [vr 6, vi 0, vi x2, vi x3, vi x4, vi 0]) rfl (Nat.le_of_ble_eq_true rfl) rfl ?_
                    refine wp_iload rfl rfl ?_
                    refine wp_ifeqT (tn := 46) rfl rfl (by decide) ?_
                    refine wp_aload rfl rfl ?_
                    refine wp_getR (r := 79) rfl (congrArg Prod.fst (kf_6 X.1)) rfl ?_
                    refine wp_iload rfl rfl ?_
                    refine wp_aaload (r := 80) rfl (kf_80 X.1) (by decide) (by decide) rfl ?_
                    refine wp_iload rfl rfl ?_
                    refine wp_iload rfl rfl ?_
                    refine wp_call (k := 228) (ρ2 := 1) (L2 := [vr 81, vi x3, vi x4]) rfl rfl rfl (Nat.le_of_ble_eq_true rfl) (Nat.le_of_ble_eq_true rfl) (Nat.le_of_ble_eq_true rfl) (rcv_V rfl (congrArg Prod.fst (kf_81 X.1))) rfl ?_
                    refine wp_aload rfl rfl ?_
                    refine wp_iload rfl rfl ?_
                    refine wp_iconst rfl ?_
                    refine wp_call (k := 226) (ρ2 := 0) (L2 := [vr 81, vi x3, vi 1]) rfl rfl rfl (Nat.le_of_ble_eq_true rfl) (Nat.le_of_ble_eq_true rfl) (Nat.le_of_ble_eq_true rfl) (rcv_V rfl (congrArg Prod.fst (kf_81 X.1))) rfl ?_
                    refine wp_iload rfl rfl ?_
                    refine wp_ifltF (tn := 22) rfl rfl c7 ?_
                    refine wp_iload rfl rfl ?_
                    refine wp_ifltF (tn := 22) rfl rfl (by decide) ?_
                    refine wp_iload rfl rfl ?_
                    refine wp_aload rfl rfl ?_
                    refine wp_getI (j := 2) rfl (congrArg Prod.fst (kf_81 X.1)) rfl ?_
                    refine wp_iload rfl rfl ?_
                    refine wp_isub rfl ?_
                    refine Wp.topI (y := ((h 81 2) - 1)) (w32_I g8) ?_
                    refine wp_icgtF (tn := 22) rfl rfl c9 ?_
                    refine wp_iconst rfl ?_
                    refine wp_goto (tn := 23) rfl rfl ?_
                    refine wp_zret rfl rfl (by decide) ?_
                    show Wp X _ 228 6 [vr 81, vi x3, vi x4] [vi 1] _ _
                    refine wp_ifeqF (tn := 41) rfl rfl (by decide) ?_
                    refine wp_aload rfl rfl ?_
                    refine wp_getR (r := 81) rfl (congrArg Prod.fst (kf_81 X.1)) rfl ?_
                    refine wp_iload rfl rfl ?_
                    refine wp_aload rfl rfl ?_
                    refine wp_getI (j := 1) rfl (congrArg Prod.fst (kf_81 X.1)) rfl ?_
                    refine wp_ifne (tn := 26) rfl rfl (fun c10 => ?_) (fun c10 => ?_)
                    · replace H := H.1 c10
                      refine wp_aload rfl rfl ?_
                      refine wp_getI (j := 1) rfl (congrArg Prod.fst (kf_81 X.1)) rfl ?_
                      refine wp_iconst rfl ?_
                      refine wp_icne (tn := 39) rfl rfl (fun c11 => ?_) (fun c11 => ?_)
                      · replace H := H.1 c11
                        refine wp_iload rfl rfl ?_
                        have g12 := H.1
                        replace H := H.2
                        refine wp_iastore rfl (kf_82 X.1) g12 ?_
                        refine wp_vret rfl rfl ?_
                        show Wp X _ 26 58 [vr 6, vi 0, vi x2, vi x3, vi x4, vi 0] [] _ _
                        refine wp_iconst rfl ?_
                        exact wp_iret rfl rfl H
                      · replace H := H.2 c11
                        refine wp_iload rfl rfl ?_
                        refine wp_i2s rfl ?_
                        refine wp_goto (tn := 40) rfl rfl ?_
                        have g13 := H.1
                        replace H := H.2
                        refine wp_iastore rfl (kf_82 X.1) g13 ?_
                        refine wp_vret rfl rfl ?_
                        show Wp X _ 26 58 [vr 6, vi 0, vi x2, vi x3, vi x4, vi 0] [] _ _
                        refine wp_iconst rfl ?_
                        exact wp_iret rfl rfl H
                    · replace H := H.2 c10
                      refine wp_iload rfl rfl ?_
                      refine wp_i2b rfl ?_
                      refine wp_goto (tn := 40) rfl rfl ?_
                      have g14 := H.1
                      replace H := H.2
                      refine wp_iastore rfl (kf_82 X.1) g14 ?_
                      refine wp_vret rfl rfl ?_
                      show Wp X _ 26 58 [vr 6, vi 0, vi x2, vi x3, vi x4, vi 0] [] _ _
                      refine wp_iconst rfl ?_
                      exact wp_iret rfl rfl H
              · replace H := H.2 c6
                refine wp_iconst rfl ?_
                refine wp_iret rfl rfl ?_
                show Wp X _ 26 32 [vr 6, vi 0, vi x2, vi x3, vi x4, vu] [vi 3] _ _
                refine wp_istore (L2 := [vr 6, vi 0, vi x2, vi x3, vi x4, vi 3]) rfl (Nat.le_of_ble_eq_true rfl) rfl ?_
                refine wp_iload rfl rfl ?_
                refine wp_ifeqF (tn := 46) rfl rfl (by decide) ?_
                refine wp_aload rfl rfl ?_
                refine wp_iload rfl rfl ?_
                refine wp_call (k := 38) (ρ2 := 0) (L2 := [vr 6, vi 3]) rfl rfl rfl (Nat.le_of_ble_eq_true rfl) (Nat.le_of_ble_eq_true rfl) (Nat.le_of_ble_eq_true rfl) (rcv_V rfl (congrArg Prod.fst (kf_6 X.1))) rfl ?_
                refine wp_aload rfl rfl ?_
                refine wp_iload rfl rfl ?_
                refine wp_putI (j := 10) rfl (congrArg Prod.fst (kf_6 X.1)) rfl rfl rfl ?_
                refine wp_iconst rfl ?_
                refine wp_iload rfl rfl ?_
                refine wp_isub rfl ?_
                refine Wp.topI (y := (-13)) (by decide) ?_
                refine wp_iret rfl rfl ?_
                show Wp X _ 26 45 [vr 6, vi 0, vi x2, vi x3, vi x4, vi 3] [vi (-13)] _ _
                exact wp_iret rfl rfl H
            · replace H := H.2 c5
              refine wp_iconst rfl ?_
              refine wp_goto (tn := 13) rfl rfl ?_
              refine wp_zret rfl rfl (by decide) ?_
              show Wp X _ 225 4 [vr 81, vi x2, vi x3] [vi 1] _ _
              refine wp_ifeqF (tn := 9) rfl rfl (by decide) ?_
              refine wp_iconst rfl ?_
              refine wp_iret rfl rfl ?_
              show Wp X _ 26 32 [vr 6, vi 0, vi x2, vi x3, vi x4, vu] [vi 1] _ _
              refine wp_istore (L2 := [vr 6, vi 0, vi x2, vi x3, vi x4, vi 1]) rfl (Nat.le_of_ble_eq_true rfl) rfl ?_
              refine wp_iload rfl rfl ?_
              refine wp_ifeqF (tn := 46) rfl rfl (by decide) ?_
              refine wp_aload rfl rfl ?_
              refine wp_iload rfl rfl ?_
              refine wp_call (k := 38) (ρ2 := 0) (L2 := [vr 6, vi 1]) rfl rfl rfl (Nat.le_of_ble_eq_true rfl) (Nat.le_of_ble_eq_true rfl) (Nat.le_of_ble_eq_true rfl) (rcv_V rfl (congrArg Prod.fst (kf_6 X.1))) rfl ?_
              refine wp_aload rfl rfl ?_
              refine wp_iload rfl rfl ?_
              refine wp_putI (j := 10) rfl (congrArg Prod.fst (kf_6 X.1)) rfl rfl rfl ?_
              refine wp_iconst rfl ?_
              refine wp_iload rfl rfl ?_
              refine wp_isub rfl ?_
              refine Wp.topI (y := (-11)) (by decide) ?_
              refine wp_iret rfl rfl ?_
              show Wp X _ 26 45 [vr 6, vi 0, vi x2, vi x3, vi x4, vi 1] [vi (-11)] _ _
              exact wp_iret rfl rfl H
          · replace H := H.2.1 rfl
            refine wp_aaload (r := 82) rfl (kf_80 X.1) (by decide) (by decide) rfl ?_
            refine wp_iload rfl rfl ?_
            refine wp_iload rfl rfl ?_
            refine wp_call (k := 225) (ρ2 := 1) (L2 := [vr 83, vi x2, vi x3]) rfl rfl rfl (Nat.le_of_ble_eq_true rfl) (Nat.le_of_ble_eq_true rfl) (Nat.le_of_ble_eq_true rfl) (rcv_V rfl (congrArg Prod.fst (kf_83 X.1))) rfl ?_
            refine wp_aload rfl rfl ?_
            refine wp_call (k := 220) (ρ2 := 0) (L2 := [vr 83]) rfl rfl rfl (Nat.le_of_ble_eq_true rfl) (Nat.le_of_ble_eq_true rfl) (Nat.le_of_ble_eq_true rfl) (rcv_V rfl (congrArg Prod.fst (kf_83 X.1))) rfl ?_
            refine wp_aload rfl rfl ?_
            refine wp_getI (j := 1) rfl (congrArg Prod.fst (kf_83 X.1)) rfl ?_
            refine wp_iconst rfl ?_
            refine wp_icne (tn := 12) rfl rfl (fun c15 => ?_) (fun c15 => ?_)
            · replace H := H.1 c15
              refine wp_iconst rfl ?_
              refine wp_zret rfl rfl (by decide) ?_
              show Wp X _ 225 4 [vr 83, vi x2, vi x3] [vi 0] _ _
              refine wp_ifeqT (tn := 9) rfl rfl (by decide) ?_
              refine wp_aload rfl rfl ?_
              refine wp_getI (j := 1) rfl (congrArg Prod.fst (kf_83 X.1)) rfl ?_
              refine wp_iload rfl rfl ?_
              refine wp_iceq (tn := 19) rfl rfl (fun c16 => ?_) (fun c16 => ?_)
              · replace H := H.1 c16
                refine wp_aload rfl rfl ?_
                refine wp_iload rfl rfl ?_
                refine wp_iconst rfl ?_
                refine wp_call (k := 226) (ρ2 := 0) (L2 := [vr 83, vi x3, vi 1]) rfl rfl rfl (Nat.le_of_ble_eq_true rfl) (Nat.le_of_ble_eq_true rfl) (Nat.le_of_ble_eq_true rfl) (rcv_V rfl (congrArg Prod.fst (kf_83 X.1))) rfl ?_
                refine wp_iload rfl rfl ?_
                refine wp_iflt (tn := 22) rfl rfl (fun c17 => ?_) (fun c17 => ?_)
                · replace H := H.1 c17
                  refine wp_iconst rfl ?_
                  refine wp_zret rfl rfl (by decide) ?_
                  show Wp X _ 225 25 [vr 83, vi x2, vi x3] [vi 0] _ _
                  refine wp_ifeqT (tn := 32) rfl rfl (by decide) ?_
                  refine wp_iconst rfl ?_
                  refine wp_iret rfl rfl ?_
                  show Wp X _ 26 32 [vr 6, vi 1, vi x2, vi x3, vi x4, vu] [vi 2] _ _
                  refine wp_istore (L2 := [vr 6, vi 1, vi x2, vi x3, vi x4, vi 2]) rfl (Nat.le_of_ble_eq_true rfl) rfl ?_
                  refine wp_iload rfl rfl ?_
                  refine wp_ifeqF (tn := 46) rfl rfl (by decide) ?_
                  refine wp_aload rfl rfl ?_
                  refine wp_iload rfl rfl ?_
                  refine wp_call (k := 38) (ρ2 := 0) (L2 := [vr 6, vi 2]) rfl rfl rfl (Nat.le_of_ble_eq_true rfl) (Nat.le_of_ble_eq_true rfl) (Nat.le_of_ble_eq_true rfl) (rcv_V rfl (congrArg Prod.fst (kf_6 X.1))) rfl ?_
                  refine wp_aload rfl rfl ?_
                  refine wp_iload rfl rfl ?_
                  refine wp_putI (j := 10) rfl (congrArg Prod.fst (kf_6 X.1)) rfl rfl rfl ?_
                  refine wp_iconst rfl ?_
                  refine wp_iload rfl rfl ?_
                  refine wp_isub rfl ?_
                  refine Wp.topI (y := (-12)) (by decide) ?_
                  refine wp_iret rfl rfl ?_
                  show Wp X _ 26 45 [vr 6, vi 1, vi x2, vi x3, vi x4, vi 2] [vi (-12)] _ _
                  exact wp_iret rfl rfl H
                · replace H := H.2 c17
                  refine wp_iload rfl rfl ?_
                  refine wp_ifltF (tn := 22) rfl rfl (by decide) ?_
                  refine wp_iload rfl rfl ?_
                  refine wp_aload rfl rfl ?_
                  refine wp_getI (j := 2) rfl (congrArg Prod.fst (kf_83 X.1)) rfl ?_
                  refine wp_iload rfl rfl ?_
                  refine wp_isub rfl ?_
                  have g18 := H.1
                  replace H := H.2
                  refine Wp.topI (y := ((h 83 2) - 1)) (w32_I g18) ?_
                  refine wp_icgt (tn := 22) rfl rfl (fun c19 => ?_) (fun c19 => ?_)
                  · replace H := H.1 c19
                    refine wp_iconst rfl ?_
                    refine wp_zret rfl rfl (by decide) ?_
                    show Wp X _ 225 25 [vr 83, vi x2, vi x3] [vi 0] _ _
                    refine wp_ifeqT (tn := 32) rfl rfl (by decide) ?_
                    refine wp_iconst rfl ?_
                    refine wp_iret rfl rfl ?_
                    show Wp X _ 26 32 [vr 6, vi 1, vi x2, vi x3, vi x4, vu] [vi 2] _ _
                    refine wp_istore (L2 := [vr 6, vi 1, vi x2, vi x3, vi x4, vi 2]) rfl (Nat.le_of_ble_eq_true rfl) rfl ?_
                    refine wp_iload rfl rfl ?_
                    refine wp_ifeqF (tn := 46) rfl rfl (by decide) ?_
                    refine wp_aload rfl rfl ?_
                    refine wp_iload rfl rfl ?_
                    refine wp_call (k := 38) (ρ2 := 0) (L2 := [vr 6, vi 2]) rfl rfl rfl (Nat.le_of_ble_eq_true rfl) (Nat.le_of_ble_eq_true rfl) (Nat.le_of_ble_eq_true rfl) (rcv_V rfl (congrArg Prod.fst (kf_6 X.1))) rfl ?_
                    refine wp_aload rfl rfl ?_
                    refine wp_iload rfl rfl ?_
                    refine wp_putI (j := 10) rfl (congrArg Prod.fst (kf_6 X.1)) rfl rfl rfl ?_
                    refine wp_iconst rfl ?_
                    refine wp_iload rfl rfl ?_
                    refine wp_isub rfl ?_
                    refine Wp.topI (y := (-12)) (by decide) ?_
                    refine wp_iret rfl rfl ?_
                    show Wp X _ 26 45 [vr 6, vi 1, vi x2, vi x3, vi x4, vi 2] [vi (-12)] _ _
                    exact wp_iret rfl rfl H
                  · replace H := H.2 c19
                    refine wp_iconst rfl ?_
                    refine wp_goto (tn := 23) rfl rfl ?_
                    refine wp_zret rfl rfl (by decide) ?_
                    show Wp X _ 225 25 [vr 83, vi x2, vi x3] [vi 1] _ _
                    refine wp_ifeqF (tn := 32) rfl rfl (by decide) ?_
                    refine wp_iconst rfl ?_
                    refine wp_goto (tn := 33) rfl rfl ?_
                    refine wp_iret rfl rfl ?_
                    show Wp X _ 26 32 [vr 6, vi 1, vi x2, vi x3, vi x4, vu] [vi 0] _ _
                    refine wp_istore (L2 := [vr 6, vi 1, vi x2, vi x3, vi x4, vi 0]) rfl (Nat.le_of_ble_eq_true rfl) rfl ?_
                    refine wp_iload rfl rfl ?_
                    refine wp_ifeqT (tn := 46) rfl rfl (by decide) ?_
                    refine wp_aload rfl rfl ?_
                    refine wp_getR (r := 79) rfl (congrArg Prod.fst (kf_6 X.1)) rfl ?_
                    refine wp_iload rfl rfl ?_
                    refine wp_aaload (r := 82) rfl (kf_80 X.1) (by decide) (by decide) rfl ?_
                    refine wp_iload rfl rfl ?_
                    refine wp_iload rfl rfl ?_
                    refine wp_call (k := 228) (ρ2 := 1) (L2 := [vr 83, vi x3, vi x4]) rfl rfl rfl (Nat.le_of_ble_eq_true rfl) (Nat.le_of_ble_eq_true rfl) (Nat.le_of_ble_eq_true rfl) (rcv_V rfl (congrArg Prod.fst (kf_83 X.1))) rfl ?_
                    refine wp_aload rfl rfl ?_
                    refine wp_iload rfl rfl ?_
                    refine wp_iconst rfl ?_
                    refine wp_call (k := 226) (ρ2 := 0) (L2 := [vr 83, vi x3, vi 1]) rfl rfl rfl (Nat.le_of_ble_eq_true rfl) (Nat.le_of_ble_eq_true rfl) (Nat.le_of_ble_eq_true rfl) (rcv_V rfl (congrArg Prod.fst (kf_83 X.1))) rfl ?_
                    refine wp_iload rfl rfl ?_
                    refine wp_ifltF (tn := 22) rfl rfl c17 ?_
                    refine wp_iload rfl rfl ?_
                    refine wp_ifltF (tn := 22) rfl rfl (by decide) ?_
                    refine wp_iload rfl rfl ?_
                    refine wp_aload rfl rfl ?_
                    refine wp_getI (j := 2) rfl (congrArg Prod.fst (kf_83 X.1)) rfl ?_
                    refine wp_iload rfl rfl ?_
                    refine wp_isub rfl ?_
                    refine Wp.topI (y := ((h 83 2) - 1)) (w32_I g18) ?_
                    refine wp_icgtF (tn := 22) rfl rfl c19 ?_
                    refine wp_iconst rfl ?_
                    refine wp_goto (tn := 23) rfl rfl ?_
                    refine wp_zret rfl rfl (by decide) ?_
                    show Wp X _ 228 6 [vr 83, vi x3, vi x4] [vi 1] _ _
                    refine wp_ifeqF (tn := 41) rfl rfl (by decide) ?_
                    refine wp_aload rfl rfl ?_
                    refine wp_getR (r := 83) rfl (congrArg Prod.fst (kf_83 X.1)) rfl ?_
                    refine wp_iload rfl rfl ?_
                    refine wp_aload rfl rfl ?_
                    refine wp_getI (j := 1) rfl (congrArg Prod.fst (kf_83 X.1)) rfl ?_
                    refine wp_ifne (tn := 26) rfl rfl (fun c20 => ?_) (fun c20 => ?_)
                    · replace H := H.1 c20
                      refine wp_aload rfl rfl ?_
                      refine wp_getI (j := 1) rfl (congrArg Prod.fst (kf_83 X.1)) rfl ?_
                      refine wp_iconst rfl ?_
                      refine wp_icne (tn := 39) rfl rfl (fun c21 => ?_) (fun c21 => ?_)
                      · replace H := H.1 c21
                        refine wp_iload rfl rfl ?_
                        have g22 := H.1
                        replace H := H.2
                        refine wp_iastore rfl (kf_84 X.1) g22 ?_
                        refine wp_vret rfl rfl ?_
                        show Wp X _ 26 58 [vr 6, vi 1, vi x2, vi x3, vi x4, vi 0] [] _ _
                        refine wp_iconst rfl ?_
                        exact wp_iret rfl rfl H
                      · replace H := H.2 c21
                        refine wp_iload rfl rfl ?_
                        refine wp_i2s rfl ?_
                        refine wp_goto (tn := 40) rfl rfl ?_
                        have g23 := H.1
                        replace H := H.2
                        refine wp_iastore rfl (kf_84 X.1) g23 ?_
                        refine wp_vret rfl rfl ?_
                        show Wp X _ 26 58 [vr 6, vi 1, vi x2, vi x3, vi x4, vi 0] [] _ _
                        refine wp_iconst rfl ?_
                        exact wp_iret rfl rfl H
                    · replace H := H.2 c20
                      refine wp_iload rfl rfl ?_
                      refine wp_i2b rfl ?_
                      refine wp_goto (tn := 40) rfl rfl ?_
                      have g24 := H.1
                      replace H := H.2
                      refine wp_iastore rfl (kf_84 X.1) g24 ?_
                      refine wp_vret rfl rfl ?_
                      show Wp X _ 26 58 [vr 6, vi 1, vi x2, vi x3, vi x4, vi 0] [] _ _
                      refine wp_iconst rfl ?_
                      exact wp_iret rfl rfl H
              · replace H := H.2 c16
                refine wp_iconst rfl ?_
                refine wp_iret rfl rfl ?_
                show Wp X _ 26 32 [vr 6, vi 1, vi x2, vi x3, vi x4, vu] [vi 3] _ _
                refine wp_istore (L2 := [vr 6, vi 1, vi x2, vi x3, vi x4, vi 3]) rfl (Nat.le_of_ble_eq_true rfl) rfl ?_
                refine wp_iload rfl rfl ?_
                refine wp_ifeqF (tn := 46) rfl rfl (by decide) ?_
                refine wp_aload rfl rfl ?_
                refine wp_iload rfl rfl ?_
                refine wp_call (k := 38) (ρ2 := 0) (L2 := [vr 6, vi 3]) rfl rfl rfl (Nat.le_of_ble_eq_true rfl) (Nat.le_of_ble_eq_true rfl) (Nat.le_of_ble_eq_true rfl) (rcv_V rfl (congrArg Prod.fst (kf_6 X.1))) rfl ?_
                refine wp_aload rfl rfl ?_
                refine wp_iload rfl rfl ?_
                refine wp_putI (j := 10) rfl (congrArg Prod.fst (kf_6 X.1)) rfl rfl rfl ?_
                refine wp_iconst rfl ?_
                refine wp_iload rfl rfl ?_
                refine wp_isub rfl ?_
                refine Wp.topI (y := (-13)) (by decide) ?_
                refine wp_iret rfl rfl ?_
                show Wp X _ 26 45 [vr 6, vi 1, vi x2, vi x3, vi x4, vi 3] [vi (-13)] _ _
                exact wp_iret rfl rfl H
            · replace H := H.2 c15
              refine wp_iconst rfl ?_
              refine wp_goto (tn := 13) rfl rfl ?_
              refine wp_zret rfl rfl (by decide) ?_
              show Wp X _ 225 4 [vr 83, vi x2, vi x3] [vi 1] _ _
              refine wp_ifeqF (tn := 9) rfl rfl (by decide) ?_
              refine wp_iconst rfl ?_
              refine wp_iret rfl rfl ?_
              show Wp X _ 26 32 [vr 6, vi 1, vi x2, vi x3, vi x4, vu] [vi 1] _ _
              refine wp_istore (L2 := [vr 6, vi 1, vi x2, vi x3, vi x4, vi 1]) rfl (Nat.le_of_ble_eq_true rfl) rfl ?_
              refine wp_iload rfl rfl ?_
              refine wp_ifeqF (tn := 46) rfl rfl (by decide) ?_
              refine wp_aload rfl rfl ?_
              refine wp_iload rfl rfl ?_
              refine wp_call (k := 38) (ρ2 := 0) (L2 := [vr 6, vi 1]) rfl rfl rfl (Nat.le_of_ble_eq_true rfl) (Nat.le_of_ble_eq_true rfl) (Nat.le_of_ble_eq_true rfl) (rcv_V rfl (congrArg Prod.fst (kf_6 X.1))) rfl ?_
              refine wp_aload rfl rfl ?_
              refine wp_iload rfl rfl ?_
              refine wp_putI (j := 10) rfl (congrArg Prod.fst (kf_6 X.1)) rfl rfl rfl ?_
              refine wp_iconst rfl ?_
              refine wp_iload rfl rfl ?_
              refine wp_isub rfl ?_
              refine Wp.topI (y := (-11)) (by decide) ?_
              refine wp_iret rfl rfl ?_
              show Wp X _ 26 45 [vr 6, vi 1, vi x2, vi x3, vi x4, vi 1] [vi (-11)] _ _
              exact wp_iret rfl rfl H
          · replace H := H.2.2.1 rfl
            refine wp_aaload (r := 84) rfl (kf_80 X.1) (by decide) (by decide) rfl ?_
            refine wp_iload rfl rfl ?_
            refine wp_iload rfl rfl ?_
            refine wp_call (k := 225) (ρ2 := 1) (L2 := [vr 85, vi x2, vi x3]) rfl rfl rfl (Nat.le_of_ble_eq_true rfl) (Nat.le_of_ble_eq_true rfl) (Nat.le_of_ble_eq_true rfl) (rcv_V rfl (congrArg Prod.fst (kf_85 X.1))) rfl ?_
            refine wp_aload rfl rfl ?_
            refine wp_call (k := 220) (ρ2 := 0) (L2 := [vr 85]) rfl rfl rfl (Nat.le_of_ble_eq_true rfl) (Nat.le_of_ble_eq_true rfl) (Nat.le_of_ble_eq_true rfl) (rcv_V rfl (congrArg Prod.fst (kf_85 X.1))) rfl ?_
            refine wp_aload rfl rfl ?_
            refine wp_getI (j := 1) rfl (congrArg Prod.fst (kf_85 X.1)) rfl ?_
            refine wp_iconst rfl ?_
            refine wp_icne (tn := 12) rfl rfl (fun c25 => ?_) (fun c25 => ?_)
            · replace H := H.1 c25
              refine wp_iconst rfl ?_
              refine wp_zret rfl rfl (by decide) ?_
              show Wp X _ 225 4 [vr 85, vi x2, vi x3] [vi 0] _ _
              refine wp_ifeqT (tn := 9) rfl rfl (by decide) ?_
              refine wp_aload rfl rfl ?_
              refine wp_getI (j := 1) rfl (congrArg Prod.fst (kf_85 X.1)) rfl ?_
              refine wp_iload rfl rfl ?_
              refine wp_iceq (tn := 19) rfl rfl (fun c26 => ?_) (fun c26 => ?_)
              · replace H := H.1 c26
                refine wp_aload rfl rfl ?_
                refine wp_iload rfl rfl ?_
                refine wp_iconst rfl ?_
                refine wp_call (k := 226) (ρ2 := 0) (L2 := [vr 85, vi x3, vi 1]) rfl rfl rfl (Nat.le_of_ble_eq_true rfl) (Nat.le_of_ble_eq_true rfl) (Nat.le_of_ble_eq_true rfl) (rcv_V rfl (congrArg Prod.fst (kf_85 X.1))) rfl ?_
                refine wp_iload rfl rfl ?_
                refine wp_iflt (tn := 22) rfl rfl (fun c27 => ?_) (fun c27 => ?_)
                · replace H := H.1 c27
                  refine wp_iconst rfl ?_
                  refine wp_zret rfl rfl (by decide) ?_
                  show Wp X _ 225 25 [vr 85, vi x2, vi x3] [vi 0] _ _
                  refine wp_ifeqT (tn := 32) rfl rfl (by decide) ?_
                  refine wp_iconst rfl ?_
                  refine wp_iret rfl rfl ?_
                  show Wp X _ 26 32 [vr 6, vi 2, vi x2, vi x3, vi x4, vu] [vi 2] _ _
                  refine wp_istore (L2 := [vr 6, vi 2, vi x2, vi x3, vi x4, vi 2]) rfl (Nat.le_of_ble_eq_true rfl) rfl ?_
                  refine wp_iload rfl rfl ?_
                  refine wp_ifeqF (tn := 46) rfl rfl (by decide) ?_
                  refine wp_aload rfl rfl ?_
                  refine wp_iload rfl rfl ?_
                  refine wp_call (k := 38) (ρ2 := 0) (L2 := [vr 6, vi 2]) rfl rfl rfl (Nat.le_of_ble_eq_true rfl) (Nat.le_of_ble_eq_true rfl) (Nat.le_of_ble_eq_true rfl) (rcv_V rfl (congrArg Prod.fst (kf_6 X.1))) rfl ?_
                  refine wp_aload rfl rfl ?_
                  refine wp_iload rfl rfl ?_
                  refine wp_putI (j := 10) rfl (congrArg Prod.fst (kf_6 X.1)) rfl rfl rfl ?_
                  refine wp_iconst rfl ?_
                  refine wp_iload rfl rfl ?_
                  refine wp_isub rfl ?_
                  refine Wp.topI (y := (-12)) (by decide) ?_
                  refine wp_iret rfl rfl ?_
                  show Wp X _ 26 45 [vr 6, vi 2, vi x2, vi x3, vi x4, vi 2] [vi (-12)] _ _
                  exact wp_iret rfl rfl H
                · replace H := H.2 c27
                  refine wp_iload rfl rfl ?_
                  refine wp_ifltF (tn := 22) rfl rfl (by decide) ?_
                  refine wp_iload rfl rfl ?_
                  refine wp_aload rfl rfl ?_
                  refine wp_getI (j := 2) rfl (congrArg Prod.fst (kf_85 X.1)) rfl ?_
                  refine wp_iload rfl rfl ?_
                  refine wp_isub rfl ?_
                  have g28 := H.1
                  replace H := H.2
                  refine Wp.topI (y := ((h 85 2) - 1)) (w32_I g28) ?_
                  refine wp_icgt (tn := 22) rfl rfl (fun c29 => ?_) (fun c29 => ?_)
                  · replace H := H.1 c29
                    refine wp_iconst rfl ?_
                    refine wp_zret rfl rfl (by decide) ?_
                    show Wp X _ 225 25 [vr 85, vi x2, vi x3] [vi 0] _ _
                    refine wp_ifeqT (tn := 32) rfl rfl (by decide) ?_
                    refine wp_iconst rfl ?_
                    refine wp_iret rfl rfl ?_
                    show Wp X _ 26 32 [vr 6, vi 2, vi x2, vi x3, vi x4, vu] [vi 2] _ _
                    refine wp_istore (L2 := [vr 6, vi 2, vi x2, vi x3, vi x4, vi 2]) rfl (Nat.le_of_ble_eq_true rfl) rfl ?_
                    refine wp_iload rfl rfl ?_
                    refine wp_ifeqF (tn := 46) rfl rfl (by decide) ?_
                    refine wp_aload rfl rfl ?_
                    refine wp_iload rfl rfl ?_
                    refine wp_call (k := 38) (ρ2 := 0) (L2 := [vr 6, vi 2]) rfl rfl rfl (Nat.le_of_ble_eq_true rfl) (Nat.le_of_ble_eq_true rfl) (Nat.le_of_ble_eq_true rfl) (rcv_V rfl (congrArg Prod.fst (kf_6 X.1))) rfl ?_
                    refine wp_aload rfl rfl ?_
                    refine wp_iload rfl rfl ?_
                    refine wp_putI (j := 10) rfl (congrArg Prod.fst (kf_6 X.1)) rfl rfl rfl ?_
                    refine wp_iconst rfl ?_
                    refine wp_iload rfl rfl ?_
                    refine wp_isub rfl ?_
                    refine Wp.topI (y := (-12)) (by decide) ?_
                    refine wp_iret rfl rfl ?_
                    show Wp X _ 26 45 [vr 6, vi 2, vi x2, vi x3, vi x4, vi 2] [vi (-12)] _ _
                    exact wp_iret rfl rfl H
                  · replace H := H.2 c29
                    refine wp_iconst rfl ?_
                    refine wp_goto (tn := 23) rfl rfl ?_
                    refine wp_zret rfl rfl (by decide) ?_
                    show Wp X _ 225 25 [vr 85, vi x2, vi x3] [vi 1] _ _
                    refine wp_ifeqF (tn := 32) rfl rfl (by decide) ?_
                    refine wp_iconst rfl ?_
                    refine wp_goto (tn := 33) rfl rfl ?_
                    refine wp_iret rfl rfl ?_
                    show Wp X _ 26 32 [vr 6, vi 2, vi x2, vi x3, vi x4, vu] [vi 0] _ _
                    refine wp_istore (L2 := [vr 6, vi 2, vi x2, vi x3, vi x4, vi 0]) rfl (Nat.le_of_ble_eq_true rfl) rfl ?_
                    refine wp_iload rfl rfl ?_
                    refine wp_ifeqT (tn := 46) rfl rfl (by decide) ?_
                    refine wp_aload rfl rfl ?_
                    refine wp_getR (r := 79) rfl (congrArg Prod.fst (kf_6 X.1)) rfl ?_
                    refine wp_iload rfl rfl ?_
                    refine wp_aaload (r := 84) rfl (kf_80 X.1) (by decide) (by decide) rfl ?_
                    refine wp_iload rfl rfl ?_
                    refine wp_iload rfl rfl ?_
                    refine wp_call (k := 228) (ρ2 := 1) (L2 := [vr 85, vi x3, vi x4]) rfl rfl rfl (Nat.le_of_ble_eq_true rfl) (Nat.le_of_ble_eq_true rfl) (Nat.le_of_ble_eq_true rfl) (rcv_V rfl (congrArg Prod.fst (kf_85 X.1))) rfl ?_
                    refine wp_aload rfl rfl ?_
                    refine wp_iload rfl rfl ?_
                    refine wp_iconst rfl ?_
                    refine wp_call (k := 226) (ρ2 := 0) (L2 := [vr 85, vi x3, vi 1]) rfl rfl rfl (Nat.le_of_ble_eq_true rfl) (Nat.le_of_ble_eq_true rfl) (Nat.le_of_ble_eq_true rfl) (rcv_V rfl (congrArg Prod.fst (kf_85 X.1))) rfl ?_
                    refine wp_iload rfl rfl ?_
                    refine wp_ifltF (tn := 22) rfl rfl c27 ?_
                    refine wp_iload rfl rfl ?_
                    refine wp_ifltF (tn := 22) rfl rfl (by decide) ?_
                    refine wp_iload rfl rfl ?_
                    refine wp_aload rfl rfl ?_
                    refine wp_getI (j := 2) rfl (congrArg Prod.fst (kf_85 X.1)) rfl ?_
                    refine wp_iload rfl rfl ?_
                    refine wp_isub rfl ?_
                    refine Wp.topI (y := ((h 85 2) - 1)) (w32_I g28) ?_
                    refine wp_icgtF (tn := 22) rfl rfl c29 ?_
                    refine wp_iconst rfl ?_
                    refine wp_goto (tn := 23) rfl rfl ?_
                    refine wp_zret rfl rfl (by decide) ?_
                    show Wp X _ 228 6 [vr 85, vi x3, vi x4] [vi 1] _ _
                    refine wp_ifeqF (tn := 41) rfl rfl (by decide) ?_
                    refine wp_aload rfl rfl ?_
                    refine wp_getR (r := 85) rfl (congrArg Prod.fst (kf_85 X.1)) rfl ?_
                    refine wp_iload rfl rfl ?_
                    refine wp_aload rfl rfl ?_
                    refine wp_getI (j := 1) rfl (congrArg Prod.fst (kf_85 X.1)) rfl ?_
                    refine wp_ifne (tn := 26) rfl rfl (fun c30 => ?_) (fun c30 => ?_)
                    · replace H := H.1 c30
                      refine wp_aload rfl rfl ?_
                      refine wp_getI (j := 1) rfl (congrArg Prod.fst (kf_85 X.1)) rfl ?_
                      refine wp_iconst rfl ?_
                      refine wp_icne (tn := 39) rfl rfl (fun c31 => ?_) (fun c31 => ?_)
                      · replace H := H.1 c31
                        refine wp_iload rfl rfl ?_
                        have g32 := H.1
                        replace H := H.2
                        refine wp_iastore rfl (kf_86 X.1) g32 ?_
                        refine wp_vret rfl rfl ?_
                        show Wp X _ 26 58 [vr 6, vi 2, vi x2, vi x3, vi x4, vi 0] [] _ _
                        refine wp_iconst rfl ?_
                        exact wp_iret rfl rfl H
                      · replace H := H.2 c31
                        refine wp_iload rfl rfl ?_
                        refine wp_i2s rfl ?_
                        refine wp_goto (tn := 40) rfl rfl ?_
                        have g33 := H.1
                        replace H := H.2
                        refine wp_iastore rfl (kf_86 X.1) g33 ?_
                        refine wp_vret rfl rfl ?_
                        show Wp X _ 26 58 [vr 6, vi 2, vi x2, vi x3, vi x4, vi 0] [] _ _
                        refine wp_iconst rfl ?_
                        exact wp_iret rfl rfl H
                    · replace H := H.2 c30
                      refine wp_iload rfl rfl ?_
                      refine wp_i2b rfl ?_
                      refine wp_goto (tn := 40) rfl rfl ?_
                      have g34 := H.1
                      replace H := H.2
                      refine wp_iastore rfl (kf_86 X.1) g34 ?_
                      refine wp_vret rfl rfl ?_
                      show Wp X _ 26 58 [vr 6, vi 2, vi x2, vi x3, vi x4, vi 0] [] _ _
                      refine wp_iconst rfl ?_
                      exact wp_iret rfl rfl H
              · replace H := H.2 c26
                refine wp_iconst rfl ?_
                refine wp_iret rfl rfl ?_
                show Wp X _ 26 32 [vr 6, vi 2, vi x2, vi x3, vi x4, vu] [vi 3] _ _
                refine wp_istore (L2 := [vr 6, vi 2, vi x2, vi x3, vi x4, vi 3]) rfl (Nat.le_of_ble_eq_true rfl) rfl ?_
                refine wp_iload rfl rfl ?_
                refine wp_ifeqF (tn := 46) rfl rfl (by decide) ?_
                refine wp_aload rfl rfl ?_
                refine wp_iload rfl rfl ?_
                refine wp_call (k := 38) (ρ2 := 0) (L2 := [vr 6, vi 3]) rfl rfl rfl (Nat.le_of_ble_eq_true rfl) (Nat.le_of_ble_eq_true rfl) (Nat.le_of_ble_eq_true rfl) (rcv_V rfl (congrArg Prod.fst (kf_6 X.1))) rfl ?_
                refine wp_aload rfl rfl ?_
                refine wp_iload rfl rfl ?_
                refine wp_putI (j := 10) rfl (congrArg Prod.fst (kf_6 X.1)) rfl rfl rfl ?_
                refine wp_iconst rfl ?_
                refine wp_iload rfl rfl ?_
                refine wp_isub rfl ?_
                refine Wp.topI (y := (-13)) (by decide) ?_
                refine wp_iret rfl rfl ?_
                show Wp X _ 26 45 [vr 6, vi 2, vi x2, vi x3, vi x4, vi 3] [vi (-13)] _ _
                exact wp_iret rfl rfl H
            · replace H := H.2 c25
              refine wp_iconst rfl ?_
              refine wp_goto (tn := 13) rfl rfl ?_
              refine wp_zret rfl rfl (by decide) ?_
              show Wp X _ 225 4 [vr 85, vi x2, vi x3] [vi 1] _ _
              refine wp_ifeqF (tn := 9) rfl rfl (by decide) ?_
              refine wp_iconst rfl ?_
              refine wp_iret rfl rfl ?_
              show Wp X _ 26 32 [vr 6, vi 2, vi x2, vi x3, vi x4, vu] [vi 1] _ _
              refine wp_istore (L2 := [vr 6, vi 2, vi x2, vi x3, vi x4, vi 1]) rfl (Nat.le_of_ble_eq_true rfl) rfl ?_
              refine wp_iload rfl rfl ?_
              refine wp_ifeqF (tn := 46) rfl rfl (by decide) ?_
              refine wp_aload rfl rfl ?_
              refine wp_iload rfl rfl ?_
              refine wp_call (k := 38) (ρ2 := 0) (L2 := [vr 6, vi 1]) rfl rfl rfl (Nat.le_of_ble_eq_true rfl) (Nat.le_of_ble_eq_true rfl) (Nat.le_of_ble_eq_true rfl) (rcv_V rfl (congrArg Prod.fst (kf_6 X.1))) rfl ?_
              refine wp_aload rfl rfl ?_
              refine wp_iload rfl rfl ?_
              refine wp_putI (j := 10) rfl (congrArg Prod.fst (kf_6 X.1)) rfl rfl rfl ?_
              refine wp_iconst rfl ?_
              refine wp_iload rfl rfl ?_
              refine wp_isub rfl ?_
              refine Wp.topI (y := (-11)) (by decide) ?_
              refine wp_iret rfl rfl ?_
              show Wp X _ 26 45 [vr 6, vi 2, vi x2, vi x3, vi x4, vi 1] [vi (-11)] _ _
              exact wp_iret rfl rfl H
          · replace H := H.2.2.2 rfl
            refine wp_aaload (r := 86) rfl (kf_80 X.1) (by decide) (by decide) rfl ?_
            refine wp_iload rfl rfl ?_
            refine wp_iload rfl rfl ?_
            refine wp_call (k := 225) (ρ2 := 1) (L2 := [vr 87, vi x2, vi x3]) rfl rfl rfl (Nat.le_of_ble_eq_true rfl) (Nat.le_of_ble_eq_true rfl) (Nat.le_of_ble_eq_true rfl) (rcv_V rfl (congrArg Prod.fst (kf_87 X.1))) rfl ?_
            refine wp_aload rfl rfl ?_
            refine wp_call (k := 220) (ρ2 := 0) (L2 := [vr 87]) rfl rfl rfl (Nat.le_of_ble_eq_true rfl) (Nat.le_of_ble_eq_true rfl) (Nat.le_of_ble_eq_true rfl) (rcv_V rfl (congrArg Prod.fst (kf_87 X.1))) rfl ?_
            refine wp_aload rfl rfl ?_
            refine wp_getI (j := 1) rfl (congrArg Prod.fst (kf_87 X.1)) rfl ?_
            refine wp_iconst rfl ?_
            refine wp_icne (tn := 12) rfl rfl (fun c35 => ?_) (fun c35 => ?_)
            · replace H := H.1 c35
              refine wp_iconst rfl ?_
              refine wp_zret rfl rfl (by decide) ?_
              show Wp X _ 225 4 [vr 87, vi x2, vi x3] [vi 0] _ _
              refine wp_ifeqT (tn := 9) rfl rfl (by decide) ?_
              refine wp_aload rfl rfl ?_
              refine wp_getI (j := 1) rfl (congrArg Prod.fst (kf_87 X.1)) rfl ?_
              refine wp_iload rfl rfl ?_
              refine wp_iceq (tn := 19) rfl rfl (fun c36 => ?_) (fun c36 => ?_)
              · replace H := H.1 c36
                refine wp_aload rfl rfl ?_
                refine wp_iload rfl rfl ?_
                refine wp_iconst rfl ?_
                refine wp_call (k := 226) (ρ2 := 0) (L2 := [vr 87, vi x3, vi 1]) rfl rfl rfl (Nat.le_of_ble_eq_true rfl) (Nat.le_of_ble_eq_true rfl) (Nat.le_of_ble_eq_true rfl) (rcv_V rfl (congrArg Prod.fst (kf_87 X.1))) rfl ?_
                refine wp_iload rfl rfl ?_
                refine wp_iflt (tn := 22) rfl rfl (fun c37 => ?_) (fun c37 => ?_)
                · replace H := H.1 c37
                  refine wp_iconst rfl ?_
                  refine wp_zret rfl rfl (by decide) ?_
                  show Wp X _ 225 25 [vr 87, vi x2, vi x3] [vi 0] _ _
                  refine wp_ifeqT (tn := 32) rfl rfl (by decide) ?_
                  refine wp_iconst rfl ?_
                  refine wp_iret rfl rfl ?_
                  show Wp X _ 26 32 [vr 6, vi 3, vi x2, vi x3, vi x4, vu] [vi 2] _ _
                  refine wp_istore (L2 := [vr 6, vi 3, vi x2, vi x3, vi x4, vi 2]) rfl (Nat.le_of_ble_eq_true rfl) rfl ?_
                  refine wp_iload rfl rfl ?_
                  refine wp_ifeqF (tn := 46) rfl rfl (by decide) ?_
                  refine wp_aload rfl rfl ?_
                  refine wp_iload rfl rfl ?_
                  refine wp_call (k := 38) (ρ2 := 0) (L2 := [vr 6, vi 2]) rfl rfl rfl (Nat.le_of_ble_eq_true rfl) (Nat.le_of_ble_eq_true rfl) (Nat.le_of_ble_eq_true rfl) (rcv_V rfl (congrArg Prod.fst (kf_6 X.1))) rfl ?_
                  refine wp_aload rfl rfl ?_
                  refine wp_iload rfl rfl ?_
                  refine wp_putI (j := 10) rfl (congrArg Prod.fst (kf_6 X.1)) rfl rfl rfl ?_
                  refine wp_iconst rfl ?_
                  refine wp_iload rfl rfl ?_
                  refine wp_isub rfl ?_
                  refine Wp.topI (y := (-12)) (by decide) ?_
                  refine wp_iret rfl rfl ?_
                  show Wp X _ 26 45 [vr 6, vi 3, vi x2, vi x3, vi x4, vi 2] [vi (-12)] _ _
                  exact wp_iret rfl rfl H
                · replace H := H.2 c37
                  refine wp_iload rfl rfl ?_
                  refine wp_ifltF (tn := 22) rfl rfl (by decide) ?_
                  refine wp_iload rfl rfl ?_
                  refine wp_aload rfl rfl ?_
                  refine wp_getI (j := 2) rfl (congrArg Prod.fst (kf_87 X.1)) rfl ?_
                  refine wp_iload rfl rfl ?_
                  refine wp_isub rfl ?_
                  have g38 := H.1
                  replace H := H.2
                  refine Wp.topI (y := ((h 87 2) - 1)) (w32_I g38) ?_
                  refine wp_icgt (tn := 22) rfl rfl (fun c39 => ?_) (fun c39 => ?_)
                  · replace H := H.1 c39
                    refine wp_iconst rfl ?_
                    refine wp_zret rfl rfl (by decide) ?_
                    show Wp X _ 225 25 [vr 87, vi x2, vi x3] [vi 0] _ _
                    refine wp_ifeqT (tn := 32) rfl rfl (by decide) ?_
                    refine wp_iconst rfl ?_
                    refine wp_iret rfl rfl ?_
                    show Wp X _ 26 32 [vr 6, vi 3, vi x2, vi x3, vi x4, vu] [vi 2] _ _
                    refine wp_istore (L2 := [vr 6, vi 3, vi x2, vi x3, vi x4, vi 2]) rfl (Nat.le_of_ble_eq_true rfl) rfl ?_
                    refine wp_iload rfl rfl ?_
                    refine wp_ifeqF (tn := 46) rfl rfl (by decide) ?_
                    refine wp_aload rfl rfl ?_
                    refine wp_iload rfl rfl ?_
                    refine wp_call (k := 38) (ρ2 := 0) (L2 := [vr 6, vi 2]) rfl rfl rfl (Nat.le_of_ble_eq_true rfl) (Nat.le_of_ble_eq_true rfl) (Nat.le_of_ble_eq_true rfl) (rcv_V rfl (congrArg Prod.fst (kf_6 X.1))) rfl ?_
                    refine wp_aload rfl rfl ?_
                    refine wp_iload rfl rfl ?_
                    refine wp_putI (j := 10) rfl (congrArg Prod.fst (kf_6 X.1)) rfl rfl rfl ?_
                    refine wp_iconst rfl ?_
                    refine wp_iload rfl rfl ?_
                    refine wp_isub rfl ?_
                    refine Wp.topI (y := (-12)) (by decide) ?_
                    refine wp_iret rfl rfl ?_
                    show Wp X _ 26 45 [vr 6, vi 3, vi x2, vi x3, vi x4, vi 2] [vi (-12)] _ _
                    exact wp_iret rfl rfl H
                  · replace H := H.2 c39
                    refine wp_iconst rfl ?_
                    refine wp_goto (tn := 23) rfl rfl ?_
                    refine wp_zret rfl rfl (by decide) ?_
                    show Wp X _ 225 25 [vr 87, vi x2, vi x3] [vi 1] _ _
                    refine wp_ifeqF (tn := 32) rfl rfl (by decide) ?_
                    refine wp_iconst rfl ?_
                    refine wp_goto (tn := 33) rfl rfl ?_
                    refine wp_iret rfl rfl ?_
                    show Wp X _ 26 32 [vr 6, vi 3, vi x2, vi x3, vi x4, vu] [vi 0] _ _
                    refine wp_istore (L2 := [vr 6, vi 3, vi x2, vi x3, vi x4, vi 0]) rfl (Nat.le_of_ble_eq_true rfl) rfl ?_
                    refine wp_iload rfl rfl ?_
                    refine wp_ifeqT (tn := 46) rfl rfl (by decide) ?_
                    refine wp_aload rfl rfl ?_
                    refine wp_getR (r := 79) rfl (congrArg Prod.fst (kf_6 X.1)) rfl ?_
                    refine wp_iload rfl rfl ?_
                    refine wp_aaload (r := 86) rfl (kf_80 X.1) (by decide) (by decide) rfl ?_
                    refine wp_iload rfl rfl ?_
                    refine wp_iload rfl rfl ?_
                    refine wp_call (k := 228) (ρ2 := 1) (L2 := [vr 87, vi x3, vi x4]) rfl rfl rfl (Nat.le_of_ble_eq_true rfl) (Nat.le_of_ble_eq_true rfl) (Nat.le_of_ble_eq_true rfl) (rcv_V rfl (congrArg Prod.fst (kf_87 X.1))) rfl ?_
                    refine wp_aload rfl rfl ?_
                    refine wp_iload rfl rfl ?_
                    refine wp_iconst rfl ?_
                    refine wp_call (k := 226) (ρ2 := 0) (L2 := [vr 87, vi x3, vi 1]) rfl rfl rfl (Nat.le_of_ble_eq_true rfl) (Nat.le_of_ble_eq_true rfl) (Nat.le_of_ble_eq_true rfl) (rcv_V rfl (congrArg Prod.fst (kf_87 X.1))) rfl ?_
                    refine wp_iload rfl rfl ?_
                    refine wp_ifltF (tn := 22) rfl rfl c37 ?_
                    refine wp_iload rfl rfl ?_
                    refine wp_ifltF (tn := 22) rfl rfl (by decide) ?_
                    refine wp_iload rfl rfl ?_
                    refine wp_aload rfl rfl ?_
                    refine wp_getI (j := 2) rfl (congrArg Prod.fst (kf_87 X.1)) rfl ?_
                    refine wp_iload rfl rfl ?_
                    refine wp_isub rfl ?_
                    refine Wp.topI (y := ((h 87 2) - 1)) (w32_I g38) ?_
                    refine wp_icgtF (tn := 22) rfl rfl c39 ?_
                    refine wp_iconst rfl ?_
                    refine wp_goto (tn := 23) rfl rfl ?_
                    refine wp_zret rfl rfl (by decide) ?_
                    show Wp X _ 228 6 [vr 87, vi x3, vi x4] [vi 1] _ _
                    refine wp_ifeqF (tn := 41) rfl rfl (by decide) ?_
                    refine wp_aload rfl rfl ?_
                    refine wp_getR (r := 87) rfl (congrArg Prod.fst (kf_87 X.1)) rfl ?_
                    refine wp_iload rfl rfl ?_
                    refine wp_aload rfl rfl ?_
                    refine wp_getI (j := 1) rfl (congrArg Prod.fst (kf_87 X.1)) rfl ?_
                    refine wp_ifne (tn := 26) rfl rfl (fun c40 => ?_) (fun c40 => ?_)
                    · replace H := H.1 c40
                      refine wp_aload rfl rfl ?_
                      refine wp_getI (j := 1) rfl (congrArg Prod.fst (kf_87 X.1)) rfl ?_
                      refine wp_iconst rfl ?_
                      refine wp_icne (tn := 39) rfl rfl (fun c41 => ?_) (fun c41 => ?_)
                      · replace H := H.1 c41
                        refine wp_iload rfl rfl ?_
                        have g42 := H.1
                        replace H := H.2
                        refine wp_iastore rfl (kf_88 X.1) g42 ?_
                        refine wp_vret rfl rfl ?_
                        show Wp X _ 26 58 [vr 6, vi 3, vi x2, vi x3, vi x4, vi 0] [] _ _
                        refine wp_iconst rfl ?_
                        exact wp_iret rfl rfl H
                      · replace H := H.2 c41
                        refine wp_iload rfl rfl ?_
                        refine wp_i2s rfl ?_
                        refine wp_goto (tn := 40) rfl rfl ?_
                        have g43 := H.1
                        replace H := H.2
                        refine wp_iastore rfl (kf_88 X.1) g43 ?_
                        refine wp_vret rfl rfl ?_
                        show Wp X _ 26 58 [vr 6, vi 3, vi x2, vi x3, vi x4, vi 0] [] _ _
                        refine wp_iconst rfl ?_
                        exact wp_iret rfl rfl H
                    · replace H := H.2 c40
                      refine wp_iload rfl rfl ?_
                      refine wp_i2b rfl ?_
                      refine wp_goto (tn := 40) rfl rfl ?_
                      have g44 := H.1
                      replace H := H.2
                      refine wp_iastore rfl (kf_88 X.1) g44 ?_
                      refine wp_vret rfl rfl ?_
                      show Wp X _ 26 58 [vr 6, vi 3, vi x2, vi x3, vi x4, vi 0] [] _ _
                      refine wp_iconst rfl ?_
                      exact wp_iret rfl rfl H
              · replace H := H.2 c36
                refine wp_iconst rfl ?_
                refine wp_iret rfl rfl ?_
                show Wp X _ 26 32 [vr 6, vi 3, vi x2, vi x3, vi x4, vu] [vi 3] _ _
                refine wp_istore (L2 := [vr 6, vi 3, vi x2, vi x3, vi x4, vi 3]) rfl (Nat.le_of_ble_eq_true rfl) rfl ?_
                refine wp_iload rfl rfl ?_
                refine wp_ifeqF (tn := 46) rfl rfl (by decide) ?_
                refine wp_aload rfl rfl ?_
                refine wp_iload rfl rfl ?_
                refine wp_call (k := 38) (ρ2 := 0) (L2 := [vr 6, vi 3]) rfl rfl rfl (Nat.le_of_ble_eq_true rfl) (Nat.le_of_ble_eq_true rfl) (Nat.le_of_ble_eq_true rfl) (rcv_V rfl (congrArg Prod.fst (kf_6 X.1))) rfl ?_
                refine wp_aload rfl rfl ?_
                refine wp_iload rfl rfl ?_
                refine wp_putI (j := 10) rfl (congrArg Prod.fst (kf_6 X.1)) rfl rfl rfl ?_
                refine wp_iconst rfl ?_
                refine wp_iload rfl rfl ?_
                refine wp_isub rfl ?_
                refine Wp.topI (y := (-13)) (by decide) ?_
                refine wp_iret rfl rfl ?_
                show Wp X _ 26 45 [vr 6, vi 3, vi x2, vi x3, vi x4, vi 3] [vi (-13)] _ _
                exact wp_iret rfl rfl H
            · replace H := H.2 c35
              refine wp_iconst rfl ?_
              refine wp_goto (tn := 13) rfl rfl ?_
              refine wp_zret rfl rfl (by decide) ?_
              show Wp X _ 225 4 [vr 87, vi x2, vi x3] [vi 1] _ _
              refine wp_ifeqF (tn := 9) rfl rfl (by decide) ?_
              refine wp_iconst rfl ?_
              refine wp_iret rfl rfl ?_
              show Wp X _ 26 32 [vr 6, vi 3, vi x2, vi x3, vi x4, vu] [vi 1] _ _
              refine wp_istore (L2 := [vr 6, vi 3, vi x2, vi x3, vi x4, vi 1]) rfl (Nat.le_of_ble_eq_true rfl) rfl ?_
              refine wp_iload rfl rfl ?_
              refine wp_ifeqF (tn := 46) rfl rfl (by decide) ?_
              refine wp_aload rfl rfl ?_
              refine wp_iload rfl rfl ?_
              refine wp_call (k := 38) (ρ2 := 0) (L2 := [vr 6, vi 1]) rfl rfl rfl (Nat.le_of_ble_eq_true rfl) (Nat.le_of_ble_eq_true rfl) (Nat.le_of_ble_eq_true rfl) (rcv_V rfl (congrArg Prod.fst (kf_6 X.1))) rfl ?_
              refine wp_aload rfl rfl ?_
              refine wp_iload rfl rfl ?_
              refine wp_putI (j := 10) rfl (congrArg Prod.fst (kf_6 X.1)) rfl rfl rfl ?_
              refine wp_iconst rfl ?_
              refine wp_iload rfl rfl ?_
              refine wp_isub rfl ?_
              refine Wp.topI (y := (-11)) (by decide) ?_
              refine wp_iret rfl rfl ?_
              show Wp X _ 26 45 [vr 6, vi 3, vi x2, vi x3, vi x4, vi 1] [vi (-11)] _ _
              exact wp_iret rfl rfl H
        · replace H := H.2 c4
          refine wp_iconst rfl ?_
          refine wp_goto (tn := 15) rfl rfl ?_
          refine wp_zret rfl rfl (by decide) ?_
          show Wp X _ 26 15 [vr 6, vi x1, vi x2, vi x3, vi x4, vu] [vi 1] _ _
          refine wp_ifeqF (tn := 21) rfl rfl (by decide) ?_
          refine wp_iconst rfl ?_
          exact wp_iret rfl rfl H
    · replace H := H.2 c2
      refine wp_iconst rfl ?_
      refine wp_goto (tn := 15) rfl rfl ?_
      refine wp_zret rfl rfl (by decide) ?_
      show Wp X _ 26 6 [vr 6, vi x1, vi x2, vi x3, vi x4, vu] [vi 1] _ _
      refine wp_ifneT (tn := 18) rfl rfl (by decide) ?_
      refine wp_iconst rfl ?_
      exact wp_iret rfl rfl H
/-- WarnLines.get(III)I, from 0 -/
theorem S27_6_0 {X : Nat × (Int → Int)} {h : HP} {Q : bQ} (x1 : Int) (x2 : Int) (x3 : Int) (H : ((x1 < 0 → Q (some (vi (-2147483648))) h) ∧ (0 ≤ x1 → ((x1 ≤ 3 → ((x2 < 0 → Q (some (vi (-2147483648))) h) ∧ (0 ≤ x2 → ((x2 ≤ 2 → ((x1 = 0 → (((h 81 1) ≠ (-1) → (((h 81 1) = x2 → ((x3 < 0 → Q (some (vi (-2147483648))) (upd2 h 6 10 2)) ∧ (0 ≤ x3 → ((R32 ((h 81 2) - 1)) ∧ ((((h 81 2) - 1) < x3 → Q (some (vi (-2147483648))) (upd2 h 6 10 2)) ∧ (x3 ≤ ((h 81 2) - 1) → ((0 ≤ x3 ∧ x3 < 60) ∧ Q (some (vi (h 82 x3))) h))))))) ∧ ((h 81 1) ≠ x2 → Q (some (vi (-2147483648))) (upd2 h 6 10 3)))) ∧ ((h 81 1) = (-1) → Q (some (vi (-2147483648))) (upd2 h 6 10 1)))) ∧ (x1 = 1 → (((h 83 1) ≠ (-1) → (((h 83 1) = x2 → ((x3 < 0 → Q (some (vi (-2147483648))) (upd2 h 6 10 2)) ∧ (0 ≤ x3 → ((R32 ((h 83 2) - 1)) ∧ ((((h 83 2) - 1) < x3 → Q (some (vi (-2147483648))) (upd2 h 6 10 2)) ∧ (x3 ≤ ((h 83 2) - 1) → ((0 ≤ x3 ∧ x3 < 60) ∧ Q (some (vi (h 84 x3))) h))))))) ∧ ((h 83 1) ≠ x2 → Q (some (vi (-2147483648))) (upd2 h 6 10 3)))) ∧ ((h 83 1) = (-1) → Q (some (vi (-2147483648))) (upd2 h 6 10 1)))) ∧ (x1 = 2 → (((h 85 1) ≠ (-1) → (((h 85 1) = x2 → ((x3 < 0 → Q (some (vi (-2147483648))) (upd2 h 6 10 2)) ∧ (0 ≤ x3 → ((R32 ((h 85 2) - 1)) ∧ ((((h 85 2) - 1) < x3 → Q (some (vi (-2147483648))) (upd2 h 6 10 2)) ∧ (x3 ≤ ((h 85 2) - 1) → ((0 ≤ x3 ∧ x3 < 60) ∧ Q (some (vi (h 86 x3))) h))))))) ∧ ((h 85 1) ≠ x2 → Q (some (vi (-2147483648))) (upd2 h 6 10 3)))) ∧ ((h 85 1) = (-1) → Q (some (vi (-2147483648))) (upd2 h 6 10 1)))) ∧ (x1 = 3 → (((h 87 1) ≠ (-1) → (((h 87 1) = x2 → ((x3 < 0 → Q (some (vi (-2147483648))) (upd2 h 6 10 2)) ∧ (0 ≤ x3 → ((R32 ((h 87 2) - 1)) ∧ ((((h 87 2) - 1) < x3 → Q (some (vi (-2147483648))) (upd2 h 6 10 2)) ∧ (x3 ≤ ((h 87 2) - 1) → ((0 ≤ x3 ∧ x3 < 60) ∧ Q (some (vi (h 88 x3))) h))))))) ∧ ((h 87 1) ≠ x2 → Q (some (vi (-2147483648))) (upd2 h 6 10 3)))) ∧ ((h 87 1) = (-1) → Q (some (vi (-2147483648))) (upd2 h 6 10 1)))))) ∧ (2 < x2 → Q (some (vi (-2147483648))) h))))) ∧ (3 < x1 → Q (some (vi (-2147483648))) h))))) : Wp X 2 27 0 [vr 6, vi x1, vi x2, vi x3, vu] [] h Q := by
  refine wp_iload rfl rfl ?_
  refine wp_iconst rfl ?_
  refine wp_iconst rfl ?_
  refine wp_call (k := 40) (ρ2 := 0) (L2 := [vi x1, vi 0, vi 3]) rfl rfl rfl (Nat.le_of_ble_eq_true rfl) (Nat.le_of_ble_eq_true rfl) (Nat.le_of_ble_eq_true rfl) (rcv_S rfl) rfl ?_
  refine wp_iload rfl rfl ?_
  refine wp_iload rfl rfl ?_
  refine wp_iclt (tn := 10) rfl rfl (fun c1 => ?_) (fun c1 => ?_)
  · replace H := H.1 c1
    refine wp_iconst rfl ?_
    refine wp_goto (tn := 15) rfl rfl ?_
    refine wp_zret rfl rfl (by decide) ?_
    show Wp X _ 27 6 [vr 6, vi x1, vi x2, vi x3, vu] [vi 1] _ _
    refine wp_ifneT (tn := 18) rfl rfl (by decide) ?_
    refine wp_iconst rfl ?_
    exact wp_iret rfl rfl H
  · replace H := H.2 c1
    refine wp_iload rfl rfl ?_
    refine wp_iload rfl rfl ?_
    refine wp_icle (tn := 14) rfl rfl (fun c2 => ?_) (fun c2 => ?_)
    · replace H := H.1 c2
      refine wp_iconst rfl ?_
      refine wp_zret rfl rfl (by decide) ?_
      show Wp X _ 27 6 [vr 6, vi x1, vi x2, vi x3, vu] [vi 0] _ _
      refine wp_ifneF (tn := 18) rfl rfl (by decide) ?_
      refine wp_iload rfl rfl ?_
      refine wp_iconst rfl ?_
      refine wp_iconst rfl ?_
      refine wp_call (k := 40) (ρ2 := 0) (L2 := [vi x2, vi 0, vi 2]) rfl rfl rfl (Nat.le_of_ble_eq_true rfl) (Nat.le_of_ble_eq_true rfl) (Nat.le_of_ble_eq_true rfl) (rcv_S rfl) rfl ?_
      refine wp_iload rfl rfl ?_
      refine wp_iload rfl rfl ?_
      refine wp_iclt (tn := 10) rfl rfl (fun c3 => ?_) (fun c3 => ?_)
      · replace H := H.1 c3
        refine wp_iconst rfl ?_
        refine wp_goto (tn := 15) rfl rfl ?_
        refine wp_zret rfl rfl (by decide) ?_
        show Wp X _ 27 15 [vr 6, vi x1, vi x2, vi x3, vu] [vi 1] _ _
        refine wp_ifeqF (tn := 22) rfl rfl (by decide) ?_
        refine wp_iconst rfl ?_
        exact wp_iret rfl rfl H
      · replace H := H.2 c3
        refine wp_iload rfl rfl ?_
        refine wp_iload rfl rfl ?_
        refine wp_icle (tn := 14) rfl rfl (fun c4 => ?_) (fun c4 => ?_)
        · replace H := H.1 c4
          refine wp_iconst rfl ?_
          refine wp_zret rfl rfl (by decide) ?_
          show Wp X _ 27 15 [vr 6, vi x1, vi x2, vi x3, vu] [vi 0] _ _
          refine wp_ifeqT (tn := 22) rfl rfl (by decide) ?_
          refine wp_aload rfl rfl ?_
          refine wp_getR (r := 79) rfl (congrArg Prod.fst (kf_6 X.1)) rfl ?_
          refine wp_iload rfl rfl ?_
          rcases (show x1 = 0 ∨ x1 = 1 ∨ x1 = 2 ∨ x1 = 3 by have := (show 0 ≤ x1 ∧ x1 < 4 from ⟨c1, (by clear H; omega)⟩); clear H; omega) with rfl | rfl | rfl | rfl
          · replace H := H.1 rfl
            refine wp_aaload (r := 80) rfl (kf_80 X.1) (by decide) (by decide) rfl ?_
            refine wp_iload rfl rfl ?_
            refine wp_iload rfl rfl ?_
            refine wp_call (k := 225) (ρ2 := 1) (L2 := [vr 81, vi x2, vi x3]) rfl rfl rfl (Nat.le_of_ble_eq_true rfl) (Nat.le_of_ble_eq_true rfl) (Nat.le_of_ble_eq_true rfl) (rcv_V rfl (congrArg Prod.fst (kf_81 X.1))) rfl ?_
            refine wp_aload rfl rfl ?_
            refine wp_call (k := 220) (ρ2 := 0) (L2 := [vr 81]) rfl rfl rfl (Nat.le_of_ble_eq_true rfl) (Nat.le_of_ble_eq_true rfl) (Nat.le_of_ble_eq_true rfl) (rcv_V rfl (congrArg Prod.fst (kf_81 X.1))) rfl ?_
            refine wp_aload rfl rfl ?_
            refine wp_getI (j := 1) rfl (congrArg Prod.fst (kf_81 X.1)) rfl ?_
            refine wp_iconst rfl ?_
            refine wp_icne (tn := 12) rfl rfl (fun c5 => ?_) (fun c5 => ?_)
            · replace H := H.1 c5
              refine wp_iconst rfl ?_
              refine wp_zret rfl rfl (by decide) ?_
              show Wp X _ 225 4 [vr 81, vi x2, vi x3] [vi 0] _ _
              refine wp_ifeqT (tn := 9) rfl rfl (by decide) ?_
              refine wp_aload rfl rfl ?_
              refine wp_getI (j := 1) rfl (congrArg Prod.fst (kf_81 X.1)) rfl ?_
              refine wp_iload rfl rfl ?_
              refine wp_iceq (tn := 19) rfl rfl (fun c6 => ?_) (fun c6 => ?_)
              · replace H := H.1 c6
                refine wp_aload rfl rfl ?_
                refine wp_iload rfl rfl ?_
                refine wp_iconst rfl ?_
                refine wp_call (k := 226) (ρ2 := 0) (L2 := [vr 81, vi x3, vi 1]) rfl rfl rfl (Nat.le_of_ble_eq_true rfl) (Nat.le_of_ble_eq_true rfl) (Nat.le_of_ble_eq_true rfl) (rcv_V rfl (congrArg Prod.fst (kf_81 X.1))) rfl ?_
                refine wp_iload rfl rfl ?_
                refine wp_iflt (tn := 22) rfl rfl (fun c7 => ?_) (fun c7 => ?_)
                · replace H := H.1 c7
                  refine wp_iconst rfl ?_
                  refine wp_zret rfl rfl (by decide) ?_
                  show Wp X _ 225 25 [vr 81, vi x2, vi x3] [vi 0] _ _
                  refine wp_ifeqT (tn := 32) rfl rfl (by decide) ?_
                  refine wp_iconst rfl ?_
                  refine wp_iret rfl rfl ?_
                  show Wp X _ 27 33 [vr 6, vi 0, vi x2, vi x3, vu] [vi 2] _ _
                  refine wp_istore (L2 := [vr 6, vi 0, vi x2, vi x3, vi 2]) rfl (Nat.le_of_ble_eq_true rfl) rfl ?_
                  refine wp_iload rfl rfl ?_
                  refine wp_ifeqF (tn := 50) rfl rfl (by decide) ?_
                  refine wp_aload rfl rfl ?_
                  refine wp_iload rfl rfl ?_
                  refine wp_putI (j := 10) rfl (congrArg Prod.fst (kf_6 X.1)) rfl rfl rfl ?_
                  refine wp_iconst rfl ?_
                  exact wp_iret rfl rfl H
                · replace H := H.2 c7
                  refine wp_iload rfl rfl ?_
                  refine wp_ifltF (tn := 22) rfl rfl (by decide) ?_
                  refine wp_iload rfl rfl ?_
                  refine wp_aload rfl rfl ?_
                  refine wp_getI (j := 2) rfl (congrArg Prod.fst (kf_81 X.1)) rfl ?_
                  refine wp_iload rfl rfl ?_
                  refine wp_isub rfl ?_
                  have g8 := H.1
                  replace H := H.2
                  refine Wp.topI (y := ((h 81 2) - 1)) (w32_I g8) ?_
                  refine wp_icgt (tn := 22) rfl rfl (fun c9 => ?_) (fun c9 => ?_)
                  · replace H := H.1 c9
                    refine wp_iconst rfl ?_
                    refine wp_zret rfl rfl (by decide) ?_
                    show Wp X _ 225 25 [vr 81, vi x2, vi x3] [vi 0] _ _
                    refine wp_ifeqT (tn := 32) rfl rfl (by decide) ?_
                    refine wp_iconst rfl ?_
                    refine wp_iret rfl rfl ?_
                    show Wp X _ 27 33 [vr 6, vi 0, vi x2, vi x3, vu] [vi 2] _ _
                    refine wp_istore (L2 := [vr 6, vi 0, vi x2, vi x3, vi 2]) rfl (Nat.le_of_ble_eq_true rfl) rfl ?_
                    refine wp_iload rfl rfl ?_
                    refine wp_ifeqF (tn := 50) rfl rfl (by decide) ?_
                    refine wp_aload rfl rfl ?_
                    refine wp_iload rfl rfl ?_
                    refine wp_putI (j := 10) rfl (congrArg Prod.fst (kf_6 X.1)) rfl rfl rfl ?_
                    refine wp_iconst rfl ?_
                    exact wp_iret rfl rfl H
                  · replace H := H.2 c9
                    refine wp_iconst rfl ?_
                    refine wp_goto (tn := 23) rfl rfl ?_
                    refine wp_zret rfl rfl (by decide) ?_
                    show Wp X _ 225 25 [vr 81, vi x2, vi x3] [vi 1] _ _
                    refine wp_ifeqF (tn := 32) rfl rfl (by decide) ?_
                    refine wp_iconst rfl ?_
                    refine wp_goto (tn := 33) rfl rfl ?_
                    refine wp_iret rfl rfl ?_
                    show Wp X _ 27 33 [vr 6, vi 0, vi x2, vi x3, vu] [vi 0] _ _
                    refine wp_istore (L2 := [vr 6, vi 0, vi x2, vi x3, vi 0]) rfl (Nat.le_of_ble_eq_true rfl) rfl ?_
                    refine wp_iload rfl rfl ?_
                    refine wp_ifeqT (tn := 50) rfl rfl (by decide) ?_
                    refine wp_aload rfl rfl ?_
                    refine wp_getR (r := 79) rfl (congrArg Prod.fst (kf_6 X.1)) rfl ?_
                    refine wp_iload rfl rfl ?_
                    refine wp_aaload (r := 80) rfl (kf_80 X.1) (by decide) (by decide) rfl ?_
                    refine wp_iload rfl rfl ?_
                    refine wp_call (k := 227) (ρ2 := 1) (L2 := [vr 81, vi x3]) rfl rfl rfl (Nat.le_of_ble_eq_true rfl) (Nat.le_of_ble_eq_true rfl) (Nat.le_of_ble_eq_true rfl) (rcv_V rfl (congrArg Prod.fst (kf_81 X.1))) rfl ?_
                    refine wp_aload rfl rfl ?_
                    refine wp_iload rfl rfl ?_
                    refine wp_iconst rfl ?_
                    refine wp_call (k := 226) (ρ2 := 0) (L2 := [vr 81, vi x3, vi 1]) rfl rfl rfl (Nat.le_of_ble_eq_true rfl) (Nat.le_of_ble_eq_true rfl) (Nat.le_of_ble_eq_true rfl) (rcv_V rfl (congrArg Prod.fst (kf_81 X.1))) rfl ?_
                    refine wp_iload rfl rfl ?_
                    refine wp_ifltF (tn := 22) rfl rfl c7 ?_
                    refine wp_iload rfl rfl ?_
                    refine wp_ifltF (tn := 22) rfl rfl (by decide) ?_
                    refine wp_iload rfl rfl ?_
                    refine wp_aload rfl rfl ?_
                    refine wp_getI (j := 2) rfl (congrArg Prod.fst (kf_81 X.1)) rfl ?_
                    refine wp_iload rfl rfl ?_
                    refine wp_isub rfl ?_
                    refine Wp.topI (y := ((h 81 2) - 1)) (w32_I g8) ?_
                    refine wp_icgtF (tn := 22) rfl rfl c9 ?_
                    refine wp_iconst rfl ?_
                    refine wp_goto (tn := 23) rfl rfl ?_
                    refine wp_zret rfl rfl (by decide) ?_
                    show Wp X _ 227 6 [vr 81, vi x3] [vi 1] _ _
                    refine wp_ifeqF (tn := 18) rfl rfl (by decide) ?_
                    refine wp_aload rfl rfl ?_
                    refine wp_getR (r := 81) rfl (congrArg Prod.fst (kf_81 X.1)) rfl ?_
                    refine wp_iload rfl rfl ?_
                    have g10 := H.1
                    replace H := H.2
                    refine wp_iaload rfl (kf_82 X.1) g10 ?_
                    refine wp_goto (tn := 19) rfl rfl ?_
                    refine wp_iret rfl rfl ?_
                    show Wp X _ 27 60 [vr 6, vi 0, vi x2, vi x3, vi 0] [vi (h 82 x3)] _ _
                    exact wp_iret rfl rfl H
              · replace H := H.2 c6
                refine wp_iconst rfl ?_
                refine wp_iret rfl rfl ?_
                show Wp X _ 27 33 [vr 6, vi 0, vi x2, vi x3, vu] [vi 3] _ _
                refine wp_istore (L2 := [vr 6, vi 0, vi x2, vi x3, vi 3]) rfl (Nat.le_of_ble_eq_true rfl) rfl ?_
                refine wp_iload rfl rfl ?_
                refine wp_ifeqF (tn := 50) rfl rfl (by decide) ?_
                refine wp_aload rfl rfl ?_
                refine wp_iload rfl rfl ?_
                refine wp_putI (j := 10) rfl (congrArg Prod.fst (kf_6 X.1)) rfl rfl rfl ?_
                refine wp_iconst rfl ?_
                exact wp_iret rfl rfl H
            · replace H := H.2 c5
              refine wp_iconst rfl ?_
              refine wp_goto (tn := 13) rfl rfl ?_
              refine wp_zret rfl rfl (by decide) ?_
              show Wp X _ 225 4 [vr 81, vi x2, vi x3] [vi 1] _ _
              refine wp_ifeqF (tn := 9) rfl rfl (by decide) ?_
              refine wp_iconst rfl ?_
              refine wp_iret rfl rfl ?_
              show Wp X _ 27 33 [vr 6, vi 0, vi x2, vi x3, vu] [vi 1] _ _
              refine wp_istore (L2 := [vr 6, vi 0, vi x2, vi x3, vi 1]) rfl (Nat.le_of_ble_eq_true rfl) rfl ?_
              refine wp_iload rfl rfl ?_
              refine wp_ifeqF (tn := 50) rfl rfl (by decide) ?_
              refine wp_aload rfl rfl ?_
              refine wp_iload rfl rfl ?_
              refine wp_putI (j := 10) rfl (congrArg Prod.fst (kf_6 X.1)) rfl rfl rfl ?_
              refine wp_iconst rfl ?_
              exact wp_iret rfl rfl H
          · replace H := H.2.1 rfl
            refine wp_aaload (r := 82) rfl (kf_80 X.1) (by decide) (by decide) rfl ?_
            refine wp_iload rfl rfl ?_
            refine wp_iload rfl rfl ?_
            refine wp_call (k := 225) (ρ2 := 1) (L2 := [vr 83, vi x2, vi x3]) rfl rfl rfl (Nat.le_of_ble_eq_true rfl) (Nat.le_of_ble_eq_true rfl) (Nat.le_of_ble_eq_true rfl) (rcv_V rfl (congrArg Prod.fst (kf_83 X.1))) rfl ?_
            refine wp_aload rfl rfl ?_
            refine wp_call (k := 220) (ρ2 := 0) (L2 := [vr 83]) rfl rfl rfl (Nat.le_of_ble_eq_true rfl) (Nat.le_of_ble_eq_true rfl) (Nat.le_of_ble_eq_true rfl) (rcv_V rfl (congrArg Prod.fst (kf_83 X.1))) rfl ?_
            refine wp_aload rfl rfl ?_
            refine wp_getI (j := 1) rfl (congrArg Prod.fst (kf_83 X.1)) rfl ?_
            refine wp_iconst rfl ?_
            refine wp_icne (tn := 12) rfl rfl (fun c11 => ?_) (fun c11 => ?_)
            · replace H := H.1 c11
              refine wp_iconst rfl ?_
              refine wp_zret rfl rfl (by decide) ?_
              show Wp X _ 225 4 [vr 83, vi x2, vi x3] [vi 0] _ _
              refine wp_ifeqT (tn := 9) rfl rfl (by decide) ?_
              refine wp_aload rfl rfl ?_
              refine wp_getI (j := 1) rfl (congrArg Prod.fst (kf_83 X.1)) rfl ?_
              refine wp_iload rfl rfl ?_
              refine wp_iceq (tn := 19) rfl rfl (fun c12 => ?_) (fun c12 => ?_)
              · replace H := H.1 c12
                refine wp_aload rfl rfl ?_
                refine wp_iload rfl rfl ?_
                refine wp_iconst rfl ?_
                refine wp_call (k := 226) (ρ2 := 0) (L2 := [vr 83, vi x3, vi 1]) rfl rfl rfl (Nat.le_of_ble_eq_true rfl) (Nat.le_of_ble_eq_true rfl) (Nat.le_of_ble_eq_true rfl) (rcv_V rfl (congrArg Prod.fst (kf_83 X.1))) rfl ?_
                refine wp_iload rfl rfl ?_
                refine wp_iflt (tn := 22) rfl rfl (fun c13 => ?_) (fun c13 => ?_)
                · replace H := H.1 c13
                  refine wp_iconst rfl ?_
                  refine wp_zret rfl rfl (by decide) ?_
                  show Wp X _ 225 25 [vr 83, vi x2, vi x3] [vi 0] _ _
                  refine wp_ifeqT (tn := 32) rfl rfl (by decide) ?_
                  refine wp_iconst rfl ?_
                  refine wp_iret rfl rfl ?_
                  show Wp X _ 27 33 [vr 6, vi 1, vi x2, vi x3, vu] [vi 2] _ _
                  refine wp_istore (L2 := [vr 6, vi 1, vi x2, vi x3, vi 2]) rfl (Nat.le_of_ble_eq_true rfl) rfl ?_
                  refine wp_iload rfl rfl ?_
                  refine wp_ifeqF (tn := 50) rfl rfl (by decide) ?_
                  refine wp_aload rfl rfl ?_
                  refine wp_iload rfl rfl ?_
                  refine wp_putI (j := 10) rfl (congrArg Prod.fst (kf_6 X.1)) rfl rfl rfl ?_
                  refine wp_iconst rfl ?_
                  exact wp_iret rfl rfl H
                · replace H := H.2 c13
                  refine wp_iload rfl rfl ?_
                  refine wp_ifltF (tn := 22) rfl rfl (by decide) ?_
                  refine wp_iload rfl rfl ?_
                  refine wp_aload rfl rfl ?_
                  refine wp_getI (j := 2) rfl (congrArg Prod.fst (kf_83 X.1)) rfl ?_
                  refine wp_iload rfl rfl ?_
                  refine wp_isub rfl ?_
                  have g14 := H.1
                  replace H := H.2
                  refine Wp.topI (y := ((h 83 2) - 1)) (w32_I g14) ?_
                  refine wp_icgt (tn := 22) rfl rfl (fun c15 => ?_) (fun c15 => ?_)
                  · replace H := H.1 c15
                    refine wp_iconst rfl ?_
                    refine wp_zret rfl rfl (by decide) ?_
                    show Wp X _ 225 25 [vr 83, vi x2, vi x3] [vi 0] _ _
                    refine wp_ifeqT (tn := 32) rfl rfl (by decide) ?_
                    refine wp_iconst rfl ?_
                    refine wp_iret rfl rfl ?_
                    show Wp X _ 27 33 [vr 6, vi 1, vi x2, vi x3, vu] [vi 2] _ _
                    refine wp_istore (L2 := [vr 6, vi 1, vi x2, vi x3, vi 2]) rfl (Nat.le_of_ble_eq_true rfl) rfl ?_
                    refine wp_iload rfl rfl ?_
                    refine wp_ifeqF (tn := 50) rfl rfl (by decide) ?_
                    refine wp_aload rfl rfl ?_
                    refine wp_iload rfl rfl ?_
                    refine wp_putI (j := 10) rfl (congrArg Prod.fst (kf_6 X.1)) rfl rfl rfl ?_
                    refine wp_iconst rfl ?_
                    exact wp_iret rfl rfl H
                  · replace H := H.2 c15
                    refine wp_iconst rfl ?_
                    refine wp_goto (tn := 23) rfl rfl ?_
                    refine wp_zret rfl rfl (by decide) ?_
                    show Wp X _ 225 25 [vr 83, vi x2, vi x3] [vi 1] _ _
                    refine wp_ifeqF (tn := 32) rfl rfl (by decide) ?_
                    refine wp_iconst rfl ?_
                    refine wp_goto (tn := 33) rfl rfl ?_
                    refine wp_iret rfl rfl ?_
                    show Wp X _ 27 33 [vr 6, vi 1, vi x2, vi x3, vu] [vi 0] _ _
                    refine wp_istore (L2 := [vr 6, vi 1, vi x2, vi x3, vi 0]) rfl (Nat.le_of_ble_eq_true rfl) rfl ?_
                    refine wp_iload rfl rfl ?_
                    refine wp_ifeqT (tn := 50) rfl rfl (by decide) ?_
                    refine wp_aload rfl rfl ?_
                    refine wp_getR (r := 79) rfl (congrArg Prod.fst (kf_6 X.1)) rfl ?_
                    refine wp_iload rfl rfl ?_
                    refine wp_aaload (r := 82) rfl (kf_80 X.1) (by decide) (by decide) rfl ?_
                    refine wp_iload rfl rfl ?_
                    refine wp_call (k := 227) (ρ2 := 1) (L2 := [vr 83, vi x3]) rfl rfl rfl (Nat.le_of_ble_eq_true rfl) (Nat.le_of_ble_eq_true rfl) (Nat.le_of_ble_eq_true rfl) (rcv_V rfl (congrArg Prod.fst (kf_83 X.1))) rfl ?_
                    refine wp_aload rfl rfl ?_
                    refine wp_iload rfl rfl ?_
                    refine wp_iconst rfl ?_
                    refine wp_call (k := 226) (ρ2 := 0) (L2 := [vr 83, vi x3, vi 1]) rfl rfl rfl (Nat.le_of_ble_eq_true rfl) (Nat.le_of_ble_eq_true rfl) (Nat.le_of_ble_eq_true rfl) (rcv_V rfl (congrArg Prod.fst (kf_83 X.1))) rfl ?_
                    refine wp_iload rfl rfl ?_
                    refine wp_ifltF (tn := 22) rfl rfl c13 ?_
                    refine wp_iload rfl rfl ?_
                    refine wp_ifltF (tn := 22) rfl rfl (by decide) ?_
                    refine wp_iload rfl rfl ?_
                    refine wp_aload rfl rfl ?_
                    refine wp_getI (j := 2) rfl (congrArg Prod.fst (kf_83 X.1)) rfl ?_
                    refine wp_iload rfl rfl ?_
                    refine wp_isub rfl ?_
                    refine Wp.topI (y := ((h 83 2) - 1)) (w32_I g14) ?_
                    refine wp_icgtF (tn := 22) rfl rfl c15 ?_
                    refine wp_iconst rfl ?_
                    refine wp_goto (tn := 23) rfl rfl ?_
                    refine wp_zret rfl rfl (by decide) ?_
                    show Wp X _ 227 6 [vr 83, vi x3] [vi 1] _ _
                    refine wp_ifeqF (tn := 18) rfl rfl (by decide) ?_
                    refine wp_aload rfl rfl ?_
                    refine wp_getR (r := 83) rfl (congrArg Prod.fst (kf_83 X.1)) rfl ?_
                    refine wp_iload rfl rfl ?_
                    have g16 := H.1
                    replace H := H.2
                    refine wp_iaload rfl (kf_84 X.1) g16 ?_
                    refine wp_goto (tn := 19) rfl rfl ?_
                    refine wp_iret rfl rfl ?_
                    show Wp X _ 27 60 [vr 6, vi 1, vi x2, vi x3, vi 0] [vi (h 84 x3)] _ _
                    exact wp_iret rfl rfl H
              · replace H := H.2 c12
                refine wp_iconst rfl ?_
                refine wp_iret rfl rfl ?_
                show Wp X _ 27 33 [vr 6, vi 1, vi x2, vi x3, vu] [vi 3] _ _
                refine wp_istore (L2 := [vr 6, vi 1, vi x2, vi x3, vi 3]) rfl (Nat.le_of_ble_eq_true rfl) rfl ?_
                refine wp_iload rfl rfl ?_
                refine wp_ifeqF (tn := 50) rfl rfl (by decide) ?_
                refine wp_aload rfl rfl ?_
                refine wp_iload rfl rfl ?_
                refine wp_putI (j := 10) rfl (congrArg Prod.fst (kf_6 X.1)) rfl rfl rfl ?_
                refine wp_iconst rfl ?_
                exact wp_iret rfl rfl H
            · replace H := H.2 c11
              refine wp_iconst rfl ?_
              refine wp_goto (tn := 13) rfl rfl ?_
              refine wp_zret rfl rfl (by decide) ?_
              show Wp X _ 225 4 [vr 83, vi x2, vi x3] [vi 1] _ _
              refine wp_ifeqF (tn := 9) rfl rfl (by decide) ?_
              refine wp_iconst rfl ?_
              refine wp_iret rfl rfl ?_
              show Wp X _ 27 33 [vr 6, vi 1, vi x2, vi x3, vu] [vi 1] _ _
              refine wp_istore (L2 := [vr 6, vi 1, vi x2, vi x3, vi 1]) rfl (Nat.le_of_ble_eq_true rfl) rfl ?_
              refine wp_iload rfl rfl ?_
              refine wp_ifeqF (tn := 50) rfl rfl (by decide) ?_
              refine wp_aload rfl rfl ?_
              refine wp_iload rfl rfl ?_
              refine wp_putI (j := 10) rfl (congrArg Prod.fst (kf_6 X.1)) rfl rfl rfl ?_
              refine wp_iconst rfl ?_
              exact wp_iret rfl rfl H
          · replace H := H.2.2.1 rfl
            refine wp_aaload (r := 84) rfl (kf_80 X.1) (by decide) (by decide) rfl ?_
            refine wp_iload rfl rfl ?_
            refine wp_iload rfl rfl ?_
            refine wp_call (k := 225) (ρ2 := 1) (L2 := [vr 85, vi x2, vi x3]) rfl rfl rfl (Nat.le_of_ble_eq_true rfl) (Nat.le_of_ble_eq_true rfl) (Nat.le_of_ble_eq_true rfl) (rcv_V rfl (congrArg Prod.fst (kf_85 X.1))) rfl ?_
            refine wp_aload rfl rfl ?_
            refine wp_call (k := 220) (ρ2 := 0) (L2 := [vr 85]) rfl rfl rfl (Nat.le_of_ble_eq_true rfl) (Nat.le_of_ble_eq_true rfl) (Nat.le_of_ble_eq_true rfl) (rcv_V rfl (congrArg Prod.fst (kf_85 X.1))) rfl ?_
            refine wp_aload rfl rfl ?_
            refine wp_getI (j := 1) rfl (congrArg Prod.fst (kf_85 X.1)) rfl ?_
            refine wp_iconst rfl ?_
            refine wp_icne (tn := 12) rfl rfl (fun c17 => ?_) (fun c17 => ?_)
            · replace H := H.1 c17
              refine wp_iconst rfl ?_
              refine wp_zret rfl rfl (by decide) ?_
              show Wp X _ 225 4 [vr 85, vi x2, vi x3] [vi 0] _ _
              refine wp_ifeqT (tn := 9) rfl rfl (by decide) ?_
              refine wp_aload rfl rfl ?_
              refine wp_getI (j := 1) rfl (congrArg Prod.fst (kf_85 X.1)) rfl ?_
              refine wp_iload rfl rfl ?_
              refine wp_iceq (tn := 19) rfl rfl (fun c18 => ?_) (fun c18 => ?_)
              · replace H := H.1 c18
                refine wp_aload rfl rfl ?_
                refine wp_iload rfl rfl ?_
                refine wp_iconst rfl ?_
                refine wp_call (k := 226) (ρ2 := 0) (L2 := [vr 85, vi x3, vi 1]) rfl rfl rfl (Nat.le_of_ble_eq_true rfl) (Nat.le_of_ble_eq_true rfl) (Nat.le_of_ble_eq_true rfl) (rcv_V rfl (congrArg Prod.fst (kf_85 X.1))) rfl ?_
                refine wp_iload rfl rfl ?_
                refine wp_iflt (tn := 22) rfl rfl (fun c19 => ?_) (fun c19 => ?_)
                · replace H := H.1 c19
                  refine wp_iconst rfl ?_
                  refine wp_zret rfl rfl (by decide) ?_
                  show Wp X _ 225 25 [vr 85, vi x2, vi x3] [vi 0] _ _
                  refine wp_ifeqT (tn := 32) rfl rfl (by decide) ?_
                  refine wp_iconst rfl ?_
                  refine wp_iret rfl rfl ?_
                  show Wp X _ 27 33 [vr 6, vi 2, vi x2, vi x3, vu] [vi 2] _ _
                  refine wp_istore (L2 := [vr 6, vi 2, vi x2, vi x3, vi 2]) rfl (Nat.le_of_ble_eq_true rfl) rfl ?_
                  refine wp_iload rfl rfl ?_
                  refine wp_ifeqF (tn := 50) rfl rfl (by decide) ?_
                  refine wp_aload rfl rfl ?_
                  refine wp_iload rfl rfl ?_
                  refine wp_putI (j := 10) rfl (congrArg Prod.fst (kf_6 X.1)) rfl rfl rfl ?_
                  refine wp_iconst rfl ?_
                  exact wp_iret rfl rfl H
                · replace H := H.2 c19
                  refine wp_iload rfl rfl ?_
                  refine wp_ifltF (tn := 22) rfl rfl (by decide) ?_
                  refine wp_iload rfl rfl ?_
                  refine wp_aload rfl rfl ?_
                  refine wp_getI (j := 2) rfl (congrArg Prod.fst (kf_85 X.1)) rfl ?_
                  refine wp_iload rfl rfl ?_
                  refine wp_isub rfl ?_
                  have g20 := H.1
                  replace H := H.2
                  refine Wp.topI (y := ((h 85 2) - 1)) (w32_I g20) ?_
                  refine wp_icgt (tn := 22) rfl rfl (fun c21 => ?_) (fun c21 => ?_)
                  · replace H := H.1 c21
                    refine wp_iconst rfl ?_
                    refine wp_zret rfl rfl (by decide) ?_
                    show Wp X _ 225 25 [vr 85, vi x2, vi x3] [vi 0] _ _
                    refine wp_ifeqT (tn := 32) rfl rfl (by decide) ?_
                    refine wp_iconst rfl ?_
                    refine wp_iret rfl rfl ?_
                    show Wp X _ 27 33 [vr 6, vi 2, vi x2, vi x3, vu] [vi 2] _ _
                    refine wp_istore (L2 := [vr 6, vi 2, vi x2, vi x3, vi 2]) rfl (Nat.le_of_ble_eq_true rfl) rfl ?_
                    refine wp_iload rfl rfl ?_
                    refine wp_ifeqF (tn := 50) rfl rfl (by decide) ?_
                    refine wp_aload rfl rfl ?_
                    refine wp_iload rfl rfl ?_
                    refine wp_putI (j := 10) rfl (congrArg Prod.fst (kf_6 X.1)) rfl rfl rfl ?_
                    refine wp_iconst rfl ?_
                    exact wp_iret rfl rfl H
                  · replace H := H.2 c21
                    refine wp_iconst rfl ?_
                    refine wp_goto (tn := 23) rfl rfl ?_
                    refine wp_zret rfl rfl (by decide) ?_
                    show Wp X _ 225 25 [vr 85, vi x2, vi x3] [vi 1] _ _
                    refine wp_ifeqF (tn := 32) rfl rfl (by decide) ?_
                    refine wp_iconst rfl ?_
                    refine wp_goto (tn := 33) rfl rfl ?_
                    refine wp_iret rfl rfl ?_
                    show Wp X _ 27 33 [vr 6, vi 2, vi x2, vi x3, vu] [vi 0] _ _
                    refine wp_istore (L2 := [vr 6, vi 2, vi x2, vi x3, vi 0]) rfl (Nat.le_of_ble_eq_true rfl) rfl ?_
                    refine wp_iload rfl rfl ?_
                    refine wp_ifeqT (tn := 50) rfl rfl (by decide) ?_
                    refine wp_aload rfl rfl ?_
                    refine wp_getR (r := 79) rfl (congrArg Prod.fst (kf_6 X.1)) rfl ?_
                    refine wp_iload rfl rfl ?_
                    refine wp_aaload (r := 84) rfl (kf_80 X.1) (by decide) (by decide) rfl ?_
                    refine wp_iload rfl rfl ?_
                    refine wp_call (k := 227) (ρ2 := 1) (L2 := [vr 85, vi x3]) rfl rfl rfl (Nat.le_of_ble_eq_true rfl) (Nat.le_of_ble_eq_true rfl) (Nat.le_of_ble_eq_true rfl) (rcv_V rfl (congrArg Prod.fst (kf_85 X.1))) rfl ?_
                    refine wp_aload rfl rfl ?_
                    refine wp_iload rfl rfl ?_
                    refine wp_iconst rfl ?_
                    refine wp_call (k := 226) (ρ2 := 0) (L2 := [vr 85, vi x3, vi 1]) rfl rfl rfl (Nat.le_of_ble_eq_true rfl) (Nat.le_of_ble_eq_true rfl) (Nat.le_of_ble_eq_true rfl) (rcv_V rfl (congrArg Prod.fst (kf_85 X.1))) rfl ?_
                    refine wp_iload rfl rfl ?_
                    refine wp_ifltF (tn := 22) rfl rfl c19 ?_
                    refine wp_iload rfl rfl ?_
                    refine wp_ifltF (tn := 22) rfl rfl (by decide) ?_
                    refine wp_iload rfl rfl ?_
                    refine wp_aload rfl rfl ?_
                    refine wp_getI (j := 2) rfl (congrArg Prod.fst (kf_85 X.1)) rfl ?_
                    refine wp_iload rfl rfl ?_
                    refine wp_isub rfl ?_
                    refine Wp.topI (y := ((h 85 2) - 1)) (w32_I g20) ?_
                    refine wp_icgtF (tn := 22) rfl rfl c21 ?_
                    refine wp_iconst rfl ?_
                    refine wp_goto (tn := 23) rfl rfl ?_
                    refine wp_zret rfl rfl (by decide) ?_
                    show Wp X _ 227 6 [vr 85, vi x3] [vi 1] _ _
                    refine wp_ifeqF (tn := 18) rfl rfl (by decide) ?_
                    refine wp_aload rfl rfl ?_
                    refine wp_getR (r := 85) rfl (congrArg Prod.fst (kf_85 X.1)) rfl ?_
                    refine wp_iload rfl rfl ?_
                    have g22 := H.1
                    replace H := H.2
                    refine wp_iaload rfl (kf_86 X.1) g22 ?_
                    refine wp_goto (tn := 19) rfl rfl ?_
                    refine wp_iret rfl rfl ?_
                    show Wp X _ 27 60 [vr 6, vi 2, vi x2, vi x3, vi 0] [vi (h 86 x3)] _ _
                    exact wp_iret rfl rfl H
              · replace H := H.2 c18
                refine wp_iconst rfl ?_
                refine wp_iret rfl rfl ?_
                show Wp X _ 27 33 [vr 6, vi 2, vi x2, vi x3, vu] [vi 3] _ _
                refine wp_istore (L2 := [vr 6, vi 2, vi x2, vi x3, vi 3]) rfl (Nat.le_of_ble_eq_true rfl) rfl ?_
                refine wp_iload rfl rfl ?_
                refine wp_ifeqF (tn := 50) rfl rfl (by decide) ?_
                refine wp_aload rfl rfl ?_
                refine wp_iload rfl rfl ?_
                refine wp_putI (j := 10) rfl (congrArg Prod.fst (kf_6 X.1)) rfl rfl rfl ?_
                refine wp_iconst rfl ?_
                exact wp_iret rfl rfl H
            · replace H := H.2 c17
              refine wp_iconst rfl ?_
              refine wp_goto (tn := 13) rfl rfl ?_
              refine wp_zret rfl rfl (by decide) ?_
              show Wp X _ 225 4 [vr 85, vi x2, vi x3] [vi 1] _ _
              refine wp_ifeqF (tn := 9) rfl rfl (by decide) ?_
              refine wp_iconst rfl ?_
              refine wp_iret rfl rfl ?_
              show Wp X _ 27 33 [vr 6, vi 2, vi x2, vi x3, vu] [vi 1] _ _
              refine wp_istore (L2 := [vr 6, vi 2, vi x2, vi x3, vi 1]) rfl (Nat.le_of_ble_eq_true rfl) rfl ?_
              refine wp_iload rfl rfl ?_
              refine wp_ifeqF (tn := 50) rfl rfl (by decide) ?_
              refine wp_aload rfl rfl ?_
              refine wp_iload rfl rfl ?_
              refine wp_putI (j := 10) rfl (congrArg Prod.fst (kf_6 X.1)) rfl rfl rfl ?_
              refine wp_iconst rfl ?_
              exact wp_iret rfl rfl H
          · replace H := H.2.2.2 rfl
            refine wp_aaload (r := 86) rfl (kf_80 X.1) (by decide) (by decide) rfl ?_
            refine wp_iload rfl rfl ?_
            refine wp_iload rfl rfl ?_
            refine wp_call (k := 225) (ρ2 := 1) (L2 := [vr 87, vi x2, vi x3]) rfl rfl rfl (Nat.le_of_ble_eq_true rfl) (Nat.le_of_ble_eq_true rfl) (Nat.le_of_ble_eq_true rfl) (rcv_V rfl (congrArg Prod.fst (kf_87 X.1))) rfl ?_
            refine wp_aload rfl rfl ?_
            refine wp_call (k := 220) (ρ2 := 0) (L2 := [vr 87]) rfl rfl rfl (Nat.le_of_ble_eq_true rfl) (Nat.le_of_ble_eq_true rfl) (Nat.le_of_ble_eq_true rfl) (rcv_V rfl (congrArg Prod.fst (kf_87 X.1))) rfl ?_
            refine wp_aload rfl rfl ?_
            refine wp_getI (j := 1) rfl (congrArg Prod.fst (kf_87 X.1)) rfl ?_
            refine wp_iconst rfl ?_
            refine wp_icne (tn := 12) rfl rfl (fun c23 => ?_) (fun c23 => ?_)
            · replace H := H.1 c23
              refine wp_iconst rfl ?_
              refine wp_zret rfl rfl (by decide) ?_
              show Wp X _ 225 4 [vr 87, vi x2, vi x3] [vi 0] _ _
              refine wp_ifeqT (tn := 9) rfl rfl (by decide) ?_
              refine wp_aload rfl rfl ?_
              refine wp_getI (j := 1) rfl (congrArg Prod.fst (kf_87 X.1)) rfl ?_
              refine wp_iload rfl rfl ?_
              refine wp_iceq (tn := 19) rfl rfl (fun c24 => ?_) (fun c24 => ?_)
              · replace H := H.1 c24
                refine wp_aload rfl rfl ?_
                refine wp_iload rfl rfl ?_
                refine wp_iconst rfl ?_
                refine wp_call (k := 226) (ρ2 := 0) (L2 := [vr 87, vi x3, vi 1]) rfl rfl rfl (Nat.le_of_ble_eq_true rfl) (Nat.le_of_ble_eq_true rfl) (Nat.le_of_ble_eq_true rfl) (rcv_V rfl (congrArg Prod.fst (kf_87 X.1))) rfl ?_
                refine wp_iload rfl rfl ?_
                refine wp_iflt (tn := 22) rfl rfl (fun c25 => ?_) (fun c25 => ?_)
                · replace H := H.1 c25
                  refine wp_iconst rfl ?_
                  refine wp_zret rfl rfl (by decide) ?_
                  show Wp X _ 225 25 [vr 87, vi x2, vi x3] [vi 0] _ _
                  refine wp_ifeqT (tn := 32) rfl rfl (by decide) ?_
                  refine wp_iconst rfl ?_
                  refine wp_iret rfl rfl ?_
                  show Wp X _ 27 33 [vr 6, vi 3, vi x2, vi x3, vu] [vi 2] _ _
                  refine wp_istore (L2 := [vr 6, vi 3, vi x2, vi x3, vi 2]) rfl (Nat.le_of_ble_eq_true rfl) rfl ?_
                  refine wp_iload rfl rfl ?_
                  refine wp_ifeqF (tn := 50) rfl rfl (by decide) ?_
                  refine wp_aload rfl rfl ?_
                  refine wp_iload rfl rfl ?_
                  refine wp_putI (j := 10) rfl (congrArg Prod.fst (kf_6 X.1)) rfl rfl rfl ?_
                  refine wp_iconst rfl ?_
                  exact wp_iret rfl rfl H
                · replace H := H.2 c25
                  refine wp_iload rfl rfl ?_
                  refine wp_ifltF (tn := 22) rfl rfl (by decide) ?_
                  refine wp_iload rfl rfl ?_
                  refine wp_aload rfl rfl ?_
                  refine wp_getI (j := 2) rfl (congrArg Prod.fst (kf_87 X.1)) rfl ?_
                  refine wp_iload rfl rfl ?_
                  refine wp_isub rfl ?_
                  have g26 := H.1
                  replace H := H.2
                  refine Wp.topI (y := ((h 87 2) - 1)) (w32_I g26) ?_
                  refine wp_icgt (tn := 22) rfl rfl (fun c27 => ?_) (fun c27 => ?_)
                  · replace H := H.1 c27
                    refine wp_iconst rfl ?_
                    refine wp_zret rfl rfl (by decide) ?_
                    show Wp X _ 225 25 [vr 87, vi x2, vi x3] [vi 0] _ _
                    refine wp_ifeqT (tn := 32) rfl rfl (by decide) ?_
                    refine wp_iconst rfl ?_
                    refine wp_iret rfl rfl ?_
                    show Wp X _ 27 33 [vr 6, vi 3, vi x2, vi x3, vu] [vi 2] _ _
                    refine wp_istore (L2 := [vr 6, vi 3, vi x2, vi x3, vi 2]) rfl (Nat.le_of_ble_eq_true rfl) rfl ?_
                    refine wp_iload rfl rfl ?_
                    refine wp_ifeqF (tn := 50) rfl rfl (by decide) ?_
                    refine wp_aload rfl rfl ?_
                    refine wp_iload rfl rfl ?_
                    refine wp_putI (j := 10) rfl (congrArg Prod.fst (kf_6 X.1)) rfl rfl rfl ?_
                    refine wp_iconst rfl ?_
                    exact wp_iret rfl rfl H
                  · replace H := H.2 c27
                    refine wp_iconst rfl ?_
                    refine wp_goto (tn := 23) rfl rfl ?_
                    refine wp_zret rfl rfl (by decide) ?_
                    show Wp X _ 225 25 [vr 87, vi x2, vi x3] [vi 1] _ _
                    refine wp_ifeqF (tn := 32) rfl rfl (by decide) ?_
                    refine wp_iconst rfl ?_
                    refine wp_goto (tn := 33) rfl rfl ?_
                    refine wp_iret rfl rfl ?_
                    show Wp X _ 27 33 [vr 6, vi 3, vi x2, vi x3, vu] [vi 0] _ _
                    refine wp_istore (L2 := [vr 6, vi 3, vi x2, vi x3, vi 0]) rfl (Nat.le_of_ble_eq_true rfl) rfl ?_
                    refine wp_iload rfl rfl ?_
                    refine wp_ifeqT (tn := 50) rfl rfl (by decide) ?_
                    refine wp_aload rfl rfl ?_
                    refine wp_getR (r := 79) rfl (congrArg Prod.fst (kf_6 X.1)) rfl ?_
                    refine wp_iload rfl rfl ?_
                    refine wp_aaload (r := 86) rfl (kf_80 X.1) (by decide) (by decide) rfl ?_
                    refine wp_iload rfl rfl ?_
                    refine wp_call (k := 227) (ρ2 := 1) (L2 := [vr 87, vi x3]) rfl rfl rfl (Nat.le_of_ble_eq_true rfl) (Nat.le_of_ble_eq_true rfl) (Nat.le_of_ble_eq_true rfl) (rcv_V rfl (congrArg Prod.fst (kf_87 X.1))) rfl ?_
                    refine wp_aload rfl rfl ?_
                    refine wp_iload rfl rfl ?_
                    refine wp_iconst rfl ?_
                    refine wp_call (k := 226) (ρ2 := 0) (L2 := [vr 87, vi x3, vi 1]) rfl rfl rfl (Nat.le_of_ble_eq_true rfl) (Nat.le_of_ble_eq_true rfl) (Nat.le_of_ble_eq_true rfl) (rcv_V rfl (congrArg Prod.fst (kf_87 X.1))) rfl ?_
                    refine wp_iload rfl rfl ?_
                    refine wp_ifltF (tn := 22) rfl rfl c25 ?_
                    refine wp_iload rfl rfl ?_
                    refine wp_ifltF (tn := 22) rfl rfl (by decide) ?_
                    refine wp_iload rfl rfl ?_
                    refine wp_aload rfl rfl ?_
                    refine wp_getI (j := 2) rfl (congrArg Prod.fst (kf_87 X.1)) rfl ?_
                    refine wp_iload rfl rfl ?_
                    refine wp_isub rfl ?_
                    refine Wp.topI (y := ((h 87 2) - 1)) (w32_I g26) ?_
                    refine wp_icgtF (tn := 22) rfl rfl c27 ?_
                    refine wp_iconst rfl ?_
                    refine wp_goto (tn := 23) rfl rfl ?_
                    refine wp_zret rfl rfl (by decide) ?_
                    show Wp X _ 227 6 [vr 87, vi x3] [vi 1] _ _
                    refine wp_ifeqF (tn := 18) rfl rfl (by decide) ?_
                    refine wp_aload rfl rfl ?_
                    refine wp_getR (r := 87) rfl (congrArg Prod.fst (kf_87 X.1)) rfl ?_
                    refine wp_iload rfl rfl ?_
                    have g28 := H.1
                    replace H := H.2
                    refine wp_iaload rfl (kf_88 X.1) g28 ?_
                    refine wp_goto (tn := 19) rfl rfl ?_
                    refine wp_iret rfl rfl ?_
                    show Wp X _ 27 60 [vr 6, vi 3, vi x2, vi x3, vi 0] [vi (h 88 x3)] _ _
                    exact wp_iret rfl rfl H
              · replace H := H.2 c24
                refine wp_iconst rfl ?_
                refine wp_iret rfl rfl ?_
                show Wp X _ 27 33 [vr 6, vi 3, vi x2, vi x3, vu] [vi 3] _ _
                refine wp_istore (L2 := [vr 6, vi 3, vi x2, vi x3, vi 3]) rfl (Nat.le_of_ble_eq_true rfl) rfl ?_
                refine wp_iload rfl rfl ?_
                refine wp_ifeqF (tn := 50) rfl rfl (by decide) ?_
                refine wp_aload rfl rfl ?_
                refine wp_iload rfl rfl ?_
                refine wp_putI (j := 10) rfl (congrArg Prod.fst (kf_6 X.1)) rfl rfl rfl ?_
                refine wp_iconst rfl ?_
                exact wp_iret rfl rfl H
            · replace H := H.2 c23
              refine wp_iconst rfl ?_
              refine wp_goto (tn := 13) rfl rfl ?_
              refine wp_zret rfl rfl (by decide) ?_
              show Wp X _ 225 4 [vr 87, vi x2, vi x3] [vi 1] _ _
              refine wp_ifeqF (tn := 9) rfl rfl (by decide) ?_
              refine wp_iconst rfl ?_
              refine wp_iret rfl rfl ?_
              show Wp X _ 27 33 [vr 6, vi 3, vi x2, vi x3, vu] [vi 1] _ _
              refine wp_istore (L2 := [vr 6, vi 3, vi x2, vi x3, vi 1]) rfl (Nat.le_of_ble_eq_true rfl) rfl ?_
              refine wp_iload rfl rfl ?_
              refine wp_ifeqF (tn := 50) rfl rfl (by decide) ?_
              refine wp_aload rfl rfl ?_
              refine wp_iload rfl rfl ?_
              refine wp_putI (j := 10) rfl (congrArg Prod.fst (kf_6 X.1)) rfl rfl rfl ?_
              refine wp_iconst rfl ?_
              exact wp_iret rfl rfl H
        · replace H := H.2 c4
          refine wp_iconst rfl ?_
          refine wp_goto (tn := 15) rfl rfl ?_
          refine wp_zret rfl rfl (by decide) ?_
          show Wp X _ 27 15 [vr 6, vi x1, vi x2, vi x3, vu] [vi 1] _ _
          refine wp_ifeqF (tn := 22) rfl rfl (by decide) ?_
          refine wp_iconst rfl ?_
          exact wp_iret rfl rfl H
    · replace H := H.2 c2
      refine wp_iconst rfl ?_
      refine wp_goto (tn := 15) rfl rfl ?_
      refine wp_zret rfl rfl (by decide) ?_
      show Wp X _ 27 6 [vr 6, vi x1, vi x2, vi x3, vu] [vi 1] _ _
      refine wp_ifneT (tn := 18) rfl rfl (by decide) ?_
      refine wp_iconst rfl ?_
      exact wp_iret rfl rfl H
/-- WarnLines.copy(IIIII)I, from 0 -/
theorem S28_6_0 {X : Nat × (Int → Int)} {h : HP} {Q : bQ} (x1 : Int) (x2 : Int) (x3 : Int) (x4 : Int) (x5 : Int) (H : ((x1 < 0 → Q (some (vi (-2))) h) ∧ (0 ≤ x1 → ((x1 ≤ 3 → ((x3 < 0 → Q (some (vi (-2))) h) ∧ (0 ≤ x3 → ((x3 ≤ 3 → ((x1 = 0 → ((x3 = 0 → (((h 81 1) ≠ (-1) → (((h 81 1) = (h 81 1) → ((x2 < 0 → Q (some (vi (-12))) (upd2 h 6 10 2)) ∧ (0 ≤ x2 → ((x5 < 0 → Q (some (vi (-12))) (upd2 h 6 10 2)) ∧ (0 ≤ x5 → ((R32 ((h 81 2) - x5)) ∧ ((((h 81 2) - x5) < x2 → Q (some (vi (-12))) (upd2 h 6 10 2)) ∧ (x2 ≤ ((h 81 2) - x5) → ((x4 < 0 → Q (some (vi (-12))) (upd2 h 6 10 2)) ∧ (0 ≤ x4 → ((((h 81 2) - x5) < x4 → Q (some (vi (-12))) (upd2 h 6 10 2)) ∧ (x4 ≤ ((h 81 2) - x5) → ((0 ≤ x5 ∧ 0 ≤ x2 ∧ 0 ≤ x4 ∧ x2 + x5 ≤ 60 ∧ x4 + x5 ≤ 60) ∧ Q (some (vi 1)) (cpyH h 82 x4 82 x2 x5)))))))))))))) ∧ ((h 81 1) ≠ (h 81 1) → Q (some (vi (-14))) (upd2 h 6 10 4)))) ∧ ((h 81 1) = (-1) → Q (some (vi (-11))) (upd2 h 6 10 1)))) ∧ (x3 = 1 → (((h 81 1) ≠ (-1) → (((h 83 1) ≠ (-1) → (((h 81 1) = (h 83 1) → ((x2 < 0 → Q (some (vi (-12))) (upd2 h 6 10 2)) ∧ (0 ≤ x2 → ((x5 < 0 → Q (some (vi (-12))) (upd2 h 6 10 2)) ∧ (0 ≤ x5 → ((R32 ((h 81 2) - x5)) ∧ ((((h 81 2) - x5) < x2 → Q (some (vi (-12))) (upd2 h 6 10 2)) ∧ (x2 ≤ ((h 81 2) - x5) → ((x4 < 0 → Q (some (vi (-12))) (upd2 h 6 10 2)) ∧ (0 ≤ x4 → ((R32 ((h 83 2) - x5)) ∧ ((((h 83 2) - x5) < x4 → Q (some (vi (-12))) (upd2 h 6 10 2)) ∧ (x4 ≤ ((h 83 2) - x5) → ((0 ≤ x5 ∧ 0 ≤ x2 ∧ 0 ≤ x4 ∧ x2 + x5 ≤ 60 ∧ x4 + x5 ≤ 60) ∧ Q (some (vi 1)) (cpyH h 84 x4 82 x2 x5))))))))))))))) ∧ ((h 81 1) ≠ (h 83 1) → Q (some (vi (-14))) (upd2 h 6 10 4)))) ∧ ((h 83 1) = (-1) → Q (some (vi (-11))) (upd2 h 6 10 1)))) ∧ ((h 81 1) = (-1) → Q (some (vi (-11))) (upd2 h 6 10 1)))) ∧ (x3 = 2 → (((h 81 1) ≠ (-1) → (((h 85 1) ≠ (-1) → (((h 81 1) = (h 85 1) → ((x2 < 0 → Q (some (vi (-12))) (upd2 h 6 10 2)) ∧ (0 ≤ x2 → ((x5 < 0 → Q (some (vi (-12))) (upd2 h 6 10 2)) ∧ (0 ≤ x5 → ((R32 ((h 81 2) - x5)) ∧ ((((h 81 2) - x5) < x2 → Q (some (vi (-12))) (upd2 h 6 10 2)) ∧ (x2 ≤ ((h 81 2) - x5) → ((x4 < 0 → Q (some (vi (-12))) (upd2 h 6 10 2)) ∧ (0 ≤ x4 → ((R32 ((h 85 2) - x5)) ∧ ((((h 85 2) - x5) < x4 → Q (some (vi (-12))) (upd2 h 6 10 2)) ∧ (x4 ≤ ((h 85 2) - x5) → ((0 ≤ x5 ∧ 0 ≤ x2 ∧ 0 ≤ x4 ∧ x2 + x5 ≤ 60 ∧ x4 + x5 ≤ 60) ∧ Q (some (vi 1)) (cpyH h 86 x4 82 x2 x5))))))))))))))) ∧ ((h 81 1) ≠ (h 85 1) → Q (some (vi (-14))) (upd2 h 6 10 4)))) ∧ ((h 85 1) = (-1) → Q (some (vi (-11))) (upd2 h 6 10 1)))) ∧ ((h 81 1) = (-1) → Q (some (vi (-11))) (upd2 h 6 10 1)))) ∧ (x3 = 3 → (((h 81 1) ≠ (-1) → (((h 87 1) ≠ (-1) → (((h 81 1) = (h 87 1) → ((x2 < 0 → Q (some (vi (-12))) (upd2 h 6 10 2)) ∧ (0 ≤ x2 → ((x5 < 0 → Q (some (vi (-12))) (upd2 h 6 10 2)) ∧ (0 ≤ x5 → ((R32 ((h 81 2) - x5)) ∧ ((((h 81 2) - x5) < x2 → Q (some (vi (-12))) (upd2 h 6 10 2)) ∧ (x2 ≤ ((h 81 2) - x5) → ((x4 < 0 → Q (some (vi (-12))) (upd2 h 6 10 2)) ∧ (0 ≤ x4 → ((R32 ((h 87 2) - x5)) ∧ ((((h 87 2) - x5) < x4 → Q (some (vi (-12))) (upd2 h 6 10 2)) ∧ (x4 ≤ ((h 87 2) - x5) → ((0 ≤ x5 ∧ 0 ≤ x2 ∧ 0 ≤ x4 ∧ x2 + x5 ≤ 60 ∧ x4 + x5 ≤ 60) ∧ Q (some (vi 1)) (cpyH h 88 x4 82 x2 x5))))))))))))))) ∧ ((h 81 1) ≠ (h 87 1) → Q (some (vi (-14))) (upd2 h 6 10 4)))) ∧ ((h 87 1) = (-1) → Q (some (vi (-11))) (upd2 h 6 10 1)))) ∧ ((h 81 1) = (-1) → Q (some (vi (-11))) (upd2 h 6 10 1)))))) ∧ (x1 = 1 → ((x3 = 0 → (((h 83 1) ≠ (-1) → (((h 81 1) ≠ (-1) → (((h 83 1) = (h 81 1) → ((x2 < 0 → Q (some (vi (-12))) (upd2 h 6 10 2)) ∧ (0 ≤ x2 → ((x5 < 0 → Q (some (vi (-12))) (upd2 h 6 10 2)) ∧ (0 ≤ x5 → ((R32 ((h 83 2) - x5)) ∧ ((((h 83 2) - x5) < x2 → Q (some (vi (-12))) (upd2 h 6 10 2)) ∧ (x2 ≤ ((h 83 2) - x5) → ((x4 < 0 → Q (some (vi (-12))) (upd2 h 6 10 2)) ∧ (0 ≤ x4 → ((R32 ((h 81 2) - x5)) ∧ ((((h 81 2) - x5) < x4 → Q (some (vi (-12))) (upd2 h 6 10 2)) ∧ (x4 ≤ ((h 81 2) - x5) → ((0 ≤ x5 ∧ 0 ≤ x2 ∧ 0 ≤ x4 ∧ x2 + x5 ≤ 60 ∧ x4 + x5 ≤ 60) ∧ Q (some (vi 1)) (cpyH h 82 x4 84 x2 x5))))))))))))))) ∧ ((h 83 1) ≠ (h 81 1) → Q (some (vi (-14))) (upd2 h 6 10 4)))) ∧ ((h 81 1) = (-1) → Q (some (vi (-11))) (upd2 h 6 10 1)))) ∧ ((h 83 1) = (-1) → Q (some (vi (-11))) (upd2 h 6 10 1)))) ∧ (x3 = 1 → (((h 83 1) ≠ (-1) → (((h 83 1) = (h 83 1) → ((x2 < 0 → Q (some (vi (-12))) (upd2 h 6 10 2)) ∧ (0 ≤ x2 → ((x5 < 0 → Q (some (vi (-12))) (upd2 h 6 10 2)) ∧ (0 ≤ x5 → ((R32 ((h 83 2) - x5)) ∧ ((((h 83 2) - x5) < x2 → Q (some (vi (-12))) (upd2 h 6 10 2)) ∧ (x2 ≤ ((h 83 2) - x5) → ((x4 < 0 → Q (some (vi (-12))) (upd2 h 6 10 2)) ∧ (0 ≤ x4 → ((((h 83 2) - x5) < x4 → Q (some (vi (-12))) (upd2 h 6 10 2)) ∧ (x4 ≤ ((h 83 2) - x5) → ((0 ≤ x5 ∧ 0 ≤ x2 ∧ 0 ≤ x4 ∧ x2 + x5 ≤ 60 ∧ x4 + x5 ≤ 60) ∧ Q (some (vi 1)) (cpyH h 84 x4 84 x2 x5)))))))))))))) ∧ ((h 83 1) ≠ (h 83 1) → Q (some (vi (-14))) (upd2 h 6 10 4)))) ∧ ((h 83 1) = (-1) → Q (some (vi (-11))) (upd2 h 6 10 1)))) ∧ (x3 = 2 → (((h 83 1) ≠ (-1) → (((h 85 1) ≠ (-1) → (((h 83 1) = (h 85 1) → ((x2 < 0 → Q (some (vi (-12))) (upd2 h 6 10 2)) ∧ (0 ≤ x2 → ((x5 < 0 → Q (some (vi (-12))) (upd2 h 6 10 2)) ∧ (0 ≤ x5 → ((R32 ((h 83 2) - x5)) ∧ ((((h 83 2) - x5) < x2 → Q (some (vi (-12))) (upd2 h 6 10 2)) ∧ (x2 ≤ ((h 83 2) - x5) → ((x4 < 0 → Q (some (vi (-12))) (upd2 h 6 10 2)) ∧ (0 ≤ x4 → ((R32 ((h 85 2) - x5)) ∧ ((((h 85 2) - x5) < x4 → Q (some (vi (-12))) (upd2 h 6 10 2)) ∧ (x4 ≤ ((h 85 2) - x5) → ((0 ≤ x5 ∧ 0 ≤ x2 ∧ 0 ≤ x4 ∧ x2 + x5 ≤ 60 ∧ x4 + x5 ≤ 60) ∧ Q (some (vi 1)) (cpyH h 86 x4 84 x2 x5))))))))))))))) ∧ ((h 83 1) ≠ (h 85 1) → Q (some (vi (-14))) (upd2 h 6 10 4)))) ∧ ((h 85 1) = (-1) → Q (some (vi (-11))) (upd2 h 6 10 1)))) ∧ ((h 83 1) = (-1) → Q (some (vi (-11))) (upd2 h 6 10 1)))) ∧ (x3 = 3 → (((h 83 1) ≠ (-1) → (((h 87 1) ≠ (-1) → (((h 83 1) = (h 87 1) → ((x2 < 0 → Q (some (vi (-12))) (upd2 h 6 10 2)) ∧ (0 ≤ x2 → ((x5 < 0 → Q (some (vi (-12))) (upd2 h 6 10 2)) ∧ (0 ≤ x5 → ((R32 ((h 83 2) - x5)) ∧ ((((h 83 2) - x5) < x2 → Q (some (vi (-12))) (upd2 h 6 10 2)) ∧ (x2 ≤ ((h 83 2) - x5) → ((x4 < 0 → Q (some (vi (-12))) (upd2 h 6 10 2)) ∧ (0 ≤ x4 → ((R32 ((h 87 2) - x5)) ∧ ((((h 87 2) - x5) < x4 → Q (some (vi (-12))) (upd2 h 6 10 2)) ∧ (x4 ≤ ((h 87 2) - x5) → ((0 ≤ x5 ∧ 0 ≤ x2 ∧ 0 ≤ x4 ∧ x2 + x5 ≤ 60 ∧ x4 + x5 ≤ 60) ∧ Q (some (vi 1)) (cpyH h 88 x4 84 x2 x5))))))))))))))) ∧ ((h 83 1) ≠ (h 87 1) → Q (some (vi (-14))) (upd2 h 6 10 4)))) ∧ ((h 87 1) = (-1) → Q (some (vi (-11))) (upd2 h 6 10 1)))) ∧ ((h 83 1) = (-1) → Q (some (vi (-11))) (upd2 h 6 10 1)))))) ∧ (x1 = 2 → ((x3 = 0 → (((h 85 1) ≠ (-1) → (((h 81 1) ≠ (-1) → (((h 85 1) = (h 81 1) → ((x2 < 0 → Q (some (vi (-12))) (upd2 h 6 10 2)) ∧ (0 ≤ x2 → ((x5 < 0 → Q (some (vi (-12))) (upd2 h 6 10 2)) ∧ (0 ≤ x5 → ((R32 ((h 85 2) - x5)) ∧ ((((h 85 2) - x5) < x2 → Q (some (vi (-12))) (upd2 h 6 10 2)) ∧ (x2 ≤ ((h 85 2) - x5) → ((x4 < 0 → Q (some (vi (-12))) (upd2 h 6 10 2)) ∧ (0 ≤ x4 → ((R32 ((h 81 2) - x5)) ∧ ((((h 81 2) - x5) < x4 → Q (some (vi (-12))) (upd2 h 6 10 2)) ∧ (x4 ≤ ((h 81 2) - x5) → ((0 ≤ x5 ∧ 0 ≤ x2 ∧ 0 ≤ x4 ∧ x2 + x5 ≤ 60 ∧ x4 + x5 ≤ 60) ∧ Q (some (vi 1)) (cpyH h 82 x4 86 x2 x5))))))))))))))) ∧ ((h 85 1) ≠ (h 81 1) → Q (some (vi (-14))) (upd2 h 6 10 4)))) ∧ ((h 81 1) = (-1) → Q (some (vi (-11))) (upd2 h 6 10 1)))) ∧ ((h 85 1) = (-1) → Q (some (vi (-11))) (upd2 h 6 10 1)))) ∧ (x3 = 1 → (((h 85 1) ≠ (-1) → (((h 83 1) ≠ (-1) → (((h 85 1) = (h 83 1) → ((x2 < 0 → Q (some (vi (-12))) (upd2 h 6 10 2)) ∧ (0 ≤ x2 → ((x5 < 0 → Q (some (vi (-12))) (upd2 h 6 10 2)) ∧ (0 ≤ x5 → ((R32 ((h 85 2) - x5)) ∧ ((((h 85 2) - x5) < x2 → Q (some (vi (-12))) (upd2 h 6 10 2)) ∧ (x2 ≤ ((h 85 2) - x5) → ((x4 < 0 → Q (some (vi (-12))) (upd2 h 6 10 2)) ∧ (0 ≤ x4 → ((R32 ((h 83 2) - x5)) ∧ ((((h 83 2) - x5) < x4 → Q (some (vi (-12))) (upd2 h 6 10 2)) ∧ (x4 ≤ ((h 83 2) - x5) → ((0 ≤ x5 ∧ 0 ≤ x2 ∧ 0 ≤ x4 ∧ x2 + x5 ≤ 60 ∧ x4 + x5 ≤ 60) ∧ Q (some (vi 1)) (cpyH h 84 x4 86 x2 x5))))))))))))))) ∧ ((h 85 1) ≠ (h 83 1) → Q (some (vi (-14))) (upd2 h 6 10 4)))) ∧ ((h 83 1) = (-1) → Q (some (vi (-11))) (upd2 h 6 10 1)))) ∧ ((h 85 1) = (-1) → Q (some (vi (-11))) (upd2 h 6 10 1)))) ∧ (x3 = 2 → (((h 85 1) ≠ (-1) → (((h 85 1) = (h 85 1) → ((x2 < 0 → Q (some (vi (-12))) (upd2 h 6 10 2)) ∧ (0 ≤ x2 → ((x5 < 0 → Q (some (vi (-12))) (upd2 h 6 10 2)) ∧ (0 ≤ x5 → ((R32 ((h 85 2) - x5)) ∧ ((((h 85 2) - x5) < x2 → Q (some (vi (-12))) (upd2 h 6 10 2)) ∧ (x2 ≤ ((h 85 2) - x5) → ((x4 < 0 → Q (some (vi (-12))) (upd2 h 6 10 2)) ∧ (0 ≤ x4 → ((((h 85 2) - x5) < x4 → Q (some (vi (-12))) (upd2 h 6 10 2)) ∧ (x4 ≤ ((h 85 2) - x5) → ((0 ≤ x5 ∧ 0 ≤ x2 ∧ 0 ≤ x4 ∧ x2 + x5 ≤ 60 ∧ x4 + x5 ≤ 60) ∧ Q (some (vi 1)) (cpyH h 86 x4 86 x2 x5)))))))))))))) ∧ ((h 85 1) ≠ (h 85 1) → Q (some (vi (-14))) (upd2 h 6 10 4)))) ∧ ((h 85 1) = (-1) → Q (some (vi (-11))) (upd2 h 6 10 1)))) ∧ (x3 = 3 → (((h 85 1) ≠ (-1) → (((h 87 1) ≠ (-1) → (((h 85 1) = (h 87 1) → ((x2 < 0 → Q (some (vi (-12))) (upd2 h 6 10 2)) ∧ (0 ≤ x2 → ((x5 < 0 → Q (some (vi (-12))) (upd2 h 6 10 2)) ∧ (0 ≤ x5 → ((R32 ((h 85 2) - x5)) ∧ ((((h 85 2) - x5) < x2 → Q (some (vi (-12))) (upd2 h 6 10 2)) ∧ (x2 ≤ ((h 85 2) - x5) → ((x4 < 0 → Q (some (vi (-12))) (upd2 h 6 10 2)) ∧ (0 ≤ x4 → ((R32 ((h 87 2) - x5)) ∧ ((((h 87 2) - x5) < x4 → Q (some (vi (-12))) (upd2 h 6 10 2)) ∧ (x4 ≤ ((h 87 2) - x5) → ((0 ≤ x5 ∧ 0 ≤ x2 ∧ 0 ≤ x4 ∧ x2 + x5 ≤ 60 ∧ x4 + x5 ≤ 60) ∧ Q (some (vi 1)) (cpyH h 88 x4 86 x2 x5))))))))))))))) ∧ ((h 85 1) ≠ (h 87 1) → Q (some (vi (-14))) (upd2 h 6 10 4)))) ∧ ((h 87 1) = (-1) → Q (some (vi (-11))) (upd2 h 6 10 1)))) ∧ ((h 85 1) = (-1) → Q (some (vi (-11))) (upd2 h 6 10 1)))))) ∧ (x1 = 3 → ((x3 = 0 → (((h 87 1) ≠ (-1) → (((h 81 1) ≠ (-1) → (((h 87 1) = (h 81 1) → ((x2 < 0 → Q (some (vi (-12))) (upd2 h 6 10 2)) ∧ (0 ≤ x2 → ((x5 < 0 → Q (some (vi (-12))) (upd2 h 6 10 2)) ∧ (0 ≤ x5 → ((R32 ((h 87 2) - x5)) ∧ ((((h 87 2) - x5) < x2 → Q (some (vi (-12))) (upd2 h 6 10 2)) ∧ (x2 ≤ ((h 87 2) - x5) → ((x4 < 0 → Q (some (vi (-12))) (upd2 h 6 10 2)) ∧ (0 ≤ x4 → ((R32 ((h 81 2) - x5)) ∧ ((((h 81 2) - x5) < x4 → Q (some (vi (-12))) (upd2 h 6 10 2)) ∧ (x4 ≤ ((h 81 2) - x5) → ((0 ≤ x5 ∧ 0 ≤ x2 ∧ 0 ≤ x4 ∧ x2 + x5 ≤ 60 ∧ x4 + x5 ≤ 60) ∧ Q (some (vi 1)) (cpyH h 82 x4 88 x2 x5))))))))))))))) ∧ ((h 87 1) ≠ (h 81 1) → Q (some (vi (-14))) (upd2 h 6 10 4)))) ∧ ((h 81 1) = (-1) → Q (some (vi (-11))) (upd2 h 6 10 1)))) ∧ ((h 87 1) = (-1) → Q (some (vi (-11))) (upd2 h 6 10 1)))) ∧ (x3 = 1 → (((h 87 1) ≠ (-1) → (((h 83 1) ≠ (-1) → (((h 87 1) = (h 83 1) → ((x2 < 0 → Q (some (vi (-12))) (upd2 h 6 10 2)) ∧ (0 ≤ x2 → ((x5 < 0 → Q (some (vi (-12))) (upd2 h 6 10 2)) ∧ (0 ≤ x5 → ((R32 ((h 87 2) - x5)) ∧ ((((h 87 2) - x5) < x2 → Q (some (vi (-12))) (upd2 h 6 10 2)) ∧ (x2 ≤ ((h 87 2) - x5) → ((x4 < 0 → Q (some (vi (-12))) (upd2 h 6 10 2)) ∧ (0 ≤ x4 → ((R32 ((h 83 2) - x5)) ∧ ((((h 83 2) - x5) < x4 → Q (some (vi (-12))) (upd2 h 6 10 2)) ∧ (x4 ≤ ((h 83 2) - x5) → ((0 ≤ x5 ∧ 0 ≤ x2 ∧ 0 ≤ x4 ∧ x2 + x5 ≤ 60 ∧ x4 + x5 ≤ 60) ∧ Q (some (vi 1)) (cpyH h 84 x4 88 x2 x5))))))))))))))) ∧ ((h 87 1) ≠ (h 83 1) → Q (some (vi (-14))) (upd2 h 6 10 4)))) ∧ ((h 83 1) = (-1) → Q (some (vi (-11))) (upd2 h 6 10 1)))) ∧ ((h 87 1) = (-1) → Q (some (vi (-11))) (upd2 h 6 10 1)))) ∧ (x3 = 2 → (((h 87 1) ≠ (-1) → (((h 85 1) ≠ (-1) → (((h 87 1) = (h 85 1) → ((x2 < 0 → Q (some (vi (-12))) (upd2 h 6 10 2)) ∧ (0 ≤ x2 → ((x5 < 0 → Q (some (vi (-12))) (upd2 h 6 10 2)) ∧ (0 ≤ x5 → ((R32 ((h 87 2) - x5)) ∧ ((((h 87 2) - x5) < x2 → Q (some (vi (-12))) (upd2 h 6 10 2)) ∧ (x2 ≤ ((h 87 2) - x5) → ((x4 < 0 → Q (some (vi (-12))) (upd2 h 6 10 2)) ∧ (0 ≤ x4 → ((R32 ((h 85 2) - x5)) ∧ ((((h 85 2) - x5) < x4 → Q (some (vi (-12))) (upd2 h 6 10 2)) ∧ (x4 ≤ ((h 85 2) - x5) → ((0 ≤ x5 ∧ 0 ≤ x2 ∧ 0 ≤ x4 ∧ x2 + x5 ≤ 60 ∧ x4 + x5 ≤ 60) ∧ Q (some (vi 1)) (cpyH h 86 x4 88 x2 x5))))))))))))))) ∧ ((h 87 1) ≠ (h 85 1) → Q (some (vi (-14))) (upd2 h 6 10 4)))) ∧ ((h 85 1) = (-1) → Q (some (vi (-11))) (upd2 h 6 10 1)))) ∧ ((h 87 1) = (-1) → Q (some (vi (-11))) (upd2 h 6 10 1)))) ∧ (x3 = 3 → (((h 87 1) ≠ (-1) → (((h 87 1) = (h 87 1) → ((x2 < 0 → Q (some (vi (-12))) (upd2 h 6 10 2)) ∧ (0 ≤ x2 → ((x5 < 0 → Q (some (vi (-12))) (upd2 h 6 10 2)) ∧ (0 ≤ x5 → ((R32 ((h 87 2) - x5)) ∧ ((((h 87 2) - x5) < x2 → Q (some (vi (-12))) (upd2 h 6 10 2)) ∧ (x2 ≤ ((h 87 2) - x5) → ((x4 < 0 → Q (some (vi (-12))) (upd2 h 6 10 2)) ∧ (0 ≤ x4 → ((((h 87 2) - x5) < x4 → Q (some (vi (-12))) (upd2 h 6 10 2)) ∧ (x4 ≤ ((h 87 2) - x5) → ((0 ≤ x5 ∧ 0 ≤ x2 ∧ 0 ≤ x4 ∧ x2 + x5 ≤ 60 ∧ x4 + x5 ≤ 60) ∧ Q (some (vi 1)) (cpyH h 88 x4 88 x2 x5)))))))))))))) ∧ ((h 87 1) ≠ (h 87 1) → Q (some (vi (-14))) (upd2 h 6 10 4)))) ∧ ((h 87 1) = (-1) → Q (some (vi (-11))) (upd2 h 6 10 1)))))))) ∧ (3 < x3 → Q (some (vi (-2))) h))))) ∧ (3 < x1 → Q (some (vi (-2))) h))))) : Wp X 2 28 0 [vr 6, vi x1, vi x2, vi x3, vi x4, vi x5, vu, vu] [] h Q := by
  refine wp_iload rfl rfl ?_
  refine wp_iconst rfl ?_
  refine wp_iconst rfl ?_
  refine wp_call (k := 40) (ρ2 := 0) (L2 := [vi x1, vi 0, vi 3]) rfl rfl rfl (Nat.le_of_ble_eq_true rfl) (Nat.le_of_ble_eq_true rfl) (Nat.le_of_ble_eq_true rfl) (rcv_S rfl) rfl ?_
  refine wp_iload rfl rfl ?_
  refine wp_iload rfl rfl ?_
  refine wp_iclt (tn := 10) rfl rfl (fun c1 => ?_) (fun c1 => ?_)
  · replace H := H.1 c1
    refine wp_iconst rfl ?_
    refine wp_goto (tn := 15) rfl rfl ?_
    refine wp_zret rfl rfl (by decide) ?_
    show Wp X _ 28 6 [vr 6, vi x1, vi x2, vi x3, vi x4, vi x5, vu, vu] [vi 1] _ _
    refine wp_ifneT (tn := 18) rfl rfl (by decide) ?_
    refine wp_iconst rfl ?_
    exact wp_iret rfl rfl H
  · replace H := H.2 c1
    refine wp_iload rfl rfl ?_
    refine wp_iload rfl rfl ?_
    refine wp_icle (tn := 14) rfl rfl (fun c2 => ?_) (fun c2 => ?_)
    · replace H := H.1 c2
      refine wp_iconst rfl ?_
      refine wp_zret rfl rfl (by decide) ?_
      show Wp X _ 28 6 [vr 6, vi x1, vi x2, vi x3, vi x4, vi x5, vu, vu] [vi 0] _ _
      refine wp_ifneF (tn := 18) rfl rfl (by decide) ?_
      refine wp_iload rfl rfl ?_
      refine wp_iconst rfl ?_
      refine wp_iconst rfl ?_
      refine wp_call (k := 40) (ρ2 := 0) (L2 := [vi x3, vi 0, vi 3]) rfl rfl rfl (Nat.le_of_ble_eq_true rfl) (Nat.le_of_ble_eq_true rfl) (Nat.le_of_ble_eq_true rfl) (rcv_S rfl) rfl ?_
      refine wp_iload rfl rfl ?_
      refine wp_iload rfl rfl ?_
      refine wp_iclt (tn := 10) rfl rfl (fun c3 => ?_) (fun c3 => ?_)
      · replace H := H.1 c3
        refine wp_iconst rfl ?_
        refine wp_goto (tn := 15) rfl rfl ?_
        refine wp_zret rfl rfl (by decide) ?_
        show Wp X _ 28 15 [vr 6, vi x1, vi x2, vi x3, vi x4, vi x5, vu, vu] [vi 1] _ _
        refine wp_ifeqF (tn := 21) rfl rfl (by decide) ?_
        refine wp_iconst rfl ?_
        exact wp_iret rfl rfl H
      · replace H := H.2 c3
        refine wp_iload rfl rfl ?_
        refine wp_iload rfl rfl ?_
        refine wp_icle (tn := 14) rfl rfl (fun c4 => ?_) (fun c4 => ?_)
        · replace H := H.1 c4
          refine wp_iconst rfl ?_
          refine wp_zret rfl rfl (by decide) ?_
          show Wp X _ 28 15 [vr 6, vi x1, vi x2, vi x3, vi x4, vi x5, vu, vu] [vi 0] _ _
          refine wp_ifeqT (tn := 21) rfl rfl (by decide) ?_
          refine wp_aload rfl rfl ?_
          refine wp_getR (r := 79) rfl (congrArg Prod.fst (kf_6 X.1)) rfl ?_
          refine wp_iload rfl rfl ?_
          rcases (show x1 = 0 ∨ x1 = 1 ∨ x1 = 2 ∨ x1 = 3 by have := (show 0 ≤ x1 ∧ x1 < 4 from ⟨c1, (by clear H; omega)⟩); clear H; omega) with rfl | rfl | rfl | rfl
          · replace H := H.1 rfl
            refine wp_aaload (r := 80) rfl (kf_80 X.1) (by decide) (by decide) rfl ?_
            refine wp_astore (L2 := [vr 6, vi 0, vi x2, vi x3, vi x4, vi x5, vr 81, vu]) rfl (Nat.le_of_ble_eq_true rfl) rfl ?_
            refine wp_aload rfl rfl ?_
            refine wp_getR (r := 79) rfl (congrArg Prod.fst (kf_6 X.1)) rfl ?_
            refine wp_iload rfl rfl ?_
            rcases (show x3 = 0 ∨ x3 = 1 ∨ x3 = 2 ∨ x3 = 3 by have := (show 0 ≤ x3 ∧ x3 < 4 from ⟨c3, (by clear H; omega)⟩); clear H; omega) with rfl | rfl | rfl | rfl
            · replace H := H.1 rfl
              refine wp_aaload (r := 80) rfl (kf_80 X.1) (by decide) (by decide) rfl ?_
              refine wp_astore (L2 := [vr 6, vi 0, vi x2, vi 0, vi x4, vi x5, vr 81, vr 81]) rfl (Nat.le_of_ble_eq_true rfl) rfl ?_
              refine wp_aload rfl rfl ?_
              refine wp_call (k := 220) (ρ2 := 0) (L2 := [vr 81]) rfl rfl rfl (Nat.le_of_ble_eq_true rfl) (Nat.le_of_ble_eq_true rfl) (Nat.le_of_ble_eq_true rfl) (rcv_V rfl (congrArg Prod.fst (kf_81 X.1))) rfl ?_
              refine wp_aload rfl rfl ?_
              refine wp_getI (j := 1) rfl (congrArg Prod.fst (kf_81 X.1)) rfl ?_
              refine wp_iconst rfl ?_
              refine wp_icne (tn := 12) rfl rfl (fun c5 => ?_) (fun c5 => ?_)
              · replace H := H.1 c5
                refine wp_iconst rfl ?_
                refine wp_zret rfl rfl (by decide) ?_
                show Wp X _ 28 42 [vr 6, vi 0, vi x2, vi 0, vi x4, vi x5, vr 81, vr 81] [vi 0] _ _
                refine wp_ifneF (tn := 53) rfl rfl (by decide) ?_
                refine wp_aload rfl rfl ?_
                refine wp_call (k := 220) (ρ2 := 0) (L2 := [vr 81]) rfl rfl rfl (Nat.le_of_ble_eq_true rfl) (Nat.le_of_ble_eq_true rfl) (Nat.le_of_ble_eq_true rfl) (rcv_V rfl (congrArg Prod.fst (kf_81 X.1))) rfl ?_
                refine wp_aload rfl rfl ?_
                refine wp_getI (j := 1) rfl (congrArg Prod.fst (kf_81 X.1)) rfl ?_
                refine wp_iconst rfl ?_
                refine wp_icneT (tn := 12) rfl rfl c5 ?_
                refine wp_iconst rfl ?_
                refine wp_zret rfl rfl (by decide) ?_
                show Wp X _ 28 50 [vr 6, vi 0, vi x2, vi 0, vi x4, vi x5, vr 81, vr 81] [vi 0] _ _
                refine wp_ifeqT (tn := 59) rfl rfl (by decide) ?_
                refine wp_aload rfl rfl ?_
                refine wp_call (k := 221) (ρ2 := 0) (L2 := [vr 81]) rfl rfl rfl (Nat.le_of_ble_eq_true rfl) (Nat.le_of_ble_eq_true rfl) (Nat.le_of_ble_eq_true rfl) (rcv_V rfl (congrArg Prod.fst (kf_81 X.1))) rfl ?_
                refine wp_aload rfl rfl ?_
                refine wp_getI (j := 1) rfl (congrArg Prod.fst (kf_81 X.1)) rfl ?_
                refine wp_iret rfl rfl ?_
                show Wp X _ 28 64 [vr 6, vi 0, vi x2, vi 0, vi x4, vi x5, vr 81, vr 81] [vi (h 81 1)] _ _
                refine wp_aload rfl rfl ?_
                refine wp_call (k := 221) (ρ2 := 0) (L2 := [vr 81]) rfl rfl rfl (Nat.le_of_ble_eq_true rfl) (Nat.le_of_ble_eq_true rfl) (Nat.le_of_ble_eq_true rfl) (rcv_V rfl (congrArg Prod.fst (kf_81 X.1))) rfl ?_
                refine wp_aload rfl rfl ?_
                refine wp_getI (j := 1) rfl (congrArg Prod.fst (kf_81 X.1)) rfl ?_
                refine wp_iret rfl rfl ?_
                show Wp X _ 28 69 [vr 6, vi 0, vi x2, vi 0, vi x4, vi x5, vr 81, vr 81] [vi (h 81 1), vi (h 81 1)] _ _
                refine wp_iceq (tn := 78) rfl rfl (fun c6 => ?_) (fun c6 => ?_)
                · replace H := H.1 c6
                  refine wp_aload rfl rfl ?_
                  refine wp_iload rfl rfl ?_
                  refine wp_iload rfl rfl ?_
                  refine wp_call (k := 226) (ρ2 := 0) (L2 := [vr 81, vi x2, vi x5]) rfl rfl rfl (Nat.le_of_ble_eq_true rfl) (Nat.le_of_ble_eq_true rfl) (Nat.le_of_ble_eq_true rfl) (rcv_V rfl (congrArg Prod.fst (kf_81 X.1))) rfl ?_
                  refine wp_iload rfl rfl ?_
                  refine wp_iflt (tn := 22) rfl rfl (fun c7 => ?_) (fun c7 => ?_)
                  · replace H := H.1 c7
                    refine wp_iconst rfl ?_
                    refine wp_zret rfl rfl (by decide) ?_
                    show Wp X _ 28 86 [vr 6, vi 0, vi x2, vi 0, vi x4, vi x5, vr 81, vr 81] [vi 0] _ _
                    refine wp_ifeqT (tn := 101) rfl rfl (by decide) ?_
                    refine wp_aload rfl rfl ?_
                    refine wp_iconst rfl ?_
                    refine wp_call (k := 38) (ρ2 := 0) (L2 := [vr 6, vi 2]) rfl rfl rfl (Nat.le_of_ble_eq_true rfl) (Nat.le_of_ble_eq_true rfl) (Nat.le_of_ble_eq_true rfl) (rcv_V rfl (congrArg Prod.fst (kf_6 X.1))) rfl ?_
                    refine wp_aload rfl rfl ?_
                    refine wp_iload rfl rfl ?_
                    refine wp_putI (j := 10) rfl (congrArg Prod.fst (kf_6 X.1)) rfl rfl rfl ?_
                    refine wp_iconst rfl ?_
                    refine wp_iload rfl rfl ?_
                    refine wp_isub rfl ?_
                    refine Wp.topI (y := (-12)) (by decide) ?_
                    refine wp_iret rfl rfl ?_
                    show Wp X _ 28 106 [vr 6, vi 0, vi x2, vi 0, vi x4, vi x5, vr 81, vr 81] [vi (-12)] _ _
                    exact wp_iret rfl rfl H
                  · replace H := H.2 c7
                    refine wp_iload rfl rfl ?_
                    refine wp_iflt (tn := 22) rfl rfl (fun c8 => ?_) (fun c8 => ?_)
                    · replace H := H.1 c8
                      refine wp_iconst rfl ?_
                      refine wp_zret rfl rfl (by decide) ?_
                      show Wp X _ 28 86 [vr 6, vi 0, vi x2, vi 0, vi x4, vi x5, vr 81, vr 81] [vi 0] _ _
                      refine wp_ifeqT (tn := 101) rfl rfl (by decide) ?_
                      refine wp_aload rfl rfl ?_
                      refine wp_iconst rfl ?_
                      refine wp_call (k := 38) (ρ2 := 0) (L2 := [vr 6, vi 2]) rfl rfl rfl (Nat.le_of_ble_eq_true rfl) (Nat.le_of_ble_eq_true rfl) (Nat.le_of_ble_eq_true rfl) (rcv_V rfl (congrArg Prod.fst (kf_6 X.1))) rfl ?_
                      refine wp_aload rfl rfl ?_
                      refine wp_iload rfl rfl ?_
                      refine wp_putI (j := 10) rfl (congrArg Prod.fst (kf_6 X.1)) rfl rfl rfl ?_
                      refine wp_iconst rfl ?_
                      refine wp_iload rfl rfl ?_
                      refine wp_isub rfl ?_
                      refine Wp.topI (y := (-12)) (by decide) ?_
                      refine wp_iret rfl rfl ?_
                      show Wp X _ 28 106 [vr 6, vi 0, vi x2, vi 0, vi x4, vi x5, vr 81, vr 81] [vi (-12)] _ _
                      exact wp_iret rfl rfl H
                    · replace H := H.2 c8
                      refine wp_iload rfl rfl ?_
                      refine wp_aload rfl rfl ?_
                      refine wp_getI (j := 2) rfl (congrArg Prod.fst (kf_81 X.1)) rfl ?_
                      refine wp_iload rfl rfl ?_
                      refine wp_isub rfl ?_
                      have g9 := H.1
                      replace H := H.2
                      refine Wp.topI (y := ((h 81 2) - x5)) (w32_I g9) ?_
                      refine wp_icgt (tn := 22) rfl rfl (fun c10 => ?_) (fun c10 => ?_)
                      · replace H := H.1 c10
                        refine wp_iconst rfl ?_
                        refine wp_zret rfl rfl (by decide) ?_
                        show Wp X _ 28 86 [vr 6, vi 0, vi x2, vi 0, vi x4, vi x5, vr 81, vr 81] [vi 0] _ _
                        refine wp_ifeqT (tn := 101) rfl rfl (by decide) ?_
                        refine wp_aload rfl rfl ?_
                        refine wp_iconst rfl ?_
                        refine wp_call (k := 38) (ρ2 := 0) (L2 := [vr 6, vi 2]) rfl rfl rfl (Nat.le_of_ble_eq_true rfl) (Nat.le_of_ble_eq_true rfl) (Nat.le_of_ble_eq_true rfl) (rcv_V rfl (congrArg Prod.fst (kf_6 X.1))) rfl ?_
                        refine wp_aload rfl rfl ?_
                        refine wp_iload rfl rfl ?_
                        refine wp_putI (j := 10) rfl (congrArg Prod.fst (kf_6 X.1)) rfl rfl rfl ?_
                        refine wp_iconst rfl ?_
                        refine wp_iload rfl rfl ?_
                        refine wp_isub rfl ?_
                        refine Wp.topI (y := (-12)) (by decide) ?_
                        refine wp_iret rfl rfl ?_
                        show Wp X _ 28 106 [vr 6, vi 0, vi x2, vi 0, vi x4, vi x5, vr 81, vr 81] [vi (-12)] _ _
                        exact wp_iret rfl rfl H
                      · replace H := H.2 c10
                        refine wp_iconst rfl ?_
                        refine wp_goto (tn := 23) rfl rfl ?_
                        refine wp_zret rfl rfl (by decide) ?_
                        show Wp X _ 28 86 [vr 6, vi 0, vi x2, vi 0, vi x4, vi x5, vr 81, vr 81] [vi 1] _ _
                        refine wp_ifeqF (tn := 101) rfl rfl (by decide) ?_
                        refine wp_aload rfl rfl ?_
                        refine wp_iload rfl rfl ?_
                        refine wp_iload rfl rfl ?_
                        refine wp_call (k := 226) (ρ2 := 0) (L2 := [vr 81, vi x4, vi x5]) rfl rfl rfl (Nat.le_of_ble_eq_true rfl) (Nat.le_of_ble_eq_true rfl) (Nat.le_of_ble_eq_true rfl) (rcv_V rfl (congrArg Prod.fst (kf_81 X.1))) rfl ?_
                        refine wp_iload rfl rfl ?_
                        refine wp_iflt (tn := 22) rfl rfl (fun c11 => ?_) (fun c11 => ?_)
                        · replace H := H.1 c11
                          refine wp_iconst rfl ?_
                          refine wp_zret rfl rfl (by decide) ?_
                          show Wp X _ 28 98 [vr 6, vi 0, vi x2, vi 0, vi x4, vi x5, vr 81, vr 81] [vi 0] _ _
                          refine wp_ifneF (tn := 107) rfl rfl (by decide) ?_
                          refine wp_aload rfl rfl ?_
                          refine wp_iconst rfl ?_
                          refine wp_call (k := 38) (ρ2 := 0) (L2 := [vr 6, vi 2]) rfl rfl rfl (Nat.le_of_ble_eq_true rfl) (Nat.le_of_ble_eq_true rfl) (Nat.le_of_ble_eq_true rfl) (rcv_V rfl (congrArg Prod.fst (kf_6 X.1))) rfl ?_
                          refine wp_aload rfl rfl ?_
                          refine wp_iload rfl rfl ?_
                          refine wp_putI (j := 10) rfl (congrArg Prod.fst (kf_6 X.1)) rfl rfl rfl ?_
                          refine wp_iconst rfl ?_
                          refine wp_iload rfl rfl ?_
                          refine wp_isub rfl ?_
                          refine Wp.topI (y := (-12)) (by decide) ?_
                          refine wp_iret rfl rfl ?_
                          show Wp X _ 28 106 [vr 6, vi 0, vi x2, vi 0, vi x4, vi x5, vr 81, vr 81] [vi (-12)] _ _
                          exact wp_iret rfl rfl H
                        · replace H := H.2 c11
                          refine wp_iload rfl rfl ?_
                          refine wp_ifltF (tn := 22) rfl rfl c8 ?_
                          refine wp_iload rfl rfl ?_
                          refine wp_aload rfl rfl ?_
                          refine wp_getI (j := 2) rfl (congrArg Prod.fst (kf_81 X.1)) rfl ?_
                          refine wp_iload rfl rfl ?_
                          refine wp_isub rfl ?_
                          refine Wp.topI (y := ((h 81 2) - x5)) (w32_I g9) ?_
                          refine wp_icgt (tn := 22) rfl rfl (fun c12 => ?_) (fun c12 => ?_)
                          · replace H := H.1 c12
                            refine wp_iconst rfl ?_
                            refine wp_zret rfl rfl (by decide) ?_
                            show Wp X _ 28 98 [vr 6, vi 0, vi x2, vi 0, vi x4, vi x5, vr 81, vr 81] [vi 0] _ _
                            refine wp_ifneF (tn := 107) rfl rfl (by decide) ?_
                            refine wp_aload rfl rfl ?_
                            refine wp_iconst rfl ?_
                            refine wp_call (k := 38) (ρ2 := 0) (L2 := [vr 6, vi 2]) rfl rfl rfl (Nat.le_of_ble_eq_true rfl) (Nat.le_of_ble_eq_true rfl) (Nat.le_of_ble_eq_true rfl) (rcv_V rfl (congrArg Prod.fst (kf_6 X.1))) rfl ?_
                            refine wp_aload rfl rfl ?_
                            refine wp_iload rfl rfl ?_
                            refine wp_putI (j := 10) rfl (congrArg Prod.fst (kf_6 X.1)) rfl rfl rfl ?_
                            refine wp_iconst rfl ?_
                            refine wp_iload rfl rfl ?_
                            refine wp_isub rfl ?_
                            refine Wp.topI (y := (-12)) (by decide) ?_
                            refine wp_iret rfl rfl ?_
                            show Wp X _ 28 106 [vr 6, vi 0, vi x2, vi 0, vi x4, vi x5, vr 81, vr 81] [vi (-12)] _ _
                            exact wp_iret rfl rfl H
                          · replace H := H.2 c12
                            refine wp_iconst rfl ?_
                            refine wp_goto (tn := 23) rfl rfl ?_
                            refine wp_zret rfl rfl (by decide) ?_
                            show Wp X _ 28 98 [vr 6, vi 0, vi x2, vi 0, vi x4, vi x5, vr 81, vr 81] [vi 1] _ _
                            refine wp_ifneT (tn := 107) rfl rfl (by decide) ?_
                            refine wp_aload rfl rfl ?_
                            refine wp_aload rfl rfl ?_
                            refine wp_iload rfl rfl ?_
                            refine wp_iload rfl rfl ?_
                            refine wp_iload rfl rfl ?_
                            refine wp_call (k := 229) (ρ2 := 1) (L2 := [vr 81, vr 81, vi x2, vi x4, vi x5]) rfl rfl rfl (Nat.le_of_ble_eq_true rfl) (Nat.le_of_ble_eq_true rfl) (Nat.le_of_ble_eq_true rfl) (rcv_V rfl (congrArg Prod.fst (kf_81 X.1))) rfl ?_
                            refine wp_aload rfl rfl ?_
                            refine wp_iload rfl rfl ?_
                            refine wp_iload rfl rfl ?_
                            refine wp_call (k := 226) (ρ2 := 0) (L2 := [vr 81, vi x2, vi x5]) rfl rfl rfl (Nat.le_of_ble_eq_true rfl) (Nat.le_of_ble_eq_true rfl) (Nat.le_of_ble_eq_true rfl) (rcv_V rfl (congrArg Prod.fst (kf_81 X.1))) rfl ?_
                            refine wp_iload rfl rfl ?_
                            refine wp_ifltF (tn := 22) rfl rfl c7 ?_
                            refine wp_iload rfl rfl ?_
                            refine wp_ifltF (tn := 22) rfl rfl c8 ?_
                            refine wp_iload rfl rfl ?_
                            refine wp_aload rfl rfl ?_
                            refine wp_getI (j := 2) rfl (congrArg Prod.fst (kf_81 X.1)) rfl ?_
                            refine wp_iload rfl rfl ?_
                            refine wp_isub rfl ?_
                            refine Wp.topI (y := ((h 81 2) - x5)) (w32_I g9) ?_
                            refine wp_icgtF (tn := 22) rfl rfl c10 ?_
                            refine wp_iconst rfl ?_
                            refine wp_goto (tn := 23) rfl rfl ?_
                            refine wp_zret rfl rfl (by decide) ?_
                            show Wp X _ 229 7 [vr 81, vr 81, vi x2, vi x4, vi x5] [vi 1] _ _
                            refine wp_ifeqF (tn := 35) rfl rfl (by decide) ?_
                            refine wp_aload rfl rfl ?_
                            refine wp_iload rfl rfl ?_
                            refine wp_iload rfl rfl ?_
                            refine wp_call (k := 226) (ρ2 := 0) (L2 := [vr 81, vi x4, vi x5]) rfl rfl rfl (Nat.le_of_ble_eq_true rfl) (Nat.le_of_ble_eq_true rfl) (Nat.le_of_ble_eq_true rfl) (rcv_V rfl (congrArg Prod.fst (kf_81 X.1))) rfl ?_
                            refine wp_iload rfl rfl ?_
                            refine wp_ifltF (tn := 22) rfl rfl c11 ?_
                            refine wp_iload rfl rfl ?_
                            refine wp_ifltF (tn := 22) rfl rfl c8 ?_
                            refine wp_iload rfl rfl ?_
                            refine wp_aload rfl rfl ?_
                            refine wp_getI (j := 2) rfl (congrArg Prod.fst (kf_81 X.1)) rfl ?_
                            refine wp_iload rfl rfl ?_
                            refine wp_isub rfl ?_
                            refine Wp.topI (y := ((h 81 2) - x5)) (w32_I g9) ?_
                            refine wp_icgtF (tn := 22) rfl rfl c12 ?_
                            refine wp_iconst rfl ?_
                            refine wp_goto (tn := 23) rfl rfl ?_
                            refine wp_zret rfl rfl (by decide) ?_
                            show Wp X _ 229 17 [vr 81, vr 81, vi x2, vi x4, vi x5] [vi 1] _ _
                            refine wp_ifeqF (tn := 35) rfl rfl (by decide) ?_
                            refine wp_aload rfl rfl ?_
                            refine wp_getR (r := 81) rfl (congrArg Prod.fst (kf_81 X.1)) rfl ?_
                            refine wp_iload rfl rfl ?_
                            refine wp_aload rfl rfl ?_
                            refine wp_getR (r := 81) rfl (congrArg Prod.fst (kf_81 X.1)) rfl ?_
                            refine wp_iload rfl rfl ?_
                            refine wp_iload rfl rfl ?_
                            have g13 := H.1
                            replace H := H.2
                            refine wp_copy rfl (kf_82 X.1) (kf_82 X.1) g13 (Nat.le_of_ble_eq_true rfl) ?_
                            refine wp_vret rfl rfl ?_
                            show Wp X _ 28 119 [vr 6, vi 0, vi x2, vi 0, vi x4, vi x5, vr 81, vr 81] [] _ _
                            refine wp_iconst rfl ?_
                            exact wp_iret rfl rfl H
                · replace H := H.2 c6
                  refine wp_aload rfl rfl ?_
                  refine wp_iconst rfl ?_
                  refine wp_call (k := 38) (ρ2 := 0) (L2 := [vr 6, vi 4]) rfl rfl rfl (Nat.le_of_ble_eq_true rfl) (Nat.le_of_ble_eq_true rfl) (Nat.le_of_ble_eq_true rfl) (rcv_V rfl (congrArg Prod.fst (kf_6 X.1))) rfl ?_
                  refine wp_aload rfl rfl ?_
                  refine wp_iload rfl rfl ?_
                  refine wp_putI (j := 10) rfl (congrArg Prod.fst (kf_6 X.1)) rfl rfl rfl ?_
                  refine wp_iconst rfl ?_
                  refine wp_iload rfl rfl ?_
                  refine wp_isub rfl ?_
                  refine Wp.topI (y := (-14)) (by decide) ?_
                  refine wp_iret rfl rfl ?_
                  show Wp X _ 28 77 [vr 6, vi 0, vi x2, vi 0, vi x4, vi x5, vr 81, vr 81] [vi (-14)] _ _
                  exact wp_iret rfl rfl H
              · replace H := H.2 c5
                refine wp_iconst rfl ?_
                refine wp_goto (tn := 13) rfl rfl ?_
                refine wp_zret rfl rfl (by decide) ?_
                show Wp X _ 28 42 [vr 6, vi 0, vi x2, vi 0, vi x4, vi x5, vr 81, vr 81] [vi 1] _ _
                refine wp_ifneT (tn := 53) rfl rfl (by decide) ?_
                refine wp_aload rfl rfl ?_
                refine wp_iconst rfl ?_
                refine wp_call (k := 38) (ρ2 := 0) (L2 := [vr 6, vi 1]) rfl rfl rfl (Nat.le_of_ble_eq_true rfl) (Nat.le_of_ble_eq_true rfl) (Nat.le_of_ble_eq_true rfl) (rcv_V rfl (congrArg Prod.fst (kf_6 X.1))) rfl ?_
                refine wp_aload rfl rfl ?_
                refine wp_iload rfl rfl ?_
                refine wp_putI (j := 10) rfl (congrArg Prod.fst (kf_6 X.1)) rfl rfl rfl ?_
                refine wp_iconst rfl ?_
                refine wp_iload rfl rfl ?_
                refine wp_isub rfl ?_
                refine Wp.topI (y := (-11)) (by decide) ?_
                refine wp_iret rfl rfl ?_
                show Wp X _ 28 58 [vr 6, vi 0, vi x2, vi 0, vi x4, vi x5, vr 81, vr 81] [vi (-11)] _ _
                exact wp_iret rfl rfl H
            · replace H := H.2.1 rfl
              refine wp_aaload (r := 82) rfl (kf_80 X.1) (by decide) (by decide) rfl ?_
              refine wp_astore (L2 := [vr 6, vi 0, vi x2, vi 1, vi x4, vi x5, vr 81, vr 83]) rfl (Nat.le_of_ble_eq_true rfl) rfl ?_
              refine wp_aload rfl rfl ?_
              refine wp_call (k := 220) (ρ2 := 0) (L2 := [vr 81]) rfl rfl rfl (Nat.le_of_ble_eq_true rfl) (Nat.le_of_ble_eq_true rfl) (Nat.le_of_ble_eq_true rfl) (rcv_V rfl (congrArg Prod.fst (kf_81 X.1))) rfl ?_
              refine wp_aload rfl rfl ?_
              refine wp_getI (j := 1) rfl (congrArg Prod.fst (kf_81 X.1)) rfl ?_
              refine wp_iconst rfl ?_
              refine wp_icne (tn := 12) rfl rfl (fun c14 => ?_) (fun c14 => ?_)
              · replace H := H.1 c14
                refine wp_iconst rfl ?_
                refine wp_zret rfl rfl (by decide) ?_
                show Wp X _ 28 42 [vr 6, vi 0, vi x2, vi 1, vi x4, vi x5, vr 81, vr 83] [vi 0] _ _
                refine wp_ifneF (tn := 53) rfl rfl (by decide) ?_
                refine wp_aload rfl rfl ?_
                refine wp_call (k := 220) (ρ2 := 0) (L2 := [vr 83]) rfl rfl rfl (Nat.le_of_ble_eq_true rfl) (Nat.le_of_ble_eq_true rfl) (Nat.le_of_ble_eq_true rfl) (rcv_V rfl (congrArg Prod.fst (kf_83 X.1))) rfl ?_
                refine wp_aload rfl rfl ?_
                refine wp_getI (j := 1) rfl (congrArg Prod.fst (kf_83 X.1)) rfl ?_
                refine wp_iconst rfl ?_
                refine wp_icne (tn := 12) rfl rfl (fun c15 => ?_) (fun c15 => ?_)
                · replace H := H.1 c15
                  refine wp_iconst rfl ?_
                  refine wp_zret rfl rfl (by decide) ?_
                  show Wp X _ 28 50 [vr 6, vi 0, vi x2, vi 1, vi x4, vi x5, vr 81, vr 83] [vi 0] _ _
                  refine wp_ifeqT (tn := 59) rfl rfl (by decide) ?_
                  refine wp_aload rfl rfl ?_
                  refine wp_call (k := 221) (ρ2 := 0) (L2 := [vr 81]) rfl rfl rfl (Nat.le_of_ble_eq_true rfl) (Nat.le_of_ble_eq_true rfl) (Nat.le_of_ble_eq_true rfl) (rcv_V rfl (congrArg Prod.fst (kf_81 X.1))) rfl ?_
                  refine wp_aload rfl rfl ?_
                  refine wp_getI (j := 1) rfl (congrArg Prod.fst (kf_81 X.1)) rfl ?_
                  refine wp_iret rfl rfl ?_
                  show Wp X _ 28 64 [vr 6, vi 0, vi x2, vi 1, vi x4, vi x5, vr 81, vr 83] [vi (h 81 1)] _ _
                  refine wp_aload rfl rfl ?_
                  refine wp_call (k := 221) (ρ2 := 0) (L2 := [vr 83]) rfl rfl rfl (Nat.le_of_ble_eq_true rfl) (Nat.le_of_ble_eq_true rfl) (Nat.le_of_ble_eq_true rfl) (rcv_V rfl (congrArg Prod.fst (kf_83 X.1))) rfl ?_
                  refine wp_aload rfl rfl ?_
                  refine wp_getI (j := 1) rfl (congrArg Prod.fst (kf_83 X.1)) rfl ?_
                  refine wp_iret rfl rfl ?_
                  show Wp X _ 28 69 [vr 6, vi 0, vi x2, vi 1, vi x4, vi x5, vr 81, vr 83] [vi (h 83 1), vi (h 81 1)] _ _
                  refine wp_iceq (tn := 78) rfl rfl (fun c16 => ?_) (fun c16 => ?_)
                  · replace H := H.1 c16
                    refine wp_aload rfl rfl ?_
                    refine wp_iload rfl rfl ?_
                    refine wp_iload rfl rfl ?_
                    refine wp_call (k := 226) (ρ2 := 0) (L2 := [vr 81, vi x2, vi x5]) rfl rfl rfl (Nat.le_of_ble_eq_true rfl) (Nat.le_of_ble_eq_true rfl) (Nat.le_of_ble_eq_true rfl) (rcv_V rfl (congrArg Prod.fst (kf_81 X.1))) rfl ?_
                    refine wp_iload rfl rfl ?_
                    refine wp_iflt (tn := 22) rfl rfl (fun c17 => ?_) (fun c17 => ?_)
                    · replace H := H.1 c17
                      refine wp_iconst rfl ?_
                      refine wp_zret rfl rfl (by decide) ?_
                      show Wp X _ 28 86 [vr 6, vi 0, vi x2, vi 1, vi x4, vi x5, vr 81, vr 83] [vi 0] _ _
                      refine wp_ifeqT (tn := 101) rfl rfl (by decide) ?_
                      refine wp_aload rfl rfl ?_
                      refine wp_iconst rfl ?_
                      refine wp_call (k := 38) (ρ2 := 0) (L2 := [vr 6, vi 2]) rfl rfl rfl (Nat.le_of_ble_eq_true rfl) (Nat.le_of_ble_eq_true rfl) (Nat.le_of_ble_eq_true rfl) (rcv_V rfl (congrArg Prod.fst (kf_6 X.1))) rfl ?_
                      refine wp_aload rfl rfl ?_
                      refine wp_iload rfl rfl ?_
                      refine wp_putI (j := 10) rfl (congrArg Prod.fst (kf_6 X.1)) rfl rfl rfl ?_
                      refine wp_iconst rfl ?_
                      refine wp_iload rfl rfl ?_
                      refine wp_isub rfl ?_
                      refine Wp.topI (y := (-12)) (by decide) ?_
                      refine wp_iret rfl rfl ?_
                      show Wp X _ 28 106 [vr 6, vi 0, vi x2, vi 1, vi x4, vi x5, vr 81, vr 83] [vi (-12)] _ _
                      exact wp_iret rfl rfl H
                    · replace H := H.2 c17
                      refine wp_iload rfl rfl ?_
                      refine wp_iflt (tn := 22) rfl rfl (fun c18 => ?_) (fun c18 => ?_)
                      · replace H := H.1 c18
                        refine wp_iconst rfl ?_
                        refine wp_zret rfl rfl (by decide) ?_
                        show Wp X _ 28 86 [vr 6, vi 0, vi x2, vi 1, vi x4, vi x5, vr 81, vr 83] [vi 0] _ _
                        refine wp_ifeqT (tn := 101) rfl rfl (by decide) ?_
                        refine wp_aload rfl rfl ?_
                        refine wp_iconst rfl ?_
                        refine wp_call (k := 38) (ρ2 := 0) (L2 := [vr 6, vi 2]) rfl rfl rfl (Nat.le_of_ble_eq_true rfl) (Nat.le_of_ble_eq_true rfl) (Nat.le_of_ble_eq_true rfl) (rcv_V rfl (congrArg Prod.fst (kf_6 X.1))) rfl ?_
                        refine wp_aload rfl rfl ?_
                        refine wp_iload rfl rfl ?_
                        refine wp_putI (j := 10) rfl (congrArg Prod.fst (kf_6 X.1)) rfl rfl rfl ?_
                        refine wp_iconst rfl ?_
                        refine wp_iload rfl rfl ?_
                        refine wp_isub rfl ?_
                        refine Wp.topI (y := (-12)) (by decide) ?_
                        refine wp_iret rfl rfl ?_
                        show Wp X _ 28 106 [vr 6, vi 0, vi x2, vi 1, vi x4, vi x5, vr 81, vr 83] [vi (-12)] _ _
                        exact wp_iret rfl rfl H
                      · replace H := H.2 c18
                        refine wp_iload rfl rfl ?_
                        refine wp_aload rfl rfl ?_
                        refine wp_getI (j := 2) rfl (congrArg Prod.fst (kf_81 X.1)) rfl ?_
                        refine wp_iload rfl rfl ?_
                        refine wp_isub rfl ?_
                        have g19 := H.1
                        replace H := H.2
                        refine Wp.topI (y := ((h 81 2) - x5)) (w32_I g19) ?_
                        refine wp_icgt (tn := 22) rfl rfl (fun c20 => ?_) (fun c20 => ?_)
                        · replace H := H.1 c20
                          refine wp_iconst rfl ?_
                          refine wp_zret rfl rfl (by decide) ?_
                          show Wp X _ 28 86 [vr 6, vi 0, vi x2, vi 1, vi x4, vi x5, vr 81, vr 83] [vi 0] _ _
                          refine wp_ifeqT (tn := 101) rfl rfl (by decide) ?_
                          refine wp_aload rfl rfl ?_
                          refine wp_iconst rfl ?_
                          refine wp_call (k := 38) (ρ2 := 0) (L2 := [vr 6, vi 2]) rfl rfl rfl (Nat.le_of_ble_eq_true rfl) (Nat.le_of_ble_eq_true rfl) (Nat.le_of_ble_eq_true rfl) (rcv_V rfl (congrArg Prod.fst (kf_6 X.1))) rfl ?_
                          refine wp_aload rfl rfl ?_
                          refine wp_iload rfl rfl ?_
                          refine wp_putI (j := 10) rfl (congrArg Prod.fst (kf_6 X.1)) rfl rfl rfl ?_
                          refine wp_iconst rfl ?_
                          refine wp_iload rfl rfl ?_
                          refine wp_isub rfl ?_
                          refine Wp.topI (y := (-12)) (by decide) ?_
                          refine wp_iret rfl rfl ?_
                          show Wp X _ 28 106 [vr 6, vi 0, vi x2, vi 1, vi x4, vi x5, vr 81, vr 83] [vi (-12)] _ _
                          exact wp_iret rfl rfl H
                        · replace H := H.2 c20
                          refine wp_iconst rfl ?_
                          refine wp_goto (tn := 23) rfl rfl ?_
                          refine wp_zret rfl rfl (by decide) ?_
                          show Wp X _ 28 86 [vr 6, vi 0, vi x2, vi 1, vi x4, vi x5, vr 81, vr 83] [vi 1] _ _
                          refine wp_ifeqF (tn := 101) rfl rfl (by decide) ?_
                          refine wp_aload rfl rfl ?_
                          refine wp_iload rfl rfl ?_
                          refine wp_iload rfl rfl ?_
                          refine wp_call (k := 226) (ρ2 := 0) (L2 := [vr 83, vi x4, vi x5]) rfl rfl rfl (Nat.le_of_ble_eq_true rfl) (Nat.le_of_ble_eq_true rfl) (Nat.le_of_ble_eq_true rfl) (rcv_V rfl (congrArg Prod.fst (kf_83 X.1))) rfl ?_
                          refine wp_iload rfl rfl ?_
                          refine wp_iflt (tn := 22) rfl rfl (fun c21 => ?_) (fun c21 => ?_)
                          · replace H := H.1 c21
                            refine wp_iconst rfl ?_
                            refine wp_zret rfl rfl (by decide) ?_
                            show Wp X _ 28 98 [vr 6, vi 0, vi x2, vi 1, vi x4, vi x5, vr 81, vr 83] [vi 0] _ _
                            refine wp_ifneF (tn := 107) rfl rfl (by decide) ?_
                            refine wp_aload rfl rfl ?_
                            refine wp_iconst rfl ?_
                            refine wp_call (k := 38) (ρ2 := 0) (L2 := [vr 6, vi 2]) rfl rfl rfl (Nat.le_of_ble_eq_true rfl) (Nat.le_of_ble_eq_true rfl) (Nat.le_of_ble_eq_true rfl) (rcv_V rfl (congrArg Prod.fst (kf_6 X.1))) rfl ?_
                            refine wp_aload rfl rfl ?_
                            refine wp_iload rfl rfl ?_
                            refine wp_putI (j := 10) rfl (congrArg Prod.fst (kf_6 X.1)) rfl rfl rfl ?_
                            refine wp_iconst rfl ?_
                            refine wp_iload rfl rfl ?_
                            refine wp_isub rfl ?_
                            refine Wp.topI (y := (-12)) (by decide) ?_
                            refine wp_iret rfl rfl ?_
                            show Wp X _ 28 106 [vr 6, vi 0, vi x2, vi 1, vi x4, vi x5, vr 81, vr 83] [vi (-12)] _ _
                            exact wp_iret rfl rfl H
                          · replace H := H.2 c21
                            refine wp_iload rfl rfl ?_
                            refine wp_ifltF (tn := 22) rfl rfl c18 ?_
                            refine wp_iload rfl rfl ?_
                            refine wp_aload rfl rfl ?_
                            refine wp_getI (j := 2) rfl (congrArg Prod.fst (kf_83 X.1)) rfl ?_
                            refine wp_iload rfl rfl ?_
                            refine wp_isub rfl ?_
                            have g22 := H.1
                            replace H := H.2
                            refine Wp.topI (y := ((h 83 2) - x5)) (w32_I g22) ?_
                            refine wp_icgt (tn := 22) rfl rfl (fun c23 => ?_) (fun c23 => ?_)
                            · replace H := H.1 c23
                              refine wp_iconst rfl ?_
                              refine wp_zret rfl rfl (by decide) ?_
                              show Wp X _ 28 98 [vr 6, vi 0, vi x2, vi 1, vi x4, vi x5, vr 81, vr 83] [vi 0] _ _
                              refine wp_ifneF (tn := 107) rfl rfl (by decide) ?_
                              refine wp_aload rfl rfl ?_
                              refine wp_iconst rfl ?_
                              refine wp_call (k := 38) (ρ2 := 0) (L2 := [vr 6, vi 2]) rfl rfl rfl (Nat.le_of_ble_eq_true rfl) (Nat.le_of_ble_eq_true rfl) (Nat.le_of_ble_eq_true rfl) (rcv_V rfl (congrArg Prod.fst (kf_6 X.1))) rfl ?_
                              refine wp_aload rfl rfl ?_
                              refine wp_iload rfl rfl ?_
                              refine wp_putI (j := 10) rfl (congrArg Prod.fst (kf_6 X.1)) rfl rfl rfl ?_
                              refine wp_iconst rfl ?_
                              refine wp_iload rfl rfl ?_
                              refine wp_isub rfl ?_
                              refine Wp.topI (y := (-12)) (by decide) ?_
                              refine wp_iret rfl rfl ?_
                              show Wp X _ 28 106 [vr 6, vi 0, vi x2, vi 1, vi x4, vi x5, vr 81, vr 83] [vi (-12)] _ _
                              exact wp_iret rfl rfl H
                            · replace H := H.2 c23
                              refine wp_iconst rfl ?_
                              refine wp_goto (tn := 23) rfl rfl ?_
                              refine wp_zret rfl rfl (by decide) ?_
                              show Wp X _ 28 98 [vr 6, vi 0, vi x2, vi 1, vi x4, vi x5, vr 81, vr 83] [vi 1] _ _
                              refine wp_ifneT (tn := 107) rfl rfl (by decide) ?_
                              refine wp_aload rfl rfl ?_
                              refine wp_aload rfl rfl ?_
                              refine wp_iload rfl rfl ?_
                              refine wp_iload rfl rfl ?_
                              refine wp_iload rfl rfl ?_
                              refine wp_call (k := 229) (ρ2 := 1) (L2 := [vr 83, vr 81, vi x2, vi x4, vi x5]) rfl rfl rfl (Nat.le_of_ble_eq_true rfl) (Nat.le_of_ble_eq_true rfl) (Nat.le_of_ble_eq_true rfl) (rcv_V rfl (congrArg Prod.fst (kf_83 X.1))) rfl ?_
                              refine wp_aload rfl rfl ?_
                              refine wp_iload rfl rfl ?_
                              refine wp_iload rfl rfl ?_
                              refine wp_call (k := 226) (ρ2 := 0) (L2 := [vr 81, vi x2, vi x5]) rfl rfl rfl (Nat.le_of_ble_eq_true rfl) (Nat.le_of_ble_eq_true rfl) (Nat.le_of_ble_eq_true rfl) (rcv_V rfl (congrArg Prod.fst (kf_81 X.1))) rfl ?_
                              refine wp_iload rfl rfl ?_
                              refine wp_ifltF (tn := 22) rfl rfl c17 ?_
                              refine wp_iload rfl rfl ?_
                              refine wp_ifltF (tn := 22) rfl rfl c18 ?_
                              refine wp_iload rfl rfl ?_
                              refine wp_aload rfl rfl ?_
                              refine wp_getI (j := 2) rfl (congrArg Prod.fst (kf_81 X.1)) rfl ?_
                              refine wp_iload rfl rfl ?_
                              refine wp_isub rfl ?_
                              refine Wp.topI (y := ((h 81 2) - x5)) (w32_I g19) ?_
                              refine wp_icgtF (tn := 22) rfl rfl c20 ?_
                              refine wp_iconst rfl ?_
                              refine wp_goto (tn := 23) rfl rfl ?_
                              refine wp_zret rfl rfl (by decide) ?_
                              show Wp X _ 229 7 [vr 83, vr 81, vi x2, vi x4, vi x5] [vi 1] _ _
                              refine wp_ifeqF (tn := 35) rfl rfl (by decide) ?_
                              refine wp_aload rfl rfl ?_
                              refine wp_iload rfl rfl ?_
                              refine wp_iload rfl rfl ?_
                              refine wp_call (k := 226) (ρ2 := 0) (L2 := [vr 83, vi x4, vi x5]) rfl rfl rfl (Nat.le_of_ble_eq_true rfl) (Nat.le_of_ble_eq_true rfl) (Nat.le_of_ble_eq_true rfl) (rcv_V rfl (congrArg Prod.fst (kf_83 X.1))) rfl ?_
                              refine wp_iload rfl rfl ?_
                              refine wp_ifltF (tn := 22) rfl rfl c21 ?_
                              refine wp_iload rfl rfl ?_
                              refine wp_ifltF (tn := 22) rfl rfl c18 ?_
                              refine wp_iload rfl rfl ?_
                              refine wp_aload rfl rfl ?_
                              refine wp_getI (j := 2) rfl (congrArg Prod.fst (kf_83 X.1)) rfl ?_
                              refine wp_iload rfl rfl ?_
                              refine wp_isub rfl ?_
                              refine Wp.topI (y := ((h 83 2) - x5)) (w32_I g22) ?_
                              refine wp_icgtF (tn := 22) rfl rfl c23 ?_
                              refine wp_iconst rfl ?_
                              refine wp_goto (tn := 23) rfl rfl ?_
                              refine wp_zret rfl rfl (by decide) ?_
                              show Wp X _ 229 17 [vr 83, vr 81, vi x2, vi x4, vi x5] [vi 1] _ _
                              refine wp_ifeqF (tn := 35) rfl rfl (by decide) ?_
                              refine wp_aload rfl rfl ?_
                              refine wp_getR (r := 81) rfl (congrArg Prod.fst (kf_81 X.1)) rfl ?_
                              refine wp_iload rfl rfl ?_
                              refine wp_aload rfl rfl ?_
                              refine wp_getR (r := 83) rfl (congrArg Prod.fst (kf_83 X.1)) rfl ?_
                              refine wp_iload rfl rfl ?_
                              refine wp_iload rfl rfl ?_
                              have g24 := H.1
                              replace H := H.2
                              refine wp_copy rfl (kf_82 X.1) (kf_84 X.1) g24 (Nat.le_of_ble_eq_true rfl) ?_
                              refine wp_vret rfl rfl ?_
                              show Wp X _ 28 119 [vr 6, vi 0, vi x2, vi 1, vi x4, vi x5, vr 81, vr 83] [] _ _
                              refine wp_iconst rfl ?_
                              exact wp_iret rfl rfl H
                  · replace H := H.2 c16
                    refine wp_aload rfl rfl ?_
                    refine wp_iconst rfl ?_
                    refine wp_call (k := 38) (ρ2 := 0) (L2 := [vr 6, vi 4]) rfl rfl rfl (Nat.le_of_ble_eq_true rfl) (Nat.le_of_ble_eq_true rfl) (Nat.le_of_ble_eq_true rfl) (rcv_V rfl (congrArg Prod.fst (kf_6 X.1))) rfl ?_
                    refine wp_aload rfl rfl ?_
                    refine wp_iload rfl rfl ?_
                    refine wp_putI (j := 10) rfl (congrArg Prod.fst (kf_6 X.1)) rfl rfl rfl ?_
                    refine wp_iconst rfl ?_
                    refine wp_iload rfl rfl ?_
                    refine wp_isub rfl ?_
                    refine Wp.topI (y := (-14)) (by decide) ?_
                    refine wp_iret rfl rfl ?_
                    show Wp X _ 28 77 [vr 6, vi 0, vi x2, vi 1, vi x4, vi x5, vr 81, vr 83] [vi (-14)] _ _
                    exact wp_iret rfl rfl H
                · replace H := H.2 c15
                  refine wp_iconst rfl ?_
                  refine wp_goto (tn := 13) rfl rfl ?_
                  refine wp_zret rfl rfl (by decide) ?_
                  show Wp X _ 28 50 [vr 6, vi 0, vi x2, vi 1, vi x4, vi x5, vr 81, vr 83] [vi 1] _ _
                  refine wp_ifeqF (tn := 59) rfl rfl (by decide) ?_
                  refine wp_aload rfl rfl ?_
                  refine wp_iconst rfl ?_
                  refine wp_call (k := 38) (ρ2 := 0) (L2 := [vr 6, vi 1]) rfl rfl rfl (Nat.le_of_ble_eq_true rfl) (Nat.le_of_ble_eq_true rfl) (Nat.le_of_ble_eq_true rfl) (rcv_V rfl (congrArg Prod.fst (kf_6 X.1))) rfl ?_
                  refine wp_aload rfl rfl ?_
                  refine wp_iload rfl rfl ?_
                  refine wp_putI (j := 10) rfl (congrArg Prod.fst (kf_6 X.1)) rfl rfl rfl ?_
                  refine wp_iconst rfl ?_
                  refine wp_iload rfl rfl ?_
                  refine wp_isub rfl ?_
                  refine Wp.topI (y := (-11)) (by decide) ?_
                  refine wp_iret rfl rfl ?_
                  show Wp X _ 28 58 [vr 6, vi 0, vi x2, vi 1, vi x4, vi x5, vr 81, vr 83] [vi (-11)] _ _
                  exact wp_iret rfl rfl H
              · replace H := H.2 c14
                refine wp_iconst rfl ?_
                refine wp_goto (tn := 13) rfl rfl ?_
                refine wp_zret rfl rfl (by decide) ?_
                show Wp X _ 28 42 [vr 6, vi 0, vi x2, vi 1, vi x4, vi x5, vr 81, vr 83] [vi 1] _ _
                refine wp_ifneT (tn := 53) rfl rfl (by decide) ?_
                refine wp_aload rfl rfl ?_
                refine wp_iconst rfl ?_
                refine wp_call (k := 38) (ρ2 := 0) (L2 := [vr 6, vi 1]) rfl rfl rfl (Nat.le_of_ble_eq_true rfl) (Nat.le_of_ble_eq_true rfl) (Nat.le_of_ble_eq_true rfl) (rcv_V rfl (congrArg Prod.fst (kf_6 X.1))) rfl ?_
                refine wp_aload rfl rfl ?_
                refine wp_iload rfl rfl ?_
                refine wp_putI (j := 10) rfl (congrArg Prod.fst (kf_6 X.1)) rfl rfl rfl ?_
                refine wp_iconst rfl ?_
                refine wp_iload rfl rfl ?_
                refine wp_isub rfl ?_
                refine Wp.topI (y := (-11)) (by decide) ?_
                refine wp_iret rfl rfl ?_
                show Wp X _ 28 58 [vr 6, vi 0, vi x2, vi 1, vi x4, vi x5, vr 81, vr 83] [vi (-11)] _ _
                exact wp_iret rfl rfl H
            · replace H := H.2.2.1 rfl
              refine wp_aaload (r := 84) rfl (kf_80 X.1) (by decide) (by decide) rfl ?_
              refine wp_astore (L2 := [vr 6, vi 0, vi x2, vi 2, vi x4, vi x5, vr 81, vr 85]) rfl (Nat.le_of_ble_eq_true rfl) rfl ?_
              refine wp_aload rfl rfl ?_
              refine wp_call (k := 220) (ρ2 := 0) (L2 := [vr 81]) rfl rfl rfl (Nat.le_of_ble_eq_true rfl) (Nat.le_of_ble_eq_true rfl) (Nat.le_of_ble_eq_true rfl) (rcv_V rfl (congrArg Prod.fst (kf_81 X.1))) rfl ?_
              refine wp_aload rfl rfl ?_
              refine wp_getI (j := 1) rfl (congrArg Prod.fst (kf_81 X.1)) rfl ?_
              refine wp_iconst rfl ?_
              refine wp_icne (tn := 12) rfl rfl (fun c25 => ?_) (fun c25 => ?_)
              · replace H := H.1 c25
                refine wp_iconst rfl ?_
                refine wp_zret rfl rfl (by decide) ?_
                show Wp X _ 28 42 [vr 6, vi 0, vi x2, vi 2, vi x4, vi x5, vr 81, vr 85] [vi 0] _ _
                refine wp_ifneF (tn := 53) rfl rfl (by decide) ?_
                refine wp_aload rfl rfl ?_
                refine wp_call (k := 220) (ρ2 := 0) (L2 := [vr 85]) rfl rfl rfl (Nat.le_of_ble_eq_true rfl) (Nat.le_of_ble_eq_true rfl) (Nat.le_of_ble_eq_true rfl) (rcv_V rfl (congrArg Prod.fst (kf_85 X.1))) rfl ?_
                refine wp_aload rfl rfl ?_
                refine wp_getI (j := 1) rfl (congrArg Prod.fst (kf_85 X.1)) rfl ?_
                refine wp_iconst rfl ?_
                refine wp_icne (tn := 12) rfl rfl (fun c26 => ?_) (fun c26 => ?_)
                · replace H := H.1 c26
                  refine wp_iconst rfl ?_
                  refine wp_zret rfl rfl (by decide) ?_
                  show Wp X _ 28 50 [vr 6, vi 0, vi x2, vi 2, vi x4, vi x5, vr 81, vr 85] [vi 0] _ _
                  refine wp_ifeqT (tn := 59) rfl rfl (by decide) ?_
                  refine wp_aload rfl rfl ?_
                  refine wp_call (k := 221) (ρ2 := 0) (L2 := [vr 81]) rfl rfl rfl (Nat.le_of_ble_eq_true rfl) (Nat.le_of_ble_eq_true rfl) (Nat.le_of_ble_eq_true rfl) (rcv_V rfl (congrArg Prod.fst (kf_81 X.1))) rfl ?_
                  refine wp_aload rfl rfl ?_
                  refine wp_getI (j := 1) rfl (congrArg Prod.fst (kf_81 X.1)) rfl ?_
                  refine wp_iret rfl rfl ?_
                  show Wp X _ 28 64 [vr 6, vi 0, vi x2, vi 2, vi x4, vi x5, vr 81, vr 85] [vi (h 81 1)] _ _
                  refine wp_aload rfl rfl ?_
                  refine wp_call (k := 221) (ρ2 := 0) (L2 := [vr 85]) rfl rfl rfl (Nat.le_of_ble_eq_true rfl) (Nat.le_of_ble_eq_true rfl) (Nat.le_of_ble_eq_true rfl) (rcv_V rfl (congrArg Prod.fst (kf_85 X.1))) rfl ?_
                  refine wp_aload rfl rfl ?_
                  refine wp_getI (j := 1) rfl (congrArg Prod.fst (kf_85 X.1)) rfl ?_
                  refine wp_iret rfl rfl ?_
                  show Wp X _ 28 69 [vr 6, vi 0, vi x2, vi 2, vi x4, vi x5, vr 81, vr 85] [vi (h 85 1), vi (h 81 1)] _ _
                  refine wp_iceq (tn := 78) rfl rfl (fun c27 => ?_) (fun c27 => ?_)
                  · replace H := H.1 c27
                    refine wp_aload rfl rfl ?_
                    refine wp_iload rfl rfl ?_
                    refine wp_iload rfl rfl ?_
                    refine wp_call (k := 226) (ρ2 := 0) (L2 := [vr 81, vi x2, vi x5]) rfl rfl rfl (Nat.le_of_ble_eq_true rfl) (Nat.le_of_ble_eq_true rfl) (Nat.le_of_ble_eq_true rfl) (rcv_V rfl (congrArg Prod.fst (kf_81 X.1))) rfl ?_
                    refine wp_iload rfl rfl ?_
                    refine wp_iflt (tn := 22) rfl rfl (fun c28 => ?_) (fun c28 => ?_)
                    · replace H := H.1 c28
                      refine wp_iconst rfl ?_
                      refine wp_zret rfl rfl (by decide) ?_
                      show Wp X _ 28 86 [vr 6, vi 0, vi x2, vi 2, vi x4, vi x5, vr 81, vr 85] [vi 0] _ _
                      refine wp_ifeqT (tn := 101) rfl rfl (by decide) ?_
                      refine wp_aload rfl rfl ?_
                      refine wp_iconst rfl ?_
                      refine wp_call (k := 38) (ρ2 := 0) (L2 := [vr 6, vi 2]) rfl rfl rfl (Nat.le_of_ble_eq_true rfl) (Nat.le_of_ble_eq_true rfl) (Nat.le_of_ble_eq_true rfl) (rcv_V rfl (congrArg Prod.fst (kf_6 X.1))) rfl ?_
                      refine wp_aload rfl rfl ?_
                      refine wp_iload rfl rfl ?_
                      refine wp_putI (j := 10) rfl (congrArg Prod.fst (kf_6 X.1)) rfl rfl rfl ?_
                      refine wp_iconst rfl ?_
                      refine wp_iload rfl rfl ?_
                      refine wp_isub rfl ?_
                      refine Wp.topI (y := (-12)) (by decide) ?_
                      refine wp_iret rfl rfl ?_
                      show Wp X _ 28 106 [vr 6, vi 0, vi x2, vi 2, vi x4, vi x5, vr 81, vr 85] [vi (-12)] _ _
                      exact wp_iret rfl rfl H
                    · replace H := H.2 c28
                      refine wp_iload rfl rfl ?_
                      refine wp_iflt (tn := 22) rfl rfl (fun c29 => ?_) (fun c29 => ?_)
                      · replace H := H.1 c29
                        refine wp_iconst rfl ?_
                        refine wp_zret rfl rfl (by decide) ?_
                        show Wp X _ 28 86 [vr 6, vi 0, vi x2, vi 2, vi x4, vi x5, vr 81, vr 85] [vi 0] _ _
                        refine wp_ifeqT (tn := 101) rfl rfl (by decide) ?_
                        refine wp_aload rfl rfl ?_
                        refine wp_iconst rfl ?_
                        refine wp_call (k := 38) (ρ2 := 0) (L2 := [vr 6, vi 2]) rfl rfl rfl (Nat.le_of_ble_eq_true rfl) (Nat.le_of_ble_eq_true rfl) (Nat.le_of_ble_eq_true rfl) (rcv_V rfl (congrArg Prod.fst (kf_6 X.1))) rfl ?_
                        refine wp_aload rfl rfl ?_
                        refine wp_iload rfl rfl ?_
                        refine wp_putI (j := 10) rfl (congrArg Prod.fst (kf_6 X.1)) rfl rfl rfl ?_
                        refine wp_iconst rfl ?_
                        refine wp_iload rfl rfl ?_
                        refine wp_isub rfl ?_
                        refine Wp.topI (y := (-12)) (by decide) ?_
                        refine wp_iret rfl rfl ?_
                        show Wp X _ 28 106 [vr 6, vi 0, vi x2, vi 2, vi x4, vi x5, vr 81, vr 85] [vi (-12)] _ _
                        exact wp_iret rfl rfl H
                      · replace H := H.2 c29
                        refine wp_iload rfl rfl ?_
                        refine wp_aload rfl rfl ?_
                        refine wp_getI (j := 2) rfl (congrArg Prod.fst (kf_81 X.1)) rfl ?_
                        refine wp_iload rfl rfl ?_
                        refine wp_isub rfl ?_
                        have g30 := H.1
                        replace H := H.2
                        refine Wp.topI (y := ((h 81 2) - x5)) (w32_I g30) ?_
                        refine wp_icgt (tn := 22) rfl rfl (fun c31 => ?_) (fun c31 => ?_)
                        · replace H := H.1 c31
                          refine wp_iconst rfl ?_
                          refine wp_zret rfl rfl (by decide) ?_
                          show Wp X _ 28 86 [vr 6, vi 0, vi x2, vi 2, vi x4, vi x5, vr 81, vr 85] [vi 0] _ _
                          refine wp_ifeqT (tn := 101) rfl rfl (by decide) ?_
                          refine wp_aload rfl rfl ?_
                          refine wp_iconst rfl ?_
                          refine wp_call (k := 38) (ρ2 := 0) (L2 := [vr 6, vi 2]) rfl rfl rfl (Nat.le_of_ble_eq_true rfl) (Nat.le_of_ble_eq_true rfl) (Nat.le_of_ble_eq_true rfl) (rcv_V rfl (congrArg Prod.fst (kf_6 X.1))) rfl ?_
                          refine wp_aload rfl rfl ?_
                          refine wp_iload rfl rfl ?_
                          refine wp_putI (j := 10) rfl (congrArg Prod.fst (kf_6 X.1)) rfl rfl rfl ?_
                          refine wp_iconst rfl ?_
                          refine wp_iload rfl rfl ?_
                          refine wp_isub rfl ?_
                          refine Wp.topI (y := (-12)) (by decide) ?_
                          refine wp_iret rfl rfl ?_
                          show Wp X _ 28 106 [vr 6, vi 0, vi x2, vi 2, vi x4, vi x5, vr 81, vr 85] [vi (-12)] _ _
                          exact wp_iret rfl rfl H
                        · replace H := H.2 c31
                          refine wp_iconst rfl ?_
                          refine wp_goto (tn := 23) rfl rfl ?_
                          refine wp_zret rfl rfl (by decide) ?_
                          show Wp X _ 28 86 [vr 6, vi 0, vi x2, vi 2, vi x4, vi x5, vr 81, vr 85] [vi 1] _ _
                          refine wp_ifeqF (tn := 101) rfl rfl (by decide) ?_
                          refine wp_aload rfl rfl ?_
                          refine wp_iload rfl rfl ?_
                          refine wp_iload rfl rfl ?_
                          refine wp_call (k := 226) (ρ2 := 0) (L2 := [vr 85, vi x4, vi x5]) rfl rfl rfl (Nat.le_of_ble_eq_true rfl) (Nat.le_of_ble_eq_true rfl) (Nat.le_of_ble_eq_true rfl) (rcv_V rfl (congrArg Prod.fst (kf_85 X.1))) rfl ?_
                          refine wp_iload rfl rfl ?_
                          refine wp_iflt (tn := 22) rfl rfl (fun c32 => ?_) (fun c32 => ?_)
                          · replace H := H.1 c32
                            refine wp_iconst rfl ?_
                            refine wp_zret rfl rfl (by decide) ?_
                            show Wp X _ 28 98 [vr 6, vi 0, vi x2, vi 2, vi x4, vi x5, vr 81, vr 85] [vi 0] _ _
                            refine wp_ifneF (tn := 107) rfl rfl (by decide) ?_
                            refine wp_aload rfl rfl ?_
                            refine wp_iconst rfl ?_
                            refine wp_call (k := 38) (ρ2 := 0) (L2 := [vr 6, vi 2]) rfl rfl rfl (Nat.le_of_ble_eq_true rfl) (Nat.le_of_ble_eq_true rfl) (Nat.le_of_ble_eq_true rfl) (rcv_V rfl (congrArg Prod.fst (kf_6 X.1))) rfl ?_
                            refine wp_aload rfl rfl ?_
                            refine wp_iload rfl rfl ?_
                            refine wp_putI (j := 10) rfl (congrArg Prod.fst (kf_6 X.1)) rfl rfl rfl ?_
                            refine wp_iconst rfl ?_
                            refine wp_iload rfl rfl ?_
                            refine wp_isub rfl ?_
                            refine Wp.topI (y := (-12)) (by decide) ?_
                            refine wp_iret rfl rfl ?_
                            show Wp X _ 28 106 [vr 6, vi 0, vi x2, vi 2, vi x4, vi x5, vr 81, vr 85] [vi (-12)] _ _
                            exact wp_iret rfl rfl H
                          · replace H := H.2 c32
                            refine wp_iload rfl rfl ?_
                            refine wp_ifltF (tn := 22) rfl rfl c29 ?_
                            refine wp_iload rfl rfl ?_
                            refine wp_aload rfl rfl ?_
                            refine wp_getI (j := 2) rfl (congrArg Prod.fst (kf_85 X.1)) rfl ?_
                            refine wp_iload rfl rfl ?_
                            refine wp_isub rfl ?_
                            have g33 := H.1
                            replace H := H.2
                            refine Wp.topI (y := ((h 85 2) - x5)) (w32_I g33) ?_
                            refine wp_icgt (tn := 22) rfl rfl (fun c34 => ?_) (fun c34 => ?_)
                            · replace H := H.1 c34
                              refine wp_iconst rfl ?_
                              refine wp_zret rfl rfl (by decide) ?_
                              show Wp X _ 28 98 [vr 6, vi 0, vi x2, vi 2, vi x4, vi x5, vr 81, vr 85] [vi 0] _ _
                              refine wp_ifneF (tn := 107) rfl rfl (by decide) ?_
                              refine wp_aload rfl rfl ?_
                              refine wp_iconst rfl ?_
                              refine wp_call (k := 38) (ρ2 := 0) (L2 := [vr 6, vi 2]) rfl rfl rfl (Nat.le_of_ble_eq_true rfl) (Nat.le_of_ble_eq_true rfl) (Nat.le_of_ble_eq_true rfl) (rcv_V rfl (congrArg Prod.fst (kf_6 X.1))) rfl ?_
                              refine wp_aload rfl rfl ?_
                              refine wp_iload rfl rfl ?_
                              refine wp_putI (j := 10) rfl (congrArg Prod.fst (kf_6 X.1)) rfl rfl rfl ?_
                              refine wp_iconst rfl ?_
                              refine wp_iload rfl rfl ?_
                              refine wp_isub rfl ?_
                              refine Wp.topI (y := (-12)) (by decide) ?_
                              refine wp_iret rfl rfl ?_
                              show Wp X _ 28 106 [vr 6, vi 0, vi x2, vi 2, vi x4, vi x5, vr 81, vr 85] [vi (-12)] _ _
                              exact wp_iret rfl rfl H
                            · replace H := H.2 c34
                              refine wp_iconst rfl ?_
                              refine wp_goto (tn := 23) rfl rfl ?_
                              refine wp_zret rfl rfl (by decide) ?_
                              show Wp X _ 28 98 [vr 6, vi 0, vi x2, vi 2, vi x4, vi x5, vr 81, vr 85] [vi 1] _ _
                              refine wp_ifneT (tn := 107) rfl rfl (by decide) ?_
                              refine wp_aload rfl rfl ?_
                              refine wp_aload rfl rfl ?_
                              refine wp_iload rfl rfl ?_
                              refine wp_iload rfl rfl ?_
                              refine wp_iload rfl rfl ?_
                              refine wp_call (k := 229) (ρ2 := 1) (L2 := [vr 85, vr 81, vi x2, vi x4, vi x5]) rfl rfl rfl (Nat.le_of_ble_eq_true rfl) (Nat.le_of_ble_eq_true rfl) (Nat.le_of_ble_eq_true rfl) (rcv_V rfl (congrArg Prod.fst (kf_85 X.1))) rfl ?_
                              refine wp_aload rfl rfl ?_
                              refine wp_iload rfl rfl ?_
                              refine wp_iload rfl rfl ?_
                              refine wp_call (k := 226) (ρ2 := 0) (L2 := [vr 81, vi x2, vi x5]) rfl rfl rfl (Nat.le_of_ble_eq_true rfl) (Nat.le_of_ble_eq_true rfl) (Nat.le_of_ble_eq_true rfl) (rcv_V rfl (congrArg Prod.fst (kf_81 X.1))) rfl ?_
                              refine wp_iload rfl rfl ?_
                              refine wp_ifltF (tn := 22) rfl rfl c28 ?_
                              refine wp_iload rfl rfl ?_
                              refine wp_ifltF (tn := 22) rfl rfl c29 ?_
                              refine wp_iload rfl rfl ?_
                              refine wp_aload rfl rfl ?_
                              refine wp_getI (j := 2) rfl (congrArg Prod.fst (kf_81 X.1)) rfl ?_
                              refine wp_iload rfl rfl ?_
                              refine wp_isub rfl ?_
                              refine Wp.topI (y := ((h 81 2) - x5)) (w32_I g30) ?_
                              refine wp_icgtF (tn := 22) rfl rfl c31 ?_
                              refine wp_iconst rfl ?_
                              refine wp_goto (tn := 23) rfl rfl ?_
                              refine wp_zret rfl rfl (by decide) ?_
                              show Wp X _ 229 7 [vr 85, vr 81, vi x2, vi x4, vi x5] [vi 1] _ _
                              refine wp_ifeqF (tn := 35) rfl rfl (by decide) ?_
                              refine wp_aload rfl rfl ?_
                              refine wp_iload rfl rfl ?_
                              refine wp_iload rfl rfl ?_
                              refine wp_call (k := 226) (ρ2 := 0) (L2 := [vr 85, vi x4, vi x5]) rfl rfl rfl (Nat.le_of_ble_eq_true rfl) (Nat.le_of_ble_eq_true rfl) (Nat.le_of_ble_eq_true rfl) (rcv_V rfl (congrArg Prod.fst (kf_85 X.1))) rfl ?_
                              refine wp_iload rfl rfl ?_
                              refine wp_ifltF (tn := 22) rfl rfl c32 ?_
                              refine wp_iload rfl rfl ?_
                              refine wp_ifltF (tn := 22) rfl rfl c29 ?_
                              refine wp_iload rfl rfl ?_
                              refine wp_aload rfl rfl ?_
                              refine wp_getI (j := 2) rfl (congrArg Prod.fst (kf_85 X.1)) rfl ?_
                              refine wp_iload rfl rfl ?_
                              refine wp_isub rfl ?_
                              refine Wp.topI (y := ((h 85 2) - x5)) (w32_I g33) ?_
                              refine wp_icgtF (tn := 22) rfl rfl c34 ?_
                              refine wp_iconst rfl ?_
                              refine wp_goto (tn := 23) rfl rfl ?_
                              refine wp_zret rfl rfl (by decide) ?_
                              show Wp X _ 229 17 [vr 85, vr 81, vi x2, vi x4, vi x5] [vi 1] _ _
                              refine wp_ifeqF (tn := 35) rfl rfl (by decide) ?_
                              refine wp_aload rfl rfl ?_
                              refine wp_getR (r := 81) rfl (congrArg Prod.fst (kf_81 X.1)) rfl ?_
                              refine wp_iload rfl rfl ?_
                              refine wp_aload rfl rfl ?_
                              refine wp_getR (r := 85) rfl (congrArg Prod.fst (kf_85 X.1)) rfl ?_
                              refine wp_iload rfl rfl ?_
                              refine wp_iload rfl rfl ?_
                              have g35 := H.1
                              replace H := H.2
                              refine wp_copy rfl (kf_82 X.1) (kf_86 X.1) g35 (Nat.le_of_ble_eq_true rfl) ?_
                              refine wp_vret rfl rfl ?_
                              show Wp X _ 28 119 [vr 6, vi 0, vi x2, vi 2, vi x4, vi x5, vr 81, vr 85] [] _ _
                              refine wp_iconst rfl ?_
                              exact wp_iret rfl rfl H
                  · replace H := H.2 c27
                    refine wp_aload rfl rfl ?_
                    refine wp_iconst rfl ?_
                    refine wp_call (k := 38) (ρ2 := 0) (L2 := [vr 6, vi 4]) rfl rfl rfl (Nat.le_of_ble_eq_true rfl) (Nat.le_of_ble_eq_true rfl) (Nat.le_of_ble_eq_true rfl) (rcv_V rfl (congrArg Prod.fst (kf_6 X.1))) rfl ?_
                    refine wp_aload rfl rfl ?_
                    refine wp_iload rfl rfl ?_
                    refine wp_putI (j := 10) rfl (congrArg Prod.fst (kf_6 X.1)) rfl rfl rfl ?_
                    refine wp_iconst rfl ?_
                    refine wp_iload rfl rfl ?_
                    refine wp_isub rfl ?_
                    refine Wp.topI (y := (-14)) (by decide) ?_
                    refine wp_iret rfl rfl ?_
                    show Wp X _ 28 77 [vr 6, vi 0, vi x2, vi 2, vi x4, vi x5, vr 81, vr 85] [vi (-14)] _ _
                    exact wp_iret rfl rfl H
                · replace H := H.2 c26
                  refine wp_iconst rfl ?_
                  refine wp_goto (tn := 13) rfl rfl ?_
                  refine wp_zret rfl rfl (by decide) ?_
                  show Wp X _ 28 50 [vr 6, vi 0, vi x2, vi 2, vi x4, vi x5, vr 81, vr 85] [vi 1] _ _
                  refine wp_ifeqF (tn := 59) rfl rfl (by decide) ?_
                  refine wp_aload rfl rfl ?_
                  refine wp_iconst rfl ?_
                  refine wp_call (k := 38) (ρ2 := 0) (L2 := [vr 6, vi 1]) rfl rfl rfl (Nat.le_of_ble_eq_true rfl) (Nat.le_of_ble_eq_true rfl) (Nat.le_of_ble_eq_true rfl) (rcv_V rfl (congrArg Prod.fst (kf_6 X.1))) rfl ?_
                  refine wp_aload rfl rfl ?_
                  refine wp_iload rfl rfl ?_
                  refine wp_putI (j := 10) rfl (congrArg Prod.fst (kf_6 X.1)) rfl rfl rfl ?_
                  refine wp_iconst rfl ?_
                  refine wp_iload rfl rfl ?_
                  refine wp_isub rfl ?_
                  refine Wp.topI (y := (-11)) (by decide) ?_
                  refine wp_iret rfl rfl ?_
                  show Wp X _ 28 58 [vr 6, vi 0, vi x2, vi 2, vi x4, vi x5, vr 81, vr 85] [vi (-11)] _ _
                  exact wp_iret rfl rfl H
              · replace H := H.2 c25
                refine wp_iconst rfl ?_
                refine wp_goto (tn := 13) rfl rfl ?_
                refine wp_zret rfl rfl (by decide) ?_
                show Wp X _ 28 42 [vr 6, vi 0, vi x2, vi 2, vi x4, vi x5, vr 81, vr 85] [vi 1] _ _
                refine wp_ifneT (tn := 53) rfl rfl (by decide) ?_
                refine wp_aload rfl rfl ?_
                refine wp_iconst rfl ?_
                refine wp_call (k := 38) (ρ2 := 0) (L2 := [vr 6, vi 1]) rfl rfl rfl (Nat.le_of_ble_eq_true rfl) (Nat.le_of_ble_eq_true rfl) (Nat.le_of_ble_eq_true rfl) (rcv_V rfl (congrArg Prod.fst (kf_6 X.1))) rfl ?_
                refine wp_aload rfl rfl ?_
                refine wp_iload rfl rfl ?_
                refine wp_putI (j := 10) rfl (congrArg Prod.fst (kf_6 X.1)) rfl rfl rfl ?_
                refine wp_iconst rfl ?_
                refine wp_iload rfl rfl ?_
                refine wp_isub rfl ?_
                refine Wp.topI (y := (-11)) (by decide) ?_
                refine wp_iret rfl rfl ?_
                show Wp X _ 28 58 [vr 6, vi 0, vi x2, vi 2, vi x4, vi x5, vr 81, vr 85] [vi (-11)] _ _
                exact wp_iret rfl rfl H
            · replace H := H.2.2.2 rfl
              refine wp_aaload (r := 86) rfl (kf_80 X.1) (by decide) (by decide) rfl ?_
              refine wp_astore (L2 := [vr 6, vi 0, vi x2, vi 3, vi x4, vi x5, vr 81, vr 87]) rfl (Nat.le_of_ble_eq_true rfl) rfl ?_
              refine wp_aload rfl rfl ?_
              refine wp_call (k := 220) (ρ2 := 0) (L2 := [vr 81]) rfl rfl rfl (Nat.le_of_ble_eq_true rfl) (Nat.le_of_ble_eq_true rfl) (Nat.le_of_ble_eq_true rfl) (rcv_V rfl (congrArg Prod.fst (kf_81 X.1))) rfl ?_
              refine wp_aload rfl rfl ?_
              refine wp_getI (j := 1) rfl (congrArg Prod.fst (kf_81 X.1)) rfl ?_
              refine wp_iconst rfl ?_
              refine wp_icne (tn := 12) rfl rfl (fun c36 => ?_) (fun c36 => ?_)
              · replace H := H.1 c36
                refine wp_iconst rfl ?_
                refine wp_zret rfl rfl (by decide) ?_
                show Wp X _ 28 42 [vr 6, vi 0, vi x2, vi 3, vi x4, vi x5, vr 81, vr 87] [vi 0] _ _
                refine wp_ifneF (tn := 53) rfl rfl (by decide) ?_
                refine wp_aload rfl rfl ?_
                refine wp_call (k := 220) (ρ2 := 0) (L2 := [vr 87]) rfl rfl rfl (Nat.le_of_ble_eq_true rfl) (Nat.le_of_ble_eq_true rfl) (Nat.le_of_ble_eq_true rfl) (rcv_V rfl (congrArg Prod.fst (kf_87 X.1))) rfl ?_
                refine wp_aload rfl rfl ?_
                refine wp_getI (j := 1) rfl (congrArg Prod.fst (kf_87 X.1)) rfl ?_
                refine wp_iconst rfl ?_
                refine wp_icne (tn := 12) rfl rfl (fun c37 => ?_) (fun c37 => ?_)
                · replace H := H.1 c37
                  refine wp_iconst rfl ?_
                  refine wp_zret rfl rfl (by decide) ?_
                  show Wp X _ 28 50 [vr 6, vi 0, vi x2, vi 3, vi x4, vi x5, vr 81, vr 87] [vi 0] _ _
                  refine wp_ifeqT (tn := 59) rfl rfl (by decide) ?_
                  refine wp_aload rfl rfl ?_
                  refine wp_call (k := 221) (ρ2 := 0) (L2 := [vr 81]) rfl rfl rfl (Nat.le_of_ble_eq_true rfl) (Nat.le_of_ble_eq_true rfl) (Nat.le_of_ble_eq_true rfl) (rcv_V rfl (congrArg Prod.fst (kf_81 X.1))) rfl ?_
                  refine wp_aload rfl rfl ?_
                  refine wp_getI (j := 1) rfl (congrArg Prod.fst (kf_81 X.1)) rfl ?_
                  refine wp_iret rfl rfl ?_
                  show Wp X _ 28 64 [vr 6, vi 0, vi x2, vi 3, vi x4, vi x5, vr 81, vr 87] [vi (h 81 1)] _ _
                  refine wp_aload rfl rfl ?_
                  refine wp_call (k := 221) (ρ2 := 0) (L2 := [vr 87]) rfl rfl rfl (Nat.le_of_ble_eq_true rfl) (Nat.le_of_ble_eq_true rfl) (Nat.le_of_ble_eq_true rfl) (rcv_V rfl (congrArg Prod.fst (kf_87 X.1))) rfl ?_
                  refine wp_aload rfl rfl ?_
                  refine wp_getI (j := 1) rfl (congrArg Prod.fst (kf_87 X.1)) rfl ?_
                  refine wp_iret rfl rfl ?_
                  show Wp X _ 28 69 [vr 6, vi 0, vi x2, vi 3, vi x4, vi x5, vr 81, vr 87] [vi (h 87 1), vi (h 81 1)] _ _
                  refine wp_iceq (tn := 78) rfl rfl (fun c38 => ?_) (fun c38 => ?_)
                  · replace H := H.1 c38
                    refine wp_aload rfl rfl ?_
                    refine wp_iload rfl rfl ?_
                    refine wp_iload rfl rfl ?_
                    refine wp_call (k := 226) (ρ2 := 0) (L2 := [vr 81, vi x2, vi x5]) rfl rfl rfl (Nat.le_of_ble_eq_true rfl) (Nat.le_of_ble_eq_true rfl) (Nat.le_of_ble_eq_true rfl) (rcv_V rfl (congrArg Prod.fst (kf_81 X.1))) rfl ?_
                    refine wp_iload rfl rfl ?_
                    refine wp_iflt (tn := 22) rfl rfl (fun c39 => ?_) (fun c39 => ?_)
                    · replace H := H.1 c39
                      refine wp_iconst rfl ?_
                      refine wp_zret rfl rfl (by decide) ?_
                      show Wp X _ 28 86 [vr 6, vi 0, vi x2, vi 3, vi x4, vi x5, vr 81, vr 87] [vi 0] _ _
                      refine wp_ifeqT (tn := 101) rfl rfl (by decide) ?_
                      refine wp_aload rfl rfl ?_
                      refine wp_iconst rfl ?_
                      refine wp_call (k := 38) (ρ2 := 0) (L2 := [vr 6, vi 2]) rfl rfl rfl (Nat.le_of_ble_eq_true rfl) (Nat.le_of_ble_eq_true rfl) (Nat.le_of_ble_eq_true rfl) (rcv_V rfl (congrArg Prod.fst (kf_6 X.1))) rfl ?_
                      refine wp_aload rfl rfl ?_
                      refine wp_iload rfl rfl ?_
                      refine wp_putI (j := 10) rfl (congrArg Prod.fst (kf_6 X.1)) rfl rfl rfl ?_
                      refine wp_iconst rfl ?_
                      refine wp_iload rfl rfl ?_
                      refine wp_isub rfl ?_
                      refine Wp.topI (y := (-12)) (by decide) ?_
                      refine wp_iret rfl rfl ?_
                      show Wp X _ 28 106 [vr 6, vi 0, vi x2, vi 3, vi x4, vi x5, vr 81, vr 87] [vi (-12)] _ _
                      exact wp_iret rfl rfl H
                    · replace H := H.2 c39
                      refine wp_iload rfl rfl ?_
                      refine wp_iflt (tn := 22) rfl rfl (fun c40 => ?_) (fun c40 => ?_)
                      · replace H := H.1 c40
                        refine wp_iconst rfl ?_
                        refine wp_zret rfl rfl (by decide) ?_
                        show Wp X _ 28 86 [vr 6, vi 0, vi x2, vi 3, vi x4, vi x5, vr 81, vr 87] [vi 0] _ _
                        refine wp_ifeqT (tn := 101) rfl rfl (by decide) ?_
                        refine wp_aload rfl rfl ?_
                        refine wp_iconst rfl ?_
                        refine wp_call (k := 38) (ρ2 := 0) (L2 := [vr 6, vi 2]) rfl rfl rfl (Nat.le_of_ble_eq_true rfl) (Nat.le_of_ble_eq_true rfl) (Nat.le_of_ble_eq_true rfl) (rcv_V rfl (congrArg Prod.fst (kf_6 X.1))) rfl ?_
                        refine wp_aload rfl rfl ?_
                        refine wp_iload rfl rfl ?_
                        refine wp_putI (j := 10) rfl (congrArg Prod.fst (kf_6 X.1)) rfl rfl rfl ?_
                        refine wp_iconst rfl ?_
                        refine wp_iload rfl rfl ?_
                        refine wp_isub rfl ?_
                        refine Wp.topI (y := (-12)) (by decide) ?_
                        refine wp_iret rfl rfl ?_
                        show Wp X _ 28 106 [vr 6, vi 0, vi x2, vi 3, vi x4, vi x5, vr 81, vr 87] [vi (-12)] _ _
                        exact wp_iret rfl rfl H
                      · replace H := H.2 c40
                        refine wp_iload rfl rfl ?_
                        refine wp_aload rfl rfl ?_
                        refine wp_getI (j := 2) rfl (congrArg Prod.fst (kf_81 X.1)) rfl ?_
                        refine wp_iload rfl rfl ?_
                        refine wp_isub rfl ?_
                        have g41 := H.1
                        replace H := H.2
                        refine Wp.topI (y := ((h 81 2) - x5)) (w32_I g41) ?_
                        refine wp_icgt (tn := 22) rfl rfl (fun c42 => ?_) (fun c42 => ?_)
                        · replace H := H.1 c42
                          refine wp_iconst rfl ?_
                          refine wp_zret rfl rfl (by decide) ?_
                          show Wp X _ 28 86 [vr 6, vi 0, vi x2, vi 3, vi x4, vi x5, vr 81, vr 87] [vi 0] _ _
                          refine wp_ifeqT (tn := 101) rfl rfl (by decide) ?_
                          refine wp_aload rfl rfl ?_
                          refine wp_iconst rfl ?_
                          refine wp_call (k := 38) (ρ2 := 0) (L2 := [vr 6, vi 2]) rfl rfl rfl (Nat.le_of_ble_eq_true rfl) (Nat.le_of_ble_eq_true rfl) (Nat.le_of_ble_eq_true rfl) (rcv_V rfl (congrArg Prod.fst (kf_6 X.1))) rfl ?_
                          refine wp_aload rfl rfl ?_
                          refine wp_iload rfl rfl ?_
                          refine wp_putI (j := 10) rfl (congrArg Prod.fst (kf_6 X.1)) rfl rfl rfl ?_
                          refine wp_iconst rfl ?_
                          refine wp_iload rfl rfl ?_
                          refine wp_isub rfl ?_
                          refine Wp.topI (y := (-12)) (by decide) ?_
                          refine wp_iret rfl rfl ?_
                          show Wp X _ 28 106 [vr 6, vi 0, vi x2, vi 3, vi x4, vi x5, vr 81, vr 87] [vi (-12)] _ _
                          exact wp_iret rfl rfl H
                        · replace H := H.2 c42
                          refine wp_iconst rfl ?_
                          refine wp_goto (tn := 23) rfl rfl ?_
                          refine wp_zret rfl rfl (by decide) ?_
                          show Wp X _ 28 86 [vr 6, vi 0, vi x2, vi 3, vi x4, vi x5, vr 81, vr 87] [vi 1] _ _
                          refine wp_ifeqF (tn := 101) rfl rfl (by decide) ?_
                          refine wp_aload rfl rfl ?_
                          refine wp_iload rfl rfl ?_
                          refine wp_iload rfl rfl ?_
                          refine wp_call (k := 226) (ρ2 := 0) (L2 := [vr 87, vi x4, vi x5]) rfl rfl rfl (Nat.le_of_ble_eq_true rfl) (Nat.le_of_ble_eq_true rfl) (Nat.le_of_ble_eq_true rfl) (rcv_V rfl (congrArg Prod.fst (kf_87 X.1))) rfl ?_
                          refine wp_iload rfl rfl ?_
                          refine wp_iflt (tn := 22) rfl rfl (fun c43 => ?_) (fun c43 => ?_)
                          · replace H := H.1 c43
                            refine wp_iconst rfl ?_
                            refine wp_zret rfl rfl (by decide) ?_
                            show Wp X _ 28 98 [vr 6, vi 0, vi x2, vi 3, vi x4, vi x5, vr 81, vr 87] [vi 0] _ _
                            refine wp_ifneF (tn := 107) rfl rfl (by decide) ?_
                            refine wp_aload rfl rfl ?_
                            refine wp_iconst rfl ?_
                            refine wp_call (k := 38) (ρ2 := 0) (L2 := [vr 6, vi 2]) rfl rfl rfl (Nat.le_of_ble_eq_true rfl) (Nat.le_of_ble_eq_true rfl) (Nat.le_of_ble_eq_true rfl) (rcv_V rfl (congrArg Prod.fst (kf_6 X.1))) rfl ?_
                            refine wp_aload rfl rfl ?_
                            refine wp_iload rfl rfl ?_
                            refine wp_putI (j := 10) rfl (congrArg Prod.fst (kf_6 X.1)) rfl rfl rfl ?_
                            refine wp_iconst rfl ?_
                            refine wp_iload rfl rfl ?_
                            refine wp_isub rfl ?_
                            refine Wp.topI (y := (-12)) (by decide) ?_
                            refine wp_iret rfl rfl ?_
                            show Wp X _ 28 106 [vr 6, vi 0, vi x2, vi 3, vi x4, vi x5, vr 81, vr 87] [vi (-12)] _ _
                            exact wp_iret rfl rfl H
                          · replace H := H.2 c43
                            refine wp_iload rfl rfl ?_
                            refine wp_ifltF (tn := 22) rfl rfl c40 ?_
                            refine wp_iload rfl rfl ?_
                            refine wp_aload rfl rfl ?_
                            refine wp_getI (j := 2) rfl (congrArg Prod.fst (kf_87 X.1)) rfl ?_
                            refine wp_iload rfl rfl ?_
                            refine wp_isub rfl ?_
                            have g44 := H.1
                            replace H := H.2
                            refine Wp.topI (y := ((h 87 2) - x5)) (w32_I g44) ?_
                            refine wp_icgt (tn := 22) rfl rfl (fun c45 => ?_) (fun c45 => ?_)
                            · replace H := H.1 c45
                              refine wp_iconst rfl ?_
                              refine wp_zret rfl rfl (by decide) ?_
                              show Wp X _ 28 98 [vr 6, vi 0, vi x2, vi 3, vi x4, vi x5, vr 81, vr 87] [vi 0] _ _
                              refine wp_ifneF (tn := 107) rfl rfl (by decide) ?_
                              refine wp_aload rfl rfl ?_
                              refine wp_iconst rfl ?_
                              refine wp_call (k := 38) (ρ2 := 0) (L2 := [vr 6, vi 2]) rfl rfl rfl (Nat.le_of_ble_eq_true rfl) (Nat.le_of_ble_eq_true rfl) (Nat.le_of_ble_eq_true rfl) (rcv_V rfl (congrArg Prod.fst (kf_6 X.1))) rfl ?_
                              refine wp_aload rfl rfl ?_
                              refine wp_iload rfl rfl ?_
                              refine wp_putI (j := 10) rfl (congrArg Prod.fst (kf_6 X.1)) rfl rfl rfl ?_
                              refine wp_iconst rfl ?_
                              refine wp_iload rfl rfl ?_
                              refine wp_isub rfl ?_
                              refine Wp.topI (y := (-12)) (by decide) ?_
                              refine wp_iret rfl rfl ?_
                              show Wp X _ 28 106 [vr 6, vi 0, vi x2, vi 3, vi x4, vi x5, vr 81, vr 87] [vi (-12)] _ _
                              exact wp_iret rfl rfl H
                            · replace H := H.2 c45
                              refine wp_iconst rfl ?_
                              refine wp_goto (tn := 23) rfl rfl ?_
                              refine wp_zret rfl rfl (by decide) ?_
                              show Wp X _ 28 98 [vr 6, vi 0, vi x2, vi 3, vi x4, vi x5, vr 81, vr 87] [vi 1] _ _
                              refine wp_ifneT (tn := 107) rfl rfl (by decide) ?_
                              refine wp_aload rfl rfl ?_
                              refine wp_aload rfl rfl ?_
                              refine wp_iload rfl rfl ?_
                              refine wp_iload rfl rfl ?_
                              refine wp_iload rfl rfl ?_
                              refine wp_call (k := 229) (ρ2 := 1) (L2 := [vr 87, vr 81, vi x2, vi x4, vi x5]) rfl rfl rfl (Nat.le_of_ble_eq_true rfl) (Nat.le_of_ble_eq_true rfl) (Nat.le_of_ble_eq_true rfl) (rcv_V rfl (congrArg Prod.fst (kf_87 X.1))) rfl ?_
                              refine wp_aload rfl rfl ?_
                              refine wp_iload rfl rfl ?_
                              refine wp_iload rfl rfl ?_
                              refine wp_call (k := 226) (ρ2 := 0) (L2 := [vr 81, vi x2, vi x5]) rfl rfl rfl (Nat.le_of_ble_eq_true rfl) (Nat.le_of_ble_eq_true rfl) (Nat.le_of_ble_eq_true rfl) (rcv_V rfl (congrArg Prod.fst (kf_81 X.1))) rfl ?_
                              refine wp_iload rfl rfl ?_
                              refine wp_ifltF (tn := 22) rfl rfl c39 ?_
                              refine wp_iload rfl rfl ?_
                              refine wp_ifltF (tn := 22) rfl rfl c40 ?_
                              refine wp_iload rfl rfl ?_
                              refine wp_aload rfl rfl ?_
                              refine wp_getI (j := 2) rfl (congrArg Prod.fst (kf_81 X.1)) rfl ?_
                              refine wp_iload rfl rfl ?_
                              refine wp_isub rfl ?_
                              refine Wp.topI (y := ((h 81 2) - x5)) (w32_I g41) ?_
                              refine wp_icgtF (tn := 22) rfl rfl c42 ?_
                              refine wp_iconst rfl ?_
                              refine wp_goto (tn := 23) rfl rfl ?_
                              refine wp_zret rfl rfl (by decide) ?_
                              show Wp X _ 229 7 [vr 87, vr 81, vi x2, vi x4, vi x5] [vi 1] _ _
                              refine wp_ifeqF (tn := 35) rfl rfl (by decide) ?_
                              refine wp_aload rfl rfl ?_
                              refine wp_iload rfl rfl ?_
                              refine wp_iload rfl rfl ?_
                              refine wp_call (k := 226) (ρ2 := 0) (L2 := [vr 87, vi x4, vi x5]) rfl rfl rfl (Nat.le_of_ble_eq_true rfl) (Nat.le_of_ble_eq_true rfl) (Nat.le_of_ble_eq_true rfl) (rcv_V rfl (congrArg Prod.fst (kf_87 X.1))) rfl ?_
                              refine wp_iload rfl rfl ?_
                              refine wp_ifltF (tn := 22) rfl rfl c43 ?_
                              refine wp_iload rfl rfl ?_
                              refine wp_ifltF (tn := 22) rfl rfl c40 ?_
                              refine wp_iload rfl rfl ?_
                              refine wp_aload rfl rfl ?_
                              refine wp_getI (j := 2) rfl (congrArg Prod.fst (kf_87 X.1)) rfl ?_
                              refine wp_iload rfl rfl ?_
                              refine wp_isub rfl ?_
                              refine Wp.topI (y := ((h 87 2) - x5)) (w32_I g44) ?_
                              refine wp_icgtF (tn := 22) rfl rfl c45 ?_
                              refine wp_iconst rfl ?_
                              refine wp_goto (tn := 23) rfl rfl ?_
                              refine wp_zret rfl rfl (by decide) ?_
                              show Wp X _ 229 17 [vr 87, vr 81, vi x2, vi x4, vi x5] [vi 1] _ _
                              refine wp_ifeqF (tn := 35) rfl rfl (by decide) ?_
                              refine wp_aload rfl rfl ?_
                              refine wp_getR (r := 81) rfl (congrArg Prod.fst (kf_81 X.1)) rfl ?_
                              refine wp_iload rfl rfl ?_
                              refine wp_aload rfl rfl ?_
                              refine wp_getR (r := 87) rfl (congrArg Prod.fst (kf_87 X.1)) rfl ?_
                              refine wp_iload rfl rfl ?_
                              refine wp_iload rfl rfl ?_
                              have g46 := H.1
                              replace H := H.2
                              refine wp_copy rfl (kf_82 X.1) (kf_88 X.1) g46 (Nat.le_of_ble_eq_true rfl) ?_
                              refine wp_vret rfl rfl ?_
                              show Wp X _ 28 119 [vr 6, vi 0, vi x2, vi 3, vi x4, vi x5, vr 81, vr 87] [] _ _
                              refine wp_iconst rfl ?_
                              exact wp_iret rfl rfl H
                  · replace H := H.2 c38
                    refine wp_aload rfl rfl ?_
                    refine wp_iconst rfl ?_
                    refine wp_call (k := 38) (ρ2 := 0) (L2 := [vr 6, vi 4]) rfl rfl rfl (Nat.le_of_ble_eq_true rfl) (Nat.le_of_ble_eq_true rfl) (Nat.le_of_ble_eq_true rfl) (rcv_V rfl (congrArg Prod.fst (kf_6 X.1))) rfl ?_
                    refine wp_aload rfl rfl ?_
                    refine wp_iload rfl rfl ?_
                    refine wp_putI (j := 10) rfl (congrArg Prod.fst (kf_6 X.1)) rfl rfl rfl ?_
                    refine wp_iconst rfl ?_
                    refine wp_iload rfl rfl ?_
                    refine wp_isub rfl ?_
                    refine Wp.topI (y := (-14)) (by decide) ?_
                    refine wp_iret rfl rfl ?_
                    show Wp X _ 28 77 [vr 6, vi 0, vi x2, vi 3, vi x4, vi x5, vr 81, vr 87] [vi (-14)] _ _
                    exact wp_iret rfl rfl H
                · replace H := H.2 c37
                  refine wp_iconst rfl ?_
                  refine wp_goto (tn := 13) rfl rfl ?_
                  refine wp_zret rfl rfl (by decide) ?_
                  show Wp X _ 28 50 [vr 6, vi 0, vi x2, vi 3, vi x4, vi x5, vr 81, vr 87] [vi 1] _ _
                  refine wp_ifeqF (tn := 59) rfl rfl (by decide) ?_
                  refine wp_aload rfl rfl ?_
                  refine wp_iconst rfl ?_
                  refine wp_call (k := 38) (ρ2 := 0) (L2 := [vr 6, vi 1]) rfl rfl rfl (Nat.le_of_ble_eq_true rfl) (Nat.le_of_ble_eq_true rfl) (Nat.le_of_ble_eq_true rfl) (rcv_V rfl (congrArg Prod.fst (kf_6 X.1))) rfl ?_
                  refine wp_aload rfl rfl ?_
                  refine wp_iload rfl rfl ?_
                  refine wp_putI (j := 10) rfl (congrArg Prod.fst (kf_6 X.1)) rfl rfl rfl ?_
                  refine wp_iconst rfl ?_
                  refine wp_iload rfl rfl ?_
                  refine wp_isub rfl ?_
                  refine Wp.topI (y := (-11)) (by decide) ?_
                  refine wp_iret rfl rfl ?_
                  show Wp X _ 28 58 [vr 6, vi 0, vi x2, vi 3, vi x4, vi x5, vr 81, vr 87] [vi (-11)] _ _
                  exact wp_iret rfl rfl H
              · replace H := H.2 c36
                refine wp_iconst rfl ?_
                refine wp_goto (tn := 13) rfl rfl ?_
                refine wp_zret rfl rfl (by decide) ?_
                show Wp X _ 28 42 [vr 6, vi 0, vi x2, vi 3, vi x4, vi x5, vr 81, vr 87] [vi 1] _ _
                refine wp_ifneT (tn := 53) rfl rfl (by decide) ?_
                refine wp_aload rfl rfl ?_
                refine wp_iconst rfl ?_
                refine wp_call (k := 38) (ρ2 := 0) (L2 := [vr 6, vi 1]) rfl rfl rfl (Nat.le_of_ble_eq_true rfl) (Nat.le_of_ble_eq_true rfl) (Nat.le_of_ble_eq_true rfl) (rcv_V rfl (congrArg Prod.fst (kf_6 X.1))) rfl ?_
                refine wp_aload rfl rfl ?_
                refine wp_iload rfl rfl ?_
                refine wp_putI (j := 10) rfl (congrArg Prod.fst (kf_6 X.1)) rfl rfl rfl ?_
                refine wp_iconst rfl ?_
                refine wp_iload rfl rfl ?_
                refine wp_isub rfl ?_
                refine Wp.topI (y := (-11)) (by decide) ?_
                refine wp_iret rfl rfl ?_
                show Wp X _ 28 58 [vr 6, vi 0, vi x2, vi 3, vi x4, vi x5, vr 81, vr 87] [vi (-11)] _ _
                exact wp_iret rfl rfl H
          · replace H := H.2.1 rfl
            refine wp_aaload (r := 82) rfl (kf_80 X.1) (by decide) (by decide) rfl ?_
            refine wp_astore (L2 := [vr 6, vi 1, vi x2, vi x3, vi x4, vi x5, vr 83, vu]) rfl (Nat.le_of_ble_eq_true rfl) rfl ?_
            refine wp_aload rfl rfl ?_
            refine wp_getR (r := 79) rfl (congrArg Prod.fst (kf_6 X.1)) rfl ?_
            refine wp_iload rfl rfl ?_
            rcases (show x3 = 0 ∨ x3 = 1 ∨ x3 = 2 ∨ x3 = 3 by have := (show 0 ≤ x3 ∧ x3 < 4 from ⟨c3, (by clear H; omega)⟩); clear H; omega) with rfl | rfl | rfl | rfl
            · replace H := H.1 rfl
              refine wp_aaload (r := 80) rfl (kf_80 X.1) (by decide) (by decide) rfl ?_
              refine wp_astore (L2 := [vr 6, vi 1, vi x2, vi 0, vi x4, vi x5, vr 83, vr 81]) rfl (Nat.le_of_ble_eq_true rfl) rfl ?_
              refine wp_aload rfl rfl ?_
              refine wp_call (k := 220) (ρ2 := 0) (L2 := [vr 83]) rfl rfl rfl (Nat.le_of_ble_eq_true rfl) (Nat.le_of_ble_eq_true rfl) (Nat.le_of_ble_eq_true rfl) (rcv_V rfl (congrArg Prod.fst (kf_83 X.1))) rfl ?_
              refine wp_aload rfl rfl ?_
              refine wp_getI (j := 1) rfl (congrArg Prod.fst (kf_83 X.1)) rfl ?_
              refine wp_iconst rfl ?_
              refine wp_icne (tn := 12) rfl rfl (fun c47 => ?_) (fun c47 => ?_)
              · replace H := H.1 c47
                refine wp_iconst rfl ?_
                refine wp_zret rfl rfl (by decide) ?_
                show Wp X _ 28 42 [vr 6, vi 1, vi x2, vi 0, vi x4, vi x5, vr 83, vr 81] [vi 0] _ _
                refine wp_ifneF (tn := 53) rfl rfl (by decide) ?_
                refine wp_aload rfl rfl ?_
                refine wp_call (k := 220) (ρ2 := 0) (L2 := [vr 81]) rfl rfl rfl (Nat.le_of_ble_eq_true rfl) (Nat.le_of_ble_eq_true rfl) (Nat.le_of_ble_eq_true rfl) (rcv_V rfl (congrArg Prod.fst (kf_81 X.1))) rfl ?_
                refine wp_aload rfl rfl ?_
                refine wp_getI (j := 1) rfl (congrArg Prod.fst (kf_81 X.1)) rfl ?_
                refine wp_iconst rfl ?_
                refine wp_icne (tn := 12) rfl rfl (fun c48 => ?_) (fun c48 => ?_)
                · replace H := H.1 c48
                  refine wp_iconst rfl ?_
                  refine wp_zret rfl rfl (by decide) ?_
                  show Wp X _ 28 50 [vr 6, vi 1, vi x2, vi 0, vi x4, vi x5, vr 83, vr 81] [vi 0] _ _
                  refine wp_ifeqT (tn := 59) rfl rfl (by decide) ?_
                  refine wp_aload rfl rfl ?_
                  refine wp_call (k := 221) (ρ2 := 0) (L2 := [vr 83]) rfl rfl rfl (Nat.le_of_ble_eq_true rfl) (Nat.le_of_ble_eq_true rfl) (Nat.le_of_ble_eq_true rfl) (rcv_V rfl (congrArg Prod.fst (kf_83 X.1))) rfl ?_
                  refine wp_aload rfl rfl ?_
                  refine wp_getI (j := 1) rfl (congrArg Prod.fst (kf_83 X.1)) rfl ?_
                  refine wp_iret rfl rfl ?_
                  show Wp X _ 28 64 [vr 6, vi 1, vi x2, vi 0, vi x4, vi x5, vr 83, vr 81] [vi (h 83 1)] _ _
                  refine wp_aload rfl rfl ?_
                  refine wp_call (k := 221) (ρ2 := 0) (L2 := [vr 81]) rfl rfl rfl (Nat.le_of_ble_eq_true rfl) (Nat.le_of_ble_eq_true rfl) (Nat.le_of_ble_eq_true rfl) (rcv_V rfl (congrArg Prod.fst (kf_81 X.1))) rfl ?_
                  refine wp_aload rfl rfl ?_
                  refine wp_getI (j := 1) rfl (congrArg Prod.fst (kf_81 X.1)) rfl ?_
                  refine wp_iret rfl rfl ?_
                  show Wp X _ 28 69 [vr 6, vi 1, vi x2, vi 0, vi x4, vi x5, vr 83, vr 81] [vi (h 81 1), vi (h 83 1)] _ _
                  refine wp_iceq (tn := 78) rfl rfl (fun c49 => ?_) (fun c49 => ?_)
                  · replace H := H.1 c49
                    refine wp_aload rfl rfl ?_
                    refine wp_iload rfl rfl ?_
                    refine wp_iload rfl rfl ?_
                    refine wp_call (k := 226) (ρ2 := 0) (L2 := [vr 83, vi x2, vi x5]) rfl rfl rfl (Nat.le_of_ble_eq_true rfl) (Nat.le_of_ble_eq_true rfl) (Nat.le_of_ble_eq_true rfl) (rcv_V rfl (congrArg Prod.fst (kf_83 X.1))) rfl ?_
                    refine wp_iload rfl rfl ?_
                    refine wp_iflt (tn := 22) rfl rfl (fun c50 => ?_) (fun c50 => ?_)
                    · replace H := H.1 c50
                      refine wp_iconst rfl ?_
                      refine wp_zret rfl rfl (by decide) ?_
                      show Wp X _ 28 86 [vr 6, vi 1, vi x2, vi 0, vi x4, vi x5, vr 83, vr 81] [vi 0] _ _
                      refine wp_ifeqT (tn := 101) rfl rfl (by decide) ?_
                      refine wp_aload rfl rfl ?_
                      refine wp_iconst rfl ?_
                      refine wp_call (k := 38) (ρ2 := 0) (L2 := [vr 6, vi 2]) rfl rfl rfl (Nat.le_of_ble_eq_true rfl) (Nat.le_of_ble_eq_true rfl) (Nat.le_of_ble_eq_true rfl) (rcv_V rfl (congrArg Prod.fst (kf_6 X.1))) rfl ?_
                      refine wp_aload rfl rfl ?_
                      refine wp_iload rfl rfl ?_
                      refine wp_putI (j := 10) rfl (congrArg Prod.fst (kf_6 X.1)) rfl rfl rfl ?_
                      refine wp_iconst rfl ?_
                      refine wp_iload rfl rfl ?_
                      refine wp_isub rfl ?_
                      refine Wp.topI (y := (-12)) (by decide) ?_
                      refine wp_iret rfl rfl ?_
                      show Wp X _ 28 106 [vr 6, vi 1, vi x2, vi 0, vi x4, vi x5, vr 83, vr 81] [vi (-12)] _ _
                      exact wp_iret rfl rfl H
                    · replace H := H.2 c50
                      refine wp_iload rfl rfl ?_
                      refine wp_iflt (tn := 22) rfl rfl (fun c51 => ?_) (fun c51 => ?_)
                      · replace H := H.1 c51
                        refine wp_iconst rfl ?_
                        refine wp_zret rfl rfl (by decide) ?_
                        show Wp X _ 28 86 [vr 6, vi 1, vi x2, vi 0, vi x4, vi x5, vr 83, vr 81] [vi 0] _ _
                        refine wp_ifeqT (tn := 101) rfl rfl (by decide) ?_
                        refine wp_aload rfl rfl ?_
                        refine wp_iconst rfl ?_
                        refine wp_call (k := 38) (ρ2 := 0) (L2 := [vr 6, vi 2]) rfl rfl rfl (Nat.le_of_ble_eq_true rfl) (Nat.le_of_ble_eq_true rfl) (Nat.le_of_ble_eq_true rfl) (rcv_V rfl (congrArg Prod.fst (kf_6 X.1))) rfl ?_
                        refine wp_aload rfl rfl ?_
                        refine wp_iload rfl rfl ?_
                        refine wp_putI (j := 10) rfl (congrArg Prod.fst (kf_6 X.1)) rfl rfl rfl ?_
                        refine wp_iconst rfl ?_
                        refine wp_iload rfl rfl ?_
                        refine wp_isub rfl ?_
                        refine Wp.topI (y := (-12)) (by decide) ?_
                        refine wp_iret rfl rfl ?_
                        show Wp X _ 28 106 [vr 6, vi 1, vi x2, vi 0, vi x4, vi x5, vr 83, vr 81] [vi (-12)] _ _
                        exact wp_iret rfl rfl H
                      · replace H := H.2 c51
                        refine wp_iload rfl rfl ?_
                        refine wp_aload rfl rfl ?_
                        refine wp_getI (j := 2) rfl (congrArg Prod.fst (kf_83 X.1)) rfl ?_
                        refine wp_iload rfl rfl ?_
                        refine wp_isub rfl ?_
                        have g52 := H.1
                        replace H := H.2
                        refine Wp.topI (y := ((h 83 2) - x5)) (w32_I g52) ?_
                        refine wp_icgt (tn := 22) rfl rfl (fun c53 => ?_) (fun c53 => ?_)
                        · replace H := H.1 c53
                          refine wp_iconst rfl ?_
                          refine wp_zret rfl rfl (by decide) ?_
                          show Wp X _ 28 86 [vr 6, vi 1, vi x2, vi 0, vi x4, vi x5, vr 83, vr 81] [vi 0] _ _
                          refine wp_ifeqT (tn := 101) rfl rfl (by decide) ?_
                          refine wp_aload rfl rfl ?_
                          refine wp_iconst rfl ?_
                          refine wp_call (k := 38) (ρ2 := 0) (L2 := [vr 6, vi 2]) rfl rfl rfl (Nat.le_of_ble_eq_true rfl) (Nat.le_of_ble_eq_true rfl) (Nat.le_of_ble_eq_true rfl) (rcv_V rfl (congrArg Prod.fst (kf_6 X.1))) rfl ?_
                          refine wp_aload rfl rfl ?_
                          refine wp_iload rfl rfl ?_
                          refine wp_putI (j := 10) rfl (congrArg Prod.fst (kf_6 X.1)) rfl rfl rfl ?_
                          refine wp_iconst rfl ?_
                          refine wp_iload rfl rfl ?_
                          refine wp_isub rfl ?_
                          refine Wp.topI (y := (-12)) (by decide) ?_
                          refine wp_iret rfl rfl ?_
                          show Wp X _ 28 106 [vr 6, vi 1, vi x2, vi 0, vi x4, vi x5, vr 83, vr 81] [vi (-12)] _ _
                          exact wp_iret rfl rfl H
                        · replace H := H.2 c53
                          refine wp_iconst rfl ?_
                          refine wp_goto (tn := 23) rfl rfl ?_
                          refine wp_zret rfl rfl (by decide) ?_
                          show Wp X _ 28 86 [vr 6, vi 1, vi x2, vi 0, vi x4, vi x5, vr 83, vr 81] [vi 1] _ _
                          refine wp_ifeqF (tn := 101) rfl rfl (by decide) ?_
                          refine wp_aload rfl rfl ?_
                          refine wp_iload rfl rfl ?_
                          refine wp_iload rfl rfl ?_
                          refine wp_call (k := 226) (ρ2 := 0) (L2 := [vr 81, vi x4, vi x5]) rfl rfl rfl (Nat.le_of_ble_eq_true rfl) (Nat.le_of_ble_eq_true rfl) (Nat.le_of_ble_eq_true rfl) (rcv_V rfl (congrArg Prod.fst (kf_81 X.1))) rfl ?_
                          refine wp_iload rfl rfl ?_
                          refine wp_iflt (tn := 22) rfl rfl (fun c54 => ?_) (fun c54 => ?_)
                          · replace H := H.1 c54
                            refine wp_iconst rfl ?_
                            refine wp_zret rfl rfl (by decide) ?_
                            show Wp X _ 28 98 [vr 6, vi 1, vi x2, vi 0, vi x4, vi x5, vr 83, vr 81] [vi 0] _ _
                            refine wp_ifneF (tn := 107) rfl rfl (by decide) ?_
                            refine wp_aload rfl rfl ?_
                            refine wp_iconst rfl ?_
                            refine wp_call (k := 38) (ρ2 := 0) (L2 := [vr 6, vi 2]) rfl rfl rfl (Nat.le_of_ble_eq_true rfl) (Nat.le_of_ble_eq_true rfl) (Nat.le_of_ble_eq_true rfl) (rcv_V rfl (congrArg Prod.fst (kf_6 X.1))) rfl ?_
                            refine wp_aload rfl rfl ?_
                            refine wp_iload rfl rfl ?_
                            refine wp_putI (j := 10) rfl (congrArg Prod.fst (kf_6 X.1)) rfl rfl rfl ?_
                            refine wp_iconst rfl ?_
                            refine wp_iload rfl rfl ?_
                            refine wp_isub rfl ?_
                            refine Wp.topI (y := (-12)) (by decide) ?_
                            refine wp_iret rfl rfl ?_
                            show Wp X _ 28 106 [vr 6, vi 1, vi x2, vi 0, vi x4, vi x5, vr 83, vr 81] [vi (-12)] _ _
                            exact wp_iret rfl rfl H
                          · replace H := H.2 c54
                            refine wp_iload rfl rfl ?_
                            refine wp_ifltF (tn := 22) rfl rfl c51 ?_
                            refine wp_iload rfl rfl ?_
                            refine wp_aload rfl rfl ?_
                            refine wp_getI (j := 2) rfl (congrArg Prod.fst (kf_81 X.1)) rfl ?_
                            refine wp_iload rfl rfl ?_
                            refine wp_isub rfl ?_
                            have g55 := H.1
                            replace H := H.2
                            refine Wp.topI (y := ((h 81 2) - x5)) (w32_I g55) ?_
                            refine wp_icgt (tn := 22) rfl rfl (fun c56 => ?_) (fun c56 => ?_)
                            · replace H := H.1 c56
                              refine wp_iconst rfl ?_
                              refine wp_zret rfl rfl (by decide) ?_
                              show Wp X _ 28 98 [vr 6, vi 1, vi x2, vi 0, vi x4, vi x5, vr 83, vr 81] [vi 0] _ _
                              refine wp_ifneF (tn := 107) rfl rfl (by decide) ?_
                              refine wp_aload rfl rfl ?_
                              refine wp_iconst rfl ?_
                              refine wp_call (k := 38) (ρ2 := 0) (L2 := [vr 6, vi 2]) rfl rfl rfl (Nat.le_of_ble_eq_true rfl) (Nat.le_of_ble_eq_true rfl) (Nat.le_of_ble_eq_true rfl) (rcv_V rfl (congrArg Prod.fst (kf_6 X.1))) rfl ?_
                              refine wp_aload rfl rfl ?_
                              refine wp_iload rfl rfl ?_
                              refine wp_putI (j := 10) rfl (congrArg Prod.fst (kf_6 X.1)) rfl rfl rfl ?_
                              refine wp_iconst rfl ?_
                              refine wp_iload rfl rfl ?_
                              refine wp_isub rfl ?_
                              refine Wp.topI (y := (-12)) (by decide) ?_
                              refine wp_iret rfl rfl ?_
                              show Wp X _ 28 106 [vr 6, vi 1, vi x2, vi 0, vi x4, vi x5, vr 83, vr 81] [vi (-12)] _ _
                              exact wp_iret rfl rfl H
                            · replace H := H.2 c56
                              refine wp_iconst rfl ?_
                              refine wp_goto (tn := 23) rfl rfl ?_
                              refine wp_zret rfl rfl (by decide) ?_
                              show Wp X _ 28 98 [vr 6, vi 1, vi x2, vi 0, vi x4, vi x5, vr 83, vr 81] [vi 1] _ _
                              refine wp_ifneT (tn := 107) rfl rfl (by decide) ?_
                              refine wp_aload rfl rfl ?_
                              refine wp_aload rfl rfl ?_
                              refine wp_iload rfl rfl ?_
                              refine wp_iload rfl rfl ?_
                              refine wp_iload rfl rfl ?_
                              refine wp_call (k := 229) (ρ2 := 1) (L2 := [vr 81, vr 83, vi x2, vi x4, vi x5]) rfl rfl rfl (Nat.le_of_ble_eq_true rfl) (Nat.le_of_ble_eq_true rfl) (Nat.le_of_ble_eq_true rfl) (rcv_V rfl (congrArg Prod.fst (kf_81 X.1))) rfl ?_
                              refine wp_aload rfl rfl ?_
                              refine wp_iload rfl rfl ?_
                              refine wp_iload rfl rfl ?_
                              refine wp_call (k := 226) (ρ2 := 0) (L2 := [vr 83, vi x2, vi x5]) rfl rfl rfl (Nat.le_of_ble_eq_true rfl) (Nat.le_of_ble_eq_true rfl) (Nat.le_of_ble_eq_true rfl) (rcv_V rfl (congrArg Prod.fst (kf_83 X.1))) rfl ?_
                              refine wp_iload rfl rfl ?_
                              refine wp_ifltF (tn := 22) rfl rfl c50 ?_
                              refine wp_iload rfl rfl ?_
                              refine wp_ifltF (tn := 22) rfl rfl c51 ?_
                              refine wp_iload rfl rfl ?_
                              refine wp_aload rfl rfl ?_
                              refine wp_getI (j := 2) rfl (congrArg Prod.fst (kf_83 X.1)) rfl ?_
                              refine wp_iload rfl rfl ?_
                              refine wp_isub rfl ?_
                              refine Wp.topI (y := ((h 83 2) - x5)) (w32_I g52) ?_
                              refine wp_icgtF (tn := 22) rfl rfl c53 ?_
                              refine wp_iconst rfl ?_
                              refine wp_goto (tn := 23) rfl rfl ?_
                              refine wp_zret rfl rfl (by decide) ?_
                              show Wp X _ 229 7 [vr 81, vr 83, vi x2, vi x4, vi x5] [vi 1] _ _
                              refine wp_ifeqF (tn := 35) rfl rfl (by decide) ?_
                              refine wp_aload rfl rfl ?_
                              refine wp_iload rfl rfl ?_
                              refine wp_iload rfl rfl ?_
                              refine wp_call (k := 226) (ρ2 := 0) (L2 := [vr 81, vi x4, vi x5]) rfl rfl rfl (Nat.le_of_ble_eq_true rfl) (Nat.le_of_ble_eq_true rfl) (Nat.le_of_ble_eq_true rfl) (rcv_V rfl (congrArg Prod.fst (kf_81 X.1))) rfl ?_
                              refine wp_iload rfl rfl ?_
                              refine wp_ifltF (tn := 22) rfl rfl c54 ?_
                              refine wp_iload rfl rfl ?_
                              refine wp_ifltF (tn := 22) rfl rfl c51 ?_
                              refine wp_iload rfl rfl ?_
                              refine wp_aload rfl rfl ?_
                              refine wp_getI (j := 2) rfl (congrArg Prod.fst (kf_81 X.1)) rfl ?_
                              refine wp_iload rfl rfl ?_
                              refine wp_isub rfl ?_
                              refine Wp.topI (y := ((h 81 2) - x5)) (w32_I g55) ?_
                              refine wp_icgtF (tn := 22) rfl rfl c56 ?_
                              refine wp_iconst rfl ?_
                              refine wp_goto (tn := 23) rfl rfl ?_
                              refine wp_zret rfl rfl (by decide) ?_
                              show Wp X _ 229 17 [vr 81, vr 83, vi x2, vi x4, vi x5] [vi 1] _ _
                              refine wp_ifeqF (tn := 35) rfl rfl (by decide) ?_
                              refine wp_aload rfl rfl ?_
                              refine wp_getR (r := 83) rfl (congrArg Prod.fst (kf_83 X.1)) rfl ?_
                              refine wp_iload rfl rfl ?_
                              refine wp_aload rfl rfl ?_
                              refine wp_getR (r := 81) rfl (congrArg Prod.fst (kf_81 X.1)) rfl ?_
                              refine wp_iload rfl rfl ?_
                              refine wp_iload rfl rfl ?_
                              have g57 := H.1
                              replace H := H.2
                              refine wp_copy rfl (kf_84 X.1) (kf_82 X.1) g57 (Nat.le_of_ble_eq_true rfl) ?_
                              refine wp_vret rfl rfl ?_
                              show Wp X _ 28 119 [vr 6, vi 1, vi x2, vi 0, vi x4, vi x5, vr 83, vr 81] [] _ _
                              refine wp_iconst rfl ?_
                              exact wp_iret rfl rfl H
                  · replace H := H.2 c49
                    refine wp_aload rfl rfl ?_
                    refine wp_iconst rfl ?_
                    refine wp_call (k := 38) (ρ2 := 0) (L2 := [vr 6, vi 4]) rfl rfl rfl (Nat.le_of_ble_eq_true rfl) (Nat.le_of_ble_eq_true rfl) (Nat.le_of_ble_eq_true rfl) (rcv_V rfl (congrArg Prod.fst (kf_6 X.1))) rfl ?_
                    refine wp_aload rfl rfl ?_
                    refine wp_iload rfl rfl ?_
                    refine wp_putI (j := 10) rfl (congrArg Prod.fst (kf_6 X.1)) rfl rfl rfl ?_
                    refine wp_iconst rfl ?_
                    refine wp_iload rfl rfl ?_
                    refine wp_isub rfl ?_
                    refine Wp.topI (y := (-14)) (by decide) ?_
                    refine wp_iret rfl rfl ?_
                    show Wp X _ 28 77 [vr 6, vi 1, vi x2, vi 0, vi x4, vi x5, vr 83, vr 81] [vi (-14)] _ _
                    exact wp_iret rfl rfl H
                · replace H := H.2 c48
                  refine wp_iconst rfl ?_
                  refine wp_goto (tn := 13) rfl rfl ?_
                  refine wp_zret rfl rfl (by decide) ?_
                  show Wp X _ 28 50 [vr 6, vi 1, vi x2, vi 0, vi x4, vi x5, vr 83, vr 81] [vi 1] _ _
                  refine wp_ifeqF (tn := 59) rfl rfl (by decide) ?_
                  refine wp_aload rfl rfl ?_
                  refine wp_iconst rfl ?_
                  refine wp_call (k := 38) (ρ2 := 0) (L2 := [vr 6, vi 1]) rfl rfl rfl (Nat.le_of_ble_eq_true rfl) (Nat.le_of_ble_eq_true rfl) (Nat.le_of_ble_eq_true rfl) (rcv_V rfl (congrArg Prod.fst (kf_6 X.1))) rfl ?_
                  refine wp_aload rfl rfl ?_
                  refine wp_iload rfl rfl ?_
                  refine wp_putI (j := 10) rfl (congrArg Prod.fst (kf_6 X.1)) rfl rfl rfl ?_
                  refine wp_iconst rfl ?_
                  refine wp_iload rfl rfl ?_
                  refine wp_isub rfl ?_
                  refine Wp.topI (y := (-11)) (by decide) ?_
                  refine wp_iret rfl rfl ?_
                  show Wp X _ 28 58 [vr 6, vi 1, vi x2, vi 0, vi x4, vi x5, vr 83, vr 81] [vi (-11)] _ _
                  exact wp_iret rfl rfl H
              · replace H := H.2 c47
                refine wp_iconst rfl ?_
                refine wp_goto (tn := 13) rfl rfl ?_
                refine wp_zret rfl rfl (by decide) ?_
                show Wp X _ 28 42 [vr 6, vi 1, vi x2, vi 0, vi x4, vi x5, vr 83, vr 81] [vi 1] _ _
                refine wp_ifneT (tn := 53) rfl rfl (by decide) ?_
                refine wp_aload rfl rfl ?_
                refine wp_iconst rfl ?_
                refine wp_call (k := 38) (ρ2 := 0) (L2 := [vr 6, vi 1]) rfl rfl rfl (Nat.le_of_ble_eq_true rfl) (Nat.le_of_ble_eq_true rfl) (Nat.le_of_ble_eq_true rfl) (rcv_V rfl (congrArg Prod.fst (kf_6 X.1))) rfl ?_
                refine wp_aload rfl rfl ?_
                refine wp_iload rfl rfl ?_
                refine wp_putI (j := 10) rfl (congrArg Prod.fst (kf_6 X.1)) rfl rfl rfl ?_
                refine wp_iconst rfl ?_
                refine wp_iload rfl rfl ?_
                refine wp_isub rfl ?_
                refine Wp.topI (y := (-11)) (by decide) ?_
                refine wp_iret rfl rfl ?_
                show Wp X _ 28 58 [vr 6, vi 1, vi x2, vi 0, vi x4, vi x5, vr 83, vr 81] [vi (-11)] _ _
                exact wp_iret rfl rfl H
            · replace H := H.2.1 rfl
              refine wp_aaload (r := 82) rfl (kf_80 X.1) (by decide) (by decide) rfl ?_
              refine wp_astore (L2 := [vr 6, vi 1, vi x2, vi 1, vi x4, vi x5, vr 83, vr 83]) rfl (Nat.le_of_ble_eq_true rfl) rfl ?_
              refine wp_aload rfl rfl ?_
              refine wp_call (k := 220) (ρ2 := 0) (L2 := [vr 83]) rfl rfl rfl (Nat.le_of_ble_eq_true rfl) (Nat.le_of_ble_eq_true rfl) (Nat.le_of_ble_eq_true rfl) (rcv_V rfl (congrArg Prod.fst (kf_83 X.1))) rfl ?_
              refine wp_aload rfl rfl ?_
              refine wp_getI (j := 1) rfl (congrArg Prod.fst (kf_83 X.1)) rfl ?_
              refine wp_iconst rfl ?_
              refine wp_icne (tn := 12) rfl rfl (fun c58 => ?_) (fun c58 => ?_)
              · replace H := H.1 c58
                refine wp_iconst rfl ?_
                refine wp_zret rfl rfl (by decide) ?_
                show Wp X _ 28 42 [vr 6, vi 1, vi x2, vi 1, vi x4, vi x5, vr 83, vr 83] [vi 0] _ _
                refine wp_ifneF (tn := 53) rfl rfl (by decide) ?_
                refine wp_aload rfl rfl ?_
                refine wp_call (k := 220) (ρ2 := 0) (L2 := [vr 83]) rfl rfl rfl (Nat.le_of_ble_eq_true rfl) (Nat.le_of_ble_eq_true rfl) (Nat.le_of_ble_eq_true rfl) (rcv_V rfl (congrArg Prod.fst (kf_83 X.1))) rfl ?_
                refine wp_aload rfl rfl ?_
                refine wp_getI (j := 1) rfl (congrArg Prod.fst (kf_83 X.1)) rfl ?_
                refine wp_iconst rfl ?_
                refine wp_icneT (tn := 12) rfl rfl c58 ?_
                refine wp_iconst rfl ?_
                refine wp_zret rfl rfl (by decide) ?_
                show Wp X _ 28 50 [vr 6, vi 1, vi x2, vi 1, vi x4, vi x5, vr 83, vr 83] [vi 0] _ _
                refine wp_ifeqT (tn := 59) rfl rfl (by decide) ?_
                refine wp_aload rfl rfl ?_
                refine wp_call (k := 221) (ρ2 := 0) (L2 := [vr 83]) rfl rfl rfl (Nat.le_of_ble_eq_true rfl) (Nat.le_of_ble_eq_true rfl) (Nat.le_of_ble_eq_true rfl) (rcv_V rfl (congrArg Prod.fst (kf_83 X.1))) rfl ?_
                refine wp_aload rfl rfl ?_
                refine wp_getI (j := 1) rfl (congrArg Prod.fst (kf_83 X.1)) rfl ?_
                refine wp_iret rfl rfl ?_
                show Wp X _ 28 64 [vr 6, vi 1, vi x2, vi 1, vi x4, vi x5, vr 83, vr 83] [vi (h 83 1)] _ _
                refine wp_aload rfl rfl ?_
                refine wp_call (k := 221) (ρ2 := 0) (L2 := [vr 83]) rfl rfl rfl (Nat.le_of_ble_eq_true rfl) (Nat.le_of_ble_eq_true rfl) (Nat.le_of_ble_eq_true rfl) (rcv_V rfl (congrArg Prod.fst (kf_83 X.1))) rfl ?_
                refine wp_aload rfl rfl ?_
                refine wp_getI (j := 1) rfl (congrArg Prod.fst (kf_83 X.1)) rfl ?_
                refine wp_iret rfl rfl ?_
                show Wp X _ 28 69 [vr 6, vi 1, vi x2, vi 1, vi x4, vi x5, vr 83, vr 83] [vi (h 83 1), vi (h 83 1)] _ _
                refine wp_iceq (tn := 78) rfl rfl (fun c59 => ?_) (fun c59 => ?_)
                · replace H := H.1 c59
                  refine wp_aload rfl rfl ?_
                  refine wp_iload rfl rfl ?_
                  refine wp_iload rfl rfl ?_
                  refine wp_call (k := 226) (ρ2 := 0) (L2 := [vr 83, vi x2, vi x5]) rfl rfl rfl (Nat.le_of_ble_eq_true rfl) (Nat.le_of_ble_eq_true rfl) (Nat.le_of_ble_eq_true rfl) (rcv_V rfl (congrArg Prod.fst (kf_83 X.1))) rfl ?_
                  refine wp_iload rfl rfl ?_
                  refine wp_iflt (tn := 22) rfl rfl (fun c60 => ?_) (fun c60 => ?_)
                  · replace H := H.1 c60
                    refine wp_iconst rfl ?_
                    refine wp_zret rfl rfl (by decide) ?_
                    show Wp X _ 28 86 [vr 6, vi 1, vi x2, vi 1, vi x4, vi x5, vr 83, vr 83] [vi 0] _ _
                    refine wp_ifeqT (tn := 101) rfl rfl (by decide) ?_
                    refine wp_aload rfl rfl ?_
                    refine wp_iconst rfl ?_
                    refine wp_call (k := 38) (ρ2 := 0) (L2 := [vr 6, vi 2]) rfl rfl rfl (Nat.le_of_ble_eq_true rfl) (Nat.le_of_ble_eq_true rfl) (Nat.le_of_ble_eq_true rfl) (rcv_V rfl (congrArg Prod.fst (kf_6 X.1))) rfl ?_
                    refine wp_aload rfl rfl ?_
                    refine wp_iload rfl rfl ?_
                    refine wp_putI (j := 10) rfl (congrArg Prod.fst (kf_6 X.1)) rfl rfl rfl ?_
                    refine wp_iconst rfl ?_
                    refine wp_iload rfl rfl ?_
                    refine wp_isub rfl ?_
                    refine Wp.topI (y := (-12)) (by decide) ?_
                    refine wp_iret rfl rfl ?_
                    show Wp X _ 28 106 [vr 6, vi 1, vi x2, vi 1, vi x4, vi x5, vr 83, vr 83] [vi (-12)] _ _
                    exact wp_iret rfl rfl H
                  · replace H := H.2 c60
                    refine wp_iload rfl rfl ?_
                    refine wp_iflt (tn := 22) rfl rfl (fun c61 => ?_) (fun c61 => ?_)
                    · replace H := H.1 c61
                      refine wp_iconst rfl ?_
                      refine wp_zret rfl rfl (by decide) ?_
                      show Wp X _ 28 86 [vr 6, vi 1, vi x2, vi 1, vi x4, vi x5, vr 83, vr 83] [vi 0] _ _
                      refine wp_ifeqT (tn := 101) rfl rfl (by decide) ?_
                      refine wp_aload rfl rfl ?_
                      refine wp_iconst rfl ?_
                      refine wp_call (k := 38) (ρ2 := 0) (L2 := [vr 6, vi 2]) rfl rfl rfl (Nat.le_of_ble_eq_true rfl) (Nat.le_of_ble_eq_true rfl) (Nat.le_of_ble_eq_true rfl) (rcv_V rfl (congrArg Prod.fst (kf_6 X.1))) rfl ?_
                      refine wp_aload rfl rfl ?_
                      refine wp_iload rfl rfl ?_
                      refine wp_putI (j := 10) rfl (congrArg Prod.fst (kf_6 X.1)) rfl rfl rfl ?_
                      refine wp_iconst rfl ?_
                      refine wp_iload rfl rfl ?_
                      refine wp_isub rfl ?_
                      refine Wp.topI (y := (-12)) (by decide) ?_
                      refine wp_iret rfl rfl ?_
                      show Wp X _ 28 106 [vr 6, vi 1, vi x2, vi 1, vi x4, vi x5, vr 83, vr 83] [vi (-12)] _ _
                      exact wp_iret rfl rfl H
                    · replace H := H.2 c61
                      refine wp_iload rfl rfl ?_
                      refine wp_aload rfl rfl ?_
                      refine wp_getI (j := 2) rfl (congrArg Prod.fst (kf_83 X.1)) rfl ?_
                      refine wp_iload rfl rfl ?_
                      refine wp_isub rfl ?_
                      have g62 := H.1
                      replace H := H.2
                      refine Wp.topI (y := ((h 83 2) - x5)) (w32_I g62) ?_
                      refine wp_icgt (tn := 22) rfl rfl (fun c63 => ?_) (fun c63 => ?_)
                      · replace H := H.1 c63
                        refine wp_iconst rfl ?_
                        refine wp_zret rfl rfl (by decide) ?_
                        show Wp X _ 28 86 [vr 6, vi 1, vi x2, vi 1, vi x4, vi x5, vr 83, vr 83] [vi 0] _ _
                        refine wp_ifeqT (tn := 101) rfl rfl (by decide) ?_
                        refine wp_aload rfl rfl ?_
                        refine wp_iconst rfl ?_
                        refine wp_call (k := 38) (ρ2 := 0) (L2 := [vr 6, vi 2]) rfl rfl rfl (Nat.le_of_ble_eq_true rfl) (Nat.le_of_ble_eq_true rfl) (Nat.le_of_ble_eq_true rfl) (rcv_V rfl (congrArg Prod.fst (kf_6 X.1))) rfl ?_
                        refine wp_aload rfl rfl ?_
                        refine wp_iload rfl rfl ?_
                        refine wp_putI (j := 10) rfl (congrArg Prod.fst (kf_6 X.1)) rfl rfl rfl ?_
                        refine wp_iconst rfl ?_
                        refine wp_iload rfl rfl ?_
                        refine wp_isub rfl ?_
                        refine Wp.topI (y := (-12)) (by decide) ?_
                        refine wp_iret rfl rfl ?_
                        show Wp X _ 28 106 [vr 6, vi 1, vi x2, vi 1, vi x4, vi x5, vr 83, vr 83] [vi (-12)] _ _
                        exact wp_iret rfl rfl H
                      · replace H := H.2 c63
                        refine wp_iconst rfl ?_
                        refine wp_goto (tn := 23) rfl rfl ?_
                        refine wp_zret rfl rfl (by decide) ?_
                        show Wp X _ 28 86 [vr 6, vi 1, vi x2, vi 1, vi x4, vi x5, vr 83, vr 83] [vi 1] _ _
                        refine wp_ifeqF (tn := 101) rfl rfl (by decide) ?_
                        refine wp_aload rfl rfl ?_
                        refine wp_iload rfl rfl ?_
                        refine wp_iload rfl rfl ?_
                        refine wp_call (k := 226) (ρ2 := 0) (L2 := [vr 83, vi x4, vi x5]) rfl rfl rfl (Nat.le_of_ble_eq_true rfl) (Nat.le_of_ble_eq_true rfl) (Nat.le_of_ble_eq_true rfl) (rcv_V rfl (congrArg Prod.fst (kf_83 X.1))) rfl ?_
                        refine wp_iload rfl rfl ?_
                        refine wp_iflt (tn := 22) rfl rfl (fun c64 => ?_) (fun c64 => ?_)
                        · replace H := H.1 c64
                          refine wp_iconst rfl ?_
                          refine wp_zret rfl rfl (by decide) ?_
                          show Wp X _ 28 98 [vr 6, vi 1, vi x2, vi 1, vi x4, vi x5, vr 83, vr 83] [vi 0] _ _
                          refine wp_ifneF (tn := 107) rfl rfl (by decide) ?_
                          refine wp_aload rfl rfl ?_
                          refine wp_iconst rfl ?_
                          refine wp_call (k := 38) (ρ2 := 0) (L2 := [vr 6, vi 2]) rfl rfl rfl (Nat.le_of_ble_eq_true rfl) (Nat.le_of_ble_eq_true rfl) (Nat.le_of_ble_eq_true rfl) (rcv_V rfl (congrArg Prod.fst (kf_6 X.1))) rfl ?_
                          refine wp_aload rfl rfl ?_
                          refine wp_iload rfl rfl ?_
                          refine wp_putI (j := 10) rfl (congrArg Prod.fst (kf_6 X.1)) rfl rfl rfl ?_
                          refine wp_iconst rfl ?_
                          refine wp_iload rfl rfl ?_
                          refine wp_isub rfl ?_
                          refine Wp.topI (y := (-12)) (by decide) ?_
                          refine wp_iret rfl rfl ?_
                          show Wp X _ 28 106 [vr 6, vi 1, vi x2, vi 1, vi x4, vi x5, vr 83, vr 83] [vi (-12)] _ _
                          exact wp_iret rfl rfl H
                        · replace H := H.2 c64
                          refine wp_iload rfl rfl ?_
                          refine wp_ifltF (tn := 22) rfl rfl c61 ?_
                          refine wp_iload rfl rfl ?_
                          refine wp_aload rfl rfl ?_
                          refine wp_getI (j := 2) rfl (congrArg Prod.fst (kf_83 X.1)) rfl ?_
                          refine wp_iload rfl rfl ?_
                          refine wp_isub rfl ?_
                          refine Wp.topI (y := ((h 83 2) - x5)) (w32_I g62) ?_
                          refine wp_icgt (tn := 22) rfl rfl (fun c65 => ?_) (fun c65 => ?_)
                          · replace H := H.1 c65
                            refine wp_iconst rfl ?_
                            refine wp_zret rfl rfl (by decide) ?_
                            show Wp X _ 28 98 [vr 6, vi 1, vi x2, vi 1, vi x4, vi x5, vr 83, vr 83] [vi 0] _ _
                            refine wp_ifneF (tn := 107) rfl rfl (by decide) ?_
                            refine wp_aload rfl rfl ?_
                            refine wp_iconst rfl ?_
                            refine wp_call (k := 38) (ρ2 := 0) (L2 := [vr 6, vi 2]) rfl rfl rfl (Nat.le_of_ble_eq_true rfl) (Nat.le_of_ble_eq_true rfl) (Nat.le_of_ble_eq_true rfl) (rcv_V rfl (congrArg Prod.fst (kf_6 X.1))) rfl ?_
                            refine wp_aload rfl rfl ?_
                            refine wp_iload rfl rfl ?_
                            refine wp_putI (j := 10) rfl (congrArg Prod.fst (kf_6 X.1)) rfl rfl rfl ?_
                            refine wp_iconst rfl ?_
                            refine wp_iload rfl rfl ?_
                            refine wp_isub rfl ?_
                            refine Wp.topI (y := (-12)) (by decide) ?_
                            refine wp_iret rfl rfl ?_
                            show Wp X _ 28 106 [vr 6, vi 1, vi x2, vi 1, vi x4, vi x5, vr 83, vr 83] [vi (-12)] _ _
                            exact wp_iret rfl rfl H
                          · replace H := H.2 c65
                            refine wp_iconst rfl ?_
                            refine wp_goto (tn := 23) rfl rfl ?_
                            refine wp_zret rfl rfl (by decide) ?_
                            show Wp X _ 28 98 [vr 6, vi 1, vi x2, vi 1, vi x4, vi x5, vr 83, vr 83] [vi 1] _ _
                            refine wp_ifneT (tn := 107) rfl rfl (by decide) ?_
                            refine wp_aload rfl rfl ?_
                            refine wp_aload rfl rfl ?_
                            refine wp_iload rfl rfl ?_
                            refine wp_iload rfl rfl ?_
                            refine wp_iload rfl rfl ?_
                            refine wp_call (k := 229) (ρ2 := 1) (L2 := [vr 83, vr 83, vi x2, vi x4, vi x5]) rfl rfl rfl (Nat.le_of_ble_eq_true rfl) (Nat.le_of_ble_eq_true rfl) (Nat.le_of_ble_eq_true rfl) (rcv_V rfl (congrArg Prod.fst (kf_83 X.1))) rfl ?_
                            refine wp_aload rfl rfl ?_
                            refine wp_iload rfl rfl ?_
                            refine wp_iload rfl rfl ?_
                            refine wp_call (k := 226) (ρ2 := 0) (L2 := [vr 83, vi x2, vi x5]) rfl rfl rfl (Nat.le_of_ble_eq_true rfl) (Nat.le_of_ble_eq_true rfl) (Nat.le_of_ble_eq_true rfl) (rcv_V rfl (congrArg Prod.fst (kf_83 X.1))) rfl ?_
                            refine wp_iload rfl rfl ?_
                            refine wp_ifltF (tn := 22) rfl rfl c60 ?_
                            refine wp_iload rfl rfl ?_
                            refine wp_ifltF (tn := 22) rfl rfl c61 ?_
                            refine wp_iload rfl rfl ?_
                            refine wp_aload rfl rfl ?_
                            refine wp_getI (j := 2) rfl (congrArg Prod.fst (kf_83 X.1)) rfl ?_
                            refine wp_iload rfl rfl ?_
                            refine wp_isub rfl ?_
                            refine Wp.topI (y := ((h 83 2) - x5)) (w32_I g62) ?_
                            refine wp_icgtF (tn := 22) rfl rfl c63 ?_
                            refine wp_iconst rfl ?_
                            refine wp_goto (tn := 23) rfl rfl ?_
                            refine wp_zret rfl rfl (by decide) ?_
                            show Wp X _ 229 7 [vr 83, vr 83, vi x2, vi x4, vi x5] [vi 1] _ _
                            refine wp_ifeqF (tn := 35) rfl rfl (by decide) ?_
                            refine wp_aload rfl rfl ?_
                            refine wp_iload rfl rfl ?_
                            refine wp_iload rfl rfl ?_
                            refine wp_call (k := 226) (ρ2 := 0) (L2 := [vr 83, vi x4, vi x5]) rfl rfl rfl (Nat.le_of_ble_eq_true rfl) (Nat.le_of_ble_eq_true rfl) (Nat.le_of_ble_eq_true rfl) (rcv_V rfl (congrArg Prod.fst (kf_83 X.1))) rfl ?_
                            refine wp_iload rfl rfl ?_
                            refine wp_ifltF (tn := 22) rfl rfl c64 ?_
                            refine wp_iload rfl rfl ?_
                            refine wp_ifltF (tn := 22) rfl rfl c61 ?_
                            refine wp_iload rfl rfl ?_
                            refine wp_aload rfl rfl ?_
                            refine wp_getI (j := 2) rfl (congrArg Prod.fst (kf_83 X.1)) rfl ?_
                            refine wp_iload rfl rfl ?_
                            refine wp_isub rfl ?_
                            refine Wp.topI (y := ((h 83 2) - x5)) (w32_I g62) ?_
                            refine wp_icgtF (tn := 22) rfl rfl c65 ?_
                            refine wp_iconst rfl ?_
                            refine wp_goto (tn := 23) rfl rfl ?_
                            refine wp_zret rfl rfl (by decide) ?_
                            show Wp X _ 229 17 [vr 83, vr 83, vi x2, vi x4, vi x5] [vi 1] _ _
                            refine wp_ifeqF (tn := 35) rfl rfl (by decide) ?_
                            refine wp_aload rfl rfl ?_
                            refine wp_getR (r := 83) rfl (congrArg Prod.fst (kf_83 X.1)) rfl ?_
                            refine wp_iload rfl rfl ?_
                            refine wp_aload rfl rfl ?_
                            refine wp_getR (r := 83) rfl (congrArg Prod.fst (kf_83 X.1)) rfl ?_
                            refine wp_iload rfl rfl ?_
                            refine wp_iload rfl rfl ?_
                            have g66 := H.1
                            replace H := H.2
                            refine wp_copy rfl (kf_84 X.1) (kf_84 X.1) g66 (Nat.le_of_ble_eq_true rfl) ?_
                            refine wp_vret rfl rfl ?_
                            show Wp X _ 28 119 [vr 6, vi 1, vi x2, vi 1, vi x4, vi x5, vr 83, vr 83] [] _ _
                            refine wp_iconst rfl ?_
                            exact wp_iret rfl rfl H
                · replace H := H.2 c59
                  refine wp_aload rfl rfl ?_
                  refine wp_iconst rfl ?_
                  refine wp_call (k := 38) (ρ2 := 0) (L2 := [vr 6, vi 4]) rfl rfl rfl (Nat.le_of_ble_eq_true rfl) (Nat.le_of_ble_eq_true rfl) (Nat.le_of_ble_eq_true rfl) (rcv_V rfl (congrArg Prod.fst (kf_6 X.1))) rfl ?_
                  refine wp_aload rfl rfl ?_
                  refine wp_iload rfl rfl ?_
                  refine wp_putI (j := 10) rfl (congrArg Prod.fst (kf_6 X.1)) rfl rfl rfl ?_
                  refine wp_iconst rfl ?_
                  refine wp_iload rfl rfl ?_
                  refine wp_isub rfl ?_
                  refine Wp.topI (y := (-14)) (by decide) ?_
                  refine wp_iret rfl rfl ?_
                  show Wp X _ 28 77 [vr 6, vi 1, vi x2, vi 1, vi x4, vi x5, vr 83, vr 83] [vi (-14)] _ _
                  exact wp_iret rfl rfl H
              · replace H := H.2 c58
                refine wp_iconst rfl ?_
                refine wp_goto (tn := 13) rfl rfl ?_
                refine wp_zret rfl rfl (by decide) ?_
                show Wp X _ 28 42 [vr 6, vi 1, vi x2, vi 1, vi x4, vi x5, vr 83, vr 83] [vi 1] _ _
                refine wp_ifneT (tn := 53) rfl rfl (by decide) ?_
                refine wp_aload rfl rfl ?_
                refine wp_iconst rfl ?_
                refine wp_call (k := 38) (ρ2 := 0) (L2 := [vr 6, vi 1]) rfl rfl rfl (Nat.le_of_ble_eq_true rfl) (Nat.le_of_ble_eq_true rfl) (Nat.le_of_ble_eq_true rfl) (rcv_V rfl (congrArg Prod.fst (kf_6 X.1))) rfl ?_
                refine wp_aload rfl rfl ?_
                refine wp_iload rfl rfl ?_
                refine wp_putI (j := 10) rfl (congrArg Prod.fst (kf_6 X.1)) rfl rfl rfl ?_
                refine wp_iconst rfl ?_
                refine wp_iload rfl rfl ?_
                refine wp_isub rfl ?_
                refine Wp.topI (y := (-11)) (by decide) ?_
                refine wp_iret rfl rfl ?_
                show Wp X _ 28 58 [vr 6, vi 1, vi x2, vi 1, vi x4, vi x5, vr 83, vr 83] [vi (-11)] _ _
                exact wp_iret rfl rfl H
            · replace H := H.2.2.1 rfl
              refine wp_aaload (r := 84) rfl (kf_80 X.1) (by decide) (by decide) rfl ?_
              refine wp_astore (L2 := [vr 6, vi 1, vi x2, vi 2, vi x4, vi x5, vr 83, vr 85]) rfl (Nat.le_of_ble_eq_true rfl) rfl ?_
              refine wp_aload rfl rfl ?_
              refine wp_call (k := 220) (ρ2 := 0) (L2 := [vr 83]) rfl rfl rfl (Nat.le_of_ble_eq_true rfl) (Nat.le_of_ble_eq_true rfl) (Nat.le_of_ble_eq_true rfl) (rcv_V rfl (congrArg Prod.fst (kf_83 X.1))) rfl ?_
              refine wp_aload rfl rfl ?_
              refine wp_getI (j := 1) rfl (congrArg Prod.fst (kf_83 X.1)) rfl ?_
              refine wp_iconst rfl ?_
              refine wp_icne (tn := 12) rfl rfl (fun c67 => ?_) (fun c67 => ?_)
              · replace H := H.1 c67
                refine wp_iconst rfl ?_
                refine wp_zret rfl rfl (by decide) ?_
                show Wp X _ 28 42 [vr 6, vi 1, vi x2, vi 2, vi x4, vi x5, vr 83, vr 85] [vi 0] _ _
                refine wp_ifneF (tn := 53) rfl rfl (by decide) ?_
                refine wp_aload rfl rfl ?_
                refine wp_call (k := 220) (ρ2 := 0) (L2 := [vr 85]) rfl rfl rfl (Nat.le_of_ble_eq_true rfl) (Nat.le_of_ble_eq_true rfl) (Nat.le_of_ble_eq_true rfl) (rcv_V rfl (congrArg Prod.fst (kf_85 X.1))) rfl ?_
                refine wp_aload rfl rfl ?_
                refine wp_getI (j := 1) rfl (congrArg Prod.fst (kf_85 X.1)) rfl ?_
                refine wp_iconst rfl ?_
                refine wp_icne (tn := 12) rfl rfl (fun c68 => ?_) (fun c68 => ?_)
                · replace H := H.1 c68
                  refine wp_iconst rfl ?_
                  refine wp_zret rfl rfl (by decide) ?_
                  show Wp X _ 28 50 [vr 6, vi 1, vi x2, vi 2, vi x4, vi x5, vr 83, vr 85] [vi 0] _ _
                  refine wp_ifeqT (tn := 59) rfl rfl (by decide) ?_
                  refine wp_aload rfl rfl ?_
                  refine wp_call (k := 221) (ρ2 := 0) (L2 := [vr 83]) rfl rfl rfl (Nat.le_of_ble_eq_true rfl) (Nat.le_of_ble_eq_true rfl) (Nat.le_of_ble_eq_true rfl) (rcv_V rfl (congrArg Prod.fst (kf_83 X.1))) rfl ?_
                  refine wp_aload rfl rfl ?_
                  refine wp_getI (j := 1) rfl (congrArg Prod.fst (kf_83 X.1)) rfl ?_
                  refine wp_iret rfl rfl ?_
                  show Wp X _ 28 64 [vr 6, vi 1, vi x2, vi 2, vi x4, vi x5, vr 83, vr 85] [vi (h 83 1)] _ _
                  refine wp_aload rfl rfl ?_
                  refine wp_call (k := 221) (ρ2 := 0) (L2 := [vr 85]) rfl rfl rfl (Nat.le_of_ble_eq_true rfl) (Nat.le_of_ble_eq_true rfl) (Nat.le_of_ble_eq_true rfl) (rcv_V rfl (congrArg Prod.fst (kf_85 X.1))) rfl ?_
                  refine wp_aload rfl rfl ?_
                  refine wp_getI (j := 1) rfl (congrArg Prod.fst (kf_85 X.1)) rfl ?_
                  refine wp_iret rfl rfl ?_
                  show Wp X _ 28 69 [vr 6, vi 1, vi x2, vi 2, vi x4, vi x5, vr 83, vr 85] [vi (h 85 1), vi (h 83 1)] _ _
                  refine wp_iceq (tn := 78) rfl rfl (fun c69 => ?_) (fun c69 => ?_)
                  · replace H := H.1 c69
                    refine wp_aload rfl rfl ?_
                    refine wp_iload rfl rfl ?_
                    refine wp_iload rfl rfl ?_
                    refine wp_call (k := 226) (ρ2 := 0) (L2 := [vr 83, vi x2, vi x5]) rfl rfl rfl (Nat.le_of_ble_eq_true rfl) (Nat.le_of_ble_eq_true rfl) (Nat.le_of_ble_eq_true rfl) (rcv_V rfl (congrArg Prod.fst (kf_83 X.1))) rfl ?_
                    refine wp_iload rfl rfl ?_
                    refine wp_iflt (tn := 22) rfl rfl (fun c70 => ?_) (fun c70 => ?_)
                    · replace H := H.1 c70
                      refine wp_iconst rfl ?_
                      refine wp_zret rfl rfl (by decide) ?_
                      show Wp X _ 28 86 [vr 6, vi 1, vi x2, vi 2, vi x4, vi x5, vr 83, vr 85] [vi 0] _ _
                      refine wp_ifeqT (tn := 101) rfl rfl (by decide) ?_
                      refine wp_aload rfl rfl ?_
                      refine wp_iconst rfl ?_
                      refine wp_call (k := 38) (ρ2 := 0) (L2 := [vr 6, vi 2]) rfl rfl rfl (Nat.le_of_ble_eq_true rfl) (Nat.le_of_ble_eq_true rfl) (Nat.le_of_ble_eq_true rfl) (rcv_V rfl (congrArg Prod.fst (kf_6 X.1))) rfl ?_
                      refine wp_aload rfl rfl ?_
                      refine wp_iload rfl rfl ?_
                      refine wp_putI (j := 10) rfl (congrArg Prod.fst (kf_6 X.1)) rfl rfl rfl ?_
                      refine wp_iconst rfl ?_
                      refine wp_iload rfl rfl ?_
                      refine wp_isub rfl ?_
                      refine Wp.topI (y := (-12)) (by decide) ?_
                      refine wp_iret rfl rfl ?_
                      show Wp X _ 28 106 [vr 6, vi 1, vi x2, vi 2, vi x4, vi x5, vr 83, vr 85] [vi (-12)] _ _
                      exact wp_iret rfl rfl H
                    · replace H := H.2 c70
                      refine wp_iload rfl rfl ?_
                      refine wp_iflt (tn := 22) rfl rfl (fun c71 => ?_) (fun c71 => ?_)
                      · replace H := H.1 c71
                        refine wp_iconst rfl ?_
                        refine wp_zret rfl rfl (by decide) ?_
                        show Wp X _ 28 86 [vr 6, vi 1, vi x2, vi 2, vi x4, vi x5, vr 83, vr 85] [vi 0] _ _
                        refine wp_ifeqT (tn := 101) rfl rfl (by decide) ?_
                        refine wp_aload rfl rfl ?_
                        refine wp_iconst rfl ?_
                        refine wp_call (k := 38) (ρ2 := 0) (L2 := [vr 6, vi 2]) rfl rfl rfl (Nat.le_of_ble_eq_true rfl) (Nat.le_of_ble_eq_true rfl) (Nat.le_of_ble_eq_true rfl) (rcv_V rfl (congrArg Prod.fst (kf_6 X.1))) rfl ?_
                        refine wp_aload rfl rfl ?_
                        refine wp_iload rfl rfl ?_
                        refine wp_putI (j := 10) rfl (congrArg Prod.fst (kf_6 X.1)) rfl rfl rfl ?_
                        refine wp_iconst rfl ?_
                        refine wp_iload rfl rfl ?_
                        refine wp_isub rfl ?_
                        refine Wp.topI (y := (-12)) (by decide) ?_
                        refine wp_iret rfl rfl ?_
                        show Wp X _ 28 106 [vr 6, vi 1, vi x2, vi 2, vi x4, vi x5, vr 83, vr 85] [vi (-12)] _ _
                        exact wp_iret rfl rfl H
                      · replace H := H.2 c71
                        refine wp_iload rfl rfl ?_
                        refine wp_aload rfl rfl ?_
                        refine wp_getI (j := 2) rfl (congrArg Prod.fst (kf_83 X.1)) rfl ?_
                        refine wp_iload rfl rfl ?_
                        refine wp_isub rfl ?_
                        have g72 := H.1
                        replace H := H.2
                        refine Wp.topI (y := ((h 83 2) - x5)) (w32_I g72) ?_
                        refine wp_icgt (tn := 22) rfl rfl (fun c73 => ?_) (fun c73 => ?_)
                        · replace H := H.1 c73
                          refine wp_iconst rfl ?_
                          refine wp_zret rfl rfl (by decide) ?_
                          show Wp X _ 28 86 [vr 6, vi 1, vi x2, vi 2, vi x4, vi x5, vr 83, vr 85] [vi 0] _ _
                          refine wp_ifeqT (tn := 101) rfl rfl (by decide) ?_
                          refine wp_aload rfl rfl ?_
                          refine wp_iconst rfl ?_
                          refine wp_call (k := 38) (ρ2 := 0) (L2 := [vr 6, vi 2]) rfl rfl rfl (Nat.le_of_ble_eq_true rfl) (Nat.le_of_ble_eq_true rfl) (Nat.le_of_ble_eq_true rfl) (rcv_V rfl (congrArg Prod.fst (kf_6 X.1))) rfl ?_
                          refine wp_aload rfl rfl ?_
                          refine wp_iload rfl rfl ?_
                          refine wp_putI (j := 10) rfl (congrArg Prod.fst (kf_6 X.1)) rfl rfl rfl ?_
                          refine wp_iconst rfl ?_
                          refine wp_iload rfl rfl ?_
                          refine wp_isub rfl ?_
                          refine Wp.topI (y := (-12)) (by decide) ?_
                          refine wp_iret rfl rfl ?_
                          show Wp X _ 28 106 [vr 6, vi 1, vi x2, vi 2, vi x4, vi x5, vr 83, vr 85] [vi (-12)] _ _
                          exact wp_iret rfl rfl H
                        · replace H := H.2 c73
                          refine wp_iconst rfl ?_
                          refine wp_goto (tn := 23) rfl rfl ?_
                          refine wp_zret rfl rfl (by decide) ?_
                          show Wp X _ 28 86 [vr 6, vi 1, vi x2, vi 2, vi x4, vi x5, vr 83, vr 85] [vi 1] _ _
                          refine wp_ifeqF (tn := 101) rfl rfl (by decide) ?_
                          refine wp_aload rfl rfl ?_
                          refine wp_iload rfl rfl ?_
                          refine wp_iload rfl rfl ?_
                          refine wp_call (k := 226) (ρ2 := 0) (L2 := [vr 85, vi x4, vi x5]) rfl rfl rfl (Nat.le_of_ble_eq_true rfl) (Nat.le_of_ble_eq_true rfl) (Nat.le_of_ble_eq_true rfl) (rcv_V rfl (congrArg Prod.fst (kf_85 X.1))) rfl ?_
                          refine wp_iload rfl rfl ?_
                          refine wp_iflt (tn := 22) rfl rfl (fun c74 => ?_) (fun c74 => ?_)
                          · replace H := H.1 c74
                            refine wp_iconst rfl ?_
                            refine wp_zret rfl rfl (by decide) ?_
                            show Wp X _ 28 98 [vr 6, vi 1, vi x2, vi 2, vi x4, vi x5, vr 83, vr 85] [vi 0] _ _
                            refine wp_ifneF (tn := 107) rfl rfl (by decide) ?_
                            refine wp_aload rfl rfl ?_
                            refine wp_iconst rfl ?_
                            refine wp_call (k := 38) (ρ2 := 0) (L2 := [vr 6, vi 2]) rfl rfl rfl (Nat.le_of_ble_eq_true rfl) (Nat.le_of_ble_eq_true rfl) (Nat.le_of_ble_eq_true rfl) (rcv_V rfl (congrArg Prod.fst (kf_6 X.1))) rfl ?_
                            refine wp_aload rfl rfl ?_
                            refine wp_iload rfl rfl ?_
                            refine wp_putI (j := 10) rfl (congrArg Prod.fst (kf_6 X.1)) rfl rfl rfl ?_
                            refine wp_iconst rfl ?_
                            refine wp_iload rfl rfl ?_
                            refine wp_isub rfl ?_
                            refine Wp.topI (y := (-12)) (by decide) ?_
                            refine wp_iret rfl rfl ?_
                            show Wp X _ 28 106 [vr 6, vi 1, vi x2, vi 2, vi x4, vi x5, vr 83, vr 85] [vi (-12)] _ _
                            exact wp_iret rfl rfl H
                          · replace H := H.2 c74
                            refine wp_iload rfl rfl ?_
                            refine wp_ifltF (tn := 22) rfl rfl c71 ?_
                            refine wp_iload rfl rfl ?_
                            refine wp_aload rfl rfl ?_
                            refine wp_getI (j := 2) rfl (congrArg Prod.fst (kf_85 X.1)) rfl ?_
                            refine wp_iload rfl rfl ?_
                            refine wp_isub rfl ?_
                            have g75 := H.1
                            replace H := H.2
                            refine Wp.topI (y := ((h 85 2) - x5)) (w32_I g75) ?_
                            refine wp_icgt (tn := 22) rfl rfl (fun c76 => ?_) (fun c76 => ?_)
                            · replace H := H.1 c76
                              refine wp_iconst rfl ?_
                              refine wp_zret rfl rfl (by decide) ?_
                              show Wp X _ 28 98 [vr 6, vi 1, vi x2, vi 2, vi x4, vi x5, vr 83, vr 85] [vi 0] _ _
                              refine wp_ifneF (tn := 107) rfl rfl (by decide) ?_
                              refine wp_aload rfl rfl ?_
                              refine wp_iconst rfl ?_
                              refine wp_call (k := 38) (ρ2 := 0) (L2 := [vr 6, vi 2]) rfl rfl rfl (Nat.le_of_ble_eq_true rfl) (Nat.le_of_ble_eq_true rfl) (Nat.le_of_ble_eq_true rfl) (rcv_V rfl (congrArg Prod.fst (kf_6 X.1))) rfl ?_
                              refine wp_aload rfl rfl ?_
                              refine wp_iload rfl rfl ?_
                              refine wp_putI (j := 10) rfl (congrArg Prod.fst (kf_6 X.1)) rfl rfl rfl ?_
                              refine wp_iconst rfl ?_
                              refine wp_iload rfl rfl ?_
                              refine wp_isub rfl ?_
                              refine Wp.topI (y := (-12)) (by decide) ?_
                              refine wp_iret rfl rfl ?_
                              show Wp X _ 28 106 [vr 6, vi 1, vi x2, vi 2, vi x4, vi x5, vr 83, vr 85] [vi (-12)] _ _
                              exact wp_iret rfl rfl H
                            · replace H := H.2 c76
                              refine wp_iconst rfl ?_
                              refine wp_goto (tn := 23) rfl rfl ?_
                              refine wp_zret rfl rfl (by decide) ?_
                              show Wp X _ 28 98 [vr 6, vi 1, vi x2, vi 2, vi x4, vi x5, vr 83, vr 85] [vi 1] _ _
                              refine wp_ifneT (tn := 107) rfl rfl (by decide) ?_
                              refine wp_aload rfl rfl ?_
                              refine wp_aload rfl rfl ?_
                              refine wp_iload rfl rfl ?_
                              refine wp_iload rfl rfl ?_
                              refine wp_iload rfl rfl ?_
                              refine wp_call (k := 229) (ρ2 := 1) (L2 := [vr 85, vr 83, vi x2, vi x4, vi x5]) rfl rfl rfl (Nat.le_of_ble_eq_true rfl) (Nat.le_of_ble_eq_true rfl) (Nat.le_of_ble_eq_true rfl) (rcv_V rfl (congrArg Prod.fst (kf_85 X.1))) rfl ?_
                              refine wp_aload rfl rfl ?_
                              refine wp_iload rfl rfl ?_
                              refine wp_iload rfl rfl ?_
                              refine wp_call (k := 226) (ρ2 := 0) (L2 := [vr 83, vi x2, vi x5]) rfl rfl rfl (Nat.le_of_ble_eq_true rfl) (Nat.le_of_ble_eq_true rfl) (Nat.le_of_ble_eq_true rfl) (rcv_V rfl (congrArg Prod.fst (kf_83 X.1))) rfl ?_
                              refine wp_iload rfl rfl ?_
                              refine wp_ifltF (tn := 22) rfl rfl c70 ?_
                              refine wp_iload rfl rfl ?_
                              refine wp_ifltF (tn := 22) rfl rfl c71 ?_
                              refine wp_iload rfl rfl ?_
                              refine wp_aload rfl rfl ?_
                              refine wp_getI (j := 2) rfl (congrArg Prod.fst (kf_83 X.1)) rfl ?_
                              refine wp_iload rfl rfl ?_
                              refine wp_isub rfl ?_
                              refine Wp.topI (y := ((h 83 2) - x5)) (w32_I g72) ?_
                              refine wp_icgtF (tn := 22) rfl rfl c73 ?_
                              refine wp_iconst rfl ?_
                              refine wp_goto (tn := 23) rfl rfl ?_
                              refine wp_zret rfl rfl (by decide) ?_
                              show Wp X _ 229 7 [vr 85, vr 83, vi x2, vi x4, vi x5] [vi 1] _ _
                              refine wp_ifeqF (tn := 35) rfl rfl (by decide) ?_
                              refine wp_aload rfl rfl ?_
                              refine wp_iload rfl rfl ?_
                              refine wp_iload rfl rfl ?_
                              refine wp_call (k := 226) (ρ2 := 0) (L2 := [vr 85, vi x4, vi x5]) rfl rfl rfl (Nat.le_of_ble_eq_true rfl) (Nat.le_of_ble_eq_true rfl) (Nat.le_of_ble_eq_true rfl) (rcv_V rfl (congrArg Prod.fst (kf_85 X.1))) rfl ?_
                              refine wp_iload rfl rfl ?_
                              refine wp_ifltF (tn := 22) rfl rfl c74 ?_
                              refine wp_iload rfl rfl ?_
                              refine wp_ifltF (tn := 22) rfl rfl c71 ?_
                              refine wp_iload rfl rfl ?_
                              refine wp_aload rfl rfl ?_
                              refine wp_getI (j := 2) rfl (congrArg Prod.fst (kf_85 X.1)) rfl ?_
                              refine wp_iload rfl rfl ?_
                              refine wp_isub rfl ?_
                              refine Wp.topI (y := ((h 85 2) - x5)) (w32_I g75) ?_
                              refine wp_icgtF (tn := 22) rfl rfl c76 ?_
                              refine wp_iconst rfl ?_
                              refine wp_goto (tn := 23) rfl rfl ?_
                              refine wp_zret rfl rfl (by decide) ?_
                              show Wp X _ 229 17 [vr 85, vr 83, vi x2, vi x4, vi x5] [vi 1] _ _
                              refine wp_ifeqF (tn := 35) rfl rfl (by decide) ?_
                              refine wp_aload rfl rfl ?_
                              refine wp_getR (r := 83) rfl (congrArg Prod.fst (kf_83 X.1)) rfl ?_
                              refine wp_iload rfl rfl ?_
                              refine wp_aload rfl rfl ?_
                              refine wp_getR (r := 85) rfl (congrArg Prod.fst (kf_85 X.1)) rfl ?_
                              refine wp_iload rfl rfl ?_
                              refine wp_iload rfl rfl ?_
                              have g77 := H.1
                              replace H := H.2
                              refine wp_copy rfl (kf_84 X.1) (kf_86 X.1) g77 (Nat.le_of_ble_eq_true rfl) ?_
                              refine wp_vret rfl rfl ?_
                              show Wp X _ 28 119 [vr 6, vi 1, vi x2, vi 2, vi x4, vi x5, vr 83, vr 85] [] _ _
                              refine wp_iconst rfl ?_
                              exact wp_iret rfl rfl H
                  · replace H := H.2 c69
                    refine wp_aload rfl rfl ?_
                    refine wp_iconst rfl ?_
                    refine wp_call (k := 38) (ρ2 := 0) (L2 := [vr 6, vi 4]) rfl rfl rfl (Nat.le_of_ble_eq_true rfl) (Nat.le_of_ble_eq_true rfl) (Nat.le_of_ble_eq_true rfl) (rcv_V rfl (congrArg Prod.fst (kf_6 X.1))) rfl ?_
                    refine wp_aload rfl rfl ?_
                    refine wp_iload rfl rfl ?_
                    refine wp_putI (j := 10) rfl (congrArg Prod.fst (kf_6 X.1)) rfl rfl rfl ?_
                    refine wp_iconst rfl ?_
                    refine wp_iload rfl rfl ?_
                    refine wp_isub rfl ?_
                    refine Wp.topI (y := (-14)) (by decide) ?_
                    refine wp_iret rfl rfl ?_
                    show Wp X _ 28 77 [vr 6, vi 1, vi x2, vi 2, vi x4, vi x5, vr 83, vr 85] [vi (-14)] _ _
                    exact wp_iret rfl rfl H
                · replace H := H.2 c68
                  refine wp_iconst rfl ?_
                  refine wp_goto (tn := 13) rfl rfl ?_
                  refine wp_zret rfl rfl (by decide) ?_
                  show Wp X _ 28 50 [vr 6, vi 1, vi x2, vi 2, vi x4, vi x5, vr 83, vr 85] [vi 1] _ _
                  refine wp_ifeqF (tn := 59) rfl rfl (by decide) ?_
                  refine wp_aload rfl rfl ?_
                  refine wp_iconst rfl ?_
                  refine wp_call (k := 38) (ρ2 := 0) (L2 := [vr 6, vi 1]) rfl rfl rfl (Nat.le_of_ble_eq_true rfl) (Nat.le_of_ble_eq_true rfl) (Nat.le_of_ble_eq_true rfl) (rcv_V rfl (congrArg Prod.fst (kf_6 X.1))) rfl ?_
                  refine wp_aload rfl rfl ?_
                  refine wp_iload rfl rfl ?_
                  refine wp_putI (j := 10) rfl (congrArg Prod.fst (kf_6 X.1)) rfl rfl rfl ?_
                  refine wp_iconst rfl ?_
                  refine wp_iload rfl rfl ?_
                  refine wp_isub rfl ?_
                  refine Wp.topI (y := (-11)) (by decide) ?_
                  refine wp_iret rfl rfl ?_
                  show Wp X _ 28 58 [vr 6, vi 1, vi x2, vi 2, vi x4, vi x5, vr 83, vr 85] [vi (-11)] _ _
                  exact wp_iret rfl rfl H
              · replace H := H.2 c67
                refine wp_iconst rfl ?_
                refine wp_goto (tn := 13) rfl rfl ?_
                refine wp_zret rfl rfl (by decide) ?_
                show Wp X _ 28 42 [vr 6, vi 1, vi x2, vi 2, vi x4, vi x5, vr 83, vr 85] [vi 1] _ _
                refine wp_ifneT (tn := 53) rfl rfl (by decide) ?_
                refine wp_aload rfl rfl ?_
                refine wp_iconst rfl ?_
                refine wp_call (k := 38) (ρ2 := 0) (L2 := [vr 6, vi 1]) rfl rfl rfl (Nat.le_of_ble_eq_true rfl) (Nat.le_of_ble_eq_true rfl) (Nat.le_of_ble_eq_true rfl) (rcv_V rfl (congrArg Prod.fst (kf_6 X.1))) rfl ?_
                refine wp_aload rfl rfl ?_
                refine wp_iload rfl rfl ?_
                refine wp_putI (j := 10) rfl (congrArg Prod.fst (kf_6 X.1)) rfl rfl rfl ?_
                refine wp_iconst rfl ?_
                refine wp_iload rfl rfl ?_
                refine wp_isub rfl ?_
                refine Wp.topI (y := (-11)) (by decide) ?_
                refine wp_iret rfl rfl ?_
                show Wp X _ 28 58 [vr 6, vi 1, vi x2, vi 2, vi x4, vi x5, vr 83, vr 85] [vi (-11)] _ _
                exact wp_iret rfl rfl H
            · replace H := H.2.2.2 rfl
              refine wp_aaload (r := 86) rfl (kf_80 X.1) (by decide) (by decide) rfl ?_
              refine wp_astore (L2 := [vr 6, vi 1, vi x2, vi 3, vi x4, vi x5, vr 83, vr 87]) rfl (Nat.le_of_ble_eq_true rfl) rfl ?_
              refine wp_aload rfl rfl ?_
              refine wp_call (k := 220) (ρ2 := 0) (L2 := [vr 83]) rfl rfl rfl (Nat.le_of_ble_eq_true rfl) (Nat.le_of_ble_eq_true rfl) (Nat.le_of_ble_eq_true rfl) (rcv_V rfl (congrArg Prod.fst (kf_83 X.1))) rfl ?_
              refine wp_aload rfl rfl ?_
              refine wp_getI (j := 1) rfl (congrArg Prod.fst (kf_83 X.1)) rfl ?_
              refine wp_iconst rfl ?_
              refine wp_icne (tn := 12) rfl rfl (fun c78 => ?_) (fun c78 => ?_)
              · replace H := H.1 c78
                refine wp_iconst rfl ?_
                refine wp_zret rfl rfl (by decide) ?_
                show Wp X _ 28 42 [vr 6, vi 1, vi x2, vi 3, vi x4, vi x5, vr 83, vr 87] [vi 0] _ _
                refine wp_ifneF (tn := 53) rfl rfl (by decide) ?_
                refine wp_aload rfl rfl ?_
                refine wp_call (k := 220) (ρ2 := 0) (L2 := [vr 87]) rfl rfl rfl (Nat.le_of_ble_eq_true rfl) (Nat.le_of_ble_eq_true rfl) (Nat.le_of_ble_eq_true rfl) (rcv_V rfl (congrArg Prod.fst (kf_87 X.1))) rfl ?_
                refine wp_aload rfl rfl ?_
                refine wp_getI (j := 1) rfl (congrArg Prod.fst (kf_87 X.1)) rfl ?_
                refine wp_iconst rfl ?_
                refine wp_icne (tn := 12) rfl rfl (fun c79 => ?_) (fun c79 => ?_)
                · replace H := H.1 c79
                  refine wp_iconst rfl ?_
                  refine wp_zret rfl rfl (by decide) ?_
                  show Wp X _ 28 50 [vr 6, vi 1, vi x2, vi 3, vi x4, vi x5, vr 83, vr 87] [vi 0] _ _
                  refine wp_ifeqT (tn := 59) rfl rfl (by decide) ?_
                  refine wp_aload rfl rfl ?_
                  refine wp_call (k := 221) (ρ2 := 0) (L2 := [vr 83]) rfl rfl rfl (Nat.le_of_ble_eq_true rfl) (Nat.le_of_ble_eq_true rfl) (Nat.le_of_ble_eq_true rfl) (rcv_V rfl (congrArg Prod.fst (kf_83 X.1))) rfl ?_
                  refine wp_aload rfl rfl ?_
                  refine wp_getI (j := 1) rfl (congrArg Prod.fst (kf_83 X.1)) rfl ?_
                  refine wp_iret rfl rfl ?_
                  show Wp X _ 28 64 [vr 6, vi 1, vi x2, vi 3, vi x4, vi x5, vr 83, vr 87] [vi (h 83 1)] _ _
                  refine wp_aload rfl rfl ?_
                  refine wp_call (k := 221) (ρ2 := 0) (L2 := [vr 87]) rfl rfl rfl (Nat.le_of_ble_eq_true rfl) (Nat.le_of_ble_eq_true rfl) (Nat.le_of_ble_eq_true rfl) (rcv_V rfl (congrArg Prod.fst (kf_87 X.1))) rfl ?_
                  refine wp_aload rfl rfl ?_
                  refine wp_getI (j := 1) rfl (congrArg Prod.fst (kf_87 X.1)) rfl ?_
                  refine wp_iret rfl rfl ?_
                  show Wp X _ 28 69 [vr 6, vi 1, vi x2, vi 3, vi x4, vi x5, vr 83, vr 87] [vi (h 87 1), vi (h 83 1)] _ _
                  refine wp_iceq (tn := 78) rfl rfl (fun c80 => ?_) (fun c80 => ?_)
                  · replace H := H.1 c80
                    refine wp_aload rfl rfl ?_
                    refine wp_iload rfl rfl ?_
                    refine wp_iload rfl rfl ?_
                    refine wp_call (k := 226) (ρ2 := 0) (L2 := [vr 83, vi x2, vi x5]) rfl rfl rfl (Nat.le_of_ble_eq_true rfl) (Nat.le_of_ble_eq_true rfl) (Nat.le_of_ble_eq_true rfl) (rcv_V rfl (congrArg Prod.fst (kf_83 X.1))) rfl ?_
                    refine wp_iload rfl rfl ?_
                    refine wp_iflt (tn := 22) rfl rfl (fun c81 => ?_) (fun c81 => ?_)
                    · replace H := H.1 c81
                      refine wp_iconst rfl ?_
                      refine wp_zret rfl rfl (by decide) ?_
                      show Wp X _ 28 86 [vr 6, vi 1, vi x2, vi 3, vi x4, vi x5, vr 83, vr 87] [vi 0] _ _
                      refine wp_ifeqT (tn := 101) rfl rfl (by decide) ?_
                      refine wp_aload rfl rfl ?_
                      refine wp_iconst rfl ?_
                      refine wp_call (k := 38) (ρ2 := 0) (L2 := [vr 6, vi 2]) rfl rfl rfl (Nat.le_of_ble_eq_true rfl) (Nat.le_of_ble_eq_true rfl) (Nat.le_of_ble_eq_true rfl) (rcv_V rfl (congrArg Prod.fst (kf_6 X.1))) rfl ?_
                      refine wp_aload rfl rfl ?_
                      refine wp_iload rfl rfl ?_
                      refine wp_putI (j := 10) rfl (congrArg Prod.fst (kf_6 X.1)) rfl rfl rfl ?_
                      refine wp_iconst rfl ?_
                      refine wp_iload rfl rfl ?_
                      refine wp_isub rfl ?_
                      refine Wp.topI (y := (-12)) (by decide) ?_
                      refine wp_iret rfl rfl ?_
                      show Wp X _ 28 106 [vr 6, vi 1, vi x2, vi 3, vi x4, vi x5, vr 83, vr 87] [vi (-12)] _ _
                      exact wp_iret rfl rfl H
                    · replace H := H.2 c81
                      refine wp_iload rfl rfl ?_
                      refine wp_iflt (tn := 22) rfl rfl (fun c82 => ?_) (fun c82 => ?_)
                      · replace H := H.1 c82
                        refine wp_iconst rfl ?_
                        refine wp_zret rfl rfl (by decide) ?_
                        show Wp X _ 28 86 [vr 6, vi 1, vi x2, vi 3, vi x4, vi x5, vr 83, vr 87] [vi 0] _ _
                        refine wp_ifeqT (tn := 101) rfl rfl (by decide) ?_
                        refine wp_aload rfl rfl ?_
                        refine wp_iconst rfl ?_
                        refine wp_call (k := 38) (ρ2 := 0) (L2 := [vr 6, vi 2]) rfl rfl rfl (Nat.le_of_ble_eq_true rfl) (Nat.le_of_ble_eq_true rfl) (Nat.le_of_ble_eq_true rfl) (rcv_V rfl (congrArg Prod.fst (kf_6 X.1))) rfl ?_
                        refine wp_aload rfl rfl ?_
                        refine wp_iload rfl rfl ?_
                        refine wp_putI (j := 10) rfl (congrArg Prod.fst (kf_6 X.1)) rfl rfl rfl ?_
                        refine wp_iconst rfl ?_
                        refine wp_iload rfl rfl ?_
                        refine wp_isub rfl ?_
                        refine Wp.topI (y := (-12)) (by decide) ?_
                        refine wp_iret rfl rfl ?_
                        show Wp X _ 28 106 [vr 6, vi 1, vi x2, vi 3, vi x4, vi x5, vr 83, vr 87] [vi (-12)] _ _
                        exact wp_iret rfl rfl H
                      · replace H := H.2 c82
                        refine wp_iload rfl rfl ?_
                        refine wp_aload rfl rfl ?_
                        refine wp_getI (j := 2) rfl (congrArg Prod.fst (kf_83 X.1)) rfl ?_
                        refine wp_iload rfl rfl ?_
                        refine wp_isub rfl ?_
                        have g83 := H.1
                        replace H := H.2
                        refine Wp.topI (y := ((h 83 2) - x5)) (w32_I g83) ?_
                        refine wp_icgt (tn := 22) rfl rfl (fun c84 => ?_) (fun c84 => ?_)
                        · replace H := H.1 c84
                          refine wp_iconst rfl ?_
                          refine wp_zret rfl rfl (by decide) ?_
                          show Wp X _ 28 86 [vr 6, vi 1, vi x2, vi 3, vi x4, vi x5, vr 83, vr 87] [vi 0] _ _
                          refine wp_ifeqT (tn := 101) rfl rfl (by decide) ?_
                          refine wp_aload rfl rfl ?_
                          refine wp_iconst rfl ?_
                          refine wp_call (k := 38) (ρ2 := 0) (L2 := [vr 6, vi 2]) rfl rfl rfl (Nat.le_of_ble_eq_true rfl) (Nat.le_of_ble_eq_true rfl) (Nat.le_of_ble_eq_true rfl) (rcv_V rfl (congrArg Prod.fst (kf_6 X.1))) rfl ?_
                          refine wp_aload rfl rfl ?_
                          refine wp_iload rfl rfl ?_
                          refine wp_putI (j := 10) rfl (congrArg Prod.fst (kf_6 X.1)) rfl rfl rfl ?_
                          refine wp_iconst rfl ?_
                          refine wp_iload rfl rfl ?_
                          refine wp_isub rfl ?_
                          refine Wp.topI (y := (-12)) (by decide) ?_
                          refine wp_iret rfl rfl ?_
                          show Wp X _ 28 106 [vr 6, vi 1, vi x2, vi 3, vi x4, vi x5, vr 83, vr 87] [vi (-12)] _ _
                          exact wp_iret rfl rfl H
                        · replace H := H.2 c84
                          refine wp_iconst rfl ?_
                          refine wp_goto (tn := 23) rfl rfl ?_
                          refine wp_zret rfl rfl (by decide) ?_
                          show Wp X _ 28 86 [vr 6, vi 1, vi x2, vi 3, vi x4, vi x5, vr 83, vr 87] [vi 1] _ _
                          refine wp_ifeqF (tn := 101) rfl rfl (by decide) ?_
                          refine wp_aload rfl rfl ?_
                          refine wp_iload rfl rfl ?_
                          refine wp_iload rfl rfl ?_
                          refine wp_call (k := 226) (ρ2 := 0) (L2 := [vr 87, vi x4, vi x5]) rfl rfl rfl (Nat.le_of_ble_eq_true rfl) (Nat.le_of_ble_eq_true rfl) (Nat.le_of_ble_eq_true rfl) (rcv_V rfl (congrArg Prod.fst (kf_87 X.1))) rfl ?_
                          refine wp_iload rfl rfl ?_
                          refine wp_iflt (tn := 22) rfl rfl (fun c85 => ?_) (fun c85 => ?_)
                          · replace H := H.1 c85
                            refine wp_iconst rfl ?_
                            refine wp_zret rfl rfl (by decide) ?_
                            show Wp X _ 28 98 [vr 6, vi 1, vi x2, vi 3, vi x4, vi x5, vr 83, vr 87] [vi 0] _ _
                            refine wp_ifneF (tn := 107) rfl rfl (by decide) ?_
                            refine wp_aload rfl rfl ?_
                            refine wp_iconst rfl ?_
                            refine wp_call (k := 38) (ρ2 := 0) (L2 := [vr 6, vi 2]) rfl rfl rfl (Nat.le_of_ble_eq_true rfl) (Nat.le_of_ble_eq_true rfl) (Nat.le_of_ble_eq_true rfl) (rcv_V rfl (congrArg Prod.fst (kf_6 X.1))) rfl ?_
                            refine wp_aload rfl rfl ?_
                            refine wp_iload rfl rfl ?_
                            refine wp_putI (j := 10) rfl (congrArg Prod.fst (kf_6 X.1)) rfl rfl rfl ?_
                            refine wp_iconst rfl ?_
                            refine wp_iload rfl rfl ?_
                            refine wp_isub rfl ?_
                            refine Wp.topI (y := (-12)) (by decide) ?_
                            refine wp_iret rfl rfl ?_
                            show Wp X _ 28 106 [vr 6, vi 1, vi x2, vi 3, vi x4, vi x5, vr 83, vr 87] [vi (-12)] _ _
                            exact wp_iret rfl rfl H
                          · replace H := H.2 c85
                            refine wp_iload rfl rfl ?_
                            refine wp_ifltF (tn := 22) rfl rfl c82 ?_
                            refine wp_iload rfl rfl ?_
                            refine wp_aload rfl rfl ?_
                            refine wp_getI (j := 2) rfl (congrArg Prod.fst (kf_87 X.1)) rfl ?_
                            refine wp_iload rfl rfl ?_
                            refine wp_isub rfl ?_
                            have g86 := H.1
                            replace H := H.2
                            refine Wp.topI (y := ((h 87 2) - x5)) (w32_I g86) ?_
                            refine wp_icgt (tn := 22) rfl rfl (fun c87 => ?_) (fun c87 => ?_)
                            · replace H := H.1 c87
                              refine wp_iconst rfl ?_
                              refine wp_zret rfl rfl (by decide) ?_
                              show Wp X _ 28 98 [vr 6, vi 1, vi x2, vi 3, vi x4, vi x5, vr 83, vr 87] [vi 0] _ _
                              refine wp_ifneF (tn := 107) rfl rfl (by decide) ?_
                              refine wp_aload rfl rfl ?_
                              refine wp_iconst rfl ?_
                              refine wp_call (k := 38) (ρ2 := 0) (L2 := [vr 6, vi 2]) rfl rfl rfl (Nat.le_of_ble_eq_true rfl) (Nat.le_of_ble_eq_true rfl) (Nat.le_of_ble_eq_true rfl) (rcv_V rfl (congrArg Prod.fst (kf_6 X.1))) rfl ?_
                              refine wp_aload rfl rfl ?_
                              refine wp_iload rfl rfl ?_
                              refine wp_putI (j := 10) rfl (congrArg Prod.fst (kf_6 X.1)) rfl rfl rfl ?_
                              refine wp_iconst rfl ?_
                              refine wp_iload rfl rfl ?_
                              refine wp_isub rfl ?_
                              refine Wp.topI (y := (-12)) (by decide) ?_
                              refine wp_iret rfl rfl ?_
                              show Wp X _ 28 106 [vr 6, vi 1, vi x2, vi 3, vi x4, vi x5, vr 83, vr 87] [vi (-12)] _ _
                              exact wp_iret rfl rfl H
                            · replace H := H.2 c87
                              refine wp_iconst rfl ?_
                              refine wp_goto (tn := 23) rfl rfl ?_
                              refine wp_zret rfl rfl (by decide) ?_
                              show Wp X _ 28 98 [vr 6, vi 1, vi x2, vi 3, vi x4, vi x5, vr 83, vr 87] [vi 1] _ _
                              refine wp_ifneT (tn := 107) rfl rfl (by decide) ?_
                              refine wp_aload rfl rfl ?_
                              refine wp_aload rfl rfl ?_
                              refine wp_iload rfl rfl ?_
                              refine wp_iload rfl rfl ?_
                              refine wp_iload rfl rfl ?_
                              refine wp_call (k := 229) (ρ2 := 1) (L2 := [vr 87, vr 83, vi x2, vi x4, vi x5]) rfl rfl rfl (Nat.le_of_ble_eq_true rfl) (Nat.le_of_ble_eq_true rfl) (Nat.le_of_ble_eq_true rfl) (rcv_V rfl (congrArg Prod.fst (kf_87 X.1))) rfl ?_
                              refine wp_aload rfl rfl ?_
                              refine wp_iload rfl rfl ?_
                              refine wp_iload rfl rfl ?_
                              refine wp_call (k := 226) (ρ2 := 0) (L2 := [vr 83, vi x2, vi x5]) rfl rfl rfl (Nat.le_of_ble_eq_true rfl) (Nat.le_of_ble_eq_true rfl) (Nat.le_of_ble_eq_true rfl) (rcv_V rfl (congrArg Prod.fst (kf_83 X.1))) rfl ?_
                              refine wp_iload rfl rfl ?_
                              refine wp_ifltF (tn := 22) rfl rfl c81 ?_
                              refine wp_iload rfl rfl ?_
                              refine wp_ifltF (tn := 22) rfl rfl c82 ?_
                              refine wp_iload rfl rfl ?_
                              refine wp_aload rfl rfl ?_
                              refine wp_getI (j := 2) rfl (congrArg Prod.fst (kf_83 X.1)) rfl ?_
                              refine wp_iload rfl rfl ?_
                              refine wp_isub rfl ?_
                              refine Wp.topI (y := ((h 83 2) - x5)) (w32_I g83) ?_
                              refine wp_icgtF (tn := 22) rfl rfl c84 ?_
                              refine wp_iconst rfl ?_
                              refine wp_goto (tn := 23) rfl rfl ?_
                              refine wp_zret rfl rfl (by decide) ?_
                              show Wp X _ 229 7 [vr 87, vr 83, vi x2, vi x4, vi x5] [vi 1] _ _
                              refine wp_ifeqF (tn := 35) rfl rfl (by decide) ?_
                              refine wp_aload rfl rfl ?_
                              refine wp_iload rfl rfl ?_
                              refine wp_iload rfl rfl ?_
                              refine wp_call (k := 226) (ρ2 := 0) (L2 := [vr 87, vi x4, vi x5]) rfl rfl rfl (Nat.le_of_ble_eq_true rfl) (Nat.le_of_ble_eq_true rfl) (Nat.le_of_ble_eq_true rfl) (rcv_V rfl (congrArg Prod.fst (kf_87 X.1))) rfl ?_
                              refine wp_iload rfl rfl ?_
                              refine wp_ifltF (tn := 22) rfl rfl c85 ?_
                              refine wp_iload rfl rfl ?_
                              refine wp_ifltF (tn := 22) rfl rfl c82 ?_
                              refine wp_iload rfl rfl ?_
                              refine wp_aload rfl rfl ?_
                              refine wp_getI (j := 2) rfl (congrArg Prod.fst (kf_87 X.1)) rfl ?_
                              refine wp_iload rfl rfl ?_
                              refine wp_isub rfl ?_
                              refine Wp.topI (y := ((h 87 2) - x5)) (w32_I g86) ?_
                              refine wp_icgtF (tn := 22) rfl rfl c87 ?_
                              refine wp_iconst rfl ?_
                              refine wp_goto (tn := 23) rfl rfl ?_
                              refine wp_zret rfl rfl (by decide) ?_
                              show Wp X _ 229 17 [vr 87, vr 83, vi x2, vi x4, vi x5] [vi 1] _ _
                              refine wp_ifeqF (tn := 35) rfl rfl (by decide) ?_
                              refine wp_aload rfl rfl ?_
                              refine wp_getR (r := 83) rfl (congrArg Prod.fst (kf_83 X.1)) rfl ?_
                              refine wp_iload rfl rfl ?_
                              refine wp_aload rfl rfl ?_
                              refine wp_getR (r := 87) rfl (congrArg Prod.fst (kf_87 X.1)) rfl ?_
                              refine wp_iload rfl rfl ?_
                              refine wp_iload rfl rfl ?_
                              have g88 := H.1
                              replace H := H.2
                              refine wp_copy rfl (kf_84 X.1) (kf_88 X.1) g88 (Nat.le_of_ble_eq_true rfl) ?_
                              refine wp_vret rfl rfl ?_
                              show Wp X _ 28 119 [vr 6, vi 1, vi x2, vi 3, vi x4, vi x5, vr 83, vr 87] [] _ _
                              refine wp_iconst rfl ?_
                              exact wp_iret rfl rfl H
                  · replace H := H.2 c80
                    refine wp_aload rfl rfl ?_
                    refine wp_iconst rfl ?_
                    refine wp_call (k := 38) (ρ2 := 0) (L2 := [vr 6, vi 4]) rfl rfl rfl (Nat.le_of_ble_eq_true rfl) (Nat.le_of_ble_eq_true rfl) (Nat.le_of_ble_eq_true rfl) (rcv_V rfl (congrArg Prod.fst (kf_6 X.1))) rfl ?_
                    refine wp_aload rfl rfl ?_
                    refine wp_iload rfl rfl ?_
                    refine wp_putI (j := 10) rfl (congrArg Prod.fst (kf_6 X.1)) rfl rfl rfl ?_
                    refine wp_iconst rfl ?_
                    refine wp_iload rfl rfl ?_
                    refine wp_isub rfl ?_
                    refine Wp.topI (y := (-14)) (by decide) ?_
                    refine wp_iret rfl rfl ?_
                    show Wp X _ 28 77 [vr 6, vi 1, vi x2, vi 3, vi x4, vi x5, vr 83, vr 87] [vi (-14)] _ _
                    exact wp_iret rfl rfl H
                · replace H := H.2 c79
                  refine wp_iconst rfl ?_
                  refine wp_goto (tn := 13) rfl rfl ?_
                  refine wp_zret rfl rfl (by decide) ?_
                  show Wp X _ 28 50 [vr 6, vi 1, vi x2, vi 3, vi x4, vi x5, vr 83, vr 87] [vi 1] _ _
                  refine wp_ifeqF (tn := 59) rfl rfl (by decide) ?_
                  refine wp_aload rfl rfl ?_
                  refine wp_iconst rfl ?_
                  refine wp_call (k := 38) (ρ2 := 0) (L2 := [vr 6, vi 1]) rfl rfl rfl (Nat.le_of_ble_eq_true rfl) (Nat.le_of_ble_eq_true rfl) (Nat.le_of_ble_eq_true rfl) (rcv_V rfl (congrArg Prod.fst (kf_6 X.1))) rfl ?_
                  refine wp_aload rfl rfl ?_
                  refine wp_iload rfl rfl ?_
                  refine wp_putI (j := 10) rfl (congrArg Prod.fst (kf_6 X.1)) rfl rfl rfl ?_
                  refine wp_iconst rfl ?_
                  refine wp_iload rfl rfl ?_
                  refine wp_isub rfl ?_
                  refine Wp.topI (y := (-11)) (by decide) ?_
                  refine wp_iret rfl rfl ?_
                  show Wp X _ 28 58 [vr 6, vi 1, vi x2, vi 3, vi x4, vi x5, vr 83, vr 87] [vi (-11)] _ _
                  exact wp_iret rfl rfl H
              · replace H := H.2 c78
                refine wp_iconst rfl ?_
                refine wp_goto (tn := 13) rfl rfl ?_
                refine wp_zret rfl rfl (by decide) ?_
                show Wp X _ 28 42 [vr 6, vi 1, vi x2, vi 3, vi x4, vi x5, vr 83, vr 87] [vi 1] _ _
                refine wp_ifneT (tn := 53) rfl rfl (by decide) ?_
                refine wp_aload rfl rfl ?_
                refine wp_iconst rfl ?_
                refine wp_call (k := 38) (ρ2 := 0) (L2 := [vr 6, vi 1]) rfl rfl rfl (Nat.le_of_ble_eq_true rfl) (Nat.le_of_ble_eq_true rfl) (Nat.le_of_ble_eq_true rfl) (rcv_V rfl (congrArg Prod.fst (kf_6 X.1))) rfl ?_
                refine wp_aload rfl rfl ?_
                refine wp_iload rfl rfl ?_
                refine wp_putI (j := 10) rfl (congrArg Prod.fst (kf_6 X.1)) rfl rfl rfl ?_
                refine wp_iconst rfl ?_
                refine wp_iload rfl rfl ?_
                refine wp_isub rfl ?_
                refine Wp.topI (y := (-11)) (by decide) ?_
                refine wp_iret rfl rfl ?_
                show Wp X _ 28 58 [vr 6, vi 1, vi x2, vi 3, vi x4, vi x5, vr 83, vr 87] [vi (-11)] _ _
                exact wp_iret rfl rfl H
          · replace H := H.2.2.1 rfl
            refine wp_aaload (r := 84) rfl (kf_80 X.1) (by decide) (by decide) rfl ?_
            refine wp_astore (L2 := [vr 6, vi 2, vi x2, vi x3, vi x4, vi x5, vr 85, vu]) rfl (Nat.le_of_ble_eq_true rfl) rfl ?_
            refine wp_aload rfl rfl ?_
            refine wp_getR (r := 79) rfl (congrArg Prod.fst (kf_6 X.1)) rfl ?_
            refine wp_iload rfl rfl ?_
            rcases (show x3 = 0 ∨ x3 = 1 ∨ x3 = 2 ∨ x3 = 3 by have := (show 0 ≤ x3 ∧ x3 < 4 from ⟨c3, (by clear H; omega)⟩); clear H; omega) with rfl | rfl | rfl | rfl
            · replace H := H.1 rfl
              refine wp_aaload (r := 80) rfl (kf_80 X.1) (by decide) (by decide) rfl ?_
              refine wp_astore (L2 := [vr 6, vi 2, vi x2, vi 0, vi x4, vi x5, vr 85, vr 81]) rfl (Nat.le_of_ble_eq_true rfl) rfl ?_
              refine wp_aload rfl rfl ?_
              refine wp_call (k := 220) (ρ2 := 0) (L2 := [vr 85]) rfl rfl rfl (Nat.le_of_ble_eq_true rfl) (Nat.le_of_ble_eq_true rfl) (Nat.le_of_ble_eq_true rfl) (rcv_V rfl (congrArg Prod.fst (kf_85 X.1))) rfl ?_
              refine wp_aload rfl rfl ?_
              refine wp_getI (j := 1) rfl (congrArg Prod.fst (kf_85 X.1)) rfl ?_
              refine wp_iconst rfl ?_
              refine wp_icne (tn := 12) rfl rfl (fun c89 => ?_) (fun c89 => ?_)
              · replace H := H.1 c89
                refine wp_iconst rfl ?_
                refine wp_zret rfl rfl (by decide) ?_
                show Wp X _ 28 42 [vr 6, vi 2, vi x2, vi 0, vi x4, vi x5, vr 85, vr 81] [vi 0] _ _
                refine wp_ifneF (tn := 53) rfl rfl (by decide) ?_
                refine wp_aload rfl rfl ?_
                refine wp_call (k := 220) (ρ2 := 0) (L2 := [vr 81]) rfl rfl rfl (Nat.le_of_ble_eq_true rfl) (Nat.le_of_ble_eq_true rfl) (Nat.le_of_ble_eq_true rfl) (rcv_V rfl (congrArg Prod.fst (kf_81 X.1))) rfl ?_
                refine wp_aload rfl rfl ?_
                refine wp_getI (j := 1) rfl (congrArg Prod.fst (kf_81 X.1)) rfl ?_
                refine wp_iconst rfl ?_
                refine wp_icne (tn := 12) rfl rfl (fun c90 => ?_) (fun c90 => ?_)
                · replace H := H.1 c90
                  refine wp_iconst rfl ?_
                  refine wp_zret rfl rfl (by decide) ?_
                  show Wp X _ 28 50 [vr 6, vi 2, vi x2, vi 0, vi x4, vi x5, vr 85, vr 81] [vi 0] _ _
                  refine wp_ifeqT (tn := 59) rfl rfl (by decide) ?_
                  refine wp_aload rfl rfl ?_
                  refine wp_call (k := 221) (ρ2 := 0) (L2 := [vr 85]) rfl rfl rfl (Nat.le_of_ble_eq_true rfl) (Nat.le_of_ble_eq_true rfl) (Nat.le_of_ble_eq_true rfl) (rcv_V rfl (congrArg Prod.fst (kf_85 X.1))) rfl ?_
                  refine wp_aload rfl rfl ?_
                  refine wp_getI (j := 1) rfl (congrArg Prod.fst (kf_85 X.1)) rfl ?_
                  refine wp_iret rfl rfl ?_
                  show Wp X _ 28 64 [vr 6, vi 2, vi x2, vi 0, vi x4, vi x5, vr 85, vr 81] [vi (h 85 1)] _ _
                  refine wp_aload rfl rfl ?_
                  refine wp_call (k := 221) (ρ2 := 0) (L2 := [vr 81]) rfl rfl rfl (Nat.le_of_ble_eq_true rfl) (Nat.le_of_ble_eq_true rfl) (Nat.le_of_ble_eq_true rfl) (rcv_V rfl (congrArg Prod.fst (kf_81 X.1))) rfl ?_
                  refine wp_aload rfl rfl ?_
                  refine wp_getI (j := 1) rfl (congrArg Prod.fst (kf_81 X.1)) rfl ?_
                  refine wp_iret rfl rfl ?_
                  show Wp X _ 28 69 [vr 6, vi 2, vi x2, vi 0, vi x4, vi x5, vr 85, vr 81] [vi (h 81 1), vi (h 85 1)] _ _
                  refine wp_iceq (tn := 78) rfl rfl (fun c91 => ?_) (fun c91 => ?_)
                  · replace H := H.1 c91
                    refine wp_aload rfl rfl ?_
                    refine wp_iload rfl rfl ?_
                    refine wp_iload rfl rfl ?_
                    refine wp_call (k := 226) (ρ2 := 0) (L2 := [vr 85, vi x2, vi x5]) rfl rfl rfl (Nat.le_of_ble_eq_true rfl) (Nat.le_of_ble_eq_true rfl) (Nat.le_of_ble_eq_true rfl) (rcv_V rfl (congrArg Prod.fst (kf_85 X.1))) rfl ?_
                    refine wp_iload rfl rfl ?_
                    refine wp_iflt (tn := 22) rfl rfl (fun c92 => ?_) (fun c92 => ?_)
                    · replace H := H.1 c92
                      refine wp_iconst rfl ?_
                      refine wp_zret rfl rfl (by decide) ?_
                      show Wp X _ 28 86 [vr 6, vi 2, vi x2, vi 0, vi x4, vi x5, vr 85, vr 81] [vi 0] _ _
                      refine wp_ifeqT (tn := 101) rfl rfl (by decide) ?_
                      refine wp_aload rfl rfl ?_
                      refine wp_iconst rfl ?_
                      refine wp_call (k := 38) (ρ2 := 0) (L2 := [vr 6, vi 2]) rfl rfl rfl (Nat.le_of_ble_eq_true rfl) (Nat.le_of_ble_eq_true rfl) (Nat.le_of_ble_eq_true rfl) (rcv_V rfl (congrArg Prod.fst (kf_6 X.1))) rfl ?_
                      refine wp_aload rfl rfl ?_
                      refine wp_iload rfl rfl ?_
                      refine wp_putI (j := 10) rfl (congrArg Prod.fst (kf_6 X.1)) rfl rfl rfl ?_
                      refine wp_iconst rfl ?_
                      refine wp_iload rfl rfl ?_
                      refine wp_isub rfl ?_
                      refine Wp.topI (y := (-12)) (by decide) ?_
                      refine wp_iret rfl rfl ?_
                      show Wp X _ 28 106 [vr 6, vi 2, vi x2, vi 0, vi x4, vi x5, vr 85, vr 81] [vi (-12)] _ _
                      exact wp_iret rfl rfl H
                    · replace H := H.2 c92
                      refine wp_iload rfl rfl ?_
                      refine wp_iflt (tn := 22) rfl rfl (fun c93 => ?_) (fun c93 => ?_)
                      · replace H := H.1 c93
                        refine wp_iconst rfl ?_
                        refine wp_zret rfl rfl (by decide) ?_
                        show Wp X _ 28 86 [vr 6, vi 2, vi x2, vi 0, vi x4, vi x5, vr 85, vr 81] [vi 0] _ _
                        refine wp_ifeqT (tn := 101) rfl rfl (by decide) ?_
                        refine wp_aload rfl rfl ?_
                        refine wp_iconst rfl ?_
                        refine wp_call (k := 38) (ρ2 := 0) (L2 := [vr 6, vi 2]) rfl rfl rfl (Nat.le_of_ble_eq_true rfl) (Nat.le_of_ble_eq_true rfl) (Nat.le_of_ble_eq_true rfl) (rcv_V rfl (congrArg Prod.fst (kf_6 X.1))) rfl ?_
                        refine wp_aload rfl rfl ?_
                        refine wp_iload rfl rfl ?_
                        refine wp_putI (j := 10) rfl (congrArg Prod.fst (kf_6 X.1)) rfl rfl rfl ?_
                        refine wp_iconst rfl ?_
                        refine wp_iload rfl rfl ?_
                        refine wp_isub rfl ?_
                        refine Wp.topI (y := (-12)) (by decide) ?_
                        refine wp_iret rfl rfl ?_
                        show Wp X _ 28 106 [vr 6, vi 2, vi x2, vi 0, vi x4, vi x5, vr 85, vr 81] [vi (-12)] _ _
                        exact wp_iret rfl rfl H
                      · replace H := H.2 c93
                        refine wp_iload rfl rfl ?_
                        refine wp_aload rfl rfl ?_
                        refine wp_getI (j := 2) rfl (congrArg Prod.fst (kf_85 X.1)) rfl ?_
                        refine wp_iload rfl rfl ?_
                        refine wp_isub rfl ?_
                        have g94 := H.1
                        replace H := H.2
                        refine Wp.topI (y := ((h 85 2) - x5)) (w32_I g94) ?_
                        refine wp_icgt (tn := 22) rfl rfl (fun c95 => ?_) (fun c95 => ?_)
                        · replace H := H.1 c95
                          refine wp_iconst rfl ?_
                          refine wp_zret rfl rfl (by decide) ?_
                          show Wp X _ 28 86 [vr 6, vi 2, vi x2, vi 0, vi x4, vi x5, vr 85, vr 81] [vi 0] _ _
                          refine wp_ifeqT (tn := 101) rfl rfl (by decide) ?_
                          refine wp_aload rfl rfl ?_
                          refine wp_iconst rfl ?_
                          refine wp_call (k := 38) (ρ2 := 0) (L2 := [vr 6, vi 2]) rfl rfl rfl (Nat.le_of_ble_eq_true rfl) (Nat.le_of_ble_eq_true rfl) (Nat.le_of_ble_eq_true rfl) (rcv_V rfl (congrArg Prod.fst (kf_6 X.1))) rfl ?_
                          refine wp_aload rfl rfl ?_
                          refine wp_iload rfl rfl ?_
                          refine wp_putI (j := 10) rfl (congrArg Prod.fst (kf_6 X.1)) rfl rfl rfl ?_
                          refine wp_iconst rfl ?_
                          refine wp_iload rfl rfl ?_
                          refine wp_isub rfl ?_
                          refine Wp.topI (y := (-12)) (by decide) ?_
                          refine wp_iret rfl rfl ?_
                          show Wp X _ 28 106 [vr 6, vi 2, vi x2, vi 0, vi x4, vi x5, vr 85, vr 81] [vi (-12)] _ _
                          exact wp_iret rfl rfl H
                        · replace H := H.2 c95
                          refine wp_iconst rfl ?_
                          refine wp_goto (tn := 23) rfl rfl ?_
                          refine wp_zret rfl rfl (by decide) ?_
                          show Wp X _ 28 86 [vr 6, vi 2, vi x2, vi 0, vi x4, vi x5, vr 85, vr 81] [vi 1] _ _
                          refine wp_ifeqF (tn := 101) rfl rfl (by decide) ?_
                          refine wp_aload rfl rfl ?_
                          refine wp_iload rfl rfl ?_
                          refine wp_iload rfl rfl ?_
                          refine wp_call (k := 226) (ρ2 := 0) (L2 := [vr 81, vi x4, vi x5]) rfl rfl rfl (Nat.le_of_ble_eq_true rfl) (Nat.le_of_ble_eq_true rfl) (Nat.le_of_ble_eq_true rfl) (rcv_V rfl (congrArg Prod.fst (kf_81 X.1))) rfl ?_
                          refine wp_iload rfl rfl ?_
                          refine wp_iflt (tn := 22) rfl rfl (fun c96 => ?_) (fun c96 => ?_)
                          · replace H := H.1 c96
                            refine wp_iconst rfl ?_
                            refine wp_zret rfl rfl (by decide) ?_
                            show Wp X _ 28 98 [vr 6, vi 2, vi x2, vi 0, vi x4, vi x5, vr 85, vr 81] [vi 0] _ _
                            refine wp_ifneF (tn := 107) rfl rfl (by decide) ?_
                            refine wp_aload rfl rfl ?_
                            refine wp_iconst rfl ?_
                            refine wp_call (k := 38) (ρ2 := 0) (L2 := [vr 6, vi 2]) rfl rfl rfl (Nat.le_of_ble_eq_true rfl) (Nat.le_of_ble_eq_true rfl) (Nat.le_of_ble_eq_true rfl) (rcv_V rfl (congrArg Prod.fst (kf_6 X.1))) rfl ?_
                            refine wp_aload rfl rfl ?_
                            refine wp_iload rfl rfl ?_
                            refine wp_putI (j := 10) rfl (congrArg Prod.fst (kf_6 X.1)) rfl rfl rfl ?_
                            refine wp_iconst rfl ?_
                            refine wp_iload rfl rfl ?_
                            refine wp_isub rfl ?_
                            refine Wp.topI (y := (-12)) (by decide) ?_
                            refine wp_iret rfl rfl ?_
                            show Wp X _ 28 106 [vr 6, vi 2, vi x2, vi 0, vi x4, vi x5, vr 85, vr 81] [vi (-12)] _ _
                            exact wp_iret rfl rfl H
                          · replace H := H.2 c96
                            refine wp_iload rfl rfl ?_
                            refine wp_ifltF (tn := 22) rfl rfl c93 ?_
                            refine wp_iload rfl rfl ?_
                            refine wp_aload rfl rfl ?_
                            refine wp_getI (j := 2) rfl (congrArg Prod.fst (kf_81 X.1)) rfl ?_
                            refine wp_iload rfl rfl ?_
                            refine wp_isub rfl ?_
                            have g97 := H.1
                            replace H := H.2
                            refine Wp.topI (y := ((h 81 2) - x5)) (w32_I g97) ?_
                            refine wp_icgt (tn := 22) rfl rfl (fun c98 => ?_) (fun c98 => ?_)
                            · replace H := H.1 c98
                              refine wp_iconst rfl ?_
                              refine wp_zret rfl rfl (by decide) ?_
                              show Wp X _ 28 98 [vr 6, vi 2, vi x2, vi 0, vi x4, vi x5, vr 85, vr 81] [vi 0] _ _
                              refine wp_ifneF (tn := 107) rfl rfl (by decide) ?_
                              refine wp_aload rfl rfl ?_
                              refine wp_iconst rfl ?_
                              refine wp_call (k := 38) (ρ2 := 0) (L2 := [vr 6, vi 2]) rfl rfl rfl (Nat.le_of_ble_eq_true rfl) (Nat.le_of_ble_eq_true rfl) (Nat.le_of_ble_eq_true rfl) (rcv_V rfl (congrArg Prod.fst (kf_6 X.1))) rfl ?_
                              refine wp_aload rfl rfl ?_
                              refine wp_iload rfl rfl ?_
                              refine wp_putI (j := 10) rfl (congrArg Prod.fst (kf_6 X.1)) rfl rfl rfl ?_
                              refine wp_iconst rfl ?_
                              refine wp_iload rfl rfl ?_
                              refine wp_isub rfl ?_
                              refine Wp.topI (y := (-12)) (by decide) ?_
                              refine wp_iret rfl rfl ?_
                              show Wp X _ 28 106 [vr 6, vi 2, vi x2, vi 0, vi x4, vi x5, vr 85, vr 81] [vi (-12)] _ _
                              exact wp_iret rfl rfl H
                            · replace H := H.2 c98
                              refine wp_iconst rfl ?_
                              refine wp_goto (tn := 23) rfl rfl ?_
                              refine wp_zret rfl rfl (by decide) ?_
                              show Wp X _ 28 98 [vr 6, vi 2, vi x2, vi 0, vi x4, vi x5, vr 85, vr 81] [vi 1] _ _
                              refine wp_ifneT (tn := 107) rfl rfl (by decide) ?_
                              refine wp_aload rfl rfl ?_
                              refine wp_aload rfl rfl ?_
                              refine wp_iload rfl rfl ?_
                              refine wp_iload rfl rfl ?_
                              refine wp_iload rfl rfl ?_
                              refine wp_call (k := 229) (ρ2 := 1) (L2 := [vr 81, vr 85, vi x2, vi x4, vi x5]) rfl rfl rfl (Nat.le_of_ble_eq_true rfl) (Nat.le_of_ble_eq_true rfl) (Nat.le_of_ble_eq_true rfl) (rcv_V rfl (congrArg Prod.fst (kf_81 X.1))) rfl ?_
                              refine wp_aload rfl rfl ?_
                              refine wp_iload rfl rfl ?_
                              refine wp_iload rfl rfl ?_
                              refine wp_call (k := 226) (ρ2 := 0) (L2 := [vr 85, vi x2, vi x5]) rfl rfl rfl (Nat.le_of_ble_eq_true rfl) (Nat.le_of_ble_eq_true rfl) (Nat.le_of_ble_eq_true rfl) (rcv_V rfl (congrArg Prod.fst (kf_85 X.1))) rfl ?_
                              refine wp_iload rfl rfl ?_
                              refine wp_ifltF (tn := 22) rfl rfl c92 ?_
                              refine wp_iload rfl rfl ?_
                              refine wp_ifltF (tn := 22) rfl rfl c93 ?_
                              refine wp_iload rfl rfl ?_
                              refine wp_aload rfl rfl ?_
                              refine wp_getI (j := 2) rfl (congrArg Prod.fst (kf_85 X.1)) rfl ?_
                              refine wp_iload rfl rfl ?_
                              refine wp_isub rfl ?_
                              refine Wp.topI (y := ((h 85 2) - x5)) (w32_I g94) ?_
                              refine wp_icgtF (tn := 22) rfl rfl c95 ?_
                              refine wp_iconst rfl ?_
                              refine wp_goto (tn := 23) rfl rfl ?_
                              refine wp_zret rfl rfl (by decide) ?_
                              show Wp X _ 229 7 [vr 81, vr 85, vi x2, vi x4, vi x5] [vi 1] _ _
                              refine wp_ifeqF (tn := 35) rfl rfl (by decide) ?_
                              refine wp_aload rfl rfl ?_
                              refine wp_iload rfl rfl ?_
                              refine wp_iload rfl rfl ?_
                              refine wp_call (k := 226) (ρ2 := 0) (L2 := [vr 81, vi x4, vi x5]) rfl rfl rfl (Nat.le_of_ble_eq_true rfl) (Nat.le_of_ble_eq_true rfl) (Nat.le_of_ble_eq_true rfl) (rcv_V rfl (congrArg Prod.fst (kf_81 X.1))) rfl ?_
                              refine wp_iload rfl rfl ?_
                              refine wp_ifltF (tn := 22) rfl rfl c96 ?_
                              refine wp_iload rfl rfl ?_
                              refine wp_ifltF (tn := 22) rfl rfl c93 ?_
                              refine wp_iload rfl rfl ?_
                              refine wp_aload rfl rfl ?_
                              refine wp_getI (j := 2) rfl (congrArg Prod.fst (kf_81 X.1)) rfl ?_
                              refine wp_iload rfl rfl ?_
                              refine wp_isub rfl ?_
                              refine Wp.topI (y := ((h 81 2) - x5)) (w32_I g97) ?_
                              refine wp_icgtF (tn := 22) rfl rfl c98 ?_
                              refine wp_iconst rfl ?_
                              refine wp_goto (tn := 23) rfl rfl ?_
                              refine wp_zret rfl rfl (by decide) ?_
                              show Wp X _ 229 17 [vr 81, vr 85, vi x2, vi x4, vi x5] [vi 1] _ _
                              refine wp_ifeqF (tn := 35) rfl rfl (by decide) ?_
                              refine wp_aload rfl rfl ?_
                              refine wp_getR (r := 85) rfl (congrArg Prod.fst (kf_85 X.1)) rfl ?_
                              refine wp_iload rfl rfl ?_
                              refine wp_aload rfl rfl ?_
                              refine wp_getR (r := 81) rfl (congrArg Prod.fst (kf_81 X.1)) rfl ?_
                              refine wp_iload rfl rfl ?_
                              refine wp_iload rfl rfl ?_
                              have g99 := H.1
                              replace H := H.2
                              refine wp_copy rfl (kf_86 X.1) (kf_82 X.1) g99 (Nat.le_of_ble_eq_true rfl) ?_
                              refine wp_vret rfl rfl ?_
                              show Wp X _ 28 119 [vr 6, vi 2, vi x2, vi 0, vi x4, vi x5, vr 85, vr 81] [] _ _
                              refine wp_iconst rfl ?_
                              exact wp_iret rfl rfl H
                  · replace H := H.2 c91
                    refine wp_aload rfl rfl ?_
                    refine wp_iconst rfl ?_
                    refine wp_call (k := 38) (ρ2 := 0) (L2 := [vr 6, vi 4]) rfl rfl rfl (Nat.le_of_ble_eq_true rfl) (Nat.le_of_ble_eq_true rfl) (Nat.le_of_ble_eq_true rfl) (rcv_V rfl (congrArg Prod.fst (kf_6 X.1))) rfl ?_
                    refine wp_aload rfl rfl ?_
                    refine wp_iload rfl rfl ?_
                    refine wp_putI (j := 10) rfl (congrArg Prod.fst (kf_6 X.1)) rfl rfl rfl ?_
                    refine wp_iconst rfl ?_
                    refine wp_iload rfl rfl ?_
                    refine wp_isub rfl ?_
                    refine Wp.topI (y := (-14)) (by decide) ?_
                    refine wp_iret rfl rfl ?_
                    show Wp X _ 28 77 [vr 6, vi 2, vi x2, vi 0, vi x4, vi x5, vr 85, vr 81] [vi (-14)] _ _
                    exact wp_iret rfl rfl H
                · replace H := H.2 c90
                  refine wp_iconst rfl ?_
                  refine wp_goto (tn := 13) rfl rfl ?_
                  refine wp_zret rfl rfl (by decide) ?_
                  show Wp X _ 28 50 [vr 6, vi 2, vi x2, vi 0, vi x4, vi x5, vr 85, vr 81] [vi 1] _ _
                  refine wp_ifeqF (tn := 59) rfl rfl (by decide) ?_
                  refine wp_aload rfl rfl ?_
                  refine wp_iconst rfl ?_
                  refine wp_call (k := 38) (ρ2 := 0) (L2 := [vr 6, vi 1]) rfl rfl rfl (Nat.le_of_ble_eq_true rfl) (Nat.le_of_ble_eq_true rfl) (Nat.le_of_ble_eq_true rfl) (rcv_V rfl (congrArg Prod.fst (kf_6 X.1))) rfl ?_
                  refine wp_aload rfl rfl ?_
                  refine wp_iload rfl rfl ?_
                  refine wp_putI (j := 10) rfl (congrArg Prod.fst (kf_6 X.1)) rfl rfl rfl ?_
                  refine wp_iconst rfl ?_
                  refine wp_iload rfl rfl ?_
                  refine wp_isub rfl ?_
                  refine Wp.topI (y := (-11)) (by decide) ?_
                  refine wp_iret rfl rfl ?_
                  show Wp X _ 28 58 [vr 6, vi 2, vi x2, vi 0, vi x4, vi x5, vr 85, vr 81] [vi (-11)] _ _
                  exact wp_iret rfl rfl H
              · replace H := H.2 c89
                refine wp_iconst rfl ?_
                refine wp_goto (tn := 13) rfl rfl ?_
                refine wp_zret rfl rfl (by decide) ?_
                show Wp X _ 28 42 [vr 6, vi 2, vi x2, vi 0, vi x4, vi x5, vr 85, vr 81] [vi 1] _ _
                refine wp_ifneT (tn := 53) rfl rfl (by decide) ?_
                refine wp_aload rfl rfl ?_
                refine wp_iconst rfl ?_
                refine wp_call (k := 38) (ρ2 := 0) (L2 := [vr 6, vi 1]) rfl rfl rfl (Nat.le_of_ble_eq_true rfl) (Nat.le_of_ble_eq_true rfl) (Nat.le_of_ble_eq_true rfl) (rcv_V rfl (congrArg Prod.fst (kf_6 X.1))) rfl ?_
                refine wp_aload rfl rfl ?_
                refine wp_iload rfl rfl ?_
                refine wp_putI (j := 10) rfl (congrArg Prod.fst (kf_6 X.1)) rfl rfl rfl ?_
                refine wp_iconst rfl ?_
                refine wp_iload rfl rfl ?_
                refine wp_isub rfl ?_
                refine Wp.topI (y := (-11)) (by decide) ?_
                refine wp_iret rfl rfl ?_
                show Wp X _ 28 58 [vr 6, vi 2, vi x2, vi 0, vi x4, vi x5, vr 85, vr 81] [vi (-11)] _ _
                exact wp_iret rfl rfl H
            · replace H := H.2.1 rfl
              refine wp_aaload (r := 82) rfl (kf_80 X.1) (by decide) (by decide) rfl ?_
              refine wp_astore (L2 := [vr 6, vi 2, vi x2, vi 1, vi x4, vi x5, vr 85, vr 83]) rfl (Nat.le_of_ble_eq_true rfl) rfl ?_
              refine wp_aload rfl rfl ?_
              refine wp_call (k := 220) (ρ2 := 0) (L2 := [vr 85]) rfl rfl rfl (Nat.le_of_ble_eq_true rfl) (Nat.le_of_ble_eq_true rfl) (Nat.le_of_ble_eq_true rfl) (rcv_V rfl (congrArg Prod.fst (kf_85 X.1))) rfl ?_
              refine wp_aload rfl rfl ?_
              refine wp_getI (j := 1) rfl (congrArg Prod.fst (kf_85 X.1)) rfl ?_
              refine wp_iconst rfl ?_
              refine wp_icne (tn := 12) rfl rfl (fun c100 => ?_) (fun c100 => ?_)
              · replace H := H.1 c100
                refine wp_iconst rfl ?_
                refine wp_zret rfl rfl (by decide) ?_
                show Wp X _ 28 42 [vr 6, vi 2, vi x2, vi 1, vi x4, vi x5, vr 85, vr 83] [vi 0] _ _
                refine wp_ifneF (tn := 53) rfl rfl (by decide) ?_
                refine wp_aload rfl rfl ?_
                refine wp_call (k := 220) (ρ2 := 0) (L2 := [vr 83]) rfl rfl rfl (Nat.le_of_ble_eq_true rfl) (Nat.le_of_ble_eq_true rfl) (Nat.le_of_ble_eq_true rfl) (rcv_V rfl (congrArg Prod.fst (kf_83 X.1))) rfl ?_
                refine wp_aload rfl rfl ?_
                refine wp_getI (j := 1) rfl (congrArg Prod.fst (kf_83 X.1)) rfl ?_
                refine wp_iconst rfl ?_
                refine wp_icne (tn := 12) rfl rfl (fun c101 => ?_) (fun c101 => ?_)
                · replace H := H.1 c101
                  refine wp_iconst rfl ?_
                  refine wp_zret rfl rfl (by decide) ?_
                  show Wp X _ 28 50 [vr 6, vi 2, vi x2, vi 1, vi x4, vi x5, vr 85, vr 83] [vi 0] _ _
                  refine wp_ifeqT (tn := 59) rfl rfl (by decide) ?_
                  refine wp_aload rfl rfl ?_
                  refine wp_call (k := 221) (ρ2 := 0) (L2 := [vr 85]) rfl rfl rfl (Nat.le_of_ble_eq_true rfl) (Nat.le_of_ble_eq_true rfl) (Nat.le_of_ble_eq_true rfl) (rcv_V rfl (congrArg Prod.fst (kf_85 X.1))) rfl ?_
                  refine wp_aload rfl rfl ?_
                  refine wp_getI (j := 1) rfl (congrArg Prod.fst (kf_85 X.1)) rfl ?_
                  refine wp_iret rfl rfl ?_
                  show Wp X _ 28 64 [vr 6, vi 2, vi x2, vi 1, vi x4, vi x5, vr 85, vr 83] [vi (h 85 1)] _ _
                  refine wp_aload rfl rfl ?_
                  refine wp_call (k := 221) (ρ2 := 0) (L2 := [vr 83]) rfl rfl rfl (Nat.le_of_ble_eq_true rfl) (Nat.le_of_ble_eq_true rfl) (Nat.le_of_ble_eq_true rfl) (rcv_V rfl (congrArg Prod.fst (kf_83 X.1))) rfl ?_
                  refine wp_aload rfl rfl ?_
                  refine wp_getI (j := 1) rfl (congrArg Prod.fst (kf_83 X.1)) rfl ?_
                  refine wp_iret rfl rfl ?_
                  show Wp X _ 28 69 [vr 6, vi 2, vi x2, vi 1, vi x4, vi x5, vr 85, vr 83] [vi (h 83 1), vi (h 85 1)] _ _
                  refine wp_iceq (tn := 78) rfl rfl (fun c102 => ?_) (fun c102 => ?_)
                  · replace H := H.1 c102
                    refine wp_aload rfl rfl ?_
                    refine wp_iload rfl rfl ?_
                    refine wp_iload rfl rfl ?_
                    refine wp_call (k := 226) (ρ2 := 0) (L2 := [vr 85, vi x2, vi x5]) rfl rfl rfl (Nat.le_of_ble_eq_true rfl) (Nat.le_of_ble_eq_true rfl) (Nat.le_of_ble_eq_true rfl) (rcv_V rfl (congrArg Prod.fst (kf_85 X.1))) rfl ?_
                    refine wp_iload rfl rfl ?_
                    refine wp_iflt (tn := 22) rfl rfl (fun c103 => ?_) (fun c103 => ?_)
                    · replace H := H.1 c103
                      refine wp_iconst rfl ?_
                      refine wp_zret rfl rfl (by decide) ?_
                      show Wp X _ 28 86 [vr 6, vi 2, vi x2, vi 1, vi x4, vi x5, vr 85, vr 83] [vi 0] _ _
                      refine wp_ifeqT (tn := 101) rfl rfl (by decide) ?_
                      refine wp_aload rfl rfl ?_
                      refine wp_iconst rfl ?_
                      refine wp_call (k := 38) (ρ2 := 0) (L2 := [vr 6, vi 2]) rfl rfl rfl (Nat.le_of_ble_eq_true rfl) (Nat.le_of_ble_eq_true rfl) (Nat.le_of_ble_eq_true rfl) (rcv_V rfl (congrArg Prod.fst (kf_6 X.1))) rfl ?_
                      refine wp_aload rfl rfl ?_
                      refine wp_iload rfl rfl ?_
                      refine wp_putI (j := 10) rfl (congrArg Prod.fst (kf_6 X.1)) rfl rfl rfl ?_
                      refine wp_iconst rfl ?_
                      refine wp_iload rfl rfl ?_
                      refine wp_isub rfl ?_
                      refine Wp.topI (y := (-12)) (by decide) ?_
                      refine wp_iret rfl rfl ?_
                      show Wp X _ 28 106 [vr 6, vi 2, vi x2, vi 1, vi x4, vi x5, vr 85, vr 83] [vi (-12)] _ _
                      exact wp_iret rfl rfl H
                    · replace H := H.2 c103
                      refine wp_iload rfl rfl ?_
                      refine wp_iflt (tn := 22) rfl rfl (fun c104 => ?_) (fun c104 => ?_)
                      · replace H := H.1 c104
                        refine wp_iconst rfl ?_
                        refine wp_zret rfl rfl (by decide) ?_
                        show Wp X _ 28 86 [vr 6, vi 2, vi x2, vi 1, vi x4, vi x5, vr 85, vr 83] [vi 0] _ _
                        refine wp_ifeqT (tn := 101) rfl rfl (by decide) ?_
                        refine wp_aload rfl rfl ?_
                        refine wp_iconst rfl ?_
                        refine wp_call (k := 38) (ρ2 := 0) (L2 := [vr 6, vi 2]) rfl rfl rfl (Nat.le_of_ble_eq_true rfl) (Nat.le_of_ble_eq_true rfl) (Nat.le_of_ble_eq_true rfl) (rcv_V rfl (congrArg Prod.fst (kf_6 X.1))) rfl ?_
                        refine wp_aload rfl rfl ?_
                        refine wp_iload rfl rfl ?_
                        refine wp_putI (j := 10) rfl (congrArg Prod.fst (kf_6 X.1)) rfl rfl rfl ?_
                        refine wp_iconst rfl ?_
                        refine wp_iload rfl rfl ?_
                        refine wp_isub rfl ?_
                        refine Wp.topI (y := (-12)) (by decide) ?_
                        refine wp_iret rfl rfl ?_
                        show Wp X _ 28 106 [vr 6, vi 2, vi x2, vi 1, vi x4, vi x5, vr 85, vr 83] [vi (-12)] _ _
                        exact wp_iret rfl rfl H
                      · replace H := H.2 c104
                        refine wp_iload rfl rfl ?_
                        refine wp_aload rfl rfl ?_
                        refine wp_getI (j := 2) rfl (congrArg Prod.fst (kf_85 X.1)) rfl ?_
                        refine wp_iload rfl rfl ?_
                        refine wp_isub rfl ?_
                        have g105 := H.1
                        replace H := H.2
                        refine Wp.topI (y := ((h 85 2) - x5)) (w32_I g105) ?_
                        refine wp_icgt (tn := 22) rfl rfl (fun c106 => ?_) (fun c106 => ?_)
                        · replace H := H.1 c106
                          refine wp_iconst rfl ?_
                          refine wp_zret rfl rfl (by decide) ?_
                          show Wp X _ 28 86 [vr 6, vi 2, vi x2, vi 1, vi x4, vi x5, vr 85, vr 83] [vi 0] _ _
                          refine wp_ifeqT (tn := 101) rfl rfl (by decide) ?_
                          refine wp_aload rfl rfl ?_
                          refine wp_iconst rfl ?_
                          refine wp_call (k := 38) (ρ2 := 0) (L2 := [vr 6, vi 2]) rfl rfl rfl (Nat.le_of_ble_eq_true rfl) (Nat.le_of_ble_eq_true rfl) (Nat.le_of_ble_eq_true rfl) (rcv_V rfl (congrArg Prod.fst (kf_6 X.1))) rfl ?_
                          refine wp_aload rfl rfl ?_
                          refine wp_iload rfl rfl ?_
                          refine wp_putI (j := 10) rfl (congrArg Prod.fst (kf_6 X.1)) rfl rfl rfl ?_
                          refine wp_iconst rfl ?_
                          refine wp_iload rfl rfl ?_
                          refine wp_isub rfl ?_
                          refine Wp.topI (y := (-12)) (by decide) ?_
                          refine wp_iret rfl rfl ?_
                          show Wp X _ 28 106 [vr 6, vi 2, vi x2, vi 1, vi x4, vi x5, vr 85, vr 83] [vi (-12)] _ _
                          exact wp_iret rfl rfl H
                        · replace H := H.2 c106
                          refine wp_iconst rfl ?_
                          refine wp_goto (tn := 23) rfl rfl ?_
                          refine wp_zret rfl rfl (by decide) ?_
                          show Wp X _ 28 86 [vr 6, vi 2, vi x2, vi 1, vi x4, vi x5, vr 85, vr 83] [vi 1] _ _
                          refine wp_ifeqF (tn := 101) rfl rfl (by decide) ?_
                          refine wp_aload rfl rfl ?_
                          refine wp_iload rfl rfl ?_
                          refine wp_iload rfl rfl ?_
                          refine wp_call (k := 226) (ρ2 := 0) (L2 := [vr 83, vi x4, vi x5]) rfl rfl rfl (Nat.le_of_ble_eq_true rfl) (Nat.le_of_ble_eq_true rfl) (Nat.le_of_ble_eq_true rfl) (rcv_V rfl (congrArg Prod.fst (kf_83 X.1))) rfl ?_
                          refine wp_iload rfl rfl ?_
                          refine wp_iflt (tn := 22) rfl rfl (fun c107 => ?_) (fun c107 => ?_)
                          · replace H := H.1 c107
                            refine wp_iconst rfl ?_
                            refine wp_zret rfl rfl (by decide) ?_
                            show Wp X _ 28 98 [vr 6, vi 2, vi x2, vi 1, vi x4, vi x5, vr 85, vr 83] [vi 0] _ _
                            refine wp_ifneF (tn := 107) rfl rfl (by decide) ?_
                            refine wp_aload rfl rfl ?_
                            refine wp_iconst rfl ?_
                            refine wp_call (k := 38) (ρ2 := 0) (L2 := [vr 6, vi 2]) rfl rfl rfl (Nat.le_of_ble_eq_true rfl) (Nat.le_of_ble_eq_true rfl) (Nat.le_of_ble_eq_true rfl) (rcv_V rfl (congrArg Prod.fst (kf_6 X.1))) rfl ?_
                            refine wp_aload rfl rfl ?_
                            refine wp_iload rfl rfl ?_
                            refine wp_putI (j := 10) rfl (congrArg Prod.fst (kf_6 X.1)) rfl rfl rfl ?_
                            refine wp_iconst rfl ?_
                            refine wp_iload rfl rfl ?_
                            refine wp_isub rfl ?_
                            refine Wp.topI (y := (-12)) (by decide) ?_
                            refine wp_iret rfl rfl ?_
                            show Wp X _ 28 106 [vr 6, vi 2, vi x2, vi 1, vi x4, vi x5, vr 85, vr 83] [vi (-12)] _ _
                            exact wp_iret rfl rfl H
                          · replace H := H.2 c107
                            refine wp_iload rfl rfl ?_
                            refine wp_ifltF (tn := 22) rfl rfl c104 ?_
                            refine wp_iload rfl rfl ?_
                            refine wp_aload rfl rfl ?_
                            refine wp_getI (j := 2) rfl (congrArg Prod.fst (kf_83 X.1)) rfl ?_
                            refine wp_iload rfl rfl ?_
                            refine wp_isub rfl ?_
                            have g108 := H.1
                            replace H := H.2
                            refine Wp.topI (y := ((h 83 2) - x5)) (w32_I g108) ?_
                            refine wp_icgt (tn := 22) rfl rfl (fun c109 => ?_) (fun c109 => ?_)
                            · replace H := H.1 c109
                              refine wp_iconst rfl ?_
                              refine wp_zret rfl rfl (by decide) ?_
                              show Wp X _ 28 98 [vr 6, vi 2, vi x2, vi 1, vi x4, vi x5, vr 85, vr 83] [vi 0] _ _
                              refine wp_ifneF (tn := 107) rfl rfl (by decide) ?_
                              refine wp_aload rfl rfl ?_
                              refine wp_iconst rfl ?_
                              refine wp_call (k := 38) (ρ2 := 0) (L2 := [vr 6, vi 2]) rfl rfl rfl (Nat.le_of_ble_eq_true rfl) (Nat.le_of_ble_eq_true rfl) (Nat.le_of_ble_eq_true rfl) (rcv_V rfl (congrArg Prod.fst (kf_6 X.1))) rfl ?_
                              refine wp_aload rfl rfl ?_
                              refine wp_iload rfl rfl ?_
                              refine wp_putI (j := 10) rfl (congrArg Prod.fst (kf_6 X.1)) rfl rfl rfl ?_
                              refine wp_iconst rfl ?_
                              refine wp_iload rfl rfl ?_
                              refine wp_isub rfl ?_
                              refine Wp.topI (y := (-12)) (by decide) ?_
                              refine wp_iret rfl rfl ?_
                              show Wp X _ 28 106 [vr 6, vi 2, vi x2, vi 1, vi x4, vi x5, vr 85, vr 83] [vi (-12)] _ _
                              exact wp_iret rfl rfl H
                            · replace H := H.2 c109
                              refine wp_iconst rfl ?_
                              refine wp_goto (tn := 23) rfl rfl ?_
                              refine wp_zret rfl rfl (by decide) ?_
                              show Wp X _ 28 98 [vr 6, vi 2, vi x2, vi 1, vi x4, vi x5, vr 85, vr 83] [vi 1] _ _
                              refine wp_ifneT (tn := 107) rfl rfl (by decide) ?_
                              refine wp_aload rfl rfl ?_
                              refine wp_aload rfl rfl ?_
                              refine wp_iload rfl rfl ?_
                              refine wp_iload rfl rfl ?_
                              refine wp_iload rfl rfl ?_
                              refine wp_call (k := 229) (ρ2 := 1) (L2 := [vr 83, vr 85, vi x2, vi x4, vi x5]) rfl rfl rfl (Nat.le_of_ble_eq_true rfl) (Nat.le_of_ble_eq_true rfl) (Nat.le_of_ble_eq_true rfl) (rcv_V rfl (congrArg Prod.fst (kf_83 X.1))) rfl ?_
                              refine wp_aload rfl rfl ?_
                              refine wp_iload rfl rfl ?_
                              refine wp_iload rfl rfl ?_
                              refine wp_call (k := 226) (ρ2 := 0) (L2 := [vr 85, vi x2, vi x5]) rfl rfl rfl (Nat.le_of_ble_eq_true rfl) (Nat.le_of_ble_eq_true rfl) (Nat.le_of_ble_eq_true rfl) (rcv_V rfl (congrArg Prod.fst (kf_85 X.1))) rfl ?_
                              refine wp_iload rfl rfl ?_
                              refine wp_ifltF (tn := 22) rfl rfl c103 ?_
                              refine wp_iload rfl rfl ?_
                              refine wp_ifltF (tn := 22) rfl rfl c104 ?_
                              refine wp_iload rfl rfl ?_
                              refine wp_aload rfl rfl ?_
                              refine wp_getI (j := 2) rfl (congrArg Prod.fst (kf_85 X.1)) rfl ?_
                              refine wp_iload rfl rfl ?_
                              refine wp_isub rfl ?_
                              refine Wp.topI (y := ((h 85 2) - x5)) (w32_I g105) ?_
                              refine wp_icgtF (tn := 22) rfl rfl c106 ?_
                              refine wp_iconst rfl ?_
                              refine wp_goto (tn := 23) rfl rfl ?_
                              refine wp_zret rfl rfl (by decide) ?_
                              show Wp X _ 229 7 [vr 83, vr 85, vi x2, vi x4, vi x5] [vi 1] _ _
                              refine wp_ifeqF (tn := 35) rfl rfl (by decide) ?_
                              refine wp_aload rfl rfl ?_
                              refine wp_iload rfl rfl ?_
                              refine wp_iload rfl rfl ?_
                              refine wp_call (k := 226) (ρ2 := 0) (L2 := [vr 83, vi x4, vi x5]) rfl rfl rfl (Nat.le_of_ble_eq_true rfl) (Nat.le_of_ble_eq_true rfl) (Nat.le_of_ble_eq_true rfl) (rcv_V rfl (congrArg Prod.fst (kf_83 X.1))) rfl ?_
                              refine wp_iload rfl rfl ?_
                              refine wp_ifltF (tn := 22) rfl rfl c107 ?_
                              refine wp_iload rfl rfl ?_
                              refine wp_ifltF (tn := 22) rfl rfl c104 ?_
                              refine wp_iload rfl rfl ?_
                              refine wp_aload rfl rfl ?_
                              refine wp_getI (j := 2) rfl (congrArg Prod.fst (kf_83 X.1)) rfl ?_
                              refine wp_iload rfl rfl ?_
                              refine wp_isub rfl ?_
                              refine Wp.topI (y := ((h 83 2) - x5)) (w32_I g108) ?_
                              refine wp_icgtF (tn := 22) rfl rfl c109 ?_
                              refine wp_iconst rfl ?_
                              refine wp_goto (tn := 23) rfl rfl ?_
                              refine wp_zret rfl rfl (by decide) ?_
                              show Wp X _ 229 17 [vr 83, vr 85, vi x2, vi x4, vi x5] [vi 1] _ _
                              refine wp_ifeqF (tn := 35) rfl rfl (by decide) ?_
                              refine wp_aload rfl rfl ?_
                              refine wp_getR (r := 85) rfl (congrArg Prod.fst (kf_85 X.1)) rfl ?_
                              refine wp_iload rfl rfl ?_
                              refine wp_aload rfl rfl ?_
                              refine wp_getR (r := 83) rfl (congrArg Prod.fst (kf_83 X.1)) rfl ?_
                              refine wp_iload rfl rfl ?_
                              refine wp_iload rfl rfl ?_
                              have g110 := H.1
                              replace H := H.2
                              refine wp_copy rfl (kf_86 X.1) (kf_84 X.1) g110 (Nat.le_of_ble_eq_true rfl) ?_
                              refine wp_vret rfl rfl ?_
                              show Wp X _ 28 119 [vr 6, vi 2, vi x2, vi 1, vi x4, vi x5, vr 85, vr 83] [] _ _
                              refine wp_iconst rfl ?_
                              exact wp_iret rfl rfl H
                  · replace H := H.2 c102
                    refine wp_aload rfl rfl ?_
                    refine wp_iconst rfl ?_
                    refine wp_call (k := 38) (ρ2 := 0) (L2 := [vr 6, vi 4]) rfl rfl rfl (Nat.le_of_ble_eq_true rfl) (Nat.le_of_ble_eq_true rfl) (Nat.le_of_ble_eq_true rfl) (rcv_V rfl (congrArg Prod.fst (kf_6 X.1))) rfl ?_
                    refine wp_aload rfl rfl ?_
                    refine wp_iload rfl rfl ?_
                    refine wp_putI (j := 10) rfl (congrArg Prod.fst (kf_6 X.1)) rfl rfl rfl ?_
                    refine wp_iconst rfl ?_
                    refine wp_iload rfl rfl ?_
                    refine wp_isub rfl ?_
                    refine Wp.topI (y := (-14)) (by decide) ?_
                    refine wp_iret rfl rfl ?_
                    show Wp X _ 28 77 [vr 6, vi 2, vi x2, vi 1, vi x4, vi x5, vr 85, vr 83] [vi (-14)] _ _
                    exact wp_iret rfl rfl H
                · replace H := H.2 c101
                  refine wp_iconst rfl ?_
                  refine wp_goto (tn := 13) rfl rfl ?_
                  refine wp_zret rfl rfl (by decide) ?_
                  show Wp X _ 28 50 [vr 6, vi 2, vi x2, vi 1, vi x4, vi x5, vr 85, vr 83] [vi 1] _ _
                  refine wp_ifeqF (tn := 59) rfl rfl (by decide) ?_
                  refine wp_aload rfl rfl ?_
                  refine wp_iconst rfl ?_
                  refine wp_call (k := 38) (ρ2 := 0) (L2 := [vr 6, vi 1]) rfl rfl rfl (Nat.le_of_ble_eq_true rfl) (Nat.le_of_ble_eq_true rfl) (Nat.le_of_ble_eq_true rfl) (rcv_V rfl (congrArg Prod.fst (kf_6 X.1))) rfl ?_
                  refine wp_aload rfl rfl ?_
                  refine wp_iload rfl rfl ?_
                  refine wp_putI (j := 10) rfl (congrArg Prod.fst (kf_6 X.1)) rfl rfl rfl ?_
                  refine wp_iconst rfl ?_
                  refine wp_iload rfl rfl ?_
                  refine wp_isub rfl ?_
                  refine Wp.topI (y := (-11)) (by decide) ?_
                  refine wp_iret rfl rfl ?_
                  show Wp X _ 28 58 [vr 6, vi 2, vi x2, vi 1, vi x4, vi x5, vr 85, vr 83] [vi (-11)] _ _
                  exact wp_iret rfl rfl H
              · replace H := H.2 c100
                refine wp_iconst rfl ?_
                refine wp_goto (tn := 13) rfl rfl ?_
                refine wp_zret rfl rfl (by decide) ?_
                show Wp X _ 28 42 [vr 6, vi 2, vi x2, vi 1, vi x4, vi x5, vr 85, vr 83] [vi 1] _ _
                refine wp_ifneT (tn := 53) rfl rfl (by decide) ?_
                refine wp_aload rfl rfl ?_
                refine wp_iconst rfl ?_
                refine wp_call (k := 38) (ρ2 := 0) (L2 := [vr 6, vi 1]) rfl rfl rfl (Nat.le_of_ble_eq_true rfl) (Nat.le_of_ble_eq_true rfl) (Nat.le_of_ble_eq_true rfl) (rcv_V rfl (congrArg Prod.fst (kf_6 X.1))) rfl ?_
                refine wp_aload rfl rfl ?_
                refine wp_iload rfl rfl ?_
                refine wp_putI (j := 10) rfl (congrArg Prod.fst (kf_6 X.1)) rfl rfl rfl ?_
                refine wp_iconst rfl ?_
                refine wp_iload rfl rfl ?_
                refine wp_isub rfl ?_
                refine Wp.topI (y := (-11)) (by decide) ?_
                refine wp_iret rfl rfl ?_
                show Wp X _ 28 58 [vr 6, vi 2, vi x2, vi 1, vi x4, vi x5, vr 85, vr 83] [vi (-11)] _ _
                exact wp_iret rfl rfl H
            · replace H := H.2.2.1 rfl
              refine wp_aaload (r := 84) rfl (kf_80 X.1) (by decide) (by decide) rfl ?_
              refine wp_astore (L2 := [vr 6, vi 2, vi x2, vi 2, vi x4, vi x5, vr 85, vr 85]) rfl (Nat.le_of_ble_eq_true rfl) rfl ?_
              refine wp_aload rfl rfl ?_
              refine wp_call (k := 220) (ρ2 := 0) (L2 := [vr 85]) rfl rfl rfl (Nat.le_of_ble_eq_true rfl) (Nat.le_of_ble_eq_true rfl) (Nat.le_of_ble_eq_true rfl) (rcv_V rfl (congrArg Prod.fst (kf_85 X.1))) rfl ?_
              refine wp_aload rfl rfl ?_
              refine wp_getI (j := 1) rfl (congrArg Prod.fst (kf_85 X.1)) rfl ?_
              refine wp_iconst rfl ?_
              refine wp_icne (tn := 12) rfl rfl (fun c111 => ?_) (fun c111 => ?_)
              · replace H := H.1 c111
                refine wp_iconst rfl ?_
                refine wp_zret rfl rfl (by decide) ?_
                show Wp X _ 28 42 [vr 6, vi 2, vi x2, vi 2, vi x4, vi x5, vr 85, vr 85] [vi 0] _ _
                refine wp_ifneF (tn := 53) rfl rfl (by decide) ?_
                refine wp_aload rfl rfl ?_
                refine wp_call (k := 220) (ρ2 := 0) (L2 := [vr 85]) rfl rfl rfl (Nat.le_of_ble_eq_true rfl) (Nat.le_of_ble_eq_true rfl) (Nat.le_of_ble_eq_true rfl) (rcv_V rfl (congrArg Prod.fst (kf_85 X.1))) rfl ?_
                refine wp_aload rfl rfl ?_
                refine wp_getI (j := 1) rfl (congrArg Prod.fst (kf_85 X.1)) rfl ?_
                refine wp_iconst rfl ?_
                refine wp_icneT (tn := 12) rfl rfl c111 ?_
                refine wp_iconst rfl ?_
                refine wp_zret rfl rfl (by decide) ?_
                show Wp X _ 28 50 [vr 6, vi 2, vi x2, vi 2, vi x4, vi x5, vr 85, vr 85] [vi 0] _ _
                refine wp_ifeqT (tn := 59) rfl rfl (by decide) ?_
                refine wp_aload rfl rfl ?_
                refine wp_call (k := 221) (ρ2 := 0) (L2 := [vr 85]) rfl rfl rfl (Nat.le_of_ble_eq_true rfl) (Nat.le_of_ble_eq_true rfl) (Nat.le_of_ble_eq_true rfl) (rcv_V rfl (congrArg Prod.fst (kf_85 X.1))) rfl ?_
                refine wp_aload rfl rfl ?_
                refine wp_getI (j := 1) rfl (congrArg Prod.fst (kf_85 X.1)) rfl ?_
                refine wp_iret rfl rfl ?_
                show Wp X _ 28 64 [vr 6, vi 2, vi x2, vi 2, vi x4, vi x5, vr 85, vr 85] [vi (h 85 1)] _ _
                refine wp_aload rfl rfl ?_
                refine wp_call (k := 221) (ρ2 := 0) (L2 := [vr 85]) rfl rfl rfl (Nat.le_of_ble_eq_true rfl) (Nat.le_of_ble_eq_true rfl) (Nat.le_of_ble_eq_true rfl) (rcv_V rfl (congrArg Prod.fst (kf_85 X.1))) rfl ?_
                refine wp_aload rfl rfl ?_
                refine wp_getI (j := 1) rfl (congrArg Prod.fst (kf_85 X.1)) rfl ?_
                refine wp_iret rfl rfl ?_
                show Wp X _ 28 69 [vr 6, vi 2, vi x2, vi 2, vi x4, vi x5, vr 85, vr 85] [vi (h 85 1), vi (h 85 1)] _ _
                refine wp_iceq (tn := 78) rfl rfl (fun c112 => ?_) (fun c112 => ?_)
                · replace H := H.1 c112
                  refine wp_aload rfl rfl ?_
                  refine wp_iload rfl rfl ?_
                  refine wp_iload rfl rfl ?_
                  refine wp_call (k := 226) (ρ2 := 0) (L2 := [vr 85, vi x2, vi x5]) rfl rfl rfl (Nat.le_of_ble_eq_true rfl) (Nat.le_of_ble_eq_true rfl) (Nat.le_of_ble_eq_true rfl) (rcv_V rfl (congrArg Prod.fst (kf_85 X.1))) rfl ?_
                  refine wp_iload rfl rfl ?_
                  refine wp_iflt (tn := 22) rfl rfl (fun c113 => ?_) (fun c113 => ?_)
                  · replace H := H.1 c113
                    refine wp_iconst rfl ?_
                    refine wp_zret rfl rfl (by decide) ?_
                    show Wp X _ 28 86 [vr 6, vi 2, vi x2, vi 2, vi x4, vi x5, vr 85, vr 85] [vi 0] _ _
                    refine wp_ifeqT (tn := 101) rfl rfl (by decide) ?_
                    refine wp_aload rfl rfl ?_
                    refine wp_iconst rfl ?_
                    refine wp_call (k := 38) (ρ2 := 0) (L2 := [vr 6, vi 2]) rfl rfl rfl (Nat.le_of_ble_eq_true rfl) (Nat.le_of_ble_eq_true rfl) (Nat.le_of_ble_eq_true rfl) (rcv_V rfl (congrArg Prod.fst (kf_6 X.1))) rfl ?_
                    refine wp_aload rfl rfl ?_
                    refine wp_iload rfl rfl ?_
                    refine wp_putI (j := 10) rfl (congrArg Prod.fst (kf_6 X.1)) rfl rfl rfl ?_
                    refine wp_iconst rfl ?_
                    refine wp_iload rfl rfl ?_
                    refine wp_isub rfl ?_
                    refine Wp.topI (y := (-12)) (by decide) ?_
                    refine wp_iret rfl rfl ?_
                    show Wp X _ 28 106 [vr 6, vi 2, vi x2, vi 2, vi x4, vi x5, vr 85, vr 85] [vi (-12)] _ _
                    exact wp_iret rfl rfl H
                  · replace H := H.2 c113
                    refine wp_iload rfl rfl ?_
                    refine wp_iflt (tn := 22) rfl rfl (fun c114 => ?_) (fun c114 => ?_)
                    · replace H := H.1 c114
                      refine wp_iconst rfl ?_
                      refine wp_zret rfl rfl (by decide) ?_
                      show Wp X _ 28 86 [vr 6, vi 2, vi x2, vi 2, vi x4, vi x5, vr 85, vr 85] [vi 0] _ _
                      refine wp_ifeqT (tn := 101) rfl rfl (by decide) ?_
                      refine wp_aload rfl rfl ?_
                      refine wp_iconst rfl ?_
                      refine wp_call (k := 38) (ρ2 := 0) (L2 := [vr 6, vi 2]) rfl rfl rfl (Nat.le_of_ble_eq_true rfl) (Nat.le_of_ble_eq_true rfl) (Nat.le_of_ble_eq_true rfl) (rcv_V rfl (congrArg Prod.fst (kf_6 X.1))) rfl ?_
                      refine wp_aload rfl rfl ?_
                      refine wp_iload rfl rfl ?_
                      refine wp_putI (j := 10) rfl (congrArg Prod.fst (kf_6 X.1)) rfl rfl rfl ?_
                      refine wp_iconst rfl ?_
                      refine wp_iload rfl rfl ?_
                      refine wp_isub rfl ?_
                      refine Wp.topI (y := (-12)) (by decide) ?_
                      refine wp_iret rfl rfl ?_
                      show Wp X _ 28 106 [vr 6, vi 2, vi x2, vi 2, vi x4, vi x5, vr 85, vr 85] [vi (-12)] _ _
                      exact wp_iret rfl rfl H
                    · replace H := H.2 c114
                      refine wp_iload rfl rfl ?_
                      refine wp_aload rfl rfl ?_
                      refine wp_getI (j := 2) rfl (congrArg Prod.fst (kf_85 X.1)) rfl ?_
                      refine wp_iload rfl rfl ?_
                      refine wp_isub rfl ?_
                      have g115 := H.1
                      replace H := H.2
                      refine Wp.topI (y := ((h 85 2) - x5)) (w32_I g115) ?_
                      refine wp_icgt (tn := 22) rfl rfl (fun c116 => ?_) (fun c116 => ?_)
                      · replace H := H.1 c116
                        refine wp_iconst rfl ?_
                        refine wp_zret rfl rfl (by decide) ?_
                        show Wp X _ 28 86 [vr 6, vi 2, vi x2, vi 2, vi x4, vi x5, vr 85, vr 85] [vi 0] _ _
                        refine wp_ifeqT (tn := 101) rfl rfl (by decide) ?_
                        refine wp_aload rfl rfl ?_
                        refine wp_iconst rfl ?_
                        refine wp_call (k := 38) (ρ2 := 0) (L2 := [vr 6, vi 2]) rfl rfl rfl (Nat.le_of_ble_eq_true rfl) (Nat.le_of_ble_eq_true rfl) (Nat.le_of_ble_eq_true rfl) (rcv_V rfl (congrArg Prod.fst (kf_6 X.1))) rfl ?_
                        refine wp_aload rfl rfl ?_
                        refine wp_iload rfl rfl ?_
                        refine wp_putI (j := 10) rfl (congrArg Prod.fst (kf_6 X.1)) rfl rfl rfl ?_
                        refine wp_iconst rfl ?_
                        refine wp_iload rfl rfl ?_
                        refine wp_isub rfl ?_
                        refine Wp.topI (y := (-12)) (by decide) ?_
                        refine wp_iret rfl rfl ?_
                        show Wp X _ 28 106 [vr 6, vi 2, vi x2, vi 2, vi x4, vi x5, vr 85, vr 85] [vi (-12)] _ _
                        exact wp_iret rfl rfl H
                      · replace H := H.2 c116
                        refine wp_iconst rfl ?_
                        refine wp_goto (tn := 23) rfl rfl ?_
                        refine wp_zret rfl rfl (by decide) ?_
                        show Wp X _ 28 86 [vr 6, vi 2, vi x2, vi 2, vi x4, vi x5, vr 85, vr 85] [vi 1] _ _
                        refine wp_ifeqF (tn := 101) rfl rfl (by decide) ?_
                        refine wp_aload rfl rfl ?_
                        refine wp_iload rfl rfl ?_
                        refine wp_iload rfl rfl ?_
                        refine wp_call (k := 226) (ρ2 := 0) (L2 := [vr 85, vi x4, vi x5]) rfl rfl rfl (Nat.le_of_ble_eq_true rfl) (Nat.le_of_ble_eq_true rfl) (Nat.le_of_ble_eq_true rfl) (rcv_V rfl (congrArg Prod.fst (kf_85 X.1))) rfl ?_
                        refine wp_iload rfl rfl ?_
                        refine wp_iflt (tn := 22) rfl rfl (fun c117 => ?_) (fun c117 => ?_)
                        · replace H := H.1 c117
                          refine wp_iconst rfl ?_
                          refine wp_zret rfl rfl (by decide) ?_
                          show Wp X _ 28 98 [vr 6, vi 2, vi x2, vi 2, vi x4, vi x5, vr 85, vr 85] [vi 0] _ _
                          refine wp_ifneF (tn := 107) rfl rfl (by decide) ?_
                          refine wp_aload rfl rfl ?_
                          refine wp_iconst rfl ?_
                          refine wp_call (k := 38) (ρ2 := 0) (L2 := [vr 6, vi 2]) rfl rfl rfl (Nat.le_of_ble_eq_true rfl) (Nat.le_of_ble_eq_true rfl) (Nat.le_of_ble_eq_true rfl) (rcv_V rfl (congrArg Prod.fst (kf_6 X.1))) rfl ?_
                          refine wp_aload rfl rfl ?_
                          refine wp_iload rfl rfl ?_
                          refine wp_putI (j := 10) rfl (congrArg Prod.fst (kf_6 X.1)) rfl rfl rfl ?_
                          refine wp_iconst rfl ?_
                          refine wp_iload rfl rfl ?_
                          refine wp_isub rfl ?_
                          refine Wp.topI (y := (-12)) (by decide) ?_
                          refine wp_iret rfl rfl ?_
                          show Wp X _ 28 106 [vr 6, vi 2, vi x2, vi 2, vi x4, vi x5, vr 85, vr 85] [vi (-12)] _ _
                          exact wp_iret rfl rfl H
                        · replace H := H.2 c117
                          refine wp_iload rfl rfl ?_
                          refine wp_ifltF (tn := 22) rfl rfl c114 ?_
                          refine wp_iload rfl rfl ?_
                          refine wp_aload rfl rfl ?_
                          refine wp_getI (j := 2) rfl (congrArg Prod.fst (kf_85 X.1)) rfl ?_
                          refine wp_iload rfl rfl ?_
                          refine wp_isub rfl ?_
                          refine Wp.topI (y := ((h 85 2) - x5)) (w32_I g115) ?_
                          refine wp_icgt (tn := 22) rfl rfl (fun c118 => ?_) (fun c118 => ?_)
                          · replace H := H.1 c118
                            refine wp_iconst rfl ?_
                            refine wp_zret rfl rfl (by decide) ?_
                            show Wp X _ 28 98 [vr 6, vi 2, vi x2, vi 2, vi x4, vi x5, vr 85, vr 85] [vi 0] _ _
                            refine wp_ifneF (tn := 107) rfl rfl (by decide) ?_
                            refine wp_aload rfl rfl ?_
                            refine wp_iconst rfl ?_
                            refine wp_call (k := 38) (ρ2 := 0) (L2 := [vr 6, vi 2]) rfl rfl rfl (Nat.le_of_ble_eq_true rfl) (Nat.le_of_ble_eq_true rfl) (Nat.le_of_ble_eq_true rfl) (rcv_V rfl (congrArg Prod.fst (kf_6 X.1))) rfl ?_
                            refine wp_aload rfl rfl ?_
                            refine wp_iload rfl rfl ?_
                            refine wp_putI (j := 10) rfl (congrArg Prod.fst (kf_6 X.1)) rfl rfl rfl ?_
                            refine wp_iconst rfl ?_
                            refine wp_iload rfl rfl ?_
                            refine wp_isub rfl ?_
                            refine Wp.topI (y := (-12)) (by decide) ?_
                            refine wp_iret rfl rfl ?_
                            show Wp X _ 28 106 [vr 6, vi 2, vi x2, vi 2, vi x4, vi x5, vr 85, vr 85] [vi (-12)] _ _
                            exact wp_iret rfl rfl H
                          · replace H := H.2 c118
                            refine wp_iconst rfl ?_
                            refine wp_goto (tn := 23) rfl rfl ?_
                            refine wp_zret rfl rfl (by decide) ?_
                            show Wp X _ 28 98 [vr 6, vi 2, vi x2, vi 2, vi x4, vi x5, vr 85, vr 85] [vi 1] _ _
                            refine wp_ifneT (tn := 107) rfl rfl (by decide) ?_
                            refine wp_aload rfl rfl ?_
                            refine wp_aload rfl rfl ?_
                            refine wp_iload rfl rfl ?_
                            refine wp_iload rfl rfl ?_
                            refine wp_iload rfl rfl ?_
                            refine wp_call (k := 229) (ρ2 := 1) (L2 := [vr 85, vr 85, vi x2, vi x4, vi x5]) rfl rfl rfl (Nat.le_of_ble_eq_true rfl) (Nat.le_of_ble_eq_true rfl) (Nat.le_of_ble_eq_true rfl) (rcv_V rfl (congrArg Prod.fst (kf_85 X.1))) rfl ?_
                            refine wp_aload rfl rfl ?_
                            refine wp_iload rfl rfl ?_
                            refine wp_iload rfl rfl ?_
                            refine wp_call (k := 226) (ρ2 := 0) (L2 := [vr 85, vi x2, vi x5]) rfl rfl rfl (Nat.le_of_ble_eq_true rfl) (Nat.le_of_ble_eq_true rfl) (Nat.le_of_ble_eq_true rfl) (rcv_V rfl (congrArg Prod.fst (kf_85 X.1))) rfl ?_
                            refine wp_iload rfl rfl ?_
                            refine wp_ifltF (tn := 22) rfl rfl c113 ?_
                            refine wp_iload rfl rfl ?_
                            refine wp_ifltF (tn := 22) rfl rfl c114 ?_
                            refine wp_iload rfl rfl ?_
                            refine wp_aload rfl rfl ?_
                            refine wp_getI (j := 2) rfl (congrArg Prod.fst (kf_85 X.1)) rfl ?_
                            refine wp_iload rfl rfl ?_
                            refine wp_isub rfl ?_
                            refine Wp.topI (y := ((h 85 2) - x5)) (w32_I g115) ?_
                            refine wp_icgtF (tn := 22) rfl rfl c116 ?_
                            refine wp_iconst rfl ?_
                            refine wp_goto (tn := 23) rfl rfl ?_
                            refine wp_zret rfl rfl (by decide) ?_
                            show Wp X _ 229 7 [vr 85, vr 85, vi x2, vi x4, vi x5] [vi 1] _ _
                            refine wp_ifeqF (tn := 35) rfl rfl (by decide) ?_
                            refine wp_aload rfl rfl ?_
                            refine wp_iload rfl rfl ?_
                            refine wp_iload rfl rfl ?_
                            refine wp_call (k := 226) (ρ2 := 0) (L2 := [vr 85, vi x4, vi x5]) rfl rfl rfl (Nat.le_of_ble_eq_true rfl) (Nat.le_of_ble_eq_true rfl) (Nat.le_of_ble_eq_true rfl) (rcv_V rfl (congrArg Prod.fst (kf_85 X.1))) rfl ?_
                            refine wp_iload rfl rfl ?_
                            refine wp_ifltF (tn := 22) rfl rfl c117 ?_
                            refine wp_iload rfl rfl ?_
                            refine wp_ifltF (tn := 22) rfl rfl c114 ?_
                            refine wp_iload rfl rfl ?_
                            refine wp_aload rfl rfl ?_
                            refine wp_getI (j := 2) rfl (congrArg Prod.fst (kf_85 X.1)) rfl ?_
                            refine wp_iload rfl rfl ?_
                            refine wp_isub rfl ?_
                            refine Wp.topI (y := ((h 85 2) - x5)) (w32_I g115) ?_
                            refine wp_icgtF (tn := 22) rfl rfl c118 ?_
                            refine wp_iconst rfl ?_
                            refine wp_goto (tn := 23) rfl rfl ?_
                            refine wp_zret rfl rfl (by decide) ?_
                            show Wp X _ 229 17 [vr 85, vr 85, vi x2, vi x4, vi x5] [vi 1] _ _
                            refine wp_ifeqF (tn := 35) rfl rfl (by decide) ?_
                            refine wp_aload rfl rfl ?_
                            refine wp_getR (r := 85) rfl (congrArg Prod.fst (kf_85 X.1)) rfl ?_
                            refine wp_iload rfl rfl ?_
                            refine wp_aload rfl rfl ?_
                            refine wp_getR (r := 85) rfl (congrArg Prod.fst (kf_85 X.1)) rfl ?_
                            refine wp_iload rfl rfl ?_
                            refine wp_iload rfl rfl ?_
                            have g119 := H.1
                            replace H := H.2
                            refine wp_copy rfl (kf_86 X.1) (kf_86 X.1) g119 (Nat.le_of_ble_eq_true rfl) ?_
                            refine wp_vret rfl rfl ?_
                            show Wp X _ 28 119 [vr 6, vi 2, vi x2, vi 2, vi x4, vi x5, vr 85, vr 85] [] _ _
                            refine wp_iconst rfl ?_
                            exact wp_iret rfl rfl H
                · replace H := H.2 c112
                  refine wp_aload rfl rfl ?_
                  refine wp_iconst rfl ?_
                  refine wp_call (k := 38) (ρ2 := 0) (L2 := [vr 6, vi 4]) rfl rfl rfl (Nat.le_of_ble_eq_true rfl) (Nat.le_of_ble_eq_true rfl) (Nat.le_of_ble_eq_true rfl) (rcv_V rfl (congrArg Prod.fst (kf_6 X.1))) rfl ?_
                  refine wp_aload rfl rfl ?_
                  refine wp_iload rfl rfl ?_
                  refine wp_putI (j := 10) rfl (congrArg Prod.fst (kf_6 X.1)) rfl rfl rfl ?_
                  refine wp_iconst rfl ?_
                  refine wp_iload rfl rfl ?_
                  refine wp_isub rfl ?_
                  refine Wp.topI (y := (-14)) (by decide) ?_
                  refine wp_iret rfl rfl ?_
                  show Wp X _ 28 77 [vr 6, vi 2, vi x2, vi 2, vi x4, vi x5, vr 85, vr 85] [vi (-14)] _ _
                  exact wp_iret rfl rfl H
              · replace H := H.2 c111
                refine wp_iconst rfl ?_
                refine wp_goto (tn := 13) rfl rfl ?_
                refine wp_zret rfl rfl (by decide) ?_
                show Wp X _ 28 42 [vr 6, vi 2, vi x2, vi 2, vi x4, vi x5, vr 85, vr 85] [vi 1] _ _
                refine wp_ifneT (tn := 53) rfl rfl (by decide) ?_
                refine wp_aload rfl rfl ?_
                refine wp_iconst rfl ?_
                refine wp_call (k := 38) (ρ2 := 0) (L2 := [vr 6, vi 1]) rfl rfl rfl (Nat.le_of_ble_eq_true rfl) (Nat.le_of_ble_eq_true rfl) (Nat.le_of_ble_eq_true rfl) (rcv_V rfl (congrArg Prod.fst (kf_6 X.1))) rfl ?_
                refine wp_aload rfl rfl ?_
                refine wp_iload rfl rfl ?_
                refine wp_putI (j := 10) rfl (congrArg Prod.fst (kf_6 X.1)) rfl rfl rfl ?_
                refine wp_iconst rfl ?_
                refine wp_iload rfl rfl ?_
                refine wp_isub rfl ?_
                refine Wp.topI (y := (-11)) (by decide) ?_
                refine wp_iret rfl rfl ?_
                show Wp X _ 28 58 [vr 6, vi 2, vi x2, vi 2, vi x4, vi x5, vr 85, vr 85] [vi (-11)] _ _
                exact wp_iret rfl rfl H
            · replace H := H.2.2.2 rfl
              refine wp_aaload (r := 86) rfl (kf_80 X.1) (by decide) (by decide) rfl ?_
              refine wp_astore (L2 := [vr 6, vi 2, vi x2, vi 3, vi x4, vi x5, vr 85, vr 87]) rfl (Nat.le_of_ble_eq_true rfl) rfl ?_
              refine wp_aload rfl rfl ?_
              refine wp_call (k := 220) (ρ2 := 0) (L2 := [vr 85]) rfl rfl rfl (Nat.le_of_ble_eq_true rfl) (Nat.le_of_ble_eq_true rfl) (Nat.le_of_ble_eq_true rfl) (rcv_V rfl (congrArg Prod.fst (kf_85 X.1))) rfl ?_
              refine wp_aload rfl rfl ?_
              refine wp_getI (j := 1) rfl (congrArg Prod.fst (kf_85 X.1)) rfl ?_
              refine wp_iconst rfl ?_
              refine wp_icne (tn := 12) rfl rfl (fun c120 => ?_) (fun c120 => ?_)
              · replace H := H.1 c120
                refine wp_iconst rfl ?_
                refine wp_zret rfl rfl (by decide) ?_
                show Wp X _ 28 42 [vr 6, vi 2, vi x2, vi 3, vi x4, vi x5, vr 85, vr 87] [vi 0] _ _
                refine wp_ifneF (tn := 53) rfl rfl (by decide) ?_
                refine wp_aload rfl rfl ?_
                refine wp_call (k := 220) (ρ2 := 0) (L2 := [vr 87]) rfl rfl rfl (Nat.le_of_ble_eq_true rfl) (Nat.le_of_ble_eq_true rfl) (Nat.le_of_ble_eq_true rfl) (rcv_V rfl (congrArg Prod.fst (kf_87 X.1))) rfl ?_
                refine wp_aload rfl rfl ?_
                refine wp_getI (j := 1) rfl (congrArg Prod.fst (kf_87 X.1)) rfl ?_
                refine wp_iconst rfl ?_
                refine wp_icne (tn := 12) rfl rfl (fun c121 => ?_) (fun c121 => ?_)
                · replace H := H.1 c121
                  refine wp_iconst rfl ?_
                  refine wp_zret rfl rfl (by decide) ?_
                  show Wp X _ 28 50 [vr 6, vi 2, vi x2, vi 3, vi x4, vi x5, vr 85, vr 87] [vi 0] _ _
                  refine wp_ifeqT (tn := 59) rfl rfl (by decide) ?_
                  refine wp_aload rfl rfl ?_
                  refine wp_call (k := 221) (ρ2 := 0) (L2 := [vr 85]) rfl rfl rfl (Nat.le_of_ble_eq_true rfl) (Nat.le_of_ble_eq_true rfl) (Nat.le_of_ble_eq_true rfl) (rcv_V rfl (congrArg Prod.fst (kf_85 X.1))) rfl ?_
                  refine wp_aload rfl rfl ?_
                  refine wp_getI (j := 1) rfl (congrArg Prod.fst (kf_85 X.1)) rfl ?_
                  refine wp_iret rfl rfl ?_
                  show Wp X _ 28 64 [vr 6, vi 2, vi x2, vi 3, vi x4, vi x5, vr 85, vr 87] [vi (h 85 1)] _ _
                  refine wp_aload rfl rfl ?_
                  refine wp_call (k := 221) (ρ2 := 0) (L2 := [vr 87]) rfl rfl rfl (Nat.le_of_ble_eq_true rfl) (Nat.le_of_ble_eq_true rfl) (Nat.le_of_ble_eq_true rfl) (rcv_V rfl (congrArg Prod.fst (kf_87 X.1))) rfl ?_
                  refine wp_aload rfl rfl ?_
                  refine wp_getI (j := 1) rfl (congrArg Prod.fst (kf_87 X.1)) rfl ?_
                  refine wp_iret rfl rfl ?_
                  show Wp X _ 28 69 [vr 6, vi 2, vi x2, vi 3, vi x4, vi x5, vr 85, vr 87] [vi (h 87 1), vi (h 85 1)] _ _
                  refine wp_iceq (tn := 78) rfl rfl (fun c122 => ?_) (fun c122 => ?_)
                  · replace H := H.1 c122
                    refine wp_aload rfl rfl ?_
                    refine wp_iload rfl rfl ?_
                    refine wp_iload rfl rfl ?_
                    refine wp_call (k := 226) (ρ2 := 0) (L2 := [vr 85, vi x2, vi x5]) rfl rfl rfl (Nat.le_of_ble_eq_true rfl) (Nat.le_of_ble_eq_true rfl) (Nat.le_of_ble_eq_true rfl) (rcv_V rfl (congrArg Prod.fst (kf_85 X.1))) rfl ?_
                    refine wp_iload rfl rfl ?_
                    refine wp_iflt (tn := 22) rfl rfl (fun c123 => ?_) (fun c123 => ?_)
                    · replace H := H.1 c123
                      refine wp_iconst rfl ?_
                      refine wp_zret rfl rfl (by decide) ?_
                      show Wp X _ 28 86 [vr 6, vi 2, vi x2, vi 3, vi x4, vi x5, vr 85, vr 87] [vi 0] _ _
                      refine wp_ifeqT (tn := 101) rfl rfl (by decide) ?_
                      refine wp_aload rfl rfl ?_
                      refine wp_iconst rfl ?_
                      refine wp_call (k := 38) (ρ2 := 0) (L2 := [vr 6, vi 2]) rfl rfl rfl (Nat.le_of_ble_eq_true rfl) (Nat.le_of_ble_eq_true rfl) (Nat.le_of_ble_eq_true rfl) (rcv_V rfl (congrArg Prod.fst (kf_6 X.1))) rfl ?_
                      refine wp_aload rfl rfl ?_
                      refine wp_iload rfl rfl ?_
                      refine wp_putI (j := 10) rfl (congrArg Prod.fst (kf_6 X.1)) rfl rfl rfl ?_
                      refine wp_iconst rfl ?_
                      refine wp_iload rfl rfl ?_
                      refine wp_isub rfl ?_
                      refine Wp.topI (y := (-12)) (by decide) ?_
                      refine wp_iret rfl rfl ?_
                      show Wp X _ 28 106 [vr 6, vi 2, vi x2, vi 3, vi x4, vi x5, vr 85, vr 87] [vi (-12)] _ _
                      exact wp_iret rfl rfl H
                    · replace H := H.2 c123
                      refine wp_iload rfl rfl ?_
                      refine wp_iflt (tn := 22) rfl rfl (fun c124 => ?_) (fun c124 => ?_)
                      · replace H := H.1 c124
                        refine wp_iconst rfl ?_
                        refine wp_zret rfl rfl (by decide) ?_
                        show Wp X _ 28 86 [vr 6, vi 2, vi x2, vi 3, vi x4, vi x5, vr 85, vr 87] [vi 0] _ _
                        refine wp_ifeqT (tn := 101) rfl rfl (by decide) ?_
                        refine wp_aload rfl rfl ?_
                        refine wp_iconst rfl ?_
                        refine wp_call (k := 38) (ρ2 := 0) (L2 := [vr 6, vi 2]) rfl rfl rfl (Nat.le_of_ble_eq_true rfl) (Nat.le_of_ble_eq_true rfl) (Nat.le_of_ble_eq_true rfl) (rcv_V rfl (congrArg Prod.fst (kf_6 X.1))) rfl ?_
                        refine wp_aload rfl rfl ?_
                        refine wp_iload rfl rfl ?_
                        refine wp_putI (j := 10) rfl (congrArg Prod.fst (kf_6 X.1)) rfl rfl rfl ?_
                        refine wp_iconst rfl ?_
                        refine wp_iload rfl rfl ?_
                        refine wp_isub rfl ?_
                        refine Wp.topI (y := (-12)) (by decide) ?_
                        refine wp_iret rfl rfl ?_
                        show Wp X _ 28 106 [vr 6, vi 2, vi x2, vi 3, vi x4, vi x5, vr 85, vr 87] [vi (-12)] _ _
                        exact wp_iret rfl rfl H
                      · replace H := H.2 c124
                        refine wp_iload rfl rfl ?_
                        refine wp_aload rfl rfl ?_
                        refine wp_getI (j := 2) rfl (congrArg Prod.fst (kf_85 X.1)) rfl ?_
                        refine wp_iload rfl rfl ?_
                        refine wp_isub rfl ?_
                        have g125 := H.1
                        replace H := H.2
                        refine Wp.topI (y := ((h 85 2) - x5)) (w32_I g125) ?_
                        refine wp_icgt (tn := 22) rfl rfl (fun c126 => ?_) (fun c126 => ?_)
                        · replace H := H.1 c126
                          refine wp_iconst rfl ?_
                          refine wp_zret rfl rfl (by decide) ?_
                          show Wp X _ 28 86 [vr 6, vi 2, vi x2, vi 3, vi x4, vi x5, vr 85, vr 87] [vi 0] _ _
                          refine wp_ifeqT (tn := 101) rfl rfl (by decide) ?_
                          refine wp_aload rfl rfl ?_
                          refine wp_iconst rfl ?_
                          refine wp_call (k := 38) (ρ2 := 0) (L2 := [vr 6, vi 2]) rfl rfl rfl (Nat.le_of_ble_eq_true rfl) (Nat.le_of_ble_eq_true rfl) (Nat.le_of_ble_eq_true rfl) (rcv_V rfl (congrArg Prod.fst (kf_6 X.1))) rfl ?_
                          refine wp_aload rfl rfl ?_
                          refine wp_iload rfl rfl ?_
                          refine wp_putI (j := 10) rfl (congrArg Prod.fst (kf_6 X.1)) rfl rfl rfl ?_
                          refine wp_iconst rfl ?_
                          refine wp_iload rfl rfl ?_
                          refine wp_isub rfl ?_
                          refine Wp.topI (y := (-12)) (by decide) ?_
                          refine wp_iret rfl rfl ?_
                          show Wp X _ 28 106 [vr 6, vi 2, vi x2, vi 3, vi x4, vi x5, vr 85, vr 87] [vi (-12)] _ _
                          exact wp_iret rfl rfl H
                        · replace H := H.2 c126
                          refine wp_iconst rfl ?_
                          refine wp_goto (tn := 23) rfl rfl ?_
                          refine wp_zret rfl rfl (by decide) ?_
                          show Wp X _ 28 86 [vr 6, vi 2, vi x2, vi 3, vi x4, vi x5, vr 85, vr 87] [vi 1] _ _
                          refine wp_ifeqF (tn := 101) rfl rfl (by decide) ?_
                          refine wp_aload rfl rfl ?_
                          refine wp_iload rfl rfl ?_
                          refine wp_iload rfl rfl ?_
                          refine wp_call (k := 226) (ρ2 := 0) (L2 := [vr 87, vi x4, vi x5]) rfl rfl rfl (Nat.le_of_ble_eq_true rfl) (Nat.le_of_ble_eq_true rfl) (Nat.le_of_ble_eq_true rfl) (rcv_V rfl (congrArg Prod.fst (kf_87 X.1))) rfl ?_
                          refine wp_iload rfl rfl ?_
                          refine wp_iflt (tn := 22) rfl rfl (fun c127 => ?_) (fun c127 => ?_)
                          · replace H := H.1 c127
                            refine wp_iconst rfl ?_
                            refine wp_zret rfl rfl (by decide) ?_
                            show Wp X _ 28 98 [vr 6, vi 2, vi x2, vi 3, vi x4, vi x5, vr 85, vr 87] [vi 0] _ _
                            refine wp_ifneF (tn := 107) rfl rfl (by decide) ?_
                            refine wp_aload rfl rfl ?_
                            refine wp_iconst rfl ?_
                            refine wp_call (k := 38) (ρ2 := 0) (L2 := [vr 6, vi 2]) rfl rfl rfl (Nat.le_of_ble_eq_true rfl) (Nat.le_of_ble_eq_true rfl) (Nat.le_of_ble_eq_true rfl) (rcv_V rfl (congrArg Prod.fst (kf_6 X.1))) rfl ?_
                            refine wp_aload rfl rfl ?_
                            refine wp_iload rfl rfl ?_
                            refine wp_putI (j := 10) rfl (congrArg Prod.fst (kf_6 X.1)) rfl rfl rfl ?_
                            refine wp_iconst rfl ?_
                            refine wp_iload rfl rfl ?_
                            refine wp_isub rfl ?_
                            refine Wp.topI (y := (-12)) (by decide) ?_
                            refine wp_iret rfl rfl ?_
                            show Wp X _ 28 106 [vr 6, vi 2, vi x2, vi 3, vi x4, vi x5, vr 85, vr 87] [vi (-12)] _ _
                            exact wp_iret rfl rfl H
                          · replace H := H.2 c127
                            refine wp_iload rfl rfl ?_
                            refine wp_ifltF (tn := 22) rfl rfl c124 ?_
                            refine wp_iload rfl rfl ?_
                            refine wp_aload rfl rfl ?_
                            refine wp_getI (j := 2) rfl (congrArg Prod.fst (kf_87 X.1)) rfl ?_
                            refine wp_iload rfl rfl ?_
                            refine wp_isub rfl ?_
                            have g128 := H.1
                            replace H := H.2
                            refine Wp.topI (y := ((h 87 2) - x5)) (w32_I g128) ?_
                            refine wp_icgt (tn := 22) rfl rfl (fun c129 => ?_) (fun c129 => ?_)
                            · replace H := H.1 c129
                              refine wp_iconst rfl ?_
                              refine wp_zret rfl rfl (by decide) ?_
                              show Wp X _ 28 98 [vr 6, vi 2, vi x2, vi 3, vi x4, vi x5, vr 85, vr 87] [vi 0] _ _
                              refine wp_ifneF (tn := 107) rfl rfl (by decide) ?_
                              refine wp_aload rfl rfl ?_
                              refine wp_iconst rfl ?_
                              refine wp_call (k := 38) (ρ2 := 0) (L2 := [vr 6, vi 2]) rfl rfl rfl (Nat.le_of_ble_eq_true rfl) (Nat.le_of_ble_eq_true rfl) (Nat.le_of_ble_eq_true rfl) (rcv_V rfl (congrArg Prod.fst (kf_6 X.1))) rfl ?_
                              refine wp_aload rfl rfl ?_
                              refine wp_iload rfl rfl ?_
                              refine wp_putI (j := 10) rfl (congrArg Prod.fst (kf_6 X.1)) rfl rfl rfl ?_
                              refine wp_iconst rfl ?_
                              refine wp_iload rfl rfl ?_
                              refine wp_isub rfl ?_
                              refine Wp.topI (y := (-12)) (by decide) ?_
                              refine wp_iret rfl rfl ?_
                              show Wp X _ 28 106 [vr 6, vi 2, vi x2, vi 3, vi x4, vi x5, vr 85, vr 87] [vi (-12)] _ _
                              exact wp_iret rfl rfl H
                            · replace H := H.2 c129
                              refine wp_iconst rfl ?_
                              refine wp_goto (tn := 23) rfl rfl ?_
                              refine wp_zret rfl rfl (by decide) ?_
                              show Wp X _ 28 98 [vr 6, vi 2, vi x2, vi 3, vi x4, vi x5, vr 85, vr 87] [vi 1] _ _
                              refine wp_ifneT (tn := 107) rfl rfl (by decide) ?_
                              refine wp_aload rfl rfl ?_
                              refine wp_aload rfl rfl ?_
                              refine wp_iload rfl rfl ?_
                              refine wp_iload rfl rfl ?_
                              refine wp_iload rfl rfl ?_
                              refine wp_call (k := 229) (ρ2 := 1) (L2 := [vr 87, vr 85, vi x2, vi x4, vi x5]) rfl rfl rfl (Nat.le_of_ble_eq_true rfl) (Nat.le_of_ble_eq_true rfl) (Nat.le_of_ble_eq_true rfl) (rcv_V rfl (congrArg Prod.fst (kf_87 X.1))) rfl ?_
                              refine wp_aload rfl rfl ?_
                              refine wp_iload rfl rfl ?_
                              refine wp_iload rfl rfl ?_
                              refine wp_call (k := 226) (ρ2 := 0) (L2 := [vr 85, vi x2, vi x5]) rfl rfl rfl (Nat.le_of_ble_eq_true rfl) (Nat.le_of_ble_eq_true rfl) (Nat.le_of_ble_eq_true rfl) (rcv_V rfl (congrArg Prod.fst (kf_85 X.1))) rfl ?_
                              refine wp_iload rfl rfl ?_
                              refine wp_ifltF (tn := 22) rfl rfl c123 ?_
                              refine wp_iload rfl rfl ?_
                              refine wp_ifltF (tn := 22) rfl rfl c124 ?_
                              refine wp_iload rfl rfl ?_
                              refine wp_aload rfl rfl ?_
                              refine wp_getI (j := 2) rfl (congrArg Prod.fst (kf_85 X.1)) rfl ?_
                              refine wp_iload rfl rfl ?_
                              refine wp_isub rfl ?_
                              refine Wp.topI (y := ((h 85 2) - x5)) (w32_I g125) ?_
                              refine wp_icgtF (tn := 22) rfl rfl c126 ?_
                              refine wp_iconst rfl ?_
                              refine wp_goto (tn := 23) rfl rfl ?_
                              refine wp_zret rfl rfl (by decide) ?_
                              show Wp X _ 229 7 [vr 87, vr 85, vi x2, vi x4, vi x5] [vi 1] _ _
                              refine wp_ifeqF (tn := 35) rfl rfl (by decide) ?_
                              refine wp_aload rfl rfl ?_
                              refine wp_iload rfl rfl ?_
                              refine wp_iload rfl rfl ?_
                              refine wp_call (k := 226) (ρ2 := 0) (L2 := [vr 87, vi x4, vi x5]) rfl rfl rfl (Nat.le_of_ble_eq_true rfl) (Nat.le_of_ble_eq_true rfl) (Nat.le_of_ble_eq_true rfl) (rcv_V rfl (congrArg Prod.fst (kf_87 X.1))) rfl ?_
                              refine wp_iload rfl rfl ?_
                              refine wp_ifltF (tn := 22) rfl rfl c127 ?_
                              refine wp_iload rfl rfl ?_
                              refine wp_ifltF (tn := 22) rfl rfl c124 ?_
                              refine wp_iload rfl rfl ?_
                              refine wp_aload rfl rfl ?_
                              refine wp_getI (j := 2) rfl (congrArg Prod.fst (kf_87 X.1)) rfl ?_
                              refine wp_iload rfl rfl ?_
                              refine wp_isub rfl ?_
                              refine Wp.topI (y := ((h 87 2) - x5)) (w32_I g128) ?_
                              refine wp_icgtF (tn := 22) rfl rfl c129 ?_
                              refine wp_iconst rfl ?_
                              refine wp_goto (tn := 23) rfl rfl ?_
                              refine wp_zret rfl rfl (by decide) ?_
                              show Wp X _ 229 17 [vr 87, vr 85, vi x2, vi x4, vi x5] [vi 1] _ _
                              refine wp_ifeqF (tn := 35) rfl rfl (by decide) ?_
                              refine wp_aload rfl rfl ?_
                              refine wp_getR (r := 85) rfl (congrArg Prod.fst (kf_85 X.1)) rfl ?_
                              refine wp_iload rfl rfl ?_
                              refine wp_aload rfl rfl ?_
                              refine wp_getR (r := 87) rfl (congrArg Prod.fst (kf_87 X.1)) rfl ?_
                              refine wp_iload rfl rfl ?_
                              refine wp_iload rfl rfl ?_
                              have g130 := H.1
                              replace H := H.2
                              refine wp_copy rfl (kf_86 X.1) (kf_88 X.1) g130 (Nat.le_of_ble_eq_true rfl) ?_
                              refine wp_vret rfl rfl ?_
                              show Wp X _ 28 119 [vr 6, vi 2, vi x2, vi 3, vi x4, vi x5, vr 85, vr 87] [] _ _
                              refine wp_iconst rfl ?_
                              exact wp_iret rfl rfl H
                  · replace H := H.2 c122
                    refine wp_aload rfl rfl ?_
                    refine wp_iconst rfl ?_
                    refine wp_call (k := 38) (ρ2 := 0) (L2 := [vr 6, vi 4]) rfl rfl rfl (Nat.le_of_ble_eq_true rfl) (Nat.le_of_ble_eq_true rfl) (Nat.le_of_ble_eq_true rfl) (rcv_V rfl (congrArg Prod.fst (kf_6 X.1))) rfl ?_
                    refine wp_aload rfl rfl ?_
                    refine wp_iload rfl rfl ?_
                    refine wp_putI (j := 10) rfl (congrArg Prod.fst (kf_6 X.1)) rfl rfl rfl ?_
                    refine wp_iconst rfl ?_
                    refine wp_iload rfl rfl ?_
                    refine wp_isub rfl ?_
                    refine Wp.topI (y := (-14)) (by decide) ?_
                    refine wp_iret rfl rfl ?_
                    show Wp X _ 28 77 [vr 6, vi 2, vi x2, vi 3, vi x4, vi x5, vr 85, vr 87] [vi (-14)] _ _
                    exact wp_iret rfl rfl H
                · replace H := H.2 c121
                  refine wp_iconst rfl ?_
                  refine wp_goto (tn := 13) rfl rfl ?_
                  refine wp_zret rfl rfl (by decide) ?_
                  show Wp X _ 28 50 [vr 6, vi 2, vi x2, vi 3, vi x4, vi x5, vr 85, vr 87] [vi 1] _ _
                  refine wp_ifeqF (tn := 59) rfl rfl (by decide) ?_
                  refine wp_aload rfl rfl ?_
                  refine wp_iconst rfl ?_
                  refine wp_call (k := 38) (ρ2 := 0) (L2 := [vr 6, vi 1]) rfl rfl rfl (Nat.le_of_ble_eq_true rfl) (Nat.le_of_ble_eq_true rfl) (Nat.le_of_ble_eq_true rfl) (rcv_V rfl (congrArg Prod.fst (kf_6 X.1))) rfl ?_
                  refine wp_aload rfl rfl ?_
                  refine wp_iload rfl rfl ?_
                  refine wp_putI (j := 10) rfl (congrArg Prod.fst (kf_6 X.1)) rfl rfl rfl ?_
                  refine wp_iconst rfl ?_
                  refine wp_iload rfl rfl ?_
                  refine wp_isub rfl ?_
                  refine Wp.topI (y := (-11)) (by decide) ?_
                  refine wp_iret rfl rfl ?_
                  show Wp X _ 28 58 [vr 6, vi 2, vi x2, vi 3, vi x4, vi x5, vr 85, vr 87] [vi (-11)] _ _
                  exact wp_iret rfl rfl H
              · replace H := H.2 c120
                refine wp_iconst rfl ?_
                refine wp_goto (tn := 13) rfl rfl ?_
                refine wp_zret rfl rfl (by decide) ?_
                show Wp X _ 28 42 [vr 6, vi 2, vi x2, vi 3, vi x4, vi x5, vr 85, vr 87] [vi 1] _ _
                refine wp_ifneT (tn := 53) rfl rfl (by decide) ?_
                refine wp_aload rfl rfl ?_
                refine wp_iconst rfl ?_
                refine wp_call (k := 38) (ρ2 := 0) (L2 := [vr 6, vi 1]) rfl rfl rfl (Nat.le_of_ble_eq_true rfl) (Nat.le_of_ble_eq_true rfl) (Nat.le_of_ble_eq_true rfl) (rcv_V rfl (congrArg Prod.fst (kf_6 X.1))) rfl ?_
                refine wp_aload rfl rfl ?_
                refine wp_iload rfl rfl ?_
                refine wp_putI (j := 10) rfl (congrArg Prod.fst (kf_6 X.1)) rfl rfl rfl ?_
                refine wp_iconst rfl ?_
                refine wp_iload rfl rfl ?_
                refine wp_isub rfl ?_
                refine Wp.topI (y := (-11)) (by decide) ?_
                refine wp_iret rfl rfl ?_
                show Wp X _ 28 58 [vr 6, vi 2, vi x2, vi 3, vi x4, vi x5, vr 85, vr 87] [vi (-11)] _ _
                exact wp_iret rfl rfl H
          · replace H := H.2.2.2 rfl
            refine wp_aaload (r := 86) rfl (kf_80 X.1) (by decide) (by decide) rfl ?_
            refine wp_astore (L2 := [vr 6, vi 3, vi x2, vi x3, vi x4, vi x5, vr 87, vu]) rfl (Nat.le_of_ble_eq_true rfl) rfl ?_
            refine wp_aload rfl rfl ?_
            refine wp_getR (r := 79) rfl (congrArg Prod.fst (kf_6 X.1)) rfl ?_
            refine wp_iload rfl rfl ?_
            rcases (show x3 = 0 ∨ x3 = 1 ∨ x3 = 2 ∨ x3 = 3 by have := (show 0 ≤ x3 ∧ x3 < 4 from ⟨c3, (by clear H; omega)⟩); clear H; omega) with rfl | rfl | rfl | rfl
            · replace H := H.1 rfl
              refine wp_aaload (r := 80) rfl (kf_80 X.1) (by decide) (by decide) rfl ?_
              refine wp_astore (L2 := [vr 6, vi 3, vi x2, vi 0, vi x4, vi x5, vr 87, vr 81]) rfl (Nat.le_of_ble_eq_true rfl) rfl ?_
              refine wp_aload rfl rfl ?_
              refine wp_call (k := 220) (ρ2 := 0) (L2 := [vr 87]) rfl rfl rfl (Nat.le_of_ble_eq_true rfl) (Nat.le_of_ble_eq_true rfl) (Nat.le_of_ble_eq_true rfl) (rcv_V rfl (congrArg Prod.fst (kf_87 X.1))) rfl ?_
              refine wp_aload rfl rfl ?_
              refine wp_getI (j := 1) rfl (congrArg Prod.fst (kf_87 X.1)) rfl ?_
              refine wp_iconst rfl ?_
              refine wp_icne (tn := 12) rfl rfl (fun c131 => ?_) (fun c131 => ?_)
              · replace H := H.1 c131
                refine wp_iconst rfl ?_
                refine wp_zret rfl rfl (by decide) ?_
                show Wp X _ 28 42 [vr 6, vi 3, vi x2, vi 0, vi x4, vi x5, vr 87, vr 81] [vi 0] _ _
                refine wp_ifneF (tn := 53) rfl rfl (by decide) ?_
                refine wp_aload rfl rfl ?_
                refine wp_call (k := 220) (ρ2 := 0) (L2 := [vr 81]) rfl rfl rfl (Nat.le_of_ble_eq_true rfl) (Nat.le_of_ble_eq_true rfl) (Nat.le_of_ble_eq_true rfl) (rcv_V rfl (congrArg Prod.fst (kf_81 X.1))) rfl ?_
                refine wp_aload rfl rfl ?_
                refine wp_getI (j := 1) rfl (congrArg Prod.fst (kf_81 X.1)) rfl ?_
                refine wp_iconst rfl ?_
                refine wp_icne (tn := 12) rfl rfl (fun c132 => ?_) (fun c132 => ?_)
                · replace H := H.1 c132
                  refine wp_iconst rfl ?_
                  refine wp_zret rfl rfl (by decide) ?_
                  show Wp X _ 28 50 [vr 6, vi 3, vi x2, vi 0, vi x4, vi x5, vr 87, vr 81] [vi 0] _ _
                  refine wp_ifeqT (tn := 59) rfl rfl (by decide) ?_
                  refine wp_aload rfl rfl ?_
                  refine wp_call (k := 221) (ρ2 := 0) (L2 := [vr 87]) rfl rfl rfl (Nat.le_of_ble_eq_true rfl) (Nat.le_of_ble_eq_true rfl) (Nat.le_of_ble_eq_true rfl) (rcv_V rfl (congrArg Prod.fst (kf_87 X.1))) rfl ?_
                  refine wp_aload rfl rfl ?_
                  refine wp_getI (j := 1) rfl (congrArg Prod.fst (kf_87 X.1)) rfl ?_
                  refine wp_iret rfl rfl ?_
                  show Wp X _ 28 64 [vr 6, vi 3, vi x2, vi 0, vi x4, vi x5, vr 87, vr 81] [vi (h 87 1)] _ _
                  refine wp_aload rfl rfl ?_
                  refine wp_call (k := 221) (ρ2 := 0) (L2 := [vr 81]) rfl rfl rfl (Nat.le_of_ble_eq_true rfl) (Nat.le_of_ble_eq_true rfl) (Nat.le_of_ble_eq_true rfl) (rcv_V rfl (congrArg Prod.fst (kf_81 X.1))) rfl ?_
                  refine wp_aload rfl rfl ?_
                  refine wp_getI (j := 1) rfl (congrArg Prod.fst (kf_81 X.1)) rfl ?_
                  refine wp_iret rfl rfl ?_
                  show Wp X _ 28 69 [vr 6, vi 3, vi x2, vi 0, vi x4, vi x5, vr 87, vr 81] [vi (h 81 1), vi (h 87 1)] _ _
                  refine wp_iceq (tn := 78) rfl rfl (fun c133 => ?_) (fun c133 => ?_)
                  · replace H := H.1 c133
                    refine wp_aload rfl rfl ?_
                    refine wp_iload rfl rfl ?_
                    refine wp_iload rfl rfl ?_
                    refine wp_call (k := 226) (ρ2 := 0) (L2 := [vr 87, vi x2, vi x5]) rfl rfl rfl (Nat.le_of_ble_eq_true rfl) (Nat.le_of_ble_eq_true rfl) (Nat.le_of_ble_eq_true rfl) (rcv_V rfl (congrArg Prod.fst (kf_87 X.1))) rfl ?_
                    refine wp_iload rfl rfl ?_
                    refine wp_iflt (tn := 22) rfl rfl (fun c134 => ?_) (fun c134 => ?_)
                    · replace H := H.1 c134
                      refine wp_iconst rfl ?_
                      refine wp_zret rfl rfl (by decide) ?_
                      show Wp X _ 28 86 [vr 6, vi 3, vi x2, vi 0, vi x4, vi x5, vr 87, vr 81] [vi 0] _ _
                      refine wp_ifeqT (tn := 101) rfl rfl (by decide) ?_
                      refine wp_aload rfl rfl ?_
                      refine wp_iconst rfl ?_
                      refine wp_call (k := 38) (ρ2 := 0) (L2 := [vr 6, vi 2]) rfl rfl rfl (Nat.le_of_ble_eq_true rfl) (Nat.le_of_ble_eq_true rfl) (Nat.le_of_ble_eq_true rfl) (rcv_V rfl (congrArg Prod.fst (kf_6 X.1))) rfl ?_
                      refine wp_aload rfl rfl ?_
                      refine wp_iload rfl rfl ?_
                      refine wp_putI (j := 10) rfl (congrArg Prod.fst (kf_6 X.1)) rfl rfl rfl ?_
                      refine wp_iconst rfl ?_
                      refine wp_iload rfl rfl ?_
                      refine wp_isub rfl ?_
                      refine Wp.topI (y := (-12)) (by decide) ?_
                      refine wp_iret rfl rfl ?_
                      show Wp X _ 28 106 [vr 6, vi 3, vi x2, vi 0, vi x4, vi x5, vr 87, vr 81] [vi (-12)] _ _
                      exact wp_iret rfl rfl H
                    · replace H := H.2 c134
                      refine wp_iload rfl rfl ?_
                      refine wp_iflt (tn := 22) rfl rfl (fun c135 => ?_) (fun c135 => ?_)
                      · replace H := H.1 c135
                        refine wp_iconst rfl ?_
                        refine wp_zret rfl rfl (by decide) ?_
                        show Wp X _ 28 86 [vr 6, vi 3, vi x2, vi 0, vi x4, vi x5, vr 87, vr 81] [vi 0] _ _
                        refine wp_ifeqT (tn := 101) rfl rfl (by decide) ?_
                        refine wp_aload rfl rfl ?_
                        refine wp_iconst rfl ?_
                        refine wp_call (k := 38) (ρ2 := 0) (L2 := [vr 6, vi 2]) rfl rfl rfl (Nat.le_of_ble_eq_true rfl) (Nat.le_of_ble_eq_true rfl) (Nat.le_of_ble_eq_true rfl) (rcv_V rfl (congrArg Prod.fst (kf_6 X.1))) rfl ?_
                        refine wp_aload rfl rfl ?_
                        refine wp_iload rfl rfl ?_
                        refine wp_putI (j := 10) rfl (congrArg Prod.fst (kf_6 X.1)) rfl rfl rfl ?_
                        refine wp_iconst rfl ?_
                        refine wp_iload rfl rfl ?_
                        refine wp_isub rfl ?_
                        refine Wp.topI (y := (-12)) (by decide) ?_
                        refine wp_iret rfl rfl ?_
                        show Wp X _ 28 106 [vr 6, vi 3, vi x2, vi 0, vi x4, vi x5, vr 87, vr 81] [vi (-12)] _ _
                        exact wp_iret rfl rfl H
                      · replace H := H.2 c135
                        refine wp_iload rfl rfl ?_
                        refine wp_aload rfl rfl ?_
                        refine wp_getI (j := 2) rfl (congrArg Prod.fst (kf_87 X.1)) rfl ?_
                        refine wp_iload rfl rfl ?_
                        refine wp_isub rfl ?_
                        have g136 := H.1
                        replace H := H.2
                        refine Wp.topI (y := ((h 87 2) - x5)) (w32_I g136) ?_
                        refine wp_icgt (tn := 22) rfl rfl (fun c137 => ?_) (fun c137 => ?_)
                        · replace H := H.1 c137
                          refine wp_iconst rfl ?_
                          refine wp_zret rfl rfl (by decide) ?_
                          show Wp X _ 28 86 [vr 6, vi 3, vi x2, vi 0, vi x4, vi x5, vr 87, vr 81] [vi 0] _ _
                          refine wp_ifeqT (tn := 101) rfl rfl (by decide) ?_
                          refine wp_aload rfl rfl ?_
                          refine wp_iconst rfl ?_
                          refine wp_call (k := 38) (ρ2 := 0) (L2 := [vr 6, vi 2]) rfl rfl rfl (Nat.le_of_ble_eq_true rfl) (Nat.le_of_ble_eq_true rfl) (Nat.le_of_ble_eq_true rfl) (rcv_V rfl (congrArg Prod.fst (kf_6 X.1))) rfl ?_
                          refine wp_aload rfl rfl ?_
                          refine wp_iload rfl rfl ?_
                          refine wp_putI (j := 10) rfl (congrArg Prod.fst (kf_6 X.1)) rfl rfl rfl ?_
                          refine wp_iconst rfl ?_
                          refine wp_iload rfl rfl ?_
                          refine wp_isub rfl ?_
                          refine Wp.topI (y := (-12)) (by decide) ?_
                          refine wp_iret rfl rfl ?_
                          show Wp X _ 28 106 [vr 6, vi 3, vi x2, vi 0, vi x4, vi x5, vr 87, vr 81] [vi (-12)] _ _
                          exact wp_iret rfl rfl H
                        · replace H := H.2 c137
                          refine wp_iconst rfl ?_
                          refine wp_goto (tn := 23) rfl rfl ?_
                          refine wp_zret rfl rfl (by decide) ?_
                          show Wp X _ 28 86 [vr 6, vi 3, vi x2, vi 0, vi x4, vi x5, vr 87, vr 81] [vi 1] _ _
                          refine wp_ifeqF (tn := 101) rfl rfl (by decide) ?_
                          refine wp_aload rfl rfl ?_
                          refine wp_iload rfl rfl ?_
                          refine wp_iload rfl rfl ?_
                          refine wp_call (k := 226) (ρ2 := 0) (L2 := [vr 81, vi x4, vi x5]) rfl rfl rfl (Nat.le_of_ble_eq_true rfl) (Nat.le_of_ble_eq_true rfl) (Nat.le_of_ble_eq_true rfl) (rcv_V rfl (congrArg Prod.fst (kf_81 X.1))) rfl ?_
                          refine wp_iload rfl rfl ?_
                          refine wp_iflt (tn := 22) rfl rfl (fun c138 => ?_) (fun c138 => ?_)
                          · replace H := H.1 c138
                            refine wp_iconst rfl ?_
                            refine wp_zret rfl rfl (by decide) ?_
                            show Wp X _ 28 98 [vr 6, vi 3, vi x2, vi 0, vi x4, vi x5, vr 87, vr 81] [vi 0] _ _
                            refine wp_ifneF (tn := 107) rfl rfl (by decide) ?_
                            refine wp_aload rfl rfl ?_
                            refine wp_iconst rfl ?_
                            refine wp_call (k := 38) (ρ2 := 0) (L2 := [vr 6, vi 2]) rfl rfl rfl (Nat.le_of_ble_eq_true rfl) (Nat.le_of_ble_eq_true rfl) (Nat.le_of_ble_eq_true rfl) (rcv_V rfl (congrArg Prod.fst (kf_6 X.1))) rfl ?_
                            refine wp_aload rfl rfl ?_
                            refine wp_iload rfl rfl ?_
                            refine wp_putI (j := 10) rfl (congrArg Prod.fst (kf_6 X.1)) rfl rfl rfl ?_
                            refine wp_iconst rfl ?_
                            refine wp_iload rfl rfl ?_
                            refine wp_isub rfl ?_
                            refine Wp.topI (y := (-12)) (by decide) ?_
                            refine wp_iret rfl rfl ?_
                            show Wp X _ 28 106 [vr 6, vi 3, vi x2, vi 0, vi x4, vi x5, vr 87, vr 81] [vi (-12)] _ _
                            exact wp_iret rfl rfl H
                          · replace H := H.2 c138
                            refine wp_iload rfl rfl ?_
                            refine wp_ifltF (tn := 22) rfl rfl c135 ?_
                            refine wp_iload rfl rfl ?_
                            refine wp_aload rfl rfl ?_
                            refine wp_getI (j := 2) rfl (congrArg Prod.fst (kf_81 X.1)) rfl ?_
                            refine wp_iload rfl rfl ?_
                            refine wp_isub rfl ?_
                            have g139 := H.1
                            replace H := H.2
                            refine Wp.topI (y := ((h 81 2) - x5)) (w32_I g139) ?_
                            refine wp_icgt (tn := 22) rfl rfl (fun c140 => ?_) (fun c140 => ?_)
                            · replace H := H.1 c140
                              refine wp_iconst rfl ?_
                              refine wp_zret rfl rfl (by decide) ?_
                              show Wp X _ 28 98 [vr 6, vi 3, vi x2, vi 0, vi x4, vi x5, vr 87, vr 81] [vi 0] _ _
                              refine wp_ifneF (tn := 107) rfl rfl (by decide) ?_
                              refine wp_aload rfl rfl ?_
                              refine wp_iconst rfl ?_
                              refine wp_call (k := 38) (ρ2 := 0) (L2 := [vr 6, vi 2]) rfl rfl rfl (Nat.le_of_ble_eq_true rfl) (Nat.le_of_ble_eq_true rfl) (Nat.le_of_ble_eq_true rfl) (rcv_V rfl (congrArg Prod.fst (kf_6 X.1))) rfl ?_
                              refine wp_aload rfl rfl ?_
                              refine wp_iload rfl rfl ?_
                              refine wp_putI (j := 10) rfl (congrArg Prod.fst (kf_6 X.1)) rfl rfl rfl ?_
                              refine wp_iconst rfl ?_
                              refine wp_iload rfl rfl ?_
                              refine wp_isub rfl ?_
                              refine Wp.topI (y := (-12)) (by decide) ?_
                              refine wp_iret rfl rfl ?_
                              show Wp X _ 28 106 [vr 6, vi 3, vi x2, vi 0, vi x4, vi x5, vr 87, vr 81] [vi (-12)] _ _
                              exact wp_iret rfl rfl H
                            · replace H := H.2 c140
                              refine wp_iconst rfl ?_
                              refine wp_goto (tn := 23) rfl rfl ?_
                              refine wp_zret rfl rfl (by decide) ?_
                              show Wp X _ 28 98 [vr 6, vi 3, vi x2, vi 0, vi x4, vi x5, vr 87, vr 81] [vi 1] _ _
                              refine wp_ifneT (tn := 107) rfl rfl (by decide) ?_
                              refine wp_aload rfl rfl ?_
                              refine wp_aload rfl rfl ?_
                              refine wp_iload rfl rfl ?_
                              refine wp_iload rfl rfl ?_
                              refine wp_iload rfl rfl ?_
                              refine wp_call (k := 229) (ρ2 := 1) (L2 := [vr 81, vr 87, vi x2, vi x4, vi x5]) rfl rfl rfl (Nat.le_of_ble_eq_true rfl) (Nat.le_of_ble_eq_true rfl) (Nat.le_of_ble_eq_true rfl) (rcv_V rfl (congrArg Prod.fst (kf_81 X.1))) rfl ?_
                              refine wp_aload rfl rfl ?_
                              refine wp_iload rfl rfl ?_
                              refine wp_iload rfl rfl ?_
                              refine wp_call (k := 226) (ρ2 := 0) (L2 := [vr 87, vi x2, vi x5]) rfl rfl rfl (Nat.le_of_ble_eq_true rfl) (Nat.le_of_ble_eq_true rfl) (Nat.le_of_ble_eq_true rfl) (rcv_V rfl (congrArg Prod.fst (kf_87 X.1))) rfl ?_
                              refine wp_iload rfl rfl ?_
                              refine wp_ifltF (tn := 22) rfl rfl c134 ?_
                              refine wp_iload rfl rfl ?_
                              refine wp_ifltF (tn := 22) rfl rfl c135 ?_
                              refine wp_iload rfl rfl ?_
                              refine wp_aload rfl rfl ?_
                              refine wp_getI (j := 2) rfl (congrArg Prod.fst (kf_87 X.1)) rfl ?_
                              refine wp_iload rfl rfl ?_
                              refine wp_isub rfl ?_
                              refine Wp.topI (y := ((h 87 2) - x5)) (w32_I g136) ?_
                              refine wp_icgtF (tn := 22) rfl rfl c137 ?_
                              refine wp_iconst rfl ?_
                              refine wp_goto (tn := 23) rfl rfl ?_
                              refine wp_zret rfl rfl (by decide) ?_
                              show Wp X _ 229 7 [vr 81, vr 87, vi x2, vi x4, vi x5] [vi 1] _ _
                              refine wp_ifeqF (tn := 35) rfl rfl (by decide) ?_
                              refine wp_aload rfl rfl ?_
                              refine wp_iload rfl rfl ?_
                              refine wp_iload rfl rfl ?_
                              refine wp_call (k := 226) (ρ2 := 0) (L2 := [vr 81, vi x4, vi x5]) rfl rfl rfl (Nat.le_of_ble_eq_true rfl) (Nat.le_of_ble_eq_true rfl) (Nat.le_of_ble_eq_true rfl) (rcv_V rfl (congrArg Prod.fst (kf_81 X.1))) rfl ?_
                              refine wp_iload rfl rfl ?_
                              refine wp_ifltF (tn := 22) rfl rfl c138 ?_
                              refine wp_iload rfl rfl ?_
                              refine wp_ifltF (tn := 22) rfl rfl c135 ?_
                              refine wp_iload rfl rfl ?_
                              refine wp_aload rfl rfl ?_
                              refine wp_getI (j := 2) rfl (congrArg Prod.fst (kf_81 X.1)) rfl ?_
                              refine wp_iload rfl rfl ?_
                              refine wp_isub rfl ?_
                              refine Wp.topI (y := ((h 81 2) - x5)) (w32_I g139) ?_
                              refine wp_icgtF (tn := 22) rfl rfl c140 ?_
                              refine wp_iconst rfl ?_
                              refine wp_goto (tn := 23) rfl rfl ?_
                              refine wp_zret rfl rfl (by decide) ?_
                              show Wp X _ 229 17 [vr 81, vr 87, vi x2, vi x4, vi x5] [vi 1] _ _
                              refine wp_ifeqF (tn := 35) rfl rfl (by decide) ?_
                              refine wp_aload rfl rfl ?_
                              refine wp_getR (r := 87) rfl (congrArg Prod.fst (kf_87 X.1)) rfl ?_
                              refine wp_iload rfl rfl ?_
                              refine wp_aload rfl rfl ?_
                              refine wp_getR (r := 81) rfl (congrArg Prod.fst (kf_81 X.1)) rfl ?_
                              refine wp_iload rfl rfl ?_
                              refine wp_iload rfl rfl ?_
                              have g141 := H.1
                              replace H := H.2
                              refine wp_copy rfl (kf_88 X.1) (kf_82 X.1) g141 (Nat.le_of_ble_eq_true rfl) ?_
                              refine wp_vret rfl rfl ?_
                              show Wp X _ 28 119 [vr 6, vi 3, vi x2, vi 0, vi x4, vi x5, vr 87, vr 81] [] _ _
                              refine wp_iconst rfl ?_
                              exact wp_iret rfl rfl H
                  · replace H := H.2 c133
                    refine wp_aload rfl rfl ?_
                    refine wp_iconst rfl ?_
                    refine wp_call (k := 38) (ρ2 := 0) (L2 := [vr 6, vi 4]) rfl rfl rfl (Nat.le_of_ble_eq_true rfl) (Nat.le_of_ble_eq_true rfl) (Nat.le_of_ble_eq_true rfl) (rcv_V rfl (congrArg Prod.fst (kf_6 X.1))) rfl ?_
                    refine wp_aload rfl rfl ?_
                    refine wp_iload rfl rfl ?_
                    refine wp_putI (j := 10) rfl (congrArg Prod.fst (kf_6 X.1)) rfl rfl rfl ?_
                    refine wp_iconst rfl ?_
                    refine wp_iload rfl rfl ?_
                    refine wp_isub rfl ?_
                    refine Wp.topI (y := (-14)) (by decide) ?_
                    refine wp_iret rfl rfl ?_
                    show Wp X _ 28 77 [vr 6, vi 3, vi x2, vi 0, vi x4, vi x5, vr 87, vr 81] [vi (-14)] _ _
                    exact wp_iret rfl rfl H
                · replace H := H.2 c132
                  refine wp_iconst rfl ?_
                  refine wp_goto (tn := 13) rfl rfl ?_
                  refine wp_zret rfl rfl (by decide) ?_
                  show Wp X _ 28 50 [vr 6, vi 3, vi x2, vi 0, vi x4, vi x5, vr 87, vr 81] [vi 1] _ _
                  refine wp_ifeqF (tn := 59) rfl rfl (by decide) ?_
                  refine wp_aload rfl rfl ?_
                  refine wp_iconst rfl ?_
                  refine wp_call (k := 38) (ρ2 := 0) (L2 := [vr 6, vi 1]) rfl rfl rfl (Nat.le_of_ble_eq_true rfl) (Nat.le_of_ble_eq_true rfl) (Nat.le_of_ble_eq_true rfl) (rcv_V rfl (congrArg Prod.fst (kf_6 X.1))) rfl ?_
                  refine wp_aload rfl rfl ?_
                  refine wp_iload rfl rfl ?_
                  refine wp_putI (j := 10) rfl (congrArg Prod.fst (kf_6 X.1)) rfl rfl rfl ?_
                  refine wp_iconst rfl ?_
                  refine wp_iload rfl rfl ?_
                  refine wp_isub rfl ?_
                  refine Wp.topI (y := (-11)) (by decide) ?_
                  refine wp_iret rfl rfl ?_
                  show Wp X _ 28 58 [vr 6, vi 3, vi x2, vi 0, vi x4, vi x5, vr 87, vr 81] [vi (-11)] _ _
                  exact wp_iret rfl rfl H
              · replace H := H.2 c131
                refine wp_iconst rfl ?_
                refine wp_goto (tn := 13) rfl rfl ?_
                refine wp_zret rfl rfl (by decide) ?_
                show Wp X _ 28 42 [vr 6, vi 3, vi x2, vi 0, vi x4, vi x5, vr 87, vr 81] [vi 1] _ _
                refine wp_ifneT (tn := 53) rfl rfl (by decide) ?_
                refine wp_aload rfl rfl ?_
                refine wp_iconst rfl ?_
                refine wp_call (k := 38) (ρ2 := 0) (L2 := [vr 6, vi 1]) rfl rfl rfl (Nat.le_of_ble_eq_true rfl) (Nat.le_of_ble_eq_true rfl) (Nat.le_of_ble_eq_true rfl) (rcv_V rfl (congrArg Prod.fst (kf_6 X.1))) rfl ?_
                refine wp_aload rfl rfl ?_
                refine wp_iload rfl rfl ?_
                refine wp_putI (j := 10) rfl (congrArg Prod.fst (kf_6 X.1)) rfl rfl rfl ?_
                refine wp_iconst rfl ?_
                refine wp_iload rfl rfl ?_
                refine wp_isub rfl ?_
                refine Wp.topI (y := (-11)) (by decide) ?_
                refine wp_iret rfl rfl ?_
                show Wp X _ 28 58 [vr 6, vi 3, vi x2, vi 0, vi x4, vi x5, vr 87, vr 81] [vi (-11)] _ _
                exact wp_iret rfl rfl H
            · replace H := H.2.1 rfl
              refine wp_aaload (r := 82) rfl (kf_80 X.1) (by decide) (by decide) rfl ?_
              refine wp_astore (L2 := [vr 6, vi 3, vi x2, vi 1, vi x4, vi x5, vr 87, vr 83]) rfl (Nat.le_of_ble_eq_true rfl) rfl ?_
              refine wp_aload rfl rfl ?_
              refine wp_call (k := 220) (ρ2 := 0) (L2 := [vr 87]) rfl rfl rfl (Nat.le_of_ble_eq_true rfl) (Nat.le_of_ble_eq_true rfl) (Nat.le_of_ble_eq_true rfl) (rcv_V rfl (congrArg Prod.fst (kf_87 X.1))) rfl ?_
              refine wp_aload rfl rfl ?_
              refine wp_getI (j := 1) rfl (congrArg Prod.fst (kf_87 X.1)) rfl ?_
              refine wp_iconst rfl ?_
              refine wp_icne (tn := 12) rfl rfl (fun c142 => ?_) (fun c142 => ?_)
              · replace H := H.1 c142
                refine wp_iconst rfl ?_
                refine wp_zret rfl rfl (by decide) ?_
                show Wp X _ 28 42 [vr 6, vi 3, vi x2, vi 1, vi x4, vi x5, vr 87, vr 83] [vi 0] _ _
                refine wp_ifneF (tn := 53) rfl rfl (by decide) ?_
                refine wp_aload rfl rfl ?_
                refine wp_call (k := 220) (ρ2 := 0) (L2 := [vr 83]) rfl rfl rfl (Nat.le_of_ble_eq_true rfl) (Nat.le_of_ble_eq_true rfl) (Nat.le_of_ble_eq_true rfl) (rcv_V rfl (congrArg Prod.fst (kf_83 X.1))) rfl ?_
                refine wp_aload rfl rfl ?_
                refine wp_getI (j := 1) rfl (congrArg Prod.fst (kf_83 X.1)) rfl ?_
                refine wp_iconst rfl ?_
                refine wp_icne (tn := 12) rfl rfl (fun c143 => ?_) (fun c143 => ?_)
                · replace H := H.1 c143
                  refine wp_iconst rfl ?_
                  refine wp_zret rfl rfl (by decide) ?_
                  show Wp X _ 28 50 [vr 6, vi 3, vi x2, vi 1, vi x4, vi x5, vr 87, vr 83] [vi 0] _ _
                  refine wp_ifeqT (tn := 59) rfl rfl (by decide) ?_
                  refine wp_aload rfl rfl ?_
                  refine wp_call (k := 221) (ρ2 := 0) (L2 := [vr 87]) rfl rfl rfl (Nat.le_of_ble_eq_true rfl) (Nat.le_of_ble_eq_true rfl) (Nat.le_of_ble_eq_true rfl) (rcv_V rfl (congrArg Prod.fst (kf_87 X.1))) rfl ?_
                  refine wp_aload rfl rfl ?_
                  refine wp_getI (j := 1) rfl (congrArg Prod.fst (kf_87 X.1)) rfl ?_
                  refine wp_iret rfl rfl ?_
                  show Wp X _ 28 64 [vr 6, vi 3, vi x2, vi 1, vi x4, vi x5, vr 87, vr 83] [vi (h 87 1)] _ _
                  refine wp_aload rfl rfl ?_
                  refine wp_call (k := 221) (ρ2 := 0) (L2 := [vr 83]) rfl rfl rfl (Nat.le_of_ble_eq_true rfl) (Nat.le_of_ble_eq_true rfl) (Nat.le_of_ble_eq_true rfl) (rcv_V rfl (congrArg Prod.fst (kf_83 X.1))) rfl ?_
                  refine wp_aload rfl rfl ?_
                  refine wp_getI (j := 1) rfl (congrArg Prod.fst (kf_83 X.1)) rfl ?_
                  refine wp_iret rfl rfl ?_
                  show Wp X _ 28 69 [vr 6, vi 3, vi x2, vi 1, vi x4, vi x5, vr 87, vr 83] [vi (h 83 1), vi (h 87 1)] _ _
                  refine wp_iceq (tn := 78) rfl rfl (fun c144 => ?_) (fun c144 => ?_)
                  · replace H := H.1 c144
                    refine wp_aload rfl rfl ?_
                    refine wp_iload rfl rfl ?_
                    refine wp_iload rfl rfl ?_
                    refine wp_call (k := 226) (ρ2 := 0) (L2 := [vr 87, vi x2, vi x5]) rfl rfl rfl (Nat.le_of_ble_eq_true rfl) (Nat.le_of_ble_eq_true rfl) (Nat.le_of_ble_eq_true rfl) (rcv_V rfl (congrArg Prod.fst (kf_87 X.1))) rfl ?_
                    refine wp_iload rfl rfl ?_
                    refine wp_iflt (tn := 22) rfl rfl (fun c145 => ?_) (fun c145 => ?_)
                    · replace H := H.1 c145
                      refine wp_iconst rfl ?_
                      refine wp_zret rfl rfl (by decide) ?_
                      show Wp X _ 28 86 [vr 6, vi 3, vi x2, vi 1, vi x4, vi x5, vr 87, vr 83] [vi 0] _ _
                      refine wp_ifeqT (tn := 101) rfl rfl (by decide) ?_
                      refine wp_aload rfl rfl ?_
                      refine wp_iconst rfl ?_
                      refine wp_call (k := 38) (ρ2 := 0) (L2 := [vr 6, vi 2]) rfl rfl rfl (Nat.le_of_ble_eq_true rfl) (Nat.le_of_ble_eq_true rfl) (Nat.le_of_ble_eq_true rfl) (rcv_V rfl (congrArg Prod.fst (kf_6 X.1))) rfl ?_
                      refine wp_aload rfl rfl ?_
                      refine wp_iload rfl rfl ?_
                      refine wp_putI (j := 10) rfl (congrArg Prod.fst (kf_6 X.1)) rfl rfl rfl ?_
                      refine wp_iconst rfl ?_
                      refine wp_iload rfl rfl ?_
                      refine wp_isub rfl ?_
                      refine Wp.topI (y := (-12)) (by decide) ?_
                      refine wp_iret rfl rfl ?_
                      show Wp X _ 28 106 [vr 6, vi 3, vi x2, vi 1, vi x4, vi x5, vr 87, vr 83] [vi (-12)] _ _
                      exact wp_iret rfl rfl H
                    · replace H := H.2 c145
                      refine wp_iload rfl rfl ?_
                      refine wp_iflt (tn := 22) rfl rfl (fun c146 => ?_) (fun c146 => ?_)
                      · replace H := H.1 c146
                        refine wp_iconst rfl ?_
                        refine wp_zret rfl rfl (by decide) ?_
                        show Wp X _ 28 86 [vr 6, vi 3, vi x2, vi 1, vi x4, vi x5, vr 87, vr 83] [vi 0] _ _
                        refine wp_ifeqT (tn := 101) rfl rfl (by decide) ?_
                        refine wp_aload rfl rfl ?_
                        refine wp_iconst rfl ?_
                        refine wp_call (k := 38) (ρ2 := 0) (L2 := [vr 6, vi 2]) rfl rfl rfl (Nat.le_of_ble_eq_true rfl) (Nat.le_of_ble_eq_true rfl) (Nat.le_of_ble_eq_true rfl) (rcv_V rfl (congrArg Prod.fst (kf_6 X.1))) rfl ?_
                        refine wp_aload rfl rfl ?_
                        refine wp_iload rfl rfl ?_
                        refine wp_putI (j := 10) rfl (congrArg Prod.fst (kf_6 X.1)) rfl rfl rfl ?_
                        refine wp_iconst rfl ?_
                        refine wp_iload rfl rfl ?_
                        refine wp_isub rfl ?_
                        refine Wp.topI (y := (-12)) (by decide) ?_
                        refine wp_iret rfl rfl ?_
                        show Wp X _ 28 106 [vr 6, vi 3, vi x2, vi 1, vi x4, vi x5, vr 87, vr 83] [vi (-12)] _ _
                        exact wp_iret rfl rfl H
                      · replace H := H.2 c146
                        refine wp_iload rfl rfl ?_
                        refine wp_aload rfl rfl ?_
                        refine wp_getI (j := 2) rfl (congrArg Prod.fst (kf_87 X.1)) rfl ?_
                        refine wp_iload rfl rfl ?_
                        refine wp_isub rfl ?_
                        have g147 := H.1
                        replace H := H.2
                        refine Wp.topI (y := ((h 87 2) - x5)) (w32_I g147) ?_
                        refine wp_icgt (tn := 22) rfl rfl (fun c148 => ?_) (fun c148 => ?_)
                        · replace H := H.1 c148
                          refine wp_iconst rfl ?_
                          refine wp_zret rfl rfl (by decide) ?_
                          show Wp X _ 28 86 [vr 6, vi 3, vi x2, vi 1, vi x4, vi x5, vr 87, vr 83] [vi 0] _ _
                          refine wp_ifeqT (tn := 101) rfl rfl (by decide) ?_
                          refine wp_aload rfl rfl ?_
                          refine wp_iconst rfl ?_
                          refine wp_call (k := 38) (ρ2 := 0) (L2 := [vr 6, vi 2]) rfl rfl rfl (Nat.le_of_ble_eq_true rfl) (Nat.le_of_ble_eq_true rfl) (Nat.le_of_ble_eq_true rfl) (rcv_V rfl (congrArg Prod.fst (kf_6 X.1))) rfl ?_
                          refine wp_aload rfl rfl ?_
                          refine wp_iload rfl rfl ?_
                          refine wp_putI (j := 10) rfl (congrArg Prod.fst (kf_6 X.1)) rfl rfl rfl ?_
                          refine wp_iconst rfl ?_
                          refine wp_iload rfl rfl ?_
                          refine wp_isub rfl ?_
                          refine Wp.topI (y := (-12)) (by decide) ?_
                          refine wp_iret rfl rfl ?_
                          show Wp X _ 28 106 [vr 6, vi 3, vi x2, vi 1, vi x4, vi x5, vr 87, vr 83] [vi (-12)] _ _
                          exact wp_iret rfl rfl H
                        · replace H := H.2 c148
                          refine wp_iconst rfl ?_
                          refine wp_goto (tn := 23) rfl rfl ?_
                          refine wp_zret rfl rfl (by decide) ?_
                          show Wp X _ 28 86 [vr 6, vi 3, vi x2, vi 1, vi x4, vi x5, vr 87, vr 83] [vi 1] _ _
                          refine wp_ifeqF (tn := 101) rfl rfl (by decide) ?_
                          refine wp_aload rfl rfl ?_
                          refine wp_iload rfl rfl ?_
                          refine wp_iload rfl rfl ?_
                          refine wp_call (k := 226) (ρ2 := 0) (L2 := [vr 83, vi x4, vi x5]) rfl rfl rfl (Nat.le_of_ble_eq_true rfl) (Nat.le_of_ble_eq_true rfl) (Nat.le_of_ble_eq_true rfl) (rcv_V rfl (congrArg Prod.fst (kf_83 X.1))) rfl ?_
                          refine wp_iload rfl rfl ?_
                          refine wp_iflt (tn := 22) rfl rfl (fun c149 => ?_) (fun c149 => ?_)
                          · replace H := H.1 c149
                            refine wp_iconst rfl ?_
                            refine wp_zret rfl rfl (by decide) ?_
                            show Wp X _ 28 98 [vr 6, vi 3, vi x2, vi 1, vi x4, vi x5, vr 87, vr 83] [vi 0] _ _
                            refine wp_ifneF (tn := 107) rfl rfl (by decide) ?_
                            refine wp_aload rfl rfl ?_
                            refine wp_iconst rfl ?_
                            refine wp_call (k := 38) (ρ2 := 0) (L2 := [vr 6, vi 2]) rfl rfl rfl (Nat.le_of_ble_eq_true rfl) (Nat.le_of_ble_eq_true rfl) (Nat.le_of_ble_eq_true rfl) (rcv_V rfl (congrArg Prod.fst (kf_6 X.1))) rfl ?_
                            refine wp_aload rfl rfl ?_
                            refine wp_iload rfl rfl ?_
                            refine wp_putI (j := 10) rfl (congrArg Prod.fst (kf_6 X.1)) rfl rfl rfl ?_
                            refine wp_iconst rfl ?_
                            refine wp_iload rfl rfl ?_
                            refine wp_isub rfl ?_
                            refine Wp.topI (y := (-12)) (by decide) ?_
                            refine wp_iret rfl rfl ?_
                            show Wp X _ 28 106 [vr 6, vi 3, vi x2, vi 1, vi x4, vi x5, vr 87, vr 83] [vi (-12)] _ _
                            exact wp_iret rfl rfl H
                          · replace H := H.2 c149
                            refine wp_iload rfl rfl ?_
                            refine wp_ifltF (tn := 22) rfl rfl c146 ?_
                            refine wp_iload rfl rfl ?_
                            refine wp_aload rfl rfl ?_
                            refine wp_getI (j := 2) rfl (congrArg Prod.fst (kf_83 X.1)) rfl ?_
                            refine wp_iload rfl rfl ?_
                            refine wp_isub rfl ?_
                            have g150 := H.1
                            replace H := H.2
                            refine Wp.topI (y := ((h 83 2) - x5)) (w32_I g150) ?_
                            refine wp_icgt (tn := 22) rfl rfl (fun c151 => ?_) (fun c151 => ?_)
                            · replace H := H.1 c151
                              refine wp_iconst rfl ?_
                              refine wp_zret rfl rfl (by decide) ?_
                              show Wp X _ 28 98 [vr 6, vi 3, vi x2, vi 1, vi x4, vi x5, vr 87, vr 83] [vi 0] _ _
                              refine wp_ifneF (tn := 107) rfl rfl (by decide) ?_
                              refine wp_aload rfl rfl ?_
                              refine wp_iconst rfl ?_
                              refine wp_call (k := 38) (ρ2 := 0) (L2 := [vr 6, vi 2]) rfl rfl rfl (Nat.le_of_ble_eq_true rfl) (Nat.le_of_ble_eq_true rfl) (Nat.le_of_ble_eq_true rfl) (rcv_V rfl (congrArg Prod.fst (kf_6 X.1))) rfl ?_
                              refine wp_aload rfl rfl ?_
                              refine wp_iload rfl rfl ?_
                              refine wp_putI (j := 10) rfl (congrArg Prod.fst (kf_6 X.1)) rfl rfl rfl ?_
                              refine wp_iconst rfl ?_
                              refine wp_iload rfl rfl ?_
                              refine wp_isub rfl ?_
                              refine Wp.topI (y := (-12)) (by decide) ?_
                              refine wp_iret rfl rfl ?_
                              show Wp X _ 28 106 [vr 6, vi 3, vi x2, vi 1, vi x4, vi x5, vr 87, vr 83] [vi (-12)] _ _
                              exact wp_iret rfl rfl H
                            · replace H := H.2 c151
                              refine wp_iconst rfl ?_
                              refine wp_goto (tn := 23) rfl rfl ?_
                              refine wp_zret rfl rfl (by decide) ?_
                              show Wp X _ 28 98 [vr 6, vi 3, vi x2, vi 1, vi x4, vi x5, vr 87, vr 83] [vi 1] _ _
                              refine wp_ifneT (tn := 107) rfl rfl (by decide) ?_
                              refine wp_aload rfl rfl ?_
                              refine wp_aload rfl rfl ?_
                              refine wp_iload rfl rfl ?_
                              refine wp_iload rfl rfl ?_
                              refine wp_iload rfl rfl ?_
                              refine wp_call (k := 229) (ρ2 := 1) (L2 := [vr 83, vr 87, vi x2, vi x4, vi x5]) rfl rfl rfl (Nat.le_of_ble_eq_true rfl) (Nat.le_of_ble_eq_true rfl) (Nat.le_of_ble_eq_true rfl) (rcv_V rfl (congrArg Prod.fst (kf_83 X.1))) rfl ?_
                              refine wp_aload rfl rfl ?_
                              refine wp_iload rfl rfl ?_
                              refine wp_iload rfl rfl ?_
                              refine wp_call (k := 226) (ρ2 := 0) (L2 := [vr 87, vi x2, vi x5]) rfl rfl rfl (Nat.le_of_ble_eq_true rfl) (Nat.le_of_ble_eq_true rfl) (Nat.le_of_ble_eq_true rfl) (rcv_V rfl (congrArg Prod.fst (kf_87 X.1))) rfl ?_
                              refine wp_iload rfl rfl ?_
                              refine wp_ifltF (tn := 22) rfl rfl c145 ?_
                              refine wp_iload rfl rfl ?_
                              refine wp_ifltF (tn := 22) rfl rfl c146 ?_
                              refine wp_iload rfl rfl ?_
                              refine wp_aload rfl rfl ?_
                              refine wp_getI (j := 2) rfl (congrArg Prod.fst (kf_87 X.1)) rfl ?_
                              refine wp_iload rfl rfl ?_
                              refine wp_isub rfl ?_
                              refine Wp.topI (y := ((h 87 2) - x5)) (w32_I g147) ?_
                              refine wp_icgtF (tn := 22) rfl rfl c148 ?_
                              refine wp_iconst rfl ?_
                              refine wp_goto (tn := 23) rfl rfl ?_
                              refine wp_zret rfl rfl (by decide) ?_
                              show Wp X _ 229 7 [vr 83, vr 87, vi x2, vi x4, vi x5] [vi 1] _ _
                              refine wp_ifeqF (tn := 35) rfl rfl (by decide) ?_
                              refine wp_aload rfl rfl ?_
                              refine wp_iload rfl rfl ?_
                              refine wp_iload rfl rfl ?_
                              refine wp_call (k := 226) (ρ2 := 0) (L2 := [vr 83, vi x4, vi x5]) rfl rfl rfl (Nat.le_of_ble_eq_true rfl) (Nat.le_of_ble_eq_true rfl) (Nat.le_of_ble_eq_true rfl) (rcv_V rfl (congrArg Prod.fst (kf_83 X.1))) rfl ?_
                              refine wp_iload rfl rfl ?_
                              refine wp_ifltF (tn := 22) rfl rfl c149 ?_
                              refine wp_iload rfl rfl ?_
                              refine wp_ifltF (tn := 22) rfl rfl c146 ?_
                              refine wp_iload rfl rfl ?_
                              refine wp_aload rfl rfl ?_
                              refine wp_getI (j := 2) rfl (congrArg Prod.fst (kf_83 X.1)) rfl ?_
                              refine wp_iload rfl rfl ?_
                              refine wp_isub rfl ?_
                              refine Wp.topI (y := ((h 83 2) - x5)) (w32_I g150) ?_
                              refine wp_icgtF (tn := 22) rfl rfl c151 ?_
                              refine wp_iconst rfl ?_
                              refine wp_goto (tn := 23) rfl rfl ?_
                              refine wp_zret rfl rfl (by decide) ?_
                              show Wp X _ 229 17 [vr 83, vr 87, vi x2, vi x4, vi x5] [vi 1] _ _
                              refine wp_ifeqF (tn := 35) rfl rfl (by decide) ?_
                              refine wp_aload rfl rfl ?_
                              refine wp_getR (r := 87) rfl (congrArg Prod.fst (kf_87 X.1)) rfl ?_
                              refine wp_iload rfl rfl ?_
                              refine wp_aload rfl rfl ?_
                              refine wp_getR (r := 83) rfl (congrArg Prod.fst (kf_83 X.1)) rfl ?_
                              refine wp_iload rfl rfl ?_
                              refine wp_iload rfl rfl ?_
                              have g152 := H.1
                              replace H := H.2
                              refine wp_copy rfl (kf_88 X.1) (kf_84 X.1) g152 (Nat.le_of_ble_eq_true rfl) ?_
                              refine wp_vret rfl rfl ?_
                              show Wp X _ 28 119 [vr 6, vi 3, vi x2, vi 1, vi x4, vi x5, vr 87, vr 83] [] _ _
                              refine wp_iconst rfl ?_
                              exact wp_iret rfl rfl H
                  · replace H := H.2 c144
                    refine wp_aload rfl rfl ?_
                    refine wp_iconst rfl ?_
                    refine wp_call (k := 38) (ρ2 := 0) (L2 := [vr 6, vi 4]) rfl rfl rfl (Nat.le_of_ble_eq_true rfl) (Nat.le_of_ble_eq_true rfl) (Nat.le_of_ble_eq_true rfl) (rcv_V rfl (congrArg Prod.fst (kf_6 X.1))) rfl ?_
                    refine wp_aload rfl rfl ?_
                    refine wp_iload rfl rfl ?_
                    refine wp_putI (j := 10) rfl (congrArg Prod.fst (kf_6 X.1)) rfl rfl rfl ?_
                    refine wp_iconst rfl ?_
                    refine wp_iload rfl rfl ?_
                    refine wp_isub rfl ?_
                    refine Wp.topI (y := (-14)) (by decide) ?_
                    refine wp_iret rfl rfl ?_
                    show Wp X _ 28 77 [vr 6, vi 3, vi x2, vi 1, vi x4, vi x5, vr 87, vr 83] [vi (-14)] _ _
                    exact wp_iret rfl rfl H
                · replace H := H.2 c143
                  refine wp_iconst rfl ?_
                  refine wp_goto (tn := 13) rfl rfl ?_
                  refine wp_zret rfl rfl (by decide) ?_
                  show Wp X _ 28 50 [vr 6, vi 3, vi x2, vi 1, vi x4, vi x5, vr 87, vr 83] [vi 1] _ _
                  refine wp_ifeqF (tn := 59) rfl rfl (by decide) ?_
                  refine wp_aload rfl rfl ?_
                  refine wp_iconst rfl ?_
                  refine wp_call (k := 38) (ρ2 := 0) (L2 := [vr 6, vi 1]) rfl rfl rfl (Nat.le_of_ble_eq_true rfl) (Nat.le_of_ble_eq_true rfl) (Nat.le_of_ble_eq_true rfl) (rcv_V rfl (congrArg Prod.fst (kf_6 X.1))) rfl ?_
                  refine wp_aload rfl rfl ?_
                  refine wp_iload rfl rfl ?_
                  refine wp_putI (j := 10) rfl (congrArg Prod.fst (kf_6 X.1)) rfl rfl rfl ?_
                  refine wp_iconst rfl ?_
                  refine wp_iload rfl rfl ?_
                  refine wp_isub rfl ?_
                  refine Wp.topI (y := (-11)) (by decide) ?_
                  refine wp_iret rfl rfl ?_
                  show Wp X _ 28 58 [vr 6, vi 3, vi x2, vi 1, vi x4, vi x5, vr 87, vr 83] [vi (-11)] _ _
                  exact wp_iret rfl rfl H
              · replace H := H.2 c142
                refine wp_iconst rfl ?_
                refine wp_goto (tn := 13) rfl rfl ?_
                refine wp_zret rfl rfl (by decide) ?_
                show Wp X _ 28 42 [vr 6, vi 3, vi x2, vi 1, vi x4, vi x5, vr 87, vr 83] [vi 1] _ _
                refine wp_ifneT (tn := 53) rfl rfl (by decide) ?_
                refine wp_aload rfl rfl ?_
                refine wp_iconst rfl ?_
                refine wp_call (k := 38) (ρ2 := 0) (L2 := [vr 6, vi 1]) rfl rfl rfl (Nat.le_of_ble_eq_true rfl) (Nat.le_of_ble_eq_true rfl) (Nat.le_of_ble_eq_true rfl) (rcv_V rfl (congrArg Prod.fst (kf_6 X.1))) rfl ?_
                refine wp_aload rfl rfl ?_
                refine wp_iload rfl rfl ?_
                refine wp_putI (j := 10) rfl (congrArg Prod.fst (kf_6 X.1)) rfl rfl rfl ?_
                refine wp_iconst rfl ?_
                refine wp_iload rfl rfl ?_
                refine wp_isub rfl ?_
                refine Wp.topI (y := (-11)) (by decide) ?_
                refine wp_iret rfl rfl ?_
                show Wp X _ 28 58 [vr 6, vi 3, vi x2, vi 1, vi x4, vi x5, vr 87, vr 83] [vi (-11)] _ _
                exact wp_iret rfl rfl H
            · replace H := H.2.2.1 rfl
              refine wp_aaload (r := 84) rfl (kf_80 X.1) (by decide) (by decide) rfl ?_
              refine wp_astore (L2 := [vr 6, vi 3, vi x2, vi 2, vi x4, vi x5, vr 87, vr 85]) rfl (Nat.le_of_ble_eq_true rfl) rfl ?_
              refine wp_aload rfl rfl ?_
              refine wp_call (k := 220) (ρ2 := 0) (L2 := [vr 87]) rfl rfl rfl (Nat.le_of_ble_eq_true rfl) (Nat.le_of_ble_eq_true rfl) (Nat.le_of_ble_eq_true rfl) (rcv_V rfl (congrArg Prod.fst (kf_87 X.1))) rfl ?_
              refine wp_aload rfl rfl ?_
              refine wp_getI (j := 1) rfl (congrArg Prod.fst (kf_87 X.1)) rfl ?_
              refine wp_iconst rfl ?_
              refine wp_icne (tn := 12) rfl rfl (fun c153 => ?_) (fun c153 => ?_)
              · replace H := H.1 c153
                refine wp_iconst rfl ?_
                refine wp_zret rfl rfl (by decide) ?_
                show Wp X _ 28 42 [vr 6, vi 3, vi x2, vi 2, vi x4, vi x5, vr 87, vr 85] [vi 0] _ _
                refine wp_ifneF (tn := 53) rfl rfl (by decide) ?_
                refine wp_aload rfl rfl ?_
                refine wp_call (k := 220) (ρ2 := 0) (L2 := [vr 85]) rfl rfl rfl (Nat.le_of_ble_eq_true rfl) (Nat.le_of_ble_eq_true rfl) (Nat.le_of_ble_eq_true rfl) (rcv_V rfl (congrArg Prod.fst (kf_85 X.1))) rfl ?_
                refine wp_aload rfl rfl ?_
                refine wp_getI (j := 1) rfl (congrArg Prod.fst (kf_85 X.1)) rfl ?_
                refine wp_iconst rfl ?_
                refine wp_icne (tn := 12) rfl rfl (fun c154 => ?_) (fun c154 => ?_)
                · replace H := H.1 c154
                  refine wp_iconst rfl ?_
                  refine wp_zret rfl rfl (by decide) ?_
                  show Wp X _ 28 50 [vr 6, vi 3, vi x2, vi 2, vi x4, vi x5, vr 87, vr 85] [vi 0] _ _
                  refine wp_ifeqT (tn := 59) rfl rfl (by decide) ?_
                  refine wp_aload rfl rfl ?_
                  refine wp_call (k := 221) (ρ2 := 0) (L2 := [vr 87]) rfl rfl rfl (Nat.le_of_ble_eq_true rfl) (Nat.le_of_ble_eq_true rfl) (Nat.le_of_ble_eq_true rfl) (rcv_V rfl (congrArg Prod.fst (kf_87 X.1))) rfl ?_
                  refine wp_aload rfl rfl ?_
                  refine wp_getI (j := 1) rfl (congrArg Prod.fst (kf_87 X.1)) rfl ?_
                  refine wp_iret rfl rfl ?_
                  show Wp X _ 28 64 [vr 6, vi 3, vi x2, vi 2, vi x4, vi x5, vr 87, vr 85] [vi (h 87 1)] _ _
                  refine wp_aload rfl rfl ?_
                  refine wp_call (k := 221) (ρ2 := 0) (L2 := [vr 85]) rfl rfl rfl (Nat.le_of_ble_eq_true rfl) (Nat.le_of_ble_eq_true rfl) (Nat.le_of_ble_eq_true rfl) (rcv_V rfl (congrArg Prod.fst (kf_85 X.1))) rfl ?_
                  refine wp_aload rfl rfl ?_
                  refine wp_getI (j := 1) rfl (congrArg Prod.fst (kf_85 X.1)) rfl ?_
                  refine wp_iret rfl rfl ?_
                  show Wp X _ 28 69 [vr 6, vi 3, vi x2, vi 2, vi x4, vi x5, vr 87, vr 85] [vi (h 85 1), vi (h 87 1)] _ _
                  refine wp_iceq (tn := 78) rfl rfl (fun c155 => ?_) (fun c155 => ?_)
                  · replace H := H.1 c155
                    refine wp_aload rfl rfl ?_
                    refine wp_iload rfl rfl ?_
                    refine wp_iload rfl rfl ?_
                    refine wp_call (k := 226) (ρ2 := 0) (L2 := [vr 87, vi x2, vi x5]) rfl rfl rfl (Nat.le_of_ble_eq_true rfl) (Nat.le_of_ble_eq_true rfl) (Nat.le_of_ble_eq_true rfl) (rcv_V rfl (congrArg Prod.fst (kf_87 X.1))) rfl ?_
                    refine wp_iload rfl rfl ?_
                    refine wp_iflt (tn := 22) rfl rfl (fun c156 => ?_) (fun c156 => ?_)
                    · replace H := H.1 c156
                      refine wp_iconst rfl ?_
                      refine wp_zret rfl rfl (by decide) ?_
                      show Wp X _ 28 86 [vr 6, vi 3, vi x2, vi 2, vi x4, vi x5, vr 87, vr 85] [vi 0] _ _
                      refine wp_ifeqT (tn := 101) rfl rfl (by decide) ?_
                      refine wp_aload rfl rfl ?_
                      refine wp_iconst rfl ?_
                      refine wp_call (k := 38) (ρ2 := 0) (L2 := [vr 6, vi 2]) rfl rfl rfl (Nat.le_of_ble_eq_true rfl) (Nat.le_of_ble_eq_true rfl) (Nat.le_of_ble_eq_true rfl) (rcv_V rfl (congrArg Prod.fst (kf_6 X.1))) rfl ?_
                      refine wp_aload rfl rfl ?_
                      refine wp_iload rfl rfl ?_
                      refine wp_putI (j := 10) rfl (congrArg Prod.fst (kf_6 X.1)) rfl rfl rfl ?_
                      refine wp_iconst rfl ?_
                      refine wp_iload rfl rfl ?_
                      refine wp_isub rfl ?_
                      refine Wp.topI (y := (-12)) (by decide) ?_
                      refine wp_iret rfl rfl ?_
                      show Wp X _ 28 106 [vr 6, vi 3, vi x2, vi 2, vi x4, vi x5, vr 87, vr 85] [vi (-12)] _ _
                      exact wp_iret rfl rfl H
                    · replace H := H.2 c156
                      refine wp_iload rfl rfl ?_
                      refine wp_iflt (tn := 22) rfl rfl (fun c157 => ?_) (fun c157 => ?_)
                      · replace H := H.1 c157
                        refine wp_iconst rfl ?_
                        refine wp_zret rfl rfl (by decide) ?_
                        show Wp X _ 28 86 [vr 6, vi 3, vi x2, vi 2, vi x4, vi x5, vr 87, vr 85] [vi 0] _ _
                        refine wp_ifeqT (tn := 101) rfl rfl (by decide) ?_
                        refine wp_aload rfl rfl ?_
                        refine wp_iconst rfl ?_
                        refine wp_call (k := 38) (ρ2 := 0) (L2 := [vr 6, vi 2]) rfl rfl rfl (Nat.le_of_ble_eq_true rfl) (Nat.le_of_ble_eq_true rfl) (Nat.le_of_ble_eq_true rfl) (rcv_V rfl (congrArg Prod.fst (kf_6 X.1))) rfl ?_
                        refine wp_aload rfl rfl ?_
                        refine wp_iload rfl rfl ?_
                        refine wp_putI (j := 10) rfl (congrArg Prod.fst (kf_6 X.1)) rfl rfl rfl ?_
                        refine wp_iconst rfl ?_
                        refine wp_iload rfl rfl ?_
                        refine wp_isub rfl ?_
                        refine Wp.topI (y := (-12)) (by decide) ?_
                        refine wp_iret rfl rfl ?_
                        show Wp X _ 28 106 [vr 6, vi 3, vi x2, vi 2, vi x4, vi x5, vr 87, vr 85] [vi (-12)] _ _
                        exact wp_iret rfl rfl H
                      · replace H := H.2 c157
                        refine wp_iload rfl rfl ?_
                        refine wp_aload rfl rfl ?_
                        refine wp_getI (j := 2) rfl (congrArg Prod.fst (kf_87 X.1)) rfl ?_
                        refine wp_iload rfl rfl ?_
                        refine wp_isub rfl ?_
                        have g158 := H.1
                        replace H := H.2
                        refine Wp.topI (y := ((h 87 2) - x5)) (w32_I g158) ?_
                        refine wp_icgt (tn := 22) rfl rfl (fun c159 => ?_) (fun c159 => ?_)
                        · replace H := H.1 c159
                          refine wp_iconst rfl ?_
                          refine wp_zret rfl rfl (by decide) ?_
                          show Wp X _ 28 86 [vr 6, vi 3, vi x2, vi 2, vi x4, vi x5, vr 87, vr 85] [vi 0] _ _
                          refine wp_ifeqT (tn := 101) rfl rfl (by decide) ?_
                          refine wp_aload rfl rfl ?_
                          refine wp_iconst rfl ?_
                          refine wp_call (k := 38) (ρ2 := 0) (L2 := [vr 6, vi 2]) rfl rfl rfl (Nat.le_of_ble_eq_true rfl) (Nat.le_of_ble_eq_true rfl) (Nat.le_of_ble_eq_true rfl) (rcv_V rfl (congrArg Prod.fst (kf_6 X.1))) rfl ?_
                          refine wp_aload rfl rfl ?_
                          refine wp_iload rfl rfl ?_
                          refine wp_putI (j := 10) rfl (congrArg Prod.fst (kf_6 X.1)) rfl rfl rfl ?_
                          refine wp_iconst rfl ?_
                          refine wp_iload rfl rfl ?_
                          refine wp_isub rfl ?_
                          refine Wp.topI (y := (-12)) (by decide) ?_
                          refine wp_iret rfl rfl ?_
                          show Wp X _ 28 106 [vr 6, vi 3, vi x2, vi 2, vi x4, vi x5, vr 87, vr 85] [vi (-12)] _ _
                          exact wp_iret rfl rfl H
                        · replace H := H.2 c159
                          refine wp_iconst rfl ?_
                          refine wp_goto (tn := 23) rfl rfl ?_
                          refine wp_zret rfl rfl (by decide) ?_
                          show Wp X _ 28 86 [vr 6, vi 3, vi x2, vi 2, vi x4, vi x5, vr 87, vr 85] [vi 1] _ _
                          refine wp_ifeqF (tn := 101) rfl rfl (by decide) ?_
                          refine wp_aload rfl rfl ?_
                          refine wp_iload rfl rfl ?_
                          refine wp_iload rfl rfl ?_
                          refine wp_call (k := 226) (ρ2 := 0) (L2 := [vr 85, vi x4, vi x5]) rfl rfl rfl (Nat.le_of_ble_eq_true rfl) (Nat.le_of_ble_eq_true rfl) (Nat.le_of_ble_eq_true rfl) (rcv_V rfl (congrArg Prod.fst (kf_85 X.1))) rfl ?_
                          refine wp_iload rfl rfl ?_
                          refine wp_iflt (tn := 22) rfl rfl (fun c160 => ?_) (fun c160 => ?_)
                          · replace H := H.1 c160
                            refine wp_iconst rfl ?_
                            refine wp_zret rfl rfl (by decide) ?_
                            show Wp X _ 28 98 [vr 6, vi 3, vi x2, vi 2, vi x4, vi x5, vr 87, vr 85] [vi 0] _ _
                            refine wp_ifneF (tn := 107) rfl rfl (by decide) ?_
                            refine wp_aload rfl rfl ?_
                            refine wp_iconst rfl ?_
                            refine wp_call (k := 38) (ρ2 := 0) (L2 := [vr 6, vi 2]) rfl rfl rfl (Nat.le_of_ble_eq_true rfl) (Nat.le_of_ble_eq_true rfl) (Nat.le_of_ble_eq_true rfl) (rcv_V rfl (congrArg Prod.fst (kf_6 X.1))) rfl ?_
                            refine wp_aload rfl rfl ?_
                            refine wp_iload rfl rfl ?_
                            refine wp_putI (j := 10) rfl (congrArg Prod.fst (kf_6 X.1)) rfl rfl rfl ?_
                            refine wp_iconst rfl ?_
                            refine wp_iload rfl rfl ?_
                            refine wp_isub rfl ?_
                            refine Wp.topI (y := (-12)) (by decide) ?_
                            refine wp_iret rfl rfl ?_
                            show Wp X _ 28 106 [vr 6, vi 3, vi x2, vi 2, vi x4, vi x5, vr 87, vr 85] [vi (-12)] _ _
                            exact wp_iret rfl rfl H
                          · replace H := H.2 c160
                            refine wp_iload rfl rfl ?_
                            refine wp_ifltF (tn := 22) rfl rfl c157 ?_
                            refine wp_iload rfl rfl ?_
                            refine wp_aload rfl rfl ?_
                            refine wp_getI (j := 2) rfl (congrArg Prod.fst (kf_85 X.1)) rfl ?_
                            refine wp_iload rfl rfl ?_
                            refine wp_isub rfl ?_
                            have g161 := H.1
                            replace H := H.2
                            refine Wp.topI (y := ((h 85 2) - x5)) (w32_I g161) ?_
                            refine wp_icgt (tn := 22) rfl rfl (fun c162 => ?_) (fun c162 => ?_)
                            · replace H := H.1 c162
                              refine wp_iconst rfl ?_
                              refine wp_zret rfl rfl (by decide) ?_
                              show Wp X _ 28 98 [vr 6, vi 3, vi x2, vi 2, vi x4, vi x5, vr 87, vr 85] [vi 0] _ _
                              refine wp_ifneF (tn := 107) rfl rfl (by decide) ?_
                              refine wp_aload rfl rfl ?_
                              refine wp_iconst rfl ?_
                              refine wp_call (k := 38) (ρ2 := 0) (L2 := [vr 6, vi 2]) rfl rfl rfl (Nat.le_of_ble_eq_true rfl) (Nat.le_of_ble_eq_true rfl) (Nat.le_of_ble_eq_true rfl) (rcv_V rfl (congrArg Prod.fst (kf_6 X.1))) rfl ?_
                              refine wp_aload rfl rfl ?_
                              refine wp_iload rfl rfl ?_
                              refine wp_putI (j := 10) rfl (congrArg Prod.fst (kf_6 X.1)) rfl rfl rfl ?_
                              refine wp_iconst rfl ?_
                              refine wp_iload rfl rfl ?_
                              refine wp_isub rfl ?_
                              refine Wp.topI (y := (-12)) (by decide) ?_
                              refine wp_iret rfl rfl ?_
                              show Wp X _ 28 106 [vr 6, vi 3, vi x2, vi 2, vi x4, vi x5, vr 87, vr 85] [vi (-12)] _ _
                              exact wp_iret rfl rfl H
                            · replace H := H.2 c162
                              refine wp_iconst rfl ?_
                              refine wp_goto (tn := 23) rfl rfl ?_
                              refine wp_zret rfl rfl (by decide) ?_
                              show Wp X _ 28 98 [vr 6, vi 3, vi x2, vi 2, vi x4, vi x5, vr 87, vr 85] [vi 1] _ _
                              refine wp_ifneT (tn := 107) rfl rfl (by decide) ?_
                              refine wp_aload rfl rfl ?_
                              refine wp_aload rfl rfl ?_
                              refine wp_iload rfl rfl ?_
                              refine wp_iload rfl rfl ?_
                              refine wp_iload rfl rfl ?_
                              refine wp_call (k := 229) (ρ2 := 1) (L2 := [vr 85, vr 87, vi x2, vi x4, vi x5]) rfl rfl rfl (Nat.le_of_ble_eq_true rfl) (Nat.le_of_ble_eq_true rfl) (Nat.le_of_ble_eq_true rfl) (rcv_V rfl (congrArg Prod.fst (kf_85 X.1))) rfl ?_
                              refine wp_aload rfl rfl ?_
                              refine wp_iload rfl rfl ?_
                              refine wp_iload rfl rfl ?_
                              refine wp_call (k := 226) (ρ2 := 0) (L2 := [vr 87, vi x2, vi x5]) rfl rfl rfl (Nat.le_of_ble_eq_true rfl) (Nat.le_of_ble_eq_true rfl) (Nat.le_of_ble_eq_true rfl) (rcv_V rfl (congrArg Prod.fst (kf_87 X.1))) rfl ?_
                              refine wp_iload rfl rfl ?_
                              refine wp_ifltF (tn := 22) rfl rfl c156 ?_
                              refine wp_iload rfl rfl ?_
                              refine wp_ifltF (tn := 22) rfl rfl c157 ?_
                              refine wp_iload rfl rfl ?_
                              refine wp_aload rfl rfl ?_
                              refine wp_getI (j := 2) rfl (congrArg Prod.fst (kf_87 X.1)) rfl ?_
                              refine wp_iload rfl rfl ?_
                              refine wp_isub rfl ?_
                              refine Wp.topI (y := ((h 87 2) - x5)) (w32_I g158) ?_
                              refine wp_icgtF (tn := 22) rfl rfl c159 ?_
                              refine wp_iconst rfl ?_
                              refine wp_goto (tn := 23) rfl rfl ?_
                              refine wp_zret rfl rfl (by decide) ?_
                              show Wp X _ 229 7 [vr 85, vr 87, vi x2, vi x4, vi x5] [vi 1] _ _
                              refine wp_ifeqF (tn := 35) rfl rfl (by decide) ?_
                              refine wp_aload rfl rfl ?_
                              refine wp_iload rfl rfl ?_
                              refine wp_iload rfl rfl ?_
                              refine wp_call (k := 226) (ρ2 := 0) (L2 := [vr 85, vi x4, vi x5]) rfl rfl rfl (Nat.le_of_ble_eq_true rfl) (Nat.le_of_ble_eq_true rfl) (Nat.le_of_ble_eq_true rfl) (rcv_V rfl (congrArg Prod.fst (kf_85 X.1))) rfl ?_
                              refine wp_iload rfl rfl ?_
                              refine wp_ifltF (tn := 22) rfl rfl c160 ?_
                              refine wp_iload rfl rfl ?_
                              refine wp_ifltF (tn := 22) rfl rfl c157 ?_
                              refine wp_iload rfl rfl ?_
                              refine wp_aload rfl rfl ?_
                              refine wp_getI (j := 2) rfl (congrArg Prod.fst (kf_85 X.1)) rfl ?_
                              refine wp_iload rfl rfl ?_
                              refine wp_isub rfl ?_
                              refine Wp.topI (y := ((h 85 2) - x5)) (w32_I g161) ?_
                              refine wp_icgtF (tn := 22) rfl rfl c162 ?_
                              refine wp_iconst rfl ?_
                              refine wp_goto (tn := 23) rfl rfl ?_
                              refine wp_zret rfl rfl (by decide) ?_
                              show Wp X _ 229 17 [vr 85, vr 87, vi x2, vi x4, vi x5] [vi 1] _ _
                              refine wp_ifeqF (tn := 35) rfl rfl (by decide) ?_
                              refine wp_aload rfl rfl ?_
                              refine wp_getR (r := 87) rfl (congrArg Prod.fst (kf_87 X.1)) rfl ?_
                              refine wp_iload rfl rfl ?_
                              refine wp_aload rfl rfl ?_
                              refine wp_getR (r := 85) rfl (congrArg Prod.fst (kf_85 X.1)) rfl ?_
                              refine wp_iload rfl rfl ?_
                              refine wp_iload rfl rfl ?_
                              have g163 := H.1
                              replace H := H.2
                              refine wp_copy rfl (kf_88 X.1) (kf_86 X.1) g163 (Nat.le_of_ble_eq_true rfl) ?_
                              refine wp_vret rfl rfl ?_
                              show Wp X _ 28 119 [vr 6, vi 3, vi x2, vi 2, vi x4, vi x5, vr 87, vr 85] [] _ _
                              refine wp_iconst rfl ?_
                              exact wp_iret rfl rfl H
                  · replace H := H.2 c155
                    refine wp_aload rfl rfl ?_
                    refine wp_iconst rfl ?_
                    refine wp_call (k := 38) (ρ2 := 0) (L2 := [vr 6, vi 4]) rfl rfl rfl (Nat.le_of_ble_eq_true rfl) (Nat.le_of_ble_eq_true rfl) (Nat.le_of_ble_eq_true rfl) (rcv_V rfl (congrArg Prod.fst (kf_6 X.1))) rfl ?_
                    refine wp_aload rfl rfl ?_
                    refine wp_iload rfl rfl ?_
                    refine wp_putI (j := 10) rfl (congrArg Prod.fst (kf_6 X.1)) rfl rfl rfl ?_
                    refine wp_iconst rfl ?_
                    refine wp_iload rfl rfl ?_
                    refine wp_isub rfl ?_
                    refine Wp.topI (y := (-14)) (by decide) ?_
                    refine wp_iret rfl rfl ?_
                    show Wp X _ 28 77 [vr 6, vi 3, vi x2, vi 2, vi x4, vi x5, vr 87, vr 85] [vi (-14)] _ _
                    exact wp_iret rfl rfl H
                · replace H := H.2 c154
                  refine wp_iconst rfl ?_
                  refine wp_goto (tn := 13) rfl rfl ?_
                  refine wp_zret rfl rfl (by decide) ?_
                  show Wp X _ 28 50 [vr 6, vi 3, vi x2, vi 2, vi x4, vi x5, vr 87, vr 85] [vi 1] _ _
                  refine wp_ifeqF (tn := 59) rfl rfl (by decide) ?_
                  refine wp_aload rfl rfl ?_
                  refine wp_iconst rfl ?_
                  refine wp_call (k := 38) (ρ2 := 0) (L2 := [vr 6, vi 1]) rfl rfl rfl (Nat.le_of_ble_eq_true rfl) (Nat.le_of_ble_eq_true rfl) (Nat.le_of_ble_eq_true rfl) (rcv_V rfl (congrArg Prod.fst (kf_6 X.1))) rfl ?_
                  refine wp_aload rfl rfl ?_
                  refine wp_iload rfl rfl ?_
                  refine wp_putI (j := 10) rfl (congrArg Prod.fst (kf_6 X.1)) rfl rfl rfl ?_
                  refine wp_iconst rfl ?_
                  refine wp_iload rfl rfl ?_
                  refine wp_isub rfl ?_
                  refine Wp.topI (y := (-11)) (by decide) ?_
                  refine wp_iret rfl rfl ?_
                  show Wp X _ 28 58 [vr 6, vi 3, vi x2, vi 2, vi x4, vi x5, vr 87, vr 85] [vi (-11)] _ _
                  exact wp_iret rfl rfl H
              · replace H := H.2 c153
                refine wp_iconst rfl ?_
                refine wp_goto (tn := 13) rfl rfl ?_
                refine wp_zret rfl rfl (by decide) ?_
                show Wp X _ 28 42 [vr 6, vi 3, vi x2, vi 2, vi x4, vi x5, vr 87, vr 85] [vi 1] _ _
                refine wp_ifneT (tn := 53) rfl rfl (by decide) ?_
                refine wp_aload rfl rfl ?_
                refine wp_iconst rfl ?_
                refine wp_call (k := 38) (ρ2 := 0) (L2 := [vr 6, vi 1]) rfl rfl rfl (Nat.le_of_ble_eq_true rfl) (Nat.le_of_ble_eq_true rfl) (Nat.le_of_ble_eq_true rfl) (rcv_V rfl (congrArg Prod.fst (kf_6 X.1))) rfl ?_
                refine wp_aload rfl rfl ?_
                refine wp_iload rfl rfl ?_
                refine wp_putI (j := 10) rfl (congrArg Prod.fst (kf_6 X.1)) rfl rfl rfl ?_
                refine wp_iconst rfl ?_
                refine wp_iload rfl rfl ?_
                refine wp_isub rfl ?_
                refine Wp.topI (y := (-11)) (by decide) ?_
                refine wp_iret rfl rfl ?_
                show Wp X _ 28 58 [vr 6, vi 3, vi x2, vi 2, vi x4, vi x5, vr 87, vr 85] [vi (-11)] _ _
                exact wp_iret rfl rfl H
            · replace H := H.2.2.2 rfl
              refine wp_aaload (r := 86) rfl (kf_80 X.1) (by decide) (by decide) rfl ?_
              refine wp_astore (L2 := [vr 6, vi 3, vi x2, vi 3, vi x4, vi x5, vr 87, vr 87]) rfl (Nat.le_of_ble_eq_true rfl) rfl ?_
              refine wp_aload rfl rfl ?_
              refine wp_call (k := 220) (ρ2 := 0) (L2 := [vr 87]) rfl rfl rfl (Nat.le_of_ble_eq_true rfl) (Nat.le_of_ble_eq_true rfl) (Nat.le_of_ble_eq_true rfl) (rcv_V rfl (congrArg Prod.fst (kf_87 X.1))) rfl ?_
              refine wp_aload rfl rfl ?_
              refine wp_getI (j := 1) rfl (congrArg Prod.fst (kf_87 X.1)) rfl ?_
              refine wp_iconst rfl ?_
              refine wp_icne (tn := 12) rfl rfl (fun c164 => ?_) (fun c164 => ?_)
              · replace H := H.1 c164
                refine wp_iconst rfl ?_
                refine wp_zret rfl rfl (by decide) ?_
                show Wp X _ 28 42 [vr 6, vi 3, vi x2, vi 3, vi x4, vi x5, vr 87, vr 87] [vi 0] _ _
                refine wp_ifneF (tn := 53) rfl rfl (by decide) ?_
                refine wp_aload rfl rfl ?_
                refine wp_call (k := 220) (ρ2 := 0) (L2 := [vr 87]) rfl rfl rfl (Nat.le_of_ble_eq_true rfl) (Nat.le_of_ble_eq_true rfl) (Nat.le_of_ble_eq_true rfl) (rcv_V rfl (congrArg Prod.fst (kf_87 X.1))) rfl ?_
                refine wp_aload rfl rfl ?_
                refine wp_getI (j := 1) rfl (congrArg Prod.fst (kf_87 X.1)) rfl ?_
                refine wp_iconst rfl ?_
                refine wp_icneT (tn := 12) rfl rfl c164 ?_
                refine wp_iconst rfl ?_
                refine wp_zret rfl rfl (by decide) ?_
                show Wp X _ 28 50 [vr 6, vi 3, vi x2, vi 3, vi x4, vi x5, vr 87, vr 87] [vi 0] _ _
                refine wp_ifeqT (tn := 59) rfl rfl (by decide) ?_
                refine wp_aload rfl rfl ?_
                refine wp_call (k := 221) (ρ2 := 0) (L2 := [vr 87]) rfl rfl rfl (Nat.le_of_ble_eq_true rfl) (Nat.le_of_ble_eq_true rfl) (Nat.le_of_ble_eq_true rfl) (rcv_V rfl (congrArg Prod.fst (kf_87 X.1))) rfl ?_
                refine wp_aload rfl rfl ?_
                refine wp_getI (j := 1) rfl (congrArg Prod.fst (kf_87 X.1)) rfl ?_
                refine wp_iret rfl rfl ?_
                show Wp X _ 28 64 [vr 6, vi 3, vi x2, vi 3, vi x4, vi x5, vr 87, vr 87] [vi (h 87 1)] _ _
                refine wp_aload rfl rfl ?_
                refine wp_call (k := 221) (ρ2 := 0) (L2 := [vr 87]) rfl rfl rfl (Nat.le_of_ble_eq_true rfl) (Nat.le_of_ble_eq_true rfl) (Nat.le_of_ble_eq_true rfl) (rcv_V rfl (congrArg Prod.fst (kf_87 X.1))) rfl ?_
                refine wp_aload rfl rfl ?_
                refine wp_getI (j := 1) rfl (congrArg Prod.fst (kf_87 X.1)) rfl ?_
                refine wp_iret rfl rfl ?_
                show Wp X _ 28 69 [vr 6, vi 3, vi x2, vi 3, vi x4, vi x5, vr 87, vr 87] [vi (h 87 1), vi (h 87 1)] _ _
                refine wp_iceq (tn := 78) rfl rfl (fun c165 => ?_) (fun c165 => ?_)
                · replace H := H.1 c165
                  refine wp_aload rfl rfl ?_
                  refine wp_iload rfl rfl ?_
                  refine wp_iload rfl rfl ?_
                  refine wp_call (k := 226) (ρ2 := 0) (L2 := [vr 87, vi x2, vi x5]) rfl rfl rfl (Nat.le_of_ble_eq_true rfl) (Nat.le_of_ble_eq_true rfl) (Nat.le_of_ble_eq_true rfl) (rcv_V rfl (congrArg Prod.fst (kf_87 X.1))) rfl ?_
                  refine wp_iload rfl rfl ?_
                  refine wp_iflt (tn := 22) rfl rfl (fun c166 => ?_) (fun c166 => ?_)
                  · replace H := H.1 c166
                    refine wp_iconst rfl ?_
                    refine wp_zret rfl rfl (by decide) ?_
                    show Wp X _ 28 86 [vr 6, vi 3, vi x2, vi 3, vi x4, vi x5, vr 87, vr 87] [vi 0] _ _
                    refine wp_ifeqT (tn := 101) rfl rfl (by decide) ?_
                    refine wp_aload rfl rfl ?_
                    refine wp_iconst rfl ?_
                    refine wp_call (k := 38) (ρ2 := 0) (L2 := [vr 6, vi 2]) rfl rfl rfl (Nat.le_of_ble_eq_true rfl) (Nat.le_of_ble_eq_true rfl) (Nat.le_of_ble_eq_true rfl) (rcv_V rfl (congrArg Prod.fst (kf_6 X.1))) rfl ?_
                    refine wp_aload rfl rfl ?_
                    refine wp_iload rfl rfl ?_
                    refine wp_putI (j := 10) rfl (congrArg Prod.fst (kf_6 X.1)) rfl rfl rfl ?_
                    refine wp_iconst rfl ?_
                    refine wp_iload rfl rfl ?_
                    refine wp_isub rfl ?_
                    refine Wp.topI (y := (-12)) (by decide) ?_
                    refine wp_iret rfl rfl ?_
                    show Wp X _ 28 106 [vr 6, vi 3, vi x2, vi 3, vi x4, vi x5, vr 87, vr 87] [vi (-12)] _ _
                    exact wp_iret rfl rfl H
                  · replace H := H.2 c166
                    refine wp_iload rfl rfl ?_
                    refine wp_iflt (tn := 22) rfl rfl (fun c167 => ?_) (fun c167 => ?_)
                    · replace H := H.1 c167
                      refine wp_iconst rfl ?_
                      refine wp_zret rfl rfl (by decide) ?_
                      show Wp X _ 28 86 [vr 6, vi 3, vi x2, vi 3, vi x4, vi x5, vr 87, vr 87] [vi 0] _ _
                      refine wp_ifeqT (tn := 101) rfl rfl (by decide) ?_
                      refine wp_aload rfl rfl ?_
                      refine wp_iconst rfl ?_
                      refine wp_call (k := 38) (ρ2 := 0) (L2 := [vr 6, vi 2]) rfl rfl rfl (Nat.le_of_ble_eq_true rfl) (Nat.le_of_ble_eq_true rfl) (Nat.le_of_ble_eq_true rfl) (rcv_V rfl (congrArg Prod.fst (kf_6 X.1))) rfl ?_
                      refine wp_aload rfl rfl ?_
                      refine wp_iload rfl rfl ?_
                      refine wp_putI (j := 10) rfl (congrArg Prod.fst (kf_6 X.1)) rfl rfl rfl ?_
                      refine wp_iconst rfl ?_
                      refine wp_iload rfl rfl ?_
                      refine wp_isub rfl ?_
                      refine Wp.topI (y := (-12)) (by decide) ?_
                      refine wp_iret rfl rfl ?_
                      show Wp X _ 28 106 [vr 6, vi 3, vi x2, vi 3, vi x4, vi x5, vr 87, vr 87] [vi (-12)] _ _
                      exact wp_iret rfl rfl H
                    · replace H := H.2 c167
                      refine wp_iload rfl rfl ?_
                      refine wp_aload rfl rfl ?_
                      refine wp_getI (j := 2) rfl (congrArg Prod.fst (kf_87 X.1)) rfl ?_
                      refine wp_iload rfl rfl ?_
                      refine wp_isub rfl ?_
                      have g168 := H.1
                      replace H := H.2
                      refine Wp.topI (y := ((h 87 2) - x5)) (w32_I g168) ?_
                      refine wp_icgt (tn := 22) rfl rfl (fun c169 => ?_) (fun c169 => ?_)
                      · replace H := H.1 c169
                        refine wp_iconst rfl ?_
                        refine wp_zret rfl rfl (by decide) ?_
                        show Wp X _ 28 86 [vr 6, vi 3, vi x2, vi 3, vi x4, vi x5, vr 87, vr 87] [vi 0] _ _
                        refine wp_ifeqT (tn := 101) rfl rfl (by decide) ?_
                        refine wp_aload rfl rfl ?_
                        refine wp_iconst rfl ?_
                        refine wp_call (k := 38) (ρ2 := 0) (L2 := [vr 6, vi 2]) rfl rfl rfl (Nat.le_of_ble_eq_true rfl) (Nat.le_of_ble_eq_true rfl) (Nat.le_of_ble_eq_true rfl) (rcv_V rfl (congrArg Prod.fst (kf_6 X.1))) rfl ?_
                        refine wp_aload rfl rfl ?_
                        refine wp_iload rfl rfl ?_
                        refine wp_putI (j := 10) rfl (congrArg Prod.fst (kf_6 X.1)) rfl rfl rfl ?_
                        refine wp_iconst rfl ?_
                        refine wp_iload rfl rfl ?_
                        refine wp_isub rfl ?_
                        refine Wp.topI (y := (-12)) (by decide) ?_
                        refine wp_iret rfl rfl ?_
                        show Wp X _ 28 106 [vr 6, vi 3, vi x2, vi 3, vi x4, vi x5, vr 87, vr 87] [vi (-12)] _ _
                        exact wp_iret rfl rfl H
                      · replace H := H.2 c169
                        refine wp_iconst rfl ?_
                        refine wp_goto (tn := 23) rfl rfl ?_
                        refine wp_zret rfl rfl (by decide) ?_
                        show Wp X _ 28 86 [vr 6, vi 3, vi x2, vi 3, vi x4, vi x5, vr 87, vr 87] [vi 1] _ _
                        refine wp_ifeqF (tn := 101) rfl rfl (by decide) ?_
                        refine wp_aload rfl rfl ?_
                        refine wp_iload rfl rfl ?_
                        refine wp_iload rfl rfl ?_
                        refine wp_call (k := 226) (ρ2 := 0) (L2 := [vr 87, vi x4, vi x5]) rfl rfl rfl (Nat.le_of_ble_eq_true rfl) (Nat.le_of_ble_eq_true rfl) (Nat.le_of_ble_eq_true rfl) (rcv_V rfl (congrArg Prod.fst (kf_87 X.1))) rfl ?_
                        refine wp_iload rfl rfl ?_
                        refine wp_iflt (tn := 22) rfl rfl (fun c170 => ?_) (fun c170 => ?_)
                        · replace H := H.1 c170
                          refine wp_iconst rfl ?_
                          refine wp_zret rfl rfl (by decide) ?_
                          show Wp X _ 28 98 [vr 6, vi 3, vi x2, vi 3, vi x4, vi x5, vr 87, vr 87] [vi 0] _ _
                          refine wp_ifneF (tn := 107) rfl rfl (by decide) ?_
                          refine wp_aload rfl rfl ?_
                          refine wp_iconst rfl ?_
                          refine wp_call (k := 38) (ρ2 := 0) (L2 := [vr 6, vi 2]) rfl rfl rfl (Nat.le_of_ble_eq_true rfl) (Nat.le_of_ble_eq_true rfl) (Nat.le_of_ble_eq_true rfl) (rcv_V rfl (congrArg Prod.fst (kf_6 X.1))) rfl ?_
                          refine wp_aload rfl rfl ?_
                          refine wp_iload rfl rfl ?_
                          refine wp_putI (j := 10) rfl (congrArg Prod.fst (kf_6 X.1)) rfl rfl rfl ?_
                          refine wp_iconst rfl ?_
                          refine wp_iload rfl rfl ?_
                          refine wp_isub rfl ?_
                          refine Wp.topI (y := (-12)) (by decide) ?_
                          refine wp_iret rfl rfl ?_
                          show Wp X _ 28 106 [vr 6, vi 3, vi x2, vi 3, vi x4, vi x5, vr 87, vr 87] [vi (-12)] _ _
                          exact wp_iret rfl rfl H
                        · replace H := H.2 c170
                          refine wp_iload rfl rfl ?_
                          refine wp_ifltF (tn := 22) rfl rfl c167 ?_
                          refine wp_iload rfl rfl ?_
                          refine wp_aload rfl rfl ?_
                          refine wp_getI (j := 2) rfl (congrArg Prod.fst (kf_87 X.1)) rfl ?_
                          refine wp_iload rfl rfl ?_
                          refine wp_isub rfl ?_
                          refine Wp.topI (y := ((h 87 2) - x5)) (w32_I g168) ?_
                          refine wp_icgt (tn := 22) rfl rfl (fun c171 => ?_) (fun c171 => ?_)
                          · replace H := H.1 c171
                            refine wp_iconst rfl ?_
                            refine wp_zret rfl rfl (by decide) ?_
                            show Wp X _ 28 98 [vr 6, vi 3, vi x2, vi 3, vi x4, vi x5, vr 87, vr 87] [vi 0] _ _
                            refine wp_ifneF (tn := 107) rfl rfl (by decide) ?_
                            refine wp_aload rfl rfl ?_
                            refine wp_iconst rfl ?_
                            refine wp_call (k := 38) (ρ2 := 0) (L2 := [vr 6, vi 2]) rfl rfl rfl (Nat.le_of_ble_eq_true rfl) (Nat.le_of_ble_eq_true rfl) (Nat.le_of_ble_eq_true rfl) (rcv_V rfl (congrArg Prod.fst (kf_6 X.1))) rfl ?_
                            refine wp_aload rfl rfl ?_
                            refine wp_iload rfl rfl ?_
                            refine wp_putI (j := 10) rfl (congrArg Prod.fst (kf_6 X.1)) rfl rfl rfl ?_
                            refine wp_iconst rfl ?_
                            refine wp_iload rfl rfl ?_
                            refine wp_isub rfl ?_
                            refine Wp.topI (y := (-12)) (by decide) ?_
                            refine wp_iret rfl rfl ?_
                            show Wp X _ 28 106 [vr 6, vi 3, vi x2, vi 3, vi x4, vi x5, vr 87, vr 87] [vi (-12)] _ _
                            exact wp_iret rfl rfl H
                          · replace H := H.2 c171
                            refine wp_iconst rfl ?_
                            refine wp_goto (tn := 23) rfl rfl ?_
                            refine wp_zret rfl rfl (by decide) ?_
                            show Wp X _ 28 98 [vr 6, vi 3, vi x2, vi 3, vi x4, vi x5, vr 87, vr 87] [vi 1] _ _
                            refine wp_ifneT (tn := 107) rfl rfl (by decide) ?_
                            refine wp_aload rfl rfl ?_
                            refine wp_aload rfl rfl ?_
                            refine wp_iload rfl rfl ?_
                            refine wp_iload rfl rfl ?_
                            refine wp_iload rfl rfl ?_
                            refine wp_call (k := 229) (ρ2 := 1) (L2 := [vr 87, vr 87, vi x2, vi x4, vi x5]) rfl rfl rfl (Nat.le_of_ble_eq_true rfl) (Nat.le_of_ble_eq_true rfl) (Nat.le_of_ble_eq_true rfl) (rcv_V rfl (congrArg Prod.fst (kf_87 X.1))) rfl ?_
                            refine wp_aload rfl rfl ?_
                            refine wp_iload rfl rfl ?_
                            refine wp_iload rfl rfl ?_
                            refine wp_call (k := 226) (ρ2 := 0) (L2 := [vr 87, vi x2, vi x5]) rfl rfl rfl (Nat.le_of_ble_eq_true rfl) (Nat.le_of_ble_eq_true rfl) (Nat.le_of_ble_eq_true rfl) (rcv_V rfl (congrArg Prod.fst (kf_87 X.1))) rfl ?_
                            refine wp_iload rfl rfl ?_
                            refine wp_ifltF (tn := 22) rfl rfl c166 ?_
                            refine wp_iload rfl rfl ?_
                            refine wp_ifltF (tn := 22) rfl rfl c167 ?_
                            refine wp_iload rfl rfl ?_
                            refine wp_aload rfl rfl ?_
                            refine wp_getI (j := 2) rfl (congrArg Prod.fst (kf_87 X.1)) rfl ?_
                            refine wp_iload rfl rfl ?_
                            refine wp_isub rfl ?_
                            refine Wp.topI (y := ((h 87 2) - x5)) (w32_I g168) ?_
                            refine wp_icgtF (tn := 22) rfl rfl c169 ?_
                            refine wp_iconst rfl ?_
                            refine wp_goto (tn := 23) rfl rfl ?_
                            refine wp_zret rfl rfl (by decide) ?_
                            show Wp X _ 229 7 [vr 87, vr 87, vi x2, vi x4, vi x5] [vi 1] _ _
                            refine wp_ifeqF (tn := 35) rfl rfl (by decide) ?_
                            refine wp_aload rfl rfl ?_
                            refine wp_iload rfl rfl ?_
                            refine wp_iload rfl rfl ?_
                            refine wp_call (k := 226) (ρ2 := 0) (L2 := [vr 87, vi x4, vi x5]) rfl rfl rfl (Nat.le_of_ble_eq_true rfl) (Nat.le_of_ble_eq_true rfl) (Nat.le_of_ble_eq_true rfl) (rcv_V rfl (congrArg Prod.fst (kf_87 X.1))) rfl ?_
                            refine wp_iload rfl rfl ?_
                            refine wp_ifltF (tn := 22) rfl rfl c170 ?_
                            refine wp_iload rfl rfl ?_
                            refine wp_ifltF (tn := 22) rfl rfl c167 ?_
                            refine wp_iload rfl rfl ?_
                            refine wp_aload rfl rfl ?_
                            refine wp_getI (j := 2) rfl (congrArg Prod.fst (kf_87 X.1)) rfl ?_
                            refine wp_iload rfl rfl ?_
                            refine wp_isub rfl ?_
                            refine Wp.topI (y := ((h 87 2) - x5)) (w32_I g168) ?_
                            refine wp_icgtF (tn := 22) rfl rfl c171 ?_
                            refine wp_iconst rfl ?_
                            refine wp_goto (tn := 23) rfl rfl ?_
                            refine wp_zret rfl rfl (by decide) ?_
                            show Wp X _ 229 17 [vr 87, vr 87, vi x2, vi x4, vi x5] [vi 1] _ _
                            refine wp_ifeqF (tn := 35) rfl rfl (by decide) ?_
                            refine wp_aload rfl rfl ?_
                            refine wp_getR (r := 87) rfl (congrArg Prod.fst (kf_87 X.1)) rfl ?_
                            refine wp_iload rfl rfl ?_
                            refine wp_aload rfl rfl ?_
                            refine wp_getR (r := 87) rfl (congrArg Prod.fst (kf_87 X.1)) rfl ?_
                            refine wp_iload rfl rfl ?_
                            refine wp_iload rfl rfl ?_
                            have g172 := H.1
                            replace H := H.2
                            refine wp_copy rfl (kf_88 X.1) (kf_88 X.1) g172 (Nat.le_of_ble_eq_true rfl) ?_
                            refine wp_vret rfl rfl ?_
                            show Wp X _ 28 119 [vr 6, vi 3, vi x2, vi 3, vi x4, vi x5, vr 87, vr 87] [] _ _
                            refine wp_iconst rfl ?_
                            exact wp_iret rfl rfl H
                · replace H := H.2 c165
                  refine wp_aload rfl rfl ?_
                  refine wp_iconst rfl ?_
                  refine wp_call (k := 38) (ρ2 := 0) (L2 := [vr 6, vi 4]) rfl rfl rfl (Nat.le_of_ble_eq_true rfl) (Nat.le_of_ble_eq_true rfl) (Nat.le_of_ble_eq_true rfl) (rcv_V rfl (congrArg Prod.fst (kf_6 X.1))) rfl ?_
                  refine wp_aload rfl rfl ?_
                  refine wp_iload rfl rfl ?_
                  refine wp_putI (j := 10) rfl (congrArg Prod.fst (kf_6 X.1)) rfl rfl rfl ?_
                  refine wp_iconst rfl ?_
                  refine wp_iload rfl rfl ?_
                  refine wp_isub rfl ?_
                  refine Wp.topI (y := (-14)) (by decide) ?_
                  refine wp_iret rfl rfl ?_
                  show Wp X _ 28 77 [vr 6, vi 3, vi x2, vi 3, vi x4, vi x5, vr 87, vr 87] [vi (-14)] _ _
                  exact wp_iret rfl rfl H
              · replace H := H.2 c164
                refine wp_iconst rfl ?_
                refine wp_goto (tn := 13) rfl rfl ?_
                refine wp_zret rfl rfl (by decide) ?_
                show Wp X _ 28 42 [vr 6, vi 3, vi x2, vi 3, vi x4, vi x5, vr 87, vr 87] [vi 1] _ _
                refine wp_ifneT (tn := 53) rfl rfl (by decide) ?_
                refine wp_aload rfl rfl ?_
                refine wp_iconst rfl ?_
                refine wp_call (k := 38) (ρ2 := 0) (L2 := [vr 6, vi 1]) rfl rfl rfl (Nat.le_of_ble_eq_true rfl) (Nat.le_of_ble_eq_true rfl) (Nat.le_of_ble_eq_true rfl) (rcv_V rfl (congrArg Prod.fst (kf_6 X.1))) rfl ?_
                refine wp_aload rfl rfl ?_
                refine wp_iload rfl rfl ?_
                refine wp_putI (j := 10) rfl (congrArg Prod.fst (kf_6 X.1)) rfl rfl rfl ?_
                refine wp_iconst rfl ?_
                refine wp_iload rfl rfl ?_
                refine wp_isub rfl ?_
                refine Wp.topI (y := (-11)) (by decide) ?_
                refine wp_iret rfl rfl ?_
                show Wp X _ 28 58 [vr 6, vi 3, vi x2, vi 3, vi x4, vi x5, vr 87, vr 87] [vi (-11)] _ _
                exact wp_iret rfl rfl H
        · replace H := H.2 c4
          refine wp_iconst rfl ?_
          refine wp_goto (tn := 15) rfl rfl ?_
          refine wp_zret rfl rfl (by decide) ?_
          show Wp X _ 28 15 [vr 6, vi x1, vi x2, vi x3, vi x4, vi x5, vu, vu] [vi 1] _ _
          refine wp_ifeqF (tn := 21) rfl rfl (by decide) ?_
          refine wp_iconst rfl ?_
          exact wp_iret rfl rfl H
    · replace H := H.2 c2
      refine wp_iconst rfl ?_
      refine wp_goto (tn := 15) rfl rfl ?_
      refine wp_zret rfl rfl (by decide) ?_
      show Wp X _ 28 6 [vr 6, vi x1, vi x2, vi x3, vi x4, vi x5, vu, vu] [vi 1] _ _
      refine wp_ifneT (tn := 18) rfl rfl (by decide) ?_
      refine wp_iconst rfl ?_
      exact wp_iret rfl rfl H
