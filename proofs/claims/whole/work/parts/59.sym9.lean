-- ===== the methods run symbolically, 9 (by program: wip/whole/gen_sym.py) =====
/-- RuleText.readZoneRule(II)I, from 0 -/
theorem S214_45_0 {X : Nat × (Int → Int)} {h : HP} {Q : bQ} (x1 : Int) (x2 : Int) (H : ((R32 (x2 + 1)) ∧ (((x2 + 1) < 0 → Q (some (vi (x2 + 1))) (upd2 h 45 6 (x2 + 1))) ∧ (0 ≤ (x2 + 1) → (((h 45 4) ≤ (x2 + 1) → Q (some (vi (x2 + 1))) (upd2 h 45 6 (x2 + 1))) ∧ ((x2 + 1) < (h 45 4) → ((0 ≤ (x2 + 1) ∧ (x2 + 1) < 50) ∧ ((R32 ((h 46 (x2 + 1)) - 48)) ∧ ((((h 46 (x2 + 1)) - 48) < 1 → Q (some (vi (x2 + 1))) (upd2 h 45 6 (x2 + 1))) ∧ (1 ≤ ((h 46 (x2 + 1)) - 48) → ((((h 46 (x2 + 1)) - 48) ≤ 5 → (((h 45 4) ≤ (x2 + 2) → Q (some (vi (x2 + 2))) (upd2 h 45 6 (x2 + 2))) ∧ ((x2 + 2) < (h 45 4) → ((0 ≤ (x2 + 2) ∧ (x2 + 2) < 50) ∧ (((h 46 (x2 + 2)) = 47 → (((h 45 4) ≤ (x2 + 3) → Q (some (vi (x2 + 3))) (upd2 h 45 6 (x2 + 3))) ∧ ((x2 + 3) < (h 45 4) → ((0 ≤ (x2 + 3) ∧ (x2 + 3) < 50) ∧ ((R32 ((h 46 (x2 + 3)) - 48)) ∧ ((((h 46 (x2 + 3)) - 48) < ((h 46 (x2 + 1)) - 48) → Q (some (vi (x2 + 3))) (upd2 h 45 6 (x2 + 3))) ∧ (((h 46 (x2 + 1)) - 48) ≤ ((h 46 (x2 + 3)) - 48) → ((((h 46 (x2 + 3)) - 48) ≤ 5 → ((((h 46 (x2 + 3)) - 48) ≠ (-1) → (((h 45 4) ≤ (x2 + 4) → Q (some (vi (x2 + 4))) (upd2 h 45 6 (x2 + 4))) ∧ ((x2 + 4) < (h 45 4) → ((0 ≤ (x2 + 4) ∧ (x2 + 4) < 50) ∧ (((h 46 (x2 + 4)) = 62 → (((h 45 4) ≤ (x2 + 5) → Q (some (vi (x2 + 5))) (upd2 h 45 6 (x2 + 5))) ∧ ((x2 + 5) < (h 45 4) → ((0 ≤ (x2 + 5) ∧ (x2 + 5) < 50) ∧ ((R32 ((h 46 (x2 + 5)) - 48)) ∧ ((((h 46 (x2 + 5)) - 48) < 0 → Q (some (vi (x2 + 5))) (upd2 h 45 6 (x2 + 5))) ∧ (0 ≤ ((h 46 (x2 + 5)) - 48) → ((((h 46 (x2 + 5)) - 48) ≤ 3 → Wp X 1 245 0 [vr 49, vi x1, vi ((h 46 (x2 + 1)) - 48), vi ((h 46 (x2 + 3)) - 48), vi ((h 46 (x2 + 5)) - 48), vu, vu] [] h (fun v h' => Wp X 2 214 126 [vr 45, vi x1, vi x2, vi ((h 46 (x2 + 1)) - 48), vi ((h 46 (x2 + 3)) - 48), vi ((h 46 (x2 + 5)) - 48)] (psh v []) h' Q)) ∧ (3 < ((h 46 (x2 + 5)) - 48) → Q (some (vi (x2 + 5))) (upd2 h 45 6 (x2 + 5))))))))))) ∧ ((h 46 (x2 + 4)) ≠ 62 → Q (some (vi (x2 + 4))) (upd2 h 45 6 (x2 + 4)))))))) ∧ (((h 46 (x2 + 3)) - 48) = (-1) → Q (some (vi (x2 + 3))) (upd2 h 45 6 (x2 + 3))))) ∧ (5 < ((h 46 (x2 + 3)) - 48) → Q (some (vi (x2 + 3))) (upd2 h 45 6 (x2 + 3))))))))))) ∧ ((h 46 (x2 + 2)) ≠ 47 → Q (some (vi (x2 + 2))) (upd2 h 45 6 (x2 + 2)))))))) ∧ (5 < ((h 46 (x2 + 1)) - 48) → Q (some (vi (x2 + 1))) (upd2 h 45 6 (x2 + 1)))))))))))))) : Wp X 2 214 0 [vr 45, vi x1, vi x2, vu, vu, vu] [] h Q := by
  refine wp_aload rfl rfl ?_
  refine wp_iload rfl rfl ?_
  refine wp_iconst rfl ?_
  refine wp_iadd rfl ?_
  have g1 := H.1
  replace H := H.2
  refine Wp.topI (y := (x2 + 1)) (w32_I g1) ?_
  refine wp_iconst rfl ?_
  refine wp_iconst rfl ?_
  refine wp_call (k := 217) (ρ2 := 1) (L2 := [vr 45, vi (x2 + 1), vi 1, vi 5, vu]) rfl rfl rfl (Nat.le_of_ble_eq_true rfl) (Nat.le_of_ble_eq_true rfl) (Nat.le_of_ble_eq_true rfl) (rcv_V rfl (congrArg Prod.fst (kf_45 X.1))) rfl ?_
  refine wp_aload rfl rfl ?_
  refine wp_iload rfl rfl ?_
  refine wp_call (k := 218) (ρ2 := 0) (L2 := [vr 45, vi (x2 + 1)]) rfl rfl rfl (Nat.le_of_ble_eq_true rfl) (Nat.le_of_ble_eq_true rfl) (Nat.le_of_ble_eq_true rfl) (rcv_V rfl (congrArg Prod.fst (kf_45 X.1))) rfl ?_
  refine wp_iload rfl rfl ?_
  refine wp_iflt (tn := 21) rfl rfl (fun c2 => ?_) (fun c2 => ?_)
  · replace H := H.1 c2
    refine wp_iconst rfl ?_
    refine wp_iret rfl rfl ?_
    show Wp X _ 217 5 [vr 45, vi (x2 + 1), vi 1, vi 5, vu] [vi (-1)] _ _
    refine wp_iconst rfl ?_
    refine wp_isub rfl ?_
    refine Wp.topI (y := (-49)) (by decide) ?_
    refine wp_istore (L2 := [vr 45, vi (x2 + 1), vi 1, vi 5, vi (-49)]) rfl (Nat.le_of_ble_eq_true rfl) rfl ?_
    refine wp_iload rfl rfl ?_
    refine wp_iload rfl rfl ?_
    refine wp_icltT (tn := 22) rfl rfl (by decide) ?_
    refine wp_iconst rfl ?_
    refine wp_goto (tn := 28) rfl rfl ?_
    refine wp_iret rfl rfl ?_
    show Wp X _ 214 9 [vr 45, vi x1, vi x2, vu, vu, vu] [vi (-1)] _ _
    refine wp_istore (L2 := [vr 45, vi x1, vi x2, vi (-1), vu, vu]) rfl (Nat.le_of_ble_eq_true rfl) rfl ?_
    refine wp_iload rfl rfl ?_
    refine wp_iconst rfl ?_
    refine wp_icneF (tn := 23) rfl rfl (by decide) ?_
    refine wp_aload rfl rfl ?_
    refine wp_iload rfl rfl ?_
    refine wp_iconst rfl ?_
    refine wp_iadd rfl ?_
    refine Wp.topI (y := (x2 + 1)) (w32_I g1) ?_
    refine wp_call (k := 216) (ρ2 := 0) (L2 := [vr 45, vi (x2 + 1)]) rfl rfl rfl (Nat.le_of_ble_eq_true rfl) (Nat.le_of_ble_eq_true rfl) (Nat.le_of_ble_eq_true rfl) (rcv_V rfl (congrArg Prod.fst (kf_45 X.1))) rfl ?_
    refine wp_aload rfl rfl ?_
    refine wp_iload rfl rfl ?_
    refine wp_putI (j := 6) rfl (congrArg Prod.fst (kf_45 X.1)) rfl rfl rfl ?_
    refine wp_iload rfl rfl ?_
    refine wp_iret rfl rfl ?_
    show Wp X _ 214 22 [vr 45, vi x1, vi x2, vi (-1), vu, vu] [vi (x2 + 1)] _ _
    exact wp_iret rfl rfl H
  · replace H := H.2 c2
    refine wp_iload rfl rfl ?_
    refine wp_aload rfl rfl ?_
    refine wp_getI (j := 4) rfl (congrArg Prod.fst (kf_45 X.1)) rfl ?_
    refine wp_icge (tn := 21) rfl rfl (fun c3 => ?_) (fun c3 => ?_)
    · replace H := H.1 c3
      refine wp_iconst rfl ?_
      refine wp_iret rfl rfl ?_
      show Wp X _ 217 5 [vr 45, vi (x2 + 1), vi 1, vi 5, vu] [vi (-1)] _ _
      refine wp_iconst rfl ?_
      refine wp_isub rfl ?_
      refine Wp.topI (y := (-49)) (by decide) ?_
      refine wp_istore (L2 := [vr 45, vi (x2 + 1), vi 1, vi 5, vi (-49)]) rfl (Nat.le_of_ble_eq_true rfl) rfl ?_
      refine wp_iload rfl rfl ?_
      refine wp_iload rfl rfl ?_
      refine wp_icltT (tn := 22) rfl rfl (by decide) ?_
      refine wp_iconst rfl ?_
      refine wp_goto (tn := 28) rfl rfl ?_
      refine wp_iret rfl rfl ?_
      show Wp X _ 214 9 [vr 45, vi x1, vi x2, vu, vu, vu] [vi (-1)] _ _
      refine wp_istore (L2 := [vr 45, vi x1, vi x2, vi (-1), vu, vu]) rfl (Nat.le_of_ble_eq_true rfl) rfl ?_
      refine wp_iload rfl rfl ?_
      refine wp_iconst rfl ?_
      refine wp_icneF (tn := 23) rfl rfl (by decide) ?_
      refine wp_aload rfl rfl ?_
      refine wp_iload rfl rfl ?_
      refine wp_iconst rfl ?_
      refine wp_iadd rfl ?_
      refine Wp.topI (y := (x2 + 1)) (w32_I g1) ?_
      refine wp_call (k := 216) (ρ2 := 0) (L2 := [vr 45, vi (x2 + 1)]) rfl rfl rfl (Nat.le_of_ble_eq_true rfl) (Nat.le_of_ble_eq_true rfl) (Nat.le_of_ble_eq_true rfl) (rcv_V rfl (congrArg Prod.fst (kf_45 X.1))) rfl ?_
      refine wp_aload rfl rfl ?_
      refine wp_iload rfl rfl ?_
      refine wp_putI (j := 6) rfl (congrArg Prod.fst (kf_45 X.1)) rfl rfl rfl ?_
      refine wp_iload rfl rfl ?_
      refine wp_iret rfl rfl ?_
      show Wp X _ 214 22 [vr 45, vi x1, vi x2, vi (-1), vu, vu] [vi (x2 + 1)] _ _
      exact wp_iret rfl rfl H
    · replace H := H.2 c3
      refine wp_aload rfl rfl ?_
      refine wp_getR (r := 45) rfl (congrArg Prod.fst (kf_45 X.1)) rfl ?_
      refine wp_iload rfl rfl ?_
      have g4 := H.1
      replace H := H.2
      refine wp_iaload rfl (kf_46 X.1) g4 ?_
      refine wp_goto (tn := 22) rfl rfl ?_
      refine wp_iret rfl rfl ?_
      show Wp X _ 217 5 [vr 45, vi (x2 + 1), vi 1, vi 5, vu] [vi (h 46 (x2 + 1))] _ _
      refine wp_iconst rfl ?_
      refine wp_isub rfl ?_
      have g5 := H.1
      replace H := H.2
      refine Wp.topI (y := ((h 46 (x2 + 1)) - 48)) (w32_I g5) ?_
      refine wp_istore (L2 := [vr 45, vi (x2 + 1), vi 1, vi 5, vi ((h 46 (x2 + 1)) - 48)]) rfl (Nat.le_of_ble_eq_true rfl) rfl ?_
      refine wp_iload rfl rfl ?_
      refine wp_iload rfl rfl ?_
      refine wp_iclt (tn := 22) rfl rfl (fun c6 => ?_) (fun c6 => ?_)
      · replace H := H.1 c6
        refine wp_iconst rfl ?_
        refine wp_goto (tn := 28) rfl rfl ?_
        refine wp_iret rfl rfl ?_
        show Wp X _ 214 9 [vr 45, vi x1, vi x2, vu, vu, vu] [vi (-1)] _ _
        refine wp_istore (L2 := [vr 45, vi x1, vi x2, vi (-1), vu, vu]) rfl (Nat.le_of_ble_eq_true rfl) rfl ?_
        refine wp_iload rfl rfl ?_
        refine wp_iconst rfl ?_
        refine wp_icneF (tn := 23) rfl rfl (by decide) ?_
        refine wp_aload rfl rfl ?_
        refine wp_iload rfl rfl ?_
        refine wp_iconst rfl ?_
        refine wp_iadd rfl ?_
        refine Wp.topI (y := (x2 + 1)) (w32_I (by clear H; unfold R32; omega)) ?_
        refine wp_call (k := 216) (ρ2 := 0) (L2 := [vr 45, vi (x2 + 1)]) rfl rfl rfl (Nat.le_of_ble_eq_true rfl) (Nat.le_of_ble_eq_true rfl) (Nat.le_of_ble_eq_true rfl) (rcv_V rfl (congrArg Prod.fst (kf_45 X.1))) rfl ?_
        refine wp_aload rfl rfl ?_
        refine wp_iload rfl rfl ?_
        refine wp_putI (j := 6) rfl (congrArg Prod.fst (kf_45 X.1)) rfl rfl rfl ?_
        refine wp_iload rfl rfl ?_
        refine wp_iret rfl rfl ?_
        show Wp X _ 214 22 [vr 45, vi x1, vi x2, vi (-1), vu, vu] [vi (x2 + 1)] _ _
        exact wp_iret rfl rfl H
      · replace H := H.2 c6
        refine wp_iload rfl rfl ?_
        refine wp_iload rfl rfl ?_
        refine wp_icle (tn := 26) rfl rfl (fun c7 => ?_) (fun c7 => ?_)
        · replace H := H.1 c7
          refine wp_iload rfl rfl ?_
          refine wp_iret rfl rfl ?_
          show Wp X _ 214 9 [vr 45, vi x1, vi x2, vu, vu, vu] [vi ((h 46 (x2 + 1)) - 48)] _ _
          refine wp_istore (L2 := [vr 45, vi x1, vi x2, vi ((h 46 (x2 + 1)) - 48), vu, vu]) rfl (Nat.le_of_ble_eq_true rfl) rfl ?_
          refine wp_iload rfl rfl ?_
          refine wp_iconst rfl ?_
          refine wp_icneT (tn := 23) rfl rfl (by clear H; omega) ?_
          refine wp_aload rfl rfl ?_
          refine wp_iload rfl rfl ?_
          refine wp_iconst rfl ?_
          refine wp_iadd rfl ?_
          refine Wp.topI (y := (x2 + 2)) (w32_I (by clear H; unfold R32; omega)) ?_
          refine wp_call (k := 218) (ρ2 := 0) (L2 := [vr 45, vi (x2 + 2)]) rfl rfl rfl (Nat.le_of_ble_eq_true rfl) (Nat.le_of_ble_eq_true rfl) (Nat.le_of_ble_eq_true rfl) (rcv_V rfl (congrArg Prod.fst (kf_45 X.1))) rfl ?_
          refine wp_iload rfl rfl ?_
          refine wp_ifltF (tn := 21) rfl rfl (by clear H; omega) ?_
          refine wp_iload rfl rfl ?_
          refine wp_aload rfl rfl ?_
          refine wp_getI (j := 4) rfl (congrArg Prod.fst (kf_45 X.1)) rfl ?_
          refine wp_icge (tn := 21) rfl rfl (fun c8 => ?_) (fun c8 => ?_)
          · replace H := H.1 c8
            refine wp_iconst rfl ?_
            refine wp_iret rfl rfl ?_
            show Wp X _ 214 30 [vr 45, vi x1, vi x2, vi ((h 46 (x2 + 1)) - 48), vu, vu] [vi (-1)] _ _
            refine wp_iconst rfl ?_
            refine wp_iceqF (tn := 43) rfl rfl (by decide) ?_
            refine wp_aload rfl rfl ?_
            refine wp_iload rfl rfl ?_
            refine wp_iconst rfl ?_
            refine wp_iadd rfl ?_
            refine Wp.topI (y := (x2 + 2)) (w32_I (by clear H; unfold R32; omega)) ?_
            refine wp_call (k := 216) (ρ2 := 0) (L2 := [vr 45, vi (x2 + 2)]) rfl rfl rfl (Nat.le_of_ble_eq_true rfl) (Nat.le_of_ble_eq_true rfl) (Nat.le_of_ble_eq_true rfl) (rcv_V rfl (congrArg Prod.fst (kf_45 X.1))) rfl ?_
            refine wp_aload rfl rfl ?_
            refine wp_iload rfl rfl ?_
            refine wp_putI (j := 6) rfl (congrArg Prod.fst (kf_45 X.1)) rfl rfl rfl ?_
            refine wp_iload rfl rfl ?_
            refine wp_iret rfl rfl ?_
            show Wp X _ 214 42 [vr 45, vi x1, vi x2, vi ((h 46 (x2 + 1)) - 48), vu, vu] [vi (x2 + 2)] _ _
            exact wp_iret rfl rfl H
          · replace H := H.2 c8
            refine wp_aload rfl rfl ?_
            refine wp_getR (r := 45) rfl (congrArg Prod.fst (kf_45 X.1)) rfl ?_
            refine wp_iload rfl rfl ?_
            have g9 := H.1
            replace H := H.2
            refine wp_iaload rfl (kf_46 X.1) g9 ?_
            refine wp_goto (tn := 22) rfl rfl ?_
            refine wp_iret rfl rfl ?_
            show Wp X _ 214 30 [vr 45, vi x1, vi x2, vi ((h 46 (x2 + 1)) - 48), vu, vu] [vi (h 46 (x2 + 2))] _ _
            refine wp_iconst rfl ?_
            refine wp_iceq (tn := 43) rfl rfl (fun c10 => ?_) (fun c10 => ?_)
            · replace H := H.1 c10
              refine wp_aload rfl rfl ?_
              refine wp_iload rfl rfl ?_
              refine wp_iconst rfl ?_
              refine wp_iadd rfl ?_
              refine Wp.topI (y := (x2 + 3)) (w32_I (by clear H; unfold R32; omega)) ?_
              refine wp_iload rfl rfl ?_
              refine wp_iconst rfl ?_
              refine wp_call (k := 217) (ρ2 := 1) (L2 := [vr 45, vi (x2 + 3), vi ((h 46 (x2 + 1)) - 48), vi 5, vu]) rfl rfl rfl (Nat.le_of_ble_eq_true rfl) (Nat.le_of_ble_eq_true rfl) (Nat.le_of_ble_eq_true rfl) (rcv_V rfl (congrArg Prod.fst (kf_45 X.1))) rfl ?_
              refine wp_aload rfl rfl ?_
              refine wp_iload rfl rfl ?_
              refine wp_call (k := 218) (ρ2 := 0) (L2 := [vr 45, vi (x2 + 3)]) rfl rfl rfl (Nat.le_of_ble_eq_true rfl) (Nat.le_of_ble_eq_true rfl) (Nat.le_of_ble_eq_true rfl) (rcv_V rfl (congrArg Prod.fst (kf_45 X.1))) rfl ?_
              refine wp_iload rfl rfl ?_
              refine wp_ifltF (tn := 21) rfl rfl (by clear H; omega) ?_
              refine wp_iload rfl rfl ?_
              refine wp_aload rfl rfl ?_
              refine wp_getI (j := 4) rfl (congrArg Prod.fst (kf_45 X.1)) rfl ?_
              refine wp_icge (tn := 21) rfl rfl (fun c11 => ?_) (fun c11 => ?_)
              · replace H := H.1 c11
                refine wp_iconst rfl ?_
                refine wp_iret rfl rfl ?_
                show Wp X _ 217 5 [vr 45, vi (x2 + 3), vi ((h 46 (x2 + 1)) - 48), vi 5, vu] [vi (-1)] _ _
                refine wp_iconst rfl ?_
                refine wp_isub rfl ?_
                refine Wp.topI (y := (-49)) (by decide) ?_
                refine wp_istore (L2 := [vr 45, vi (x2 + 3), vi ((h 46 (x2 + 1)) - 48), vi 5, vi (-49)]) rfl (Nat.le_of_ble_eq_true rfl) rfl ?_
                refine wp_iload rfl rfl ?_
                refine wp_iload rfl rfl ?_
                refine wp_icltT (tn := 22) rfl rfl (by clear H; omega) ?_
                refine wp_iconst rfl ?_
                refine wp_goto (tn := 28) rfl rfl ?_
                refine wp_iret rfl rfl ?_
                show Wp X _ 214 52 [vr 45, vi x1, vi x2, vi ((h 46 (x2 + 1)) - 48), vu, vu] [vi (-1)] _ _
                refine wp_istore (L2 := [vr 45, vi x1, vi x2, vi ((h 46 (x2 + 1)) - 48), vi (-1), vu]) rfl (Nat.le_of_ble_eq_true rfl) rfl ?_
                refine wp_iload rfl rfl ?_
                refine wp_iconst rfl ?_
                refine wp_icneF (tn := 68) rfl rfl (by decide) ?_
                refine wp_aload rfl rfl ?_
                refine wp_iload rfl rfl ?_
                refine wp_iconst rfl ?_
                refine wp_iadd rfl ?_
                refine Wp.topI (y := (x2 + 3)) (w32_I (by clear H; unfold R32; omega)) ?_
                refine wp_call (k := 216) (ρ2 := 0) (L2 := [vr 45, vi (x2 + 3)]) rfl rfl rfl (Nat.le_of_ble_eq_true rfl) (Nat.le_of_ble_eq_true rfl) (Nat.le_of_ble_eq_true rfl) (rcv_V rfl (congrArg Prod.fst (kf_45 X.1))) rfl ?_
                refine wp_aload rfl rfl ?_
                refine wp_iload rfl rfl ?_
                refine wp_putI (j := 6) rfl (congrArg Prod.fst (kf_45 X.1)) rfl rfl rfl ?_
                refine wp_iload rfl rfl ?_
                refine wp_iret rfl rfl ?_
                show Wp X _ 214 67 [vr 45, vi x1, vi x2, vi ((h 46 (x2 + 1)) - 48), vi (-1), vu] [vi (x2 + 3)] _ _
                exact wp_iret rfl rfl H
              · replace H := H.2 c11
                refine wp_aload rfl rfl ?_
                refine wp_getR (r := 45) rfl (congrArg Prod.fst (kf_45 X.1)) rfl ?_
                refine wp_iload rfl rfl ?_
                have g12 := H.1
                replace H := H.2
                refine wp_iaload rfl (kf_46 X.1) g12 ?_
                refine wp_goto (tn := 22) rfl rfl ?_
                refine wp_iret rfl rfl ?_
                show Wp X _ 217 5 [vr 45, vi (x2 + 3), vi ((h 46 (x2 + 1)) - 48), vi 5, vu] [vi (h 46 (x2 + 3))] _ _
                refine wp_iconst rfl ?_
                refine wp_isub rfl ?_
                have g13 := H.1
                replace H := H.2
                refine Wp.topI (y := ((h 46 (x2 + 3)) - 48)) (w32_I g13) ?_
                refine wp_istore (L2 := [vr 45, vi (x2 + 3), vi ((h 46 (x2 + 1)) - 48), vi 5, vi ((h 46 (x2 + 3)) - 48)]) rfl (Nat.le_of_ble_eq_true rfl) rfl ?_
                refine wp_iload rfl rfl ?_
                refine wp_iload rfl rfl ?_
                refine wp_iclt (tn := 22) rfl rfl (fun c14 => ?_) (fun c14 => ?_)
                · replace H := H.1 c14
                  refine wp_iconst rfl ?_
                  refine wp_goto (tn := 28) rfl rfl ?_
                  refine wp_iret rfl rfl ?_
                  show Wp X _ 214 52 [vr 45, vi x1, vi x2, vi ((h 46 (x2 + 1)) - 48), vu, vu] [vi (-1)] _ _
                  refine wp_istore (L2 := [vr 45, vi x1, vi x2, vi ((h 46 (x2 + 1)) - 48), vi (-1), vu]) rfl (Nat.le_of_ble_eq_true rfl) rfl ?_
                  refine wp_iload rfl rfl ?_
                  refine wp_iconst rfl ?_
                  refine wp_icneF (tn := 68) rfl rfl (by decide) ?_
                  refine wp_aload rfl rfl ?_
                  refine wp_iload rfl rfl ?_
                  refine wp_iconst rfl ?_
                  refine wp_iadd rfl ?_
                  refine Wp.topI (y := (x2 + 3)) (w32_I (by clear H; unfold R32; omega)) ?_
                  refine wp_call (k := 216) (ρ2 := 0) (L2 := [vr 45, vi (x2 + 3)]) rfl rfl rfl (Nat.le_of_ble_eq_true rfl) (Nat.le_of_ble_eq_true rfl) (Nat.le_of_ble_eq_true rfl) (rcv_V rfl (congrArg Prod.fst (kf_45 X.1))) rfl ?_
                  refine wp_aload rfl rfl ?_
                  refine wp_iload rfl rfl ?_
                  refine wp_putI (j := 6) rfl (congrArg Prod.fst (kf_45 X.1)) rfl rfl rfl ?_
                  refine wp_iload rfl rfl ?_
                  refine wp_iret rfl rfl ?_
                  show Wp X _ 214 67 [vr 45, vi x1, vi x2, vi ((h 46 (x2 + 1)) - 48), vi (-1), vu] [vi (x2 + 3)] _ _
                  exact wp_iret rfl rfl H
                · replace H := H.2 c14
                  refine wp_iload rfl rfl ?_
                  refine wp_iload rfl rfl ?_
                  refine wp_icle (tn := 26) rfl rfl (fun c15 => ?_) (fun c15 => ?_)
                  · replace H := H.1 c15
                    refine wp_iload rfl rfl ?_
                    refine wp_iret rfl rfl ?_
                    show Wp X _ 214 52 [vr 45, vi x1, vi x2, vi ((h 46 (x2 + 1)) - 48), vu, vu] [vi ((h 46 (x2 + 3)) - 48)] _ _
                    refine wp_istore (L2 := [vr 45, vi x1, vi x2, vi ((h 46 (x2 + 1)) - 48), vi ((h 46 (x2 + 3)) - 48), vu]) rfl (Nat.le_of_ble_eq_true rfl) rfl ?_
                    refine wp_iload rfl rfl ?_
                    refine wp_iconst rfl ?_
                    refine wp_icne (tn := 68) rfl rfl (fun c16 => ?_) (fun c16 => ?_)
                    · replace H := H.1 c16
                      refine wp_aload rfl rfl ?_
                      refine wp_iload rfl rfl ?_
                      refine wp_iconst rfl ?_
                      refine wp_iadd rfl ?_
                      refine Wp.topI (y := (x2 + 4)) (w32_I (by clear H; unfold R32; omega)) ?_
                      refine wp_call (k := 218) (ρ2 := 0) (L2 := [vr 45, vi (x2 + 4)]) rfl rfl rfl (Nat.le_of_ble_eq_true rfl) (Nat.le_of_ble_eq_true rfl) (Nat.le_of_ble_eq_true rfl) (rcv_V rfl (congrArg Prod.fst (kf_45 X.1))) rfl ?_
                      refine wp_iload rfl rfl ?_
                      refine wp_ifltF (tn := 21) rfl rfl (by clear H; omega) ?_
                      refine wp_iload rfl rfl ?_
                      refine wp_aload rfl rfl ?_
                      refine wp_getI (j := 4) rfl (congrArg Prod.fst (kf_45 X.1)) rfl ?_
                      refine wp_icge (tn := 21) rfl rfl (fun c17 => ?_) (fun c17 => ?_)
                      · replace H := H.1 c17
                        refine wp_iconst rfl ?_
                        refine wp_iret rfl rfl ?_
                        show Wp X _ 214 75 [vr 45, vi x1, vi x2, vi ((h 46 (x2 + 1)) - 48), vi ((h 46 (x2 + 3)) - 48), vu] [vi (-1)] _ _
                        refine wp_iconst rfl ?_
                        refine wp_iceqF (tn := 88) rfl rfl (by decide) ?_
                        refine wp_aload rfl rfl ?_
                        refine wp_iload rfl rfl ?_
                        refine wp_iconst rfl ?_
                        refine wp_iadd rfl ?_
                        refine Wp.topI (y := (x2 + 4)) (w32_I (by clear H; unfold R32; omega)) ?_
                        refine wp_call (k := 216) (ρ2 := 0) (L2 := [vr 45, vi (x2 + 4)]) rfl rfl rfl (Nat.le_of_ble_eq_true rfl) (Nat.le_of_ble_eq_true rfl) (Nat.le_of_ble_eq_true rfl) (rcv_V rfl (congrArg Prod.fst (kf_45 X.1))) rfl ?_
                        refine wp_aload rfl rfl ?_
                        refine wp_iload rfl rfl ?_
                        refine wp_putI (j := 6) rfl (congrArg Prod.fst (kf_45 X.1)) rfl rfl rfl ?_
                        refine wp_iload rfl rfl ?_
                        refine wp_iret rfl rfl ?_
                        show Wp X _ 214 87 [vr 45, vi x1, vi x2, vi ((h 46 (x2 + 1)) - 48), vi ((h 46 (x2 + 3)) - 48), vu] [vi (x2 + 4)] _ _
                        exact wp_iret rfl rfl H
                      · replace H := H.2 c17
                        refine wp_aload rfl rfl ?_
                        refine wp_getR (r := 45) rfl (congrArg Prod.fst (kf_45 X.1)) rfl ?_
                        refine wp_iload rfl rfl ?_
                        have g18 := H.1
                        replace H := H.2
                        refine wp_iaload rfl (kf_46 X.1) g18 ?_
                        refine wp_goto (tn := 22) rfl rfl ?_
                        refine wp_iret rfl rfl ?_
                        show Wp X _ 214 75 [vr 45, vi x1, vi x2, vi ((h 46 (x2 + 1)) - 48), vi ((h 46 (x2 + 3)) - 48), vu] [vi (h 46 (x2 + 4))] _ _
                        refine wp_iconst rfl ?_
                        refine wp_iceq (tn := 88) rfl rfl (fun c19 => ?_) (fun c19 => ?_)
                        · replace H := H.1 c19
                          refine wp_aload rfl rfl ?_
                          refine wp_iload rfl rfl ?_
                          refine wp_iconst rfl ?_
                          refine wp_iadd rfl ?_
                          refine Wp.topI (y := (x2 + 5)) (w32_I (by clear H; unfold R32; omega)) ?_
                          refine wp_iconst rfl ?_
                          refine wp_iconst rfl ?_
                          refine wp_call (k := 217) (ρ2 := 1) (L2 := [vr 45, vi (x2 + 5), vi 0, vi 3, vu]) rfl rfl rfl (Nat.le_of_ble_eq_true rfl) (Nat.le_of_ble_eq_true rfl) (Nat.le_of_ble_eq_true rfl) (rcv_V rfl (congrArg Prod.fst (kf_45 X.1))) rfl ?_
                          refine wp_aload rfl rfl ?_
                          refine wp_iload rfl rfl ?_
                          refine wp_call (k := 218) (ρ2 := 0) (L2 := [vr 45, vi (x2 + 5)]) rfl rfl rfl (Nat.le_of_ble_eq_true rfl) (Nat.le_of_ble_eq_true rfl) (Nat.le_of_ble_eq_true rfl) (rcv_V rfl (congrArg Prod.fst (kf_45 X.1))) rfl ?_
                          refine wp_iload rfl rfl ?_
                          refine wp_ifltF (tn := 21) rfl rfl (by clear H; omega) ?_
                          refine wp_iload rfl rfl ?_
                          refine wp_aload rfl rfl ?_
                          refine wp_getI (j := 4) rfl (congrArg Prod.fst (kf_45 X.1)) rfl ?_
                          refine wp_icge (tn := 21) rfl rfl (fun c20 => ?_) (fun c20 => ?_)
                          · replace H := H.1 c20
                            refine wp_iconst rfl ?_
                            refine wp_iret rfl rfl ?_
                            show Wp X _ 217 5 [vr 45, vi (x2 + 5), vi 0, vi 3, vu] [vi (-1)] _ _
                            refine wp_iconst rfl ?_
                            refine wp_isub rfl ?_
                            refine Wp.topI (y := (-49)) (by decide) ?_
                            refine wp_istore (L2 := [vr 45, vi (x2 + 5), vi 0, vi 3, vi (-49)]) rfl (Nat.le_of_ble_eq_true rfl) rfl ?_
                            refine wp_iload rfl rfl ?_
                            refine wp_iload rfl rfl ?_
                            refine wp_icltT (tn := 22) rfl rfl (by decide) ?_
                            refine wp_iconst rfl ?_
                            refine wp_goto (tn := 28) rfl rfl ?_
                            refine wp_iret rfl rfl ?_
                            show Wp X _ 214 97 [vr 45, vi x1, vi x2, vi ((h 46 (x2 + 1)) - 48), vi ((h 46 (x2 + 3)) - 48), vu] [vi (-1)] _ _
                            refine wp_istore (L2 := [vr 45, vi x1, vi x2, vi ((h 46 (x2 + 1)) - 48), vi ((h 46 (x2 + 3)) - 48), vi (-1)]) rfl (Nat.le_of_ble_eq_true rfl) rfl ?_
                            refine wp_iload rfl rfl ?_
                            refine wp_iconst rfl ?_
                            refine wp_icneF (tn := 113) rfl rfl (by decide) ?_
                            refine wp_aload rfl rfl ?_
                            refine wp_iload rfl rfl ?_
                            refine wp_iconst rfl ?_
                            refine wp_iadd rfl ?_
                            refine Wp.topI (y := (x2 + 5)) (w32_I (by clear H; unfold R32; omega)) ?_
                            refine wp_call (k := 216) (ρ2 := 0) (L2 := [vr 45, vi (x2 + 5)]) rfl rfl rfl (Nat.le_of_ble_eq_true rfl) (Nat.le_of_ble_eq_true rfl) (Nat.le_of_ble_eq_true rfl) (rcv_V rfl (congrArg Prod.fst (kf_45 X.1))) rfl ?_
                            refine wp_aload rfl rfl ?_
                            refine wp_iload rfl rfl ?_
                            refine wp_putI (j := 6) rfl (congrArg Prod.fst (kf_45 X.1)) rfl rfl rfl ?_
                            refine wp_iload rfl rfl ?_
                            refine wp_iret rfl rfl ?_
                            show Wp X _ 214 112 [vr 45, vi x1, vi x2, vi ((h 46 (x2 + 1)) - 48), vi ((h 46 (x2 + 3)) - 48), vi (-1)] [vi (x2 + 5)] _ _
                            exact wp_iret rfl rfl H
                          · replace H := H.2 c20
                            refine wp_aload rfl rfl ?_
                            refine wp_getR (r := 45) rfl (congrArg Prod.fst (kf_45 X.1)) rfl ?_
                            refine wp_iload rfl rfl ?_
                            have g21 := H.1
                            replace H := H.2
                            refine wp_iaload rfl (kf_46 X.1) g21 ?_
                            refine wp_goto (tn := 22) rfl rfl ?_
                            refine wp_iret rfl rfl ?_
                            show Wp X _ 217 5 [vr 45, vi (x2 + 5), vi 0, vi 3, vu] [vi (h 46 (x2 + 5))] _ _
                            refine wp_iconst rfl ?_
                            refine wp_isub rfl ?_
                            have g22 := H.1
                            replace H := H.2
                            refine Wp.topI (y := ((h 46 (x2 + 5)) - 48)) (w32_I g22) ?_
                            refine wp_istore (L2 := [vr 45, vi (x2 + 5), vi 0, vi 3, vi ((h 46 (x2 + 5)) - 48)]) rfl (Nat.le_of_ble_eq_true rfl) rfl ?_
                            refine wp_iload rfl rfl ?_
                            refine wp_iload rfl rfl ?_
                            refine wp_iclt (tn := 22) rfl rfl (fun c23 => ?_) (fun c23 => ?_)
                            · replace H := H.1 c23
                              refine wp_iconst rfl ?_
                              refine wp_goto (tn := 28) rfl rfl ?_
                              refine wp_iret rfl rfl ?_
                              show Wp X _ 214 97 [vr 45, vi x1, vi x2, vi ((h 46 (x2 + 1)) - 48), vi ((h 46 (x2 + 3)) - 48), vu] [vi (-1)] _ _
                              refine wp_istore (L2 := [vr 45, vi x1, vi x2, vi ((h 46 (x2 + 1)) - 48), vi ((h 46 (x2 + 3)) - 48), vi (-1)]) rfl (Nat.le_of_ble_eq_true rfl) rfl ?_
                              refine wp_iload rfl rfl ?_
                              refine wp_iconst rfl ?_
                              refine wp_icneF (tn := 113) rfl rfl (by decide) ?_
                              refine wp_aload rfl rfl ?_
                              refine wp_iload rfl rfl ?_
                              refine wp_iconst rfl ?_
                              refine wp_iadd rfl ?_
                              refine Wp.topI (y := (x2 + 5)) (w32_I (by clear H; unfold R32; omega)) ?_
                              refine wp_call (k := 216) (ρ2 := 0) (L2 := [vr 45, vi (x2 + 5)]) rfl rfl rfl (Nat.le_of_ble_eq_true rfl) (Nat.le_of_ble_eq_true rfl) (Nat.le_of_ble_eq_true rfl) (rcv_V rfl (congrArg Prod.fst (kf_45 X.1))) rfl ?_
                              refine wp_aload rfl rfl ?_
                              refine wp_iload rfl rfl ?_
                              refine wp_putI (j := 6) rfl (congrArg Prod.fst (kf_45 X.1)) rfl rfl rfl ?_
                              refine wp_iload rfl rfl ?_
                              refine wp_iret rfl rfl ?_
                              show Wp X _ 214 112 [vr 45, vi x1, vi x2, vi ((h 46 (x2 + 1)) - 48), vi ((h 46 (x2 + 3)) - 48), vi (-1)] [vi (x2 + 5)] _ _
                              exact wp_iret rfl rfl H
                            · replace H := H.2 c23
                              refine wp_iload rfl rfl ?_
                              refine wp_iload rfl rfl ?_
                              refine wp_icle (tn := 26) rfl rfl (fun c24 => ?_) (fun c24 => ?_)
                              · replace H := H.1 c24
                                refine wp_iload rfl rfl ?_
                                refine wp_iret rfl rfl ?_
                                show Wp X _ 214 97 [vr 45, vi x1, vi x2, vi ((h 46 (x2 + 1)) - 48), vi ((h 46 (x2 + 3)) - 48), vu] [vi ((h 46 (x2 + 5)) - 48)] _ _
                                refine wp_istore (L2 := [vr 45, vi x1, vi x2, vi ((h 46 (x2 + 1)) - 48), vi ((h 46 (x2 + 3)) - 48), vi ((h 46 (x2 + 5)) - 48)]) rfl (Nat.le_of_ble_eq_true rfl) rfl ?_
                                refine wp_iload rfl rfl ?_
                                refine wp_iconst rfl ?_
                                refine wp_icneT (tn := 113) rfl rfl (by clear H; omega) ?_
                                refine wp_aload rfl rfl ?_
                                refine wp_getR (r := 48) rfl (congrArg Prod.fst (kf_45 X.1)) rfl ?_
                                refine wp_iload rfl rfl ?_
                                refine wp_iload rfl rfl ?_
                                refine wp_iload rfl rfl ?_
                                refine wp_iload rfl rfl ?_
                                exact wp_call (k := 245) (ρ2 := 1) (L2 := [vr 49, vi x1, vi ((h 46 (x2 + 1)) - 48), vi ((h 46 (x2 + 3)) - 48), vi ((h 46 (x2 + 5)) - 48), vu, vu]) rfl rfl rfl (Nat.le_of_ble_eq_true rfl) (Nat.le_of_ble_eq_true rfl) (Nat.le_of_ble_eq_true rfl) (rcv_V rfl (congrArg Prod.fst (kf_49 X.1))) rfl H
                              · replace H := H.2 c24
                                refine wp_iconst rfl ?_
                                refine wp_goto (tn := 28) rfl rfl ?_
                                refine wp_iret rfl rfl ?_
                                show Wp X _ 214 97 [vr 45, vi x1, vi x2, vi ((h 46 (x2 + 1)) - 48), vi ((h 46 (x2 + 3)) - 48), vu] [vi (-1)] _ _
                                refine wp_istore (L2 := [vr 45, vi x1, vi x2, vi ((h 46 (x2 + 1)) - 48), vi ((h 46 (x2 + 3)) - 48), vi (-1)]) rfl (Nat.le_of_ble_eq_true rfl) rfl ?_
                                refine wp_iload rfl rfl ?_
                                refine wp_iconst rfl ?_
                                refine wp_icneF (tn := 113) rfl rfl (by decide) ?_
                                refine wp_aload rfl rfl ?_
                                refine wp_iload rfl rfl ?_
                                refine wp_iconst rfl ?_
                                refine wp_iadd rfl ?_
                                refine Wp.topI (y := (x2 + 5)) (w32_I (by clear H; unfold R32; omega)) ?_
                                refine wp_call (k := 216) (ρ2 := 0) (L2 := [vr 45, vi (x2 + 5)]) rfl rfl rfl (Nat.le_of_ble_eq_true rfl) (Nat.le_of_ble_eq_true rfl) (Nat.le_of_ble_eq_true rfl) (rcv_V rfl (congrArg Prod.fst (kf_45 X.1))) rfl ?_
                                refine wp_aload rfl rfl ?_
                                refine wp_iload rfl rfl ?_
                                refine wp_putI (j := 6) rfl (congrArg Prod.fst (kf_45 X.1)) rfl rfl rfl ?_
                                refine wp_iload rfl rfl ?_
                                refine wp_iret rfl rfl ?_
                                show Wp X _ 214 112 [vr 45, vi x1, vi x2, vi ((h 46 (x2 + 1)) - 48), vi ((h 46 (x2 + 3)) - 48), vi (-1)] [vi (x2 + 5)] _ _
                                exact wp_iret rfl rfl H
                        · replace H := H.2 c19
                          refine wp_aload rfl rfl ?_
                          refine wp_iload rfl rfl ?_
                          refine wp_iconst rfl ?_
                          refine wp_iadd rfl ?_
                          refine Wp.topI (y := (x2 + 4)) (w32_I (by clear H; unfold R32; omega)) ?_
                          refine wp_call (k := 216) (ρ2 := 0) (L2 := [vr 45, vi (x2 + 4)]) rfl rfl rfl (Nat.le_of_ble_eq_true rfl) (Nat.le_of_ble_eq_true rfl) (Nat.le_of_ble_eq_true rfl) (rcv_V rfl (congrArg Prod.fst (kf_45 X.1))) rfl ?_
                          refine wp_aload rfl rfl ?_
                          refine wp_iload rfl rfl ?_
                          refine wp_putI (j := 6) rfl (congrArg Prod.fst (kf_45 X.1)) rfl rfl rfl ?_
                          refine wp_iload rfl rfl ?_
                          refine wp_iret rfl rfl ?_
                          show Wp X _ 214 87 [vr 45, vi x1, vi x2, vi ((h 46 (x2 + 1)) - 48), vi ((h 46 (x2 + 3)) - 48), vu] [vi (x2 + 4)] _ _
                          exact wp_iret rfl rfl H
                    · replace H := H.2 c16
                      refine wp_aload rfl rfl ?_
                      refine wp_iload rfl rfl ?_
                      refine wp_iconst rfl ?_
                      refine wp_iadd rfl ?_
                      refine Wp.topI (y := (x2 + 3)) (w32_I (by clear H; unfold R32; omega)) ?_
                      refine wp_call (k := 216) (ρ2 := 0) (L2 := [vr 45, vi (x2 + 3)]) rfl rfl rfl (Nat.le_of_ble_eq_true rfl) (Nat.le_of_ble_eq_true rfl) (Nat.le_of_ble_eq_true rfl) (rcv_V rfl (congrArg Prod.fst (kf_45 X.1))) rfl ?_
                      refine wp_aload rfl rfl ?_
                      refine wp_iload rfl rfl ?_
                      refine wp_putI (j := 6) rfl (congrArg Prod.fst (kf_45 X.1)) rfl rfl rfl ?_
                      refine wp_iload rfl rfl ?_
                      refine wp_iret rfl rfl ?_
                      show Wp X _ 214 67 [vr 45, vi x1, vi x2, vi ((h 46 (x2 + 1)) - 48), vi ((h 46 (x2 + 3)) - 48), vu] [vi (x2 + 3)] _ _
                      exact wp_iret rfl rfl H
                  · replace H := H.2 c15
                    refine wp_iconst rfl ?_
                    refine wp_goto (tn := 28) rfl rfl ?_
                    refine wp_iret rfl rfl ?_
                    show Wp X _ 214 52 [vr 45, vi x1, vi x2, vi ((h 46 (x2 + 1)) - 48), vu, vu] [vi (-1)] _ _
                    refine wp_istore (L2 := [vr 45, vi x1, vi x2, vi ((h 46 (x2 + 1)) - 48), vi (-1), vu]) rfl (Nat.le_of_ble_eq_true rfl) rfl ?_
                    refine wp_iload rfl rfl ?_
                    refine wp_iconst rfl ?_
                    refine wp_icneF (tn := 68) rfl rfl (by decide) ?_
                    refine wp_aload rfl rfl ?_
                    refine wp_iload rfl rfl ?_
                    refine wp_iconst rfl ?_
                    refine wp_iadd rfl ?_
                    refine Wp.topI (y := (x2 + 3)) (w32_I (by clear H; unfold R32; omega)) ?_
                    refine wp_call (k := 216) (ρ2 := 0) (L2 := [vr 45, vi (x2 + 3)]) rfl rfl rfl (Nat.le_of_ble_eq_true rfl) (Nat.le_of_ble_eq_true rfl) (Nat.le_of_ble_eq_true rfl) (rcv_V rfl (congrArg Prod.fst (kf_45 X.1))) rfl ?_
                    refine wp_aload rfl rfl ?_
                    refine wp_iload rfl rfl ?_
                    refine wp_putI (j := 6) rfl (congrArg Prod.fst (kf_45 X.1)) rfl rfl rfl ?_
                    refine wp_iload rfl rfl ?_
                    refine wp_iret rfl rfl ?_
                    show Wp X _ 214 67 [vr 45, vi x1, vi x2, vi ((h 46 (x2 + 1)) - 48), vi (-1), vu] [vi (x2 + 3)] _ _
                    exact wp_iret rfl rfl H
            · replace H := H.2 c10
              refine wp_aload rfl rfl ?_
              refine wp_iload rfl rfl ?_
              refine wp_iconst rfl ?_
              refine wp_iadd rfl ?_
              refine Wp.topI (y := (x2 + 2)) (w32_I (by clear H; unfold R32; omega)) ?_
              refine wp_call (k := 216) (ρ2 := 0) (L2 := [vr 45, vi (x2 + 2)]) rfl rfl rfl (Nat.le_of_ble_eq_true rfl) (Nat.le_of_ble_eq_true rfl) (Nat.le_of_ble_eq_true rfl) (rcv_V rfl (congrArg Prod.fst (kf_45 X.1))) rfl ?_
              refine wp_aload rfl rfl ?_
              refine wp_iload rfl rfl ?_
              refine wp_putI (j := 6) rfl (congrArg Prod.fst (kf_45 X.1)) rfl rfl rfl ?_
              refine wp_iload rfl rfl ?_
              refine wp_iret rfl rfl ?_
              show Wp X _ 214 42 [vr 45, vi x1, vi x2, vi ((h 46 (x2 + 1)) - 48), vu, vu] [vi (x2 + 2)] _ _
              exact wp_iret rfl rfl H
        · replace H := H.2 c7
          refine wp_iconst rfl ?_
          refine wp_goto (tn := 28) rfl rfl ?_
          refine wp_iret rfl rfl ?_
          show Wp X _ 214 9 [vr 45, vi x1, vi x2, vu, vu, vu] [vi (-1)] _ _
          refine wp_istore (L2 := [vr 45, vi x1, vi x2, vi (-1), vu, vu]) rfl (Nat.le_of_ble_eq_true rfl) rfl ?_
          refine wp_iload rfl rfl ?_
          refine wp_iconst rfl ?_
          refine wp_icneF (tn := 23) rfl rfl (by decide) ?_
          refine wp_aload rfl rfl ?_
          refine wp_iload rfl rfl ?_
          refine wp_iconst rfl ?_
          refine wp_iadd rfl ?_
          refine Wp.topI (y := (x2 + 1)) (w32_I (by clear H; unfold R32; omega)) ?_
          refine wp_call (k := 216) (ρ2 := 0) (L2 := [vr 45, vi (x2 + 1)]) rfl rfl rfl (Nat.le_of_ble_eq_true rfl) (Nat.le_of_ble_eq_true rfl) (Nat.le_of_ble_eq_true rfl) (rcv_V rfl (congrArg Prod.fst (kf_45 X.1))) rfl ?_
          refine wp_aload rfl rfl ?_
          refine wp_iload rfl rfl ?_
          refine wp_putI (j := 6) rfl (congrArg Prod.fst (kf_45 X.1)) rfl rfl rfl ?_
          refine wp_iload rfl rfl ?_
          refine wp_iret rfl rfl ?_
          show Wp X _ 214 22 [vr 45, vi x1, vi x2, vi (-1), vu, vu] [vi (x2 + 1)] _ _
          exact wp_iret rfl rfl H
/-- RuleText.readZoneRule(II)I, from 126 -/
theorem S214_45_126 {X : Nat × (Int → Int)} {h : HP} {Q : bQ} (x1 : Int) (x2 : Int) (x3 : Int) (zx4 : aV) (zx5 : aV) (H : ((x1 < 0 → ((R32 (x2 + 6)) ∧ Q (some (vi (x2 + 6))) h)) ∧ (0 ≤ x1 → ((8 ≤ x1 → ((R32 (x2 + 6)) ∧ Q (some (vi (x2 + 6))) h)) ∧ (x1 < 8 → ((R32 (x2 + 6)) ∧ Q (some (vi (x2 + 6))) (upd2 (upd2 h 47 x1 122) 48 x1 x3))))))) : Wp X 2 214 126 [vr 45, vi x1, vi x2, vi x3, zx4, zx5] [] h Q := by
  refine wp_aload rfl rfl ?_
  refine wp_iload rfl rfl ?_
  refine wp_iconst rfl ?_
  refine wp_iload rfl rfl ?_
  refine wp_call (k := 215) (ρ2 := 0) (L2 := [vr 45, vi x1, vi 122, vi x3]) rfl rfl rfl (Nat.le_of_ble_eq_true rfl) (Nat.le_of_ble_eq_true rfl) (Nat.le_of_ble_eq_true rfl) (rcv_V rfl (congrArg Prod.fst (kf_45 X.1))) rfl ?_
  refine wp_iload rfl rfl ?_
  refine wp_iflt (tn := 24) rfl rfl (fun c1 => ?_) (fun c1 => ?_)
  · replace H := H.1 c1
    refine wp_vret rfl rfl ?_
    show Wp X _ 214 134 [vr 45, vi x1, vi x2, vi x3, zx4, zx5] [] _ _
    refine wp_iload rfl rfl ?_
    refine wp_iconst rfl ?_
    refine wp_iadd rfl ?_
    have g2 := H.1
    replace H := H.2
    refine Wp.topI (y := (x2 + 6)) (w32_I g2) ?_
    exact wp_iret rfl rfl H
  · replace H := H.2 c1
    refine wp_iload rfl rfl ?_
    refine wp_iconst rfl ?_
    refine wp_icge (tn := 24) rfl rfl (fun c3 => ?_) (fun c3 => ?_)
    · replace H := H.1 c3
      refine wp_vret rfl rfl ?_
      show Wp X _ 214 134 [vr 45, vi x1, vi x2, vi x3, zx4, zx5] [] _ _
      refine wp_iload rfl rfl ?_
      refine wp_iconst rfl ?_
      refine wp_iadd rfl ?_
      have g4 := H.1
      replace H := H.2
      refine Wp.topI (y := (x2 + 6)) (w32_I g4) ?_
      exact wp_iret rfl rfl H
    · replace H := H.2 c3
      refine wp_aload rfl rfl ?_
      refine wp_getR (r := 46) rfl (congrArg Prod.fst (kf_45 X.1)) rfl ?_
      refine wp_iload rfl rfl ?_
      refine wp_iload rfl rfl ?_
      refine wp_iastore rfl (kf_47 X.1) ⟨c1, c3⟩ ?_
      refine wp_aload rfl rfl ?_
      refine wp_getR (r := 47) rfl (congrArg Prod.fst (kf_45 X.1)) rfl ?_
      refine wp_iload rfl rfl ?_
      refine wp_iload rfl rfl ?_
      refine wp_iastore rfl (kf_48 X.1) ⟨c1, c3⟩ ?_
      refine wp_vret rfl rfl ?_
      show Wp X _ 214 134 [vr 45, vi x1, vi x2, vi x3, zx4, zx5] [] _ _
      refine wp_iload rfl rfl ?_
      refine wp_iconst rfl ?_
      refine wp_iadd rfl ?_
      have g5 := H.1
      replace H := H.2
      refine Wp.topI (y := (x2 + 6)) (w32_I g5) ?_
      exact wp_iret rfl rfl H
/-- RuleText.readZoneRule(II)I, from 0 -/
theorem S214_53_0 {X : Nat × (Int → Int)} {h : HP} {Q : bQ} (x1 : Int) (x2 : Int) (H : ((R32 (x2 + 1)) ∧ (((x2 + 1) < 0 → Q (some (vi (x2 + 1))) (upd2 h 53 6 (x2 + 1))) ∧ (0 ≤ (x2 + 1) → (((h 53 4) ≤ (x2 + 1) → Q (some (vi (x2 + 1))) (upd2 h 53 6 (x2 + 1))) ∧ ((x2 + 1) < (h 53 4) → ((0 ≤ (x2 + 1) ∧ (x2 + 1) < 50) ∧ ((R32 ((h 54 (x2 + 1)) - 48)) ∧ ((((h 54 (x2 + 1)) - 48) < 1 → Q (some (vi (x2 + 1))) (upd2 h 53 6 (x2 + 1))) ∧ (1 ≤ ((h 54 (x2 + 1)) - 48) → ((((h 54 (x2 + 1)) - 48) ≤ 5 → (((h 53 4) ≤ (x2 + 2) → Q (some (vi (x2 + 2))) (upd2 h 53 6 (x2 + 2))) ∧ ((x2 + 2) < (h 53 4) → ((0 ≤ (x2 + 2) ∧ (x2 + 2) < 50) ∧ (((h 54 (x2 + 2)) = 47 → (((h 53 4) ≤ (x2 + 3) → Q (some (vi (x2 + 3))) (upd2 h 53 6 (x2 + 3))) ∧ ((x2 + 3) < (h 53 4) → ((0 ≤ (x2 + 3) ∧ (x2 + 3) < 50) ∧ ((R32 ((h 54 (x2 + 3)) - 48)) ∧ ((((h 54 (x2 + 3)) - 48) < ((h 54 (x2 + 1)) - 48) → Q (some (vi (x2 + 3))) (upd2 h 53 6 (x2 + 3))) ∧ (((h 54 (x2 + 1)) - 48) ≤ ((h 54 (x2 + 3)) - 48) → ((((h 54 (x2 + 3)) - 48) ≤ 5 → ((((h 54 (x2 + 3)) - 48) ≠ (-1) → (((h 53 4) ≤ (x2 + 4) → Q (some (vi (x2 + 4))) (upd2 h 53 6 (x2 + 4))) ∧ ((x2 + 4) < (h 53 4) → ((0 ≤ (x2 + 4) ∧ (x2 + 4) < 50) ∧ (((h 54 (x2 + 4)) = 62 → (((h 53 4) ≤ (x2 + 5) → Q (some (vi (x2 + 5))) (upd2 h 53 6 (x2 + 5))) ∧ ((x2 + 5) < (h 53 4) → ((0 ≤ (x2 + 5) ∧ (x2 + 5) < 50) ∧ ((R32 ((h 54 (x2 + 5)) - 48)) ∧ ((((h 54 (x2 + 5)) - 48) < 0 → Q (some (vi (x2 + 5))) (upd2 h 53 6 (x2 + 5))) ∧ (0 ≤ ((h 54 (x2 + 5)) - 48) → ((((h 54 (x2 + 5)) - 48) ≤ 3 → Wp X 1 245 0 [vr 57, vi x1, vi ((h 54 (x2 + 1)) - 48), vi ((h 54 (x2 + 3)) - 48), vi ((h 54 (x2 + 5)) - 48), vu, vu] [] h (fun v h' => Wp X 2 214 126 [vr 53, vi x1, vi x2, vi ((h 54 (x2 + 1)) - 48), vi ((h 54 (x2 + 3)) - 48), vi ((h 54 (x2 + 5)) - 48)] (psh v []) h' Q)) ∧ (3 < ((h 54 (x2 + 5)) - 48) → Q (some (vi (x2 + 5))) (upd2 h 53 6 (x2 + 5))))))))))) ∧ ((h 54 (x2 + 4)) ≠ 62 → Q (some (vi (x2 + 4))) (upd2 h 53 6 (x2 + 4)))))))) ∧ (((h 54 (x2 + 3)) - 48) = (-1) → Q (some (vi (x2 + 3))) (upd2 h 53 6 (x2 + 3))))) ∧ (5 < ((h 54 (x2 + 3)) - 48) → Q (some (vi (x2 + 3))) (upd2 h 53 6 (x2 + 3))))))))))) ∧ ((h 54 (x2 + 2)) ≠ 47 → Q (some (vi (x2 + 2))) (upd2 h 53 6 (x2 + 2)))))))) ∧ (5 < ((h 54 (x2 + 1)) - 48) → Q (some (vi (x2 + 1))) (upd2 h 53 6 (x2 + 1)))))))))))))) : Wp X 2 214 0 [vr 53, vi x1, vi x2, vu, vu, vu] [] h Q := by
  refine wp_aload rfl rfl ?_
  refine wp_iload rfl rfl ?_
  refine wp_iconst rfl ?_
  refine wp_iadd rfl ?_
  have g1 := H.1
  replace H := H.2
  refine Wp.topI (y := (x2 + 1)) (w32_I g1) ?_
  refine wp_iconst rfl ?_
  refine wp_iconst rfl ?_
  refine wp_call (k := 217) (ρ2 := 1) (L2 := [vr 53, vi (x2 + 1), vi 1, vi 5, vu]) rfl rfl rfl (Nat.le_of_ble_eq_true rfl) (Nat.le_of_ble_eq_true rfl) (Nat.le_of_ble_eq_true rfl) (rcv_V rfl (congrArg Prod.fst (kf_53 X.1))) rfl ?_
  refine wp_aload rfl rfl ?_
  refine wp_iload rfl rfl ?_
  refine wp_call (k := 218) (ρ2 := 0) (L2 := [vr 53, vi (x2 + 1)]) rfl rfl rfl (Nat.le_of_ble_eq_true rfl) (Nat.le_of_ble_eq_true rfl) (Nat.le_of_ble_eq_true rfl) (rcv_V rfl (congrArg Prod.fst (kf_53 X.1))) rfl ?_
  refine wp_iload rfl rfl ?_
  refine wp_iflt (tn := 21) rfl rfl (fun c2 => ?_) (fun c2 => ?_)
  · replace H := H.1 c2
    refine wp_iconst rfl ?_
    refine wp_iret rfl rfl ?_
    show Wp X _ 217 5 [vr 53, vi (x2 + 1), vi 1, vi 5, vu] [vi (-1)] _ _
    refine wp_iconst rfl ?_
    refine wp_isub rfl ?_
    refine Wp.topI (y := (-49)) (by decide) ?_
    refine wp_istore (L2 := [vr 53, vi (x2 + 1), vi 1, vi 5, vi (-49)]) rfl (Nat.le_of_ble_eq_true rfl) rfl ?_
    refine wp_iload rfl rfl ?_
    refine wp_iload rfl rfl ?_
    refine wp_icltT (tn := 22) rfl rfl (by decide) ?_
    refine wp_iconst rfl ?_
    refine wp_goto (tn := 28) rfl rfl ?_
    refine wp_iret rfl rfl ?_
    show Wp X _ 214 9 [vr 53, vi x1, vi x2, vu, vu, vu] [vi (-1)] _ _
    refine wp_istore (L2 := [vr 53, vi x1, vi x2, vi (-1), vu, vu]) rfl (Nat.le_of_ble_eq_true rfl) rfl ?_
    refine wp_iload rfl rfl ?_
    refine wp_iconst rfl ?_
    refine wp_icneF (tn := 23) rfl rfl (by decide) ?_
    refine wp_aload rfl rfl ?_
    refine wp_iload rfl rfl ?_
    refine wp_iconst rfl ?_
    refine wp_iadd rfl ?_
    refine Wp.topI (y := (x2 + 1)) (w32_I g1) ?_
    refine wp_call (k := 216) (ρ2 := 0) (L2 := [vr 53, vi (x2 + 1)]) rfl rfl rfl (Nat.le_of_ble_eq_true rfl) (Nat.le_of_ble_eq_true rfl) (Nat.le_of_ble_eq_true rfl) (rcv_V rfl (congrArg Prod.fst (kf_53 X.1))) rfl ?_
    refine wp_aload rfl rfl ?_
    refine wp_iload rfl rfl ?_
    refine wp_putI (j := 6) rfl (congrArg Prod.fst (kf_53 X.1)) rfl rfl rfl ?_
    refine wp_iload rfl rfl ?_
    refine wp_iret rfl rfl ?_
    show Wp X _ 214 22 [vr 53, vi x1, vi x2, vi (-1), vu, vu] [vi (x2 + 1)] _ _
    exact wp_iret rfl rfl H
  · replace H := H.2 c2
    refine wp_iload rfl rfl ?_
    refine wp_aload rfl rfl ?_
    refine wp_getI (j := 4) rfl (congrArg Prod.fst (kf_53 X.1)) rfl ?_
    refine wp_icge (tn := 21) rfl rfl (fun c3 => ?_) (fun c3 => ?_)
    · replace H := H.1 c3
      refine wp_iconst rfl ?_
      refine wp_iret rfl rfl ?_
      show Wp X _ 217 5 [vr 53, vi (x2 + 1), vi 1, vi 5, vu] [vi (-1)] _ _
      refine wp_iconst rfl ?_
      refine wp_isub rfl ?_
      refine Wp.topI (y := (-49)) (by decide) ?_
      refine wp_istore (L2 := [vr 53, vi (x2 + 1), vi 1, vi 5, vi (-49)]) rfl (Nat.le_of_ble_eq_true rfl) rfl ?_
      refine wp_iload rfl rfl ?_
      refine wp_iload rfl rfl ?_
      refine wp_icltT (tn := 22) rfl rfl (by decide) ?_
      refine wp_iconst rfl ?_
      refine wp_goto (tn := 28) rfl rfl ?_
      refine wp_iret rfl rfl ?_
      show Wp X _ 214 9 [vr 53, vi x1, vi x2, vu, vu, vu] [vi (-1)] _ _
      refine wp_istore (L2 := [vr 53, vi x1, vi x2, vi (-1), vu, vu]) rfl (Nat.le_of_ble_eq_true rfl) rfl ?_
      refine wp_iload rfl rfl ?_
      refine wp_iconst rfl ?_
      refine wp_icneF (tn := 23) rfl rfl (by decide) ?_
      refine wp_aload rfl rfl ?_
      refine wp_iload rfl rfl ?_
      refine wp_iconst rfl ?_
      refine wp_iadd rfl ?_
      refine Wp.topI (y := (x2 + 1)) (w32_I g1) ?_
      refine wp_call (k := 216) (ρ2 := 0) (L2 := [vr 53, vi (x2 + 1)]) rfl rfl rfl (Nat.le_of_ble_eq_true rfl) (Nat.le_of_ble_eq_true rfl) (Nat.le_of_ble_eq_true rfl) (rcv_V rfl (congrArg Prod.fst (kf_53 X.1))) rfl ?_
      refine wp_aload rfl rfl ?_
      refine wp_iload rfl rfl ?_
      refine wp_putI (j := 6) rfl (congrArg Prod.fst (kf_53 X.1)) rfl rfl rfl ?_
      refine wp_iload rfl rfl ?_
      refine wp_iret rfl rfl ?_
      show Wp X _ 214 22 [vr 53, vi x1, vi x2, vi (-1), vu, vu] [vi (x2 + 1)] _ _
      exact wp_iret rfl rfl H
    · replace H := H.2 c3
      refine wp_aload rfl rfl ?_
      refine wp_getR (r := 53) rfl (congrArg Prod.fst (kf_53 X.1)) rfl ?_
      refine wp_iload rfl rfl ?_
      have g4 := H.1
      replace H := H.2
      refine wp_iaload rfl (kf_54 X.1) g4 ?_
      refine wp_goto (tn := 22) rfl rfl ?_
      refine wp_iret rfl rfl ?_
      show Wp X _ 217 5 [vr 53, vi (x2 + 1), vi 1, vi 5, vu] [vi (h 54 (x2 + 1))] _ _
      refine wp_iconst rfl ?_
      refine wp_isub rfl ?_
      have g5 := H.1
      replace H := H.2
      refine Wp.topI (y := ((h 54 (x2 + 1)) - 48)) (w32_I g5) ?_
      refine wp_istore (L2 := [vr 53, vi (x2 + 1), vi 1, vi 5, vi ((h 54 (x2 + 1)) - 48)]) rfl (Nat.le_of_ble_eq_true rfl) rfl ?_
      refine wp_iload rfl rfl ?_
      refine wp_iload rfl rfl ?_
      refine wp_iclt (tn := 22) rfl rfl (fun c6 => ?_) (fun c6 => ?_)
      · replace H := H.1 c6
        refine wp_iconst rfl ?_
        refine wp_goto (tn := 28) rfl rfl ?_
        refine wp_iret rfl rfl ?_
        show Wp X _ 214 9 [vr 53, vi x1, vi x2, vu, vu, vu] [vi (-1)] _ _
        refine wp_istore (L2 := [vr 53, vi x1, vi x2, vi (-1), vu, vu]) rfl (Nat.le_of_ble_eq_true rfl) rfl ?_
        refine wp_iload rfl rfl ?_
        refine wp_iconst rfl ?_
        refine wp_icneF (tn := 23) rfl rfl (by decide) ?_
        refine wp_aload rfl rfl ?_
        refine wp_iload rfl rfl ?_
        refine wp_iconst rfl ?_
        refine wp_iadd rfl ?_
        refine Wp.topI (y := (x2 + 1)) (w32_I (by clear H; unfold R32; omega)) ?_
        refine wp_call (k := 216) (ρ2 := 0) (L2 := [vr 53, vi (x2 + 1)]) rfl rfl rfl (Nat.le_of_ble_eq_true rfl) (Nat.le_of_ble_eq_true rfl) (Nat.le_of_ble_eq_true rfl) (rcv_V rfl (congrArg Prod.fst (kf_53 X.1))) rfl ?_
        refine wp_aload rfl rfl ?_
        refine wp_iload rfl rfl ?_
        refine wp_putI (j := 6) rfl (congrArg Prod.fst (kf_53 X.1)) rfl rfl rfl ?_
        refine wp_iload rfl rfl ?_
        refine wp_iret rfl rfl ?_
        show Wp X _ 214 22 [vr 53, vi x1, vi x2, vi (-1), vu, vu] [vi (x2 + 1)] _ _
        exact wp_iret rfl rfl H
      · replace H := H.2 c6
        refine wp_iload rfl rfl ?_
        refine wp_iload rfl rfl ?_
        refine wp_icle (tn := 26) rfl rfl (fun c7 => ?_) (fun c7 => ?_)
        · replace H := H.1 c7
          refine wp_iload rfl rfl ?_
          refine wp_iret rfl rfl ?_
          show Wp X _ 214 9 [vr 53, vi x1, vi x2, vu, vu, vu] [vi ((h 54 (x2 + 1)) - 48)] _ _
          refine wp_istore (L2 := [vr 53, vi x1, vi x2, vi ((h 54 (x2 + 1)) - 48), vu, vu]) rfl (Nat.le_of_ble_eq_true rfl) rfl ?_
          refine wp_iload rfl rfl ?_
          refine wp_iconst rfl ?_
          refine wp_icneT (tn := 23) rfl rfl (by clear H; omega) ?_
          refine wp_aload rfl rfl ?_
          refine wp_iload rfl rfl ?_
          refine wp_iconst rfl ?_
          refine wp_iadd rfl ?_
          refine Wp.topI (y := (x2 + 2)) (w32_I (by clear H; unfold R32; omega)) ?_
          refine wp_call (k := 218) (ρ2 := 0) (L2 := [vr 53, vi (x2 + 2)]) rfl rfl rfl (Nat.le_of_ble_eq_true rfl) (Nat.le_of_ble_eq_true rfl) (Nat.le_of_ble_eq_true rfl) (rcv_V rfl (congrArg Prod.fst (kf_53 X.1))) rfl ?_
          refine wp_iload rfl rfl ?_
          refine wp_ifltF (tn := 21) rfl rfl (by clear H; omega) ?_
          refine wp_iload rfl rfl ?_
          refine wp_aload rfl rfl ?_
          refine wp_getI (j := 4) rfl (congrArg Prod.fst (kf_53 X.1)) rfl ?_
          refine wp_icge (tn := 21) rfl rfl (fun c8 => ?_) (fun c8 => ?_)
          · replace H := H.1 c8
            refine wp_iconst rfl ?_
            refine wp_iret rfl rfl ?_
            show Wp X _ 214 30 [vr 53, vi x1, vi x2, vi ((h 54 (x2 + 1)) - 48), vu, vu] [vi (-1)] _ _
            refine wp_iconst rfl ?_
            refine wp_iceqF (tn := 43) rfl rfl (by decide) ?_
            refine wp_aload rfl rfl ?_
            refine wp_iload rfl rfl ?_
            refine wp_iconst rfl ?_
            refine wp_iadd rfl ?_
            refine Wp.topI (y := (x2 + 2)) (w32_I (by clear H; unfold R32; omega)) ?_
            refine wp_call (k := 216) (ρ2 := 0) (L2 := [vr 53, vi (x2 + 2)]) rfl rfl rfl (Nat.le_of_ble_eq_true rfl) (Nat.le_of_ble_eq_true rfl) (Nat.le_of_ble_eq_true rfl) (rcv_V rfl (congrArg Prod.fst (kf_53 X.1))) rfl ?_
            refine wp_aload rfl rfl ?_
            refine wp_iload rfl rfl ?_
            refine wp_putI (j := 6) rfl (congrArg Prod.fst (kf_53 X.1)) rfl rfl rfl ?_
            refine wp_iload rfl rfl ?_
            refine wp_iret rfl rfl ?_
            show Wp X _ 214 42 [vr 53, vi x1, vi x2, vi ((h 54 (x2 + 1)) - 48), vu, vu] [vi (x2 + 2)] _ _
            exact wp_iret rfl rfl H
          · replace H := H.2 c8
            refine wp_aload rfl rfl ?_
            refine wp_getR (r := 53) rfl (congrArg Prod.fst (kf_53 X.1)) rfl ?_
            refine wp_iload rfl rfl ?_
            have g9 := H.1
            replace H := H.2
            refine wp_iaload rfl (kf_54 X.1) g9 ?_
            refine wp_goto (tn := 22) rfl rfl ?_
            refine wp_iret rfl rfl ?_
            show Wp X _ 214 30 [vr 53, vi x1, vi x2, vi ((h 54 (x2 + 1)) - 48), vu, vu] [vi (h 54 (x2 + 2))] _ _
            refine wp_iconst rfl ?_
            refine wp_iceq (tn := 43) rfl rfl (fun c10 => ?_) (fun c10 => ?_)
            · replace H := H.1 c10
              refine wp_aload rfl rfl ?_
              refine wp_iload rfl rfl ?_
              refine wp_iconst rfl ?_
              refine wp_iadd rfl ?_
              refine Wp.topI (y := (x2 + 3)) (w32_I (by clear H; unfold R32; omega)) ?_
              refine wp_iload rfl rfl ?_
              refine wp_iconst rfl ?_
              refine wp_call (k := 217) (ρ2 := 1) (L2 := [vr 53, vi (x2 + 3), vi ((h 54 (x2 + 1)) - 48), vi 5, vu]) rfl rfl rfl (Nat.le_of_ble_eq_true rfl) (Nat.le_of_ble_eq_true rfl) (Nat.le_of_ble_eq_true rfl) (rcv_V rfl (congrArg Prod.fst (kf_53 X.1))) rfl ?_
              refine wp_aload rfl rfl ?_
              refine wp_iload rfl rfl ?_
              refine wp_call (k := 218) (ρ2 := 0) (L2 := [vr 53, vi (x2 + 3)]) rfl rfl rfl (Nat.le_of_ble_eq_true rfl) (Nat.le_of_ble_eq_true rfl) (Nat.le_of_ble_eq_true rfl) (rcv_V rfl (congrArg Prod.fst (kf_53 X.1))) rfl ?_
              refine wp_iload rfl rfl ?_
              refine wp_ifltF (tn := 21) rfl rfl (by clear H; omega) ?_
              refine wp_iload rfl rfl ?_
              refine wp_aload rfl rfl ?_
              refine wp_getI (j := 4) rfl (congrArg Prod.fst (kf_53 X.1)) rfl ?_
              refine wp_icge (tn := 21) rfl rfl (fun c11 => ?_) (fun c11 => ?_)
              · replace H := H.1 c11
                refine wp_iconst rfl ?_
                refine wp_iret rfl rfl ?_
                show Wp X _ 217 5 [vr 53, vi (x2 + 3), vi ((h 54 (x2 + 1)) - 48), vi 5, vu] [vi (-1)] _ _
                refine wp_iconst rfl ?_
                refine wp_isub rfl ?_
                refine Wp.topI (y := (-49)) (by decide) ?_
                refine wp_istore (L2 := [vr 53, vi (x2 + 3), vi ((h 54 (x2 + 1)) - 48), vi 5, vi (-49)]) rfl (Nat.le_of_ble_eq_true rfl) rfl ?_
                refine wp_iload rfl rfl ?_
                refine wp_iload rfl rfl ?_
                refine wp_icltT (tn := 22) rfl rfl (by clear H; omega) ?_
                refine wp_iconst rfl ?_
                refine wp_goto (tn := 28) rfl rfl ?_
                refine wp_iret rfl rfl ?_
                show Wp X _ 214 52 [vr 53, vi x1, vi x2, vi ((h 54 (x2 + 1)) - 48), vu, vu] [vi (-1)] _ _
                refine wp_istore (L2 := [vr 53, vi x1, vi x2, vi ((h 54 (x2 + 1)) - 48), vi (-1), vu]) rfl (Nat.le_of_ble_eq_true rfl) rfl ?_
                refine wp_iload rfl rfl ?_
                refine wp_iconst rfl ?_
                refine wp_icneF (tn := 68) rfl rfl (by decide) ?_
                refine wp_aload rfl rfl ?_
                refine wp_iload rfl rfl ?_
                refine wp_iconst rfl ?_
                refine wp_iadd rfl ?_
                refine Wp.topI (y := (x2 + 3)) (w32_I (by clear H; unfold R32; omega)) ?_
                refine wp_call (k := 216) (ρ2 := 0) (L2 := [vr 53, vi (x2 + 3)]) rfl rfl rfl (Nat.le_of_ble_eq_true rfl) (Nat.le_of_ble_eq_true rfl) (Nat.le_of_ble_eq_true rfl) (rcv_V rfl (congrArg Prod.fst (kf_53 X.1))) rfl ?_
                refine wp_aload rfl rfl ?_
                refine wp_iload rfl rfl ?_
                refine wp_putI (j := 6) rfl (congrArg Prod.fst (kf_53 X.1)) rfl rfl rfl ?_
                refine wp_iload rfl rfl ?_
                refine wp_iret rfl rfl ?_
                show Wp X _ 214 67 [vr 53, vi x1, vi x2, vi ((h 54 (x2 + 1)) - 48), vi (-1), vu] [vi (x2 + 3)] _ _
                exact wp_iret rfl rfl H
              · replace H := H.2 c11
                refine wp_aload rfl rfl ?_
                refine wp_getR (r := 53) rfl (congrArg Prod.fst (kf_53 X.1)) rfl ?_
                refine wp_iload rfl rfl ?_
                have g12 := H.1
                replace H := H.2
                refine wp_iaload rfl (kf_54 X.1) g12 ?_
                refine wp_goto (tn := 22) rfl rfl ?_
                refine wp_iret rfl rfl ?_
                show Wp X _ 217 5 [vr 53, vi (x2 + 3), vi ((h 54 (x2 + 1)) - 48), vi 5, vu] [vi (h 54 (x2 + 3))] _ _
                refine wp_iconst rfl ?_
                refine wp_isub rfl ?_
                have g13 := H.1
                replace H := H.2
                refine Wp.topI (y := ((h 54 (x2 + 3)) - 48)) (w32_I g13) ?_
                refine wp_istore (L2 := [vr 53, vi (x2 + 3), vi ((h 54 (x2 + 1)) - 48), vi 5, vi ((h 54 (x2 + 3)) - 48)]) rfl (Nat.le_of_ble_eq_true rfl) rfl ?_
                refine wp_iload rfl rfl ?_
                refine wp_iload rfl rfl ?_
                refine wp_iclt (tn := 22) rfl rfl (fun c14 => ?_) (fun c14 => ?_)
                · replace H := H.1 c14
                  refine wp_iconst rfl ?_
                  refine wp_goto (tn := 28) rfl rfl ?_
                  refine wp_iret rfl rfl ?_
                  show Wp X _ 214 52 [vr 53, vi x1, vi x2, vi ((h 54 (x2 + 1)) - 48), vu, vu] [vi (-1)] _ _
                  refine wp_istore (L2 := [vr 53, vi x1, vi x2, vi ((h 54 (x2 + 1)) - 48), vi (-1), vu]) rfl (Nat.le_of_ble_eq_true rfl) rfl ?_
                  refine wp_iload rfl rfl ?_
                  refine wp_iconst rfl ?_
                  refine wp_icneF (tn := 68) rfl rfl (by decide) ?_
                  refine wp_aload rfl rfl ?_
                  refine wp_iload rfl rfl ?_
                  refine wp_iconst rfl ?_
                  refine wp_iadd rfl ?_
                  refine Wp.topI (y := (x2 + 3)) (w32_I (by clear H; unfold R32; omega)) ?_
                  refine wp_call (k := 216) (ρ2 := 0) (L2 := [vr 53, vi (x2 + 3)]) rfl rfl rfl (Nat.le_of_ble_eq_true rfl) (Nat.le_of_ble_eq_true rfl) (Nat.le_of_ble_eq_true rfl) (rcv_V rfl (congrArg Prod.fst (kf_53 X.1))) rfl ?_
                  refine wp_aload rfl rfl ?_
                  refine wp_iload rfl rfl ?_
                  refine wp_putI (j := 6) rfl (congrArg Prod.fst (kf_53 X.1)) rfl rfl rfl ?_
                  refine wp_iload rfl rfl ?_
                  refine wp_iret rfl rfl ?_
                  show Wp X _ 214 67 [vr 53, vi x1, vi x2, vi ((h 54 (x2 + 1)) - 48), vi (-1), vu] [vi (x2 + 3)] _ _
                  exact wp_iret rfl rfl H
                · replace H := H.2 c14
                  refine wp_iload rfl rfl ?_
                  refine wp_iload rfl rfl ?_
                  refine wp_icle (tn := 26) rfl rfl (fun c15 => ?_) (fun c15 => ?_)
                  · replace H := H.1 c15
                    refine wp_iload rfl rfl ?_
                    refine wp_iret rfl rfl ?_
                    show Wp X _ 214 52 [vr 53, vi x1, vi x2, vi ((h 54 (x2 + 1)) - 48), vu, vu] [vi ((h 54 (x2 + 3)) - 48)] _ _
                    refine wp_istore (L2 := [vr 53, vi x1, vi x2, vi ((h 54 (x2 + 1)) - 48), vi ((h 54 (x2 + 3)) - 48), vu]) rfl (Nat.le_of_ble_eq_true rfl) rfl ?_
                    refine wp_iload rfl rfl ?_
                    refine wp_iconst rfl ?_
                    refine wp_icne (tn := 68) rfl rfl (fun c16 => ?_) (fun c16 => ?_)
                    · replace H := H.1 c16
                      refine wp_aload rfl rfl ?_
                      refine wp_iload rfl rfl ?_
                      refine wp_iconst rfl ?_
                      refine wp_iadd rfl ?_
                      refine Wp.topI (y := (x2 + 4)) (w32_I (by clear H; unfold R32; omega)) ?_
                      refine wp_call (k := 218) (ρ2 := 0) (L2 := [vr 53, vi (x2 + 4)]) rfl rfl rfl (Nat.le_of_ble_eq_true rfl) (Nat.le_of_ble_eq_true rfl) (Nat.le_of_ble_eq_true rfl) (rcv_V rfl (congrArg Prod.fst (kf_53 X.1))) rfl ?_
                      refine wp_iload rfl rfl ?_
                      refine wp_ifltF (tn := 21) rfl rfl (by clear H; omega) ?_
                      refine wp_iload rfl rfl ?_
                      refine wp_aload rfl rfl ?_
                      refine wp_getI (j := 4) rfl (congrArg Prod.fst (kf_53 X.1)) rfl ?_
                      refine wp_icge (tn := 21) rfl rfl (fun c17 => ?_) (fun c17 => ?_)
                      · replace H := H.1 c17
                        refine wp_iconst rfl ?_
                        refine wp_iret rfl rfl ?_
                        show Wp X _ 214 75 [vr 53, vi x1, vi x2, vi ((h 54 (x2 + 1)) - 48), vi ((h 54 (x2 + 3)) - 48), vu] [vi (-1)] _ _
                        refine wp_iconst rfl ?_
                        refine wp_iceqF (tn := 88) rfl rfl (by decide) ?_
                        refine wp_aload rfl rfl ?_
                        refine wp_iload rfl rfl ?_
                        refine wp_iconst rfl ?_
                        refine wp_iadd rfl ?_
                        refine Wp.topI (y := (x2 + 4)) (w32_I (by clear H; unfold R32; omega)) ?_
                        refine wp_call (k := 216) (ρ2 := 0) (L2 := [vr 53, vi (x2 + 4)]) rfl rfl rfl (Nat.le_of_ble_eq_true rfl) (Nat.le_of_ble_eq_true rfl) (Nat.le_of_ble_eq_true rfl) (rcv_V rfl (congrArg Prod.fst (kf_53 X.1))) rfl ?_
                        refine wp_aload rfl rfl ?_
                        refine wp_iload rfl rfl ?_
                        refine wp_putI (j := 6) rfl (congrArg Prod.fst (kf_53 X.1)) rfl rfl rfl ?_
                        refine wp_iload rfl rfl ?_
                        refine wp_iret rfl rfl ?_
                        show Wp X _ 214 87 [vr 53, vi x1, vi x2, vi ((h 54 (x2 + 1)) - 48), vi ((h 54 (x2 + 3)) - 48), vu] [vi (x2 + 4)] _ _
                        exact wp_iret rfl rfl H
                      · replace H := H.2 c17
                        refine wp_aload rfl rfl ?_
                        refine wp_getR (r := 53) rfl (congrArg Prod.fst (kf_53 X.1)) rfl ?_
                        refine wp_iload rfl rfl ?_
                        have g18 := H.1
                        replace H := H.2
                        refine wp_iaload rfl (kf_54 X.1) g18 ?_
                        refine wp_goto (tn := 22) rfl rfl ?_
                        refine wp_iret rfl rfl ?_
                        show Wp X _ 214 75 [vr 53, vi x1, vi x2, vi ((h 54 (x2 + 1)) - 48), vi ((h 54 (x2 + 3)) - 48), vu] [vi (h 54 (x2 + 4))] _ _
                        refine wp_iconst rfl ?_
                        refine wp_iceq (tn := 88) rfl rfl (fun c19 => ?_) (fun c19 => ?_)
                        · replace H := H.1 c19
                          refine wp_aload rfl rfl ?_
                          refine wp_iload rfl rfl ?_
                          refine wp_iconst rfl ?_
                          refine wp_iadd rfl ?_
                          refine Wp.topI (y := (x2 + 5)) (w32_I (by clear H; unfold R32; omega)) ?_
                          refine wp_iconst rfl ?_
                          refine wp_iconst rfl ?_
                          refine wp_call (k := 217) (ρ2 := 1) (L2 := [vr 53, vi (x2 + 5), vi 0, vi 3, vu]) rfl rfl rfl (Nat.le_of_ble_eq_true rfl) (Nat.le_of_ble_eq_true rfl) (Nat.le_of_ble_eq_true rfl) (rcv_V rfl (congrArg Prod.fst (kf_53 X.1))) rfl ?_
                          refine wp_aload rfl rfl ?_
                          refine wp_iload rfl rfl ?_
                          refine wp_call (k := 218) (ρ2 := 0) (L2 := [vr 53, vi (x2 + 5)]) rfl rfl rfl (Nat.le_of_ble_eq_true rfl) (Nat.le_of_ble_eq_true rfl) (Nat.le_of_ble_eq_true rfl) (rcv_V rfl (congrArg Prod.fst (kf_53 X.1))) rfl ?_
                          refine wp_iload rfl rfl ?_
                          refine wp_ifltF (tn := 21) rfl rfl (by clear H; omega) ?_
                          refine wp_iload rfl rfl ?_
                          refine wp_aload rfl rfl ?_
                          refine wp_getI (j := 4) rfl (congrArg Prod.fst (kf_53 X.1)) rfl ?_
                          refine wp_icge (tn := 21) rfl rfl (fun c20 => ?_) (fun c20 => ?_)
                          · replace H := H.1 c20
                            refine wp_iconst rfl ?_
                            refine wp_iret rfl rfl ?_
                            show Wp X _ 217 5 [vr 53, vi (x2 + 5), vi 0, vi 3, vu] [vi (-1)] _ _
                            refine wp_iconst rfl ?_
                            refine wp_isub rfl ?_
                            refine Wp.topI (y := (-49)) (by decide) ?_
                            refine wp_istore (L2 := [vr 53, vi (x2 + 5), vi 0, vi 3, vi (-49)]) rfl (Nat.le_of_ble_eq_true rfl) rfl ?_
                            refine wp_iload rfl rfl ?_
                            refine wp_iload rfl rfl ?_
                            refine wp_icltT (tn := 22) rfl rfl (by decide) ?_
                            refine wp_iconst rfl ?_
                            refine wp_goto (tn := 28) rfl rfl ?_
                            refine wp_iret rfl rfl ?_
                            show Wp X _ 214 97 [vr 53, vi x1, vi x2, vi ((h 54 (x2 + 1)) - 48), vi ((h 54 (x2 + 3)) - 48), vu] [vi (-1)] _ _
                            refine wp_istore (L2 := [vr 53, vi x1, vi x2, vi ((h 54 (x2 + 1)) - 48), vi ((h 54 (x2 + 3)) - 48), vi (-1)]) rfl (Nat.le_of_ble_eq_true rfl) rfl ?_
                            refine wp_iload rfl rfl ?_
                            refine wp_iconst rfl ?_
                            refine wp_icneF (tn := 113) rfl rfl (by decide) ?_
                            refine wp_aload rfl rfl ?_
                            refine wp_iload rfl rfl ?_
                            refine wp_iconst rfl ?_
                            refine wp_iadd rfl ?_
                            refine Wp.topI (y := (x2 + 5)) (w32_I (by clear H; unfold R32; omega)) ?_
                            refine wp_call (k := 216) (ρ2 := 0) (L2 := [vr 53, vi (x2 + 5)]) rfl rfl rfl (Nat.le_of_ble_eq_true rfl) (Nat.le_of_ble_eq_true rfl) (Nat.le_of_ble_eq_true rfl) (rcv_V rfl (congrArg Prod.fst (kf_53 X.1))) rfl ?_
                            refine wp_aload rfl rfl ?_
                            refine wp_iload rfl rfl ?_
                            refine wp_putI (j := 6) rfl (congrArg Prod.fst (kf_53 X.1)) rfl rfl rfl ?_
                            refine wp_iload rfl rfl ?_
                            refine wp_iret rfl rfl ?_
                            show Wp X _ 214 112 [vr 53, vi x1, vi x2, vi ((h 54 (x2 + 1)) - 48), vi ((h 54 (x2 + 3)) - 48), vi (-1)] [vi (x2 + 5)] _ _
                            exact wp_iret rfl rfl H
                          · replace H := H.2 c20
                            refine wp_aload rfl rfl ?_
                            refine wp_getR (r := 53) rfl (congrArg Prod.fst (kf_53 X.1)) rfl ?_
                            refine wp_iload rfl rfl ?_
                            have g21 := H.1
                            replace H := H.2
                            refine wp_iaload rfl (kf_54 X.1) g21 ?_
                            refine wp_goto (tn := 22) rfl rfl ?_
                            refine wp_iret rfl rfl ?_
                            show Wp X _ 217 5 [vr 53, vi (x2 + 5), vi 0, vi 3, vu] [vi (h 54 (x2 + 5))] _ _
                            refine wp_iconst rfl ?_
                            refine wp_isub rfl ?_
                            have g22 := H.1
                            replace H := H.2
                            refine Wp.topI (y := ((h 54 (x2 + 5)) - 48)) (w32_I g22) ?_
                            refine wp_istore (L2 := [vr 53, vi (x2 + 5), vi 0, vi 3, vi ((h 54 (x2 + 5)) - 48)]) rfl (Nat.le_of_ble_eq_true rfl) rfl ?_
                            refine wp_iload rfl rfl ?_
                            refine wp_iload rfl rfl ?_
                            refine wp_iclt (tn := 22) rfl rfl (fun c23 => ?_) (fun c23 => ?_)
                            · replace H := H.1 c23
                              refine wp_iconst rfl ?_
                              refine wp_goto (tn := 28) rfl rfl ?_
                              refine wp_iret rfl rfl ?_
                              show Wp X _ 214 97 [vr 53, vi x1, vi x2, vi ((h 54 (x2 + 1)) - 48), vi ((h 54 (x2 + 3)) - 48), vu] [vi (-1)] _ _
                              refine wp_istore (L2 := [vr 53, vi x1, vi x2, vi ((h 54 (x2 + 1)) - 48), vi ((h 54 (x2 + 3)) - 48), vi (-1)]) rfl (Nat.le_of_ble_eq_true rfl) rfl ?_
                              refine wp_iload rfl rfl ?_
                              refine wp_iconst rfl ?_
                              refine wp_icneF (tn := 113) rfl rfl (by decide) ?_
                              refine wp_aload rfl rfl ?_
                              refine wp_iload rfl rfl ?_
                              refine wp_iconst rfl ?_
                              refine wp_iadd rfl ?_
                              refine Wp.topI (y := (x2 + 5)) (w32_I (by clear H; unfold R32; omega)) ?_
                              refine wp_call (k := 216) (ρ2 := 0) (L2 := [vr 53, vi (x2 + 5)]) rfl rfl rfl (Nat.le_of_ble_eq_true rfl) (Nat.le_of_ble_eq_true rfl) (Nat.le_of_ble_eq_true rfl) (rcv_V rfl (congrArg Prod.fst (kf_53 X.1))) rfl ?_
                              refine wp_aload rfl rfl ?_
                              refine wp_iload rfl rfl ?_
                              refine wp_putI (j := 6) rfl (congrArg Prod.fst (kf_53 X.1)) rfl rfl rfl ?_
                              refine wp_iload rfl rfl ?_
                              refine wp_iret rfl rfl ?_
                              show Wp X _ 214 112 [vr 53, vi x1, vi x2, vi ((h 54 (x2 + 1)) - 48), vi ((h 54 (x2 + 3)) - 48), vi (-1)] [vi (x2 + 5)] _ _
                              exact wp_iret rfl rfl H
                            · replace H := H.2 c23
                              refine wp_iload rfl rfl ?_
                              refine wp_iload rfl rfl ?_
                              refine wp_icle (tn := 26) rfl rfl (fun c24 => ?_) (fun c24 => ?_)
                              · replace H := H.1 c24
                                refine wp_iload rfl rfl ?_
                                refine wp_iret rfl rfl ?_
                                show Wp X _ 214 97 [vr 53, vi x1, vi x2, vi ((h 54 (x2 + 1)) - 48), vi ((h 54 (x2 + 3)) - 48), vu] [vi ((h 54 (x2 + 5)) - 48)] _ _
                                refine wp_istore (L2 := [vr 53, vi x1, vi x2, vi ((h 54 (x2 + 1)) - 48), vi ((h 54 (x2 + 3)) - 48), vi ((h 54 (x2 + 5)) - 48)]) rfl (Nat.le_of_ble_eq_true rfl) rfl ?_
                                refine wp_iload rfl rfl ?_
                                refine wp_iconst rfl ?_
                                refine wp_icneT (tn := 113) rfl rfl (by clear H; omega) ?_
                                refine wp_aload rfl rfl ?_
                                refine wp_getR (r := 56) rfl (congrArg Prod.fst (kf_53 X.1)) rfl ?_
                                refine wp_iload rfl rfl ?_
                                refine wp_iload rfl rfl ?_
                                refine wp_iload rfl rfl ?_
                                refine wp_iload rfl rfl ?_
                                exact wp_call (k := 245) (ρ2 := 1) (L2 := [vr 57, vi x1, vi ((h 54 (x2 + 1)) - 48), vi ((h 54 (x2 + 3)) - 48), vi ((h 54 (x2 + 5)) - 48), vu, vu]) rfl rfl rfl (Nat.le_of_ble_eq_true rfl) (Nat.le_of_ble_eq_true rfl) (Nat.le_of_ble_eq_true rfl) (rcv_V rfl (congrArg Prod.fst (kf_57 X.1))) rfl H
                              · replace H := H.2 c24
                                refine wp_iconst rfl ?_
                                refine wp_goto (tn := 28) rfl rfl ?_
                                refine wp_iret rfl rfl ?_
                                show Wp X _ 214 97 [vr 53, vi x1, vi x2, vi ((h 54 (x2 + 1)) - 48), vi ((h 54 (x2 + 3)) - 48), vu] [vi (-1)] _ _
                                refine wp_istore (L2 := [vr 53, vi x1, vi x2, vi ((h 54 (x2 + 1)) - 48), vi ((h 54 (x2 + 3)) - 48), vi (-1)]) rfl (Nat.le_of_ble_eq_true rfl) rfl ?_
                                refine wp_iload rfl rfl ?_
                                refine wp_iconst rfl ?_
                                refine wp_icneF (tn := 113) rfl rfl (by decide) ?_
                                refine wp_aload rfl rfl ?_
                                refine wp_iload rfl rfl ?_
                                refine wp_iconst rfl ?_
                                refine wp_iadd rfl ?_
                                refine Wp.topI (y := (x2 + 5)) (w32_I (by clear H; unfold R32; omega)) ?_
                                refine wp_call (k := 216) (ρ2 := 0) (L2 := [vr 53, vi (x2 + 5)]) rfl rfl rfl (Nat.le_of_ble_eq_true rfl) (Nat.le_of_ble_eq_true rfl) (Nat.le_of_ble_eq_true rfl) (rcv_V rfl (congrArg Prod.fst (kf_53 X.1))) rfl ?_
                                refine wp_aload rfl rfl ?_
                                refine wp_iload rfl rfl ?_
                                refine wp_putI (j := 6) rfl (congrArg Prod.fst (kf_53 X.1)) rfl rfl rfl ?_
                                refine wp_iload rfl rfl ?_
                                refine wp_iret rfl rfl ?_
                                show Wp X _ 214 112 [vr 53, vi x1, vi x2, vi ((h 54 (x2 + 1)) - 48), vi ((h 54 (x2 + 3)) - 48), vi (-1)] [vi (x2 + 5)] _ _
                                exact wp_iret rfl rfl H
                        · replace H := H.2 c19
                          refine wp_aload rfl rfl ?_
                          refine wp_iload rfl rfl ?_
                          refine wp_iconst rfl ?_
                          refine wp_iadd rfl ?_
                          refine Wp.topI (y := (x2 + 4)) (w32_I (by clear H; unfold R32; omega)) ?_
                          refine wp_call (k := 216) (ρ2 := 0) (L2 := [vr 53, vi (x2 + 4)]) rfl rfl rfl (Nat.le_of_ble_eq_true rfl) (Nat.le_of_ble_eq_true rfl) (Nat.le_of_ble_eq_true rfl) (rcv_V rfl (congrArg Prod.fst (kf_53 X.1))) rfl ?_
                          refine wp_aload rfl rfl ?_
                          refine wp_iload rfl rfl ?_
                          refine wp_putI (j := 6) rfl (congrArg Prod.fst (kf_53 X.1)) rfl rfl rfl ?_
                          refine wp_iload rfl rfl ?_
                          refine wp_iret rfl rfl ?_
                          show Wp X _ 214 87 [vr 53, vi x1, vi x2, vi ((h 54 (x2 + 1)) - 48), vi ((h 54 (x2 + 3)) - 48), vu] [vi (x2 + 4)] _ _
                          exact wp_iret rfl rfl H
                    · replace H := H.2 c16
                      refine wp_aload rfl rfl ?_
                      refine wp_iload rfl rfl ?_
                      refine wp_iconst rfl ?_
                      refine wp_iadd rfl ?_
                      refine Wp.topI (y := (x2 + 3)) (w32_I (by clear H; unfold R32; omega)) ?_
                      refine wp_call (k := 216) (ρ2 := 0) (L2 := [vr 53, vi (x2 + 3)]) rfl rfl rfl (Nat.le_of_ble_eq_true rfl) (Nat.le_of_ble_eq_true rfl) (Nat.le_of_ble_eq_true rfl) (rcv_V rfl (congrArg Prod.fst (kf_53 X.1))) rfl ?_
                      refine wp_aload rfl rfl ?_
                      refine wp_iload rfl rfl ?_
                      refine wp_putI (j := 6) rfl (congrArg Prod.fst (kf_53 X.1)) rfl rfl rfl ?_
                      refine wp_iload rfl rfl ?_
                      refine wp_iret rfl rfl ?_
                      show Wp X _ 214 67 [vr 53, vi x1, vi x2, vi ((h 54 (x2 + 1)) - 48), vi ((h 54 (x2 + 3)) - 48), vu] [vi (x2 + 3)] _ _
                      exact wp_iret rfl rfl H
                  · replace H := H.2 c15
                    refine wp_iconst rfl ?_
                    refine wp_goto (tn := 28) rfl rfl ?_
                    refine wp_iret rfl rfl ?_
                    show Wp X _ 214 52 [vr 53, vi x1, vi x2, vi ((h 54 (x2 + 1)) - 48), vu, vu] [vi (-1)] _ _
                    refine wp_istore (L2 := [vr 53, vi x1, vi x2, vi ((h 54 (x2 + 1)) - 48), vi (-1), vu]) rfl (Nat.le_of_ble_eq_true rfl) rfl ?_
                    refine wp_iload rfl rfl ?_
                    refine wp_iconst rfl ?_
                    refine wp_icneF (tn := 68) rfl rfl (by decide) ?_
                    refine wp_aload rfl rfl ?_
                    refine wp_iload rfl rfl ?_
                    refine wp_iconst rfl ?_
                    refine wp_iadd rfl ?_
                    refine Wp.topI (y := (x2 + 3)) (w32_I (by clear H; unfold R32; omega)) ?_
                    refine wp_call (k := 216) (ρ2 := 0) (L2 := [vr 53, vi (x2 + 3)]) rfl rfl rfl (Nat.le_of_ble_eq_true rfl) (Nat.le_of_ble_eq_true rfl) (Nat.le_of_ble_eq_true rfl) (rcv_V rfl (congrArg Prod.fst (kf_53 X.1))) rfl ?_
                    refine wp_aload rfl rfl ?_
                    refine wp_iload rfl rfl ?_
                    refine wp_putI (j := 6) rfl (congrArg Prod.fst (kf_53 X.1)) rfl rfl rfl ?_
                    refine wp_iload rfl rfl ?_
                    refine wp_iret rfl rfl ?_
                    show Wp X _ 214 67 [vr 53, vi x1, vi x2, vi ((h 54 (x2 + 1)) - 48), vi (-1), vu] [vi (x2 + 3)] _ _
                    exact wp_iret rfl rfl H
            · replace H := H.2 c10
              refine wp_aload rfl rfl ?_
              refine wp_iload rfl rfl ?_
              refine wp_iconst rfl ?_
              refine wp_iadd rfl ?_
              refine Wp.topI (y := (x2 + 2)) (w32_I (by clear H; unfold R32; omega)) ?_
              refine wp_call (k := 216) (ρ2 := 0) (L2 := [vr 53, vi (x2 + 2)]) rfl rfl rfl (Nat.le_of_ble_eq_true rfl) (Nat.le_of_ble_eq_true rfl) (Nat.le_of_ble_eq_true rfl) (rcv_V rfl (congrArg Prod.fst (kf_53 X.1))) rfl ?_
              refine wp_aload rfl rfl ?_
              refine wp_iload rfl rfl ?_
              refine wp_putI (j := 6) rfl (congrArg Prod.fst (kf_53 X.1)) rfl rfl rfl ?_
              refine wp_iload rfl rfl ?_
              refine wp_iret rfl rfl ?_
              show Wp X _ 214 42 [vr 53, vi x1, vi x2, vi ((h 54 (x2 + 1)) - 48), vu, vu] [vi (x2 + 2)] _ _
              exact wp_iret rfl rfl H
        · replace H := H.2 c7
          refine wp_iconst rfl ?_
          refine wp_goto (tn := 28) rfl rfl ?_
          refine wp_iret rfl rfl ?_
          show Wp X _ 214 9 [vr 53, vi x1, vi x2, vu, vu, vu] [vi (-1)] _ _
          refine wp_istore (L2 := [vr 53, vi x1, vi x2, vi (-1), vu, vu]) rfl (Nat.le_of_ble_eq_true rfl) rfl ?_
          refine wp_iload rfl rfl ?_
          refine wp_iconst rfl ?_
          refine wp_icneF (tn := 23) rfl rfl (by decide) ?_
          refine wp_aload rfl rfl ?_
          refine wp_iload rfl rfl ?_
          refine wp_iconst rfl ?_
          refine wp_iadd rfl ?_
          refine Wp.topI (y := (x2 + 1)) (w32_I (by clear H; unfold R32; omega)) ?_
          refine wp_call (k := 216) (ρ2 := 0) (L2 := [vr 53, vi (x2 + 1)]) rfl rfl rfl (Nat.le_of_ble_eq_true rfl) (Nat.le_of_ble_eq_true rfl) (Nat.le_of_ble_eq_true rfl) (rcv_V rfl (congrArg Prod.fst (kf_53 X.1))) rfl ?_
          refine wp_aload rfl rfl ?_
          refine wp_iload rfl rfl ?_
          refine wp_putI (j := 6) rfl (congrArg Prod.fst (kf_53 X.1)) rfl rfl rfl ?_
          refine wp_iload rfl rfl ?_
          refine wp_iret rfl rfl ?_
          show Wp X _ 214 22 [vr 53, vi x1, vi x2, vi (-1), vu, vu] [vi (x2 + 1)] _ _
          exact wp_iret rfl rfl H
/-- RuleText.readZoneRule(II)I, from 126 -/
theorem S214_53_126 {X : Nat × (Int → Int)} {h : HP} {Q : bQ} (x1 : Int) (x2 : Int) (x3 : Int) (zx4 : aV) (zx5 : aV) (H : ((x1 < 0 → ((R32 (x2 + 6)) ∧ Q (some (vi (x2 + 6))) h)) ∧ (0 ≤ x1 → ((8 ≤ x1 → ((R32 (x2 + 6)) ∧ Q (some (vi (x2 + 6))) h)) ∧ (x1 < 8 → ((R32 (x2 + 6)) ∧ Q (some (vi (x2 + 6))) (upd2 (upd2 h 55 x1 122) 56 x1 x3))))))) : Wp X 2 214 126 [vr 53, vi x1, vi x2, vi x3, zx4, zx5] [] h Q := by
  refine wp_aload rfl rfl ?_
  refine wp_iload rfl rfl ?_
  refine wp_iconst rfl ?_
  refine wp_iload rfl rfl ?_
  refine wp_call (k := 215) (ρ2 := 0) (L2 := [vr 53, vi x1, vi 122, vi x3]) rfl rfl rfl (Nat.le_of_ble_eq_true rfl) (Nat.le_of_ble_eq_true rfl) (Nat.le_of_ble_eq_true rfl) (rcv_V rfl (congrArg Prod.fst (kf_53 X.1))) rfl ?_
  refine wp_iload rfl rfl ?_
  refine wp_iflt (tn := 24) rfl rfl (fun c1 => ?_) (fun c1 => ?_)
  · replace H := H.1 c1
    refine wp_vret rfl rfl ?_
    show Wp X _ 214 134 [vr 53, vi x1, vi x2, vi x3, zx4, zx5] [] _ _
    refine wp_iload rfl rfl ?_
    refine wp_iconst rfl ?_
    refine wp_iadd rfl ?_
    have g2 := H.1
    replace H := H.2
    refine Wp.topI (y := (x2 + 6)) (w32_I g2) ?_
    exact wp_iret rfl rfl H
  · replace H := H.2 c1
    refine wp_iload rfl rfl ?_
    refine wp_iconst rfl ?_
    refine wp_icge (tn := 24) rfl rfl (fun c3 => ?_) (fun c3 => ?_)
    · replace H := H.1 c3
      refine wp_vret rfl rfl ?_
      show Wp X _ 214 134 [vr 53, vi x1, vi x2, vi x3, zx4, zx5] [] _ _
      refine wp_iload rfl rfl ?_
      refine wp_iconst rfl ?_
      refine wp_iadd rfl ?_
      have g4 := H.1
      replace H := H.2
      refine Wp.topI (y := (x2 + 6)) (w32_I g4) ?_
      exact wp_iret rfl rfl H
    · replace H := H.2 c3
      refine wp_aload rfl rfl ?_
      refine wp_getR (r := 54) rfl (congrArg Prod.fst (kf_53 X.1)) rfl ?_
      refine wp_iload rfl rfl ?_
      refine wp_iload rfl rfl ?_
      refine wp_iastore rfl (kf_55 X.1) ⟨c1, c3⟩ ?_
      refine wp_aload rfl rfl ?_
      refine wp_getR (r := 55) rfl (congrArg Prod.fst (kf_53 X.1)) rfl ?_
      refine wp_iload rfl rfl ?_
      refine wp_iload rfl rfl ?_
      refine wp_iastore rfl (kf_56 X.1) ⟨c1, c3⟩ ?_
      refine wp_vret rfl rfl ?_
      show Wp X _ 214 134 [vr 53, vi x1, vi x2, vi x3, zx4, zx5] [] _ _
      refine wp_iload rfl rfl ?_
      refine wp_iconst rfl ?_
      refine wp_iadd rfl ?_
      have g5 := H.1
      replace H := H.2
      refine Wp.topI (y := (x2 + 6)) (w32_I g5) ?_
      exact wp_iret rfl rfl H
/-- Sheet.begin(II)V, from 0 -/
theorem S223_81_0 {X : Nat × (Int → Int)} {h : HP} {Q : bQ} (x1 : Int) (x2 : Int) (H : ((60 < x2 → Wp X 1 223 21 [vr 81, vi x1, vi x2, vi 0] [] (upd2 (upd2 h 81 1 x1) 81 2 60) Q) ∧ (x2 ≤ 60 → ((0 < x2 → Wp X 1 223 21 [vr 81, vi x1, vi x2, vi 0] [] (upd2 (upd2 h 81 1 x1) 81 2 x2) Q) ∧ (x2 ≤ 0 → Wp X 1 223 21 [vr 81, vi x1, vi x2, vi 0] [] (upd2 (upd2 h 81 1 x1) 81 2 0) Q))))) : Wp X 1 223 0 [vr 81, vi x1, vi x2, vu] [] h Q := by
  refine wp_aload rfl rfl ?_
  refine wp_iload rfl rfl ?_
  refine wp_putI (j := 1) rfl (congrArg Prod.fst (kf_81 X.1)) rfl rfl rfl ?_
  refine wp_aload rfl rfl ?_
  refine wp_iconst rfl ?_
  refine wp_iload rfl rfl ?_
  refine wp_iconst rfl ?_
  refine wp_call (k := 253) (ρ2 := 0) (L2 := [vi x2, vi 60]) rfl rfl rfl (Nat.le_of_ble_eq_true rfl) (Nat.le_of_ble_eq_true rfl) (Nat.le_of_ble_eq_true rfl) (rcv_S rfl) rfl ?_
  refine wp_iload rfl rfl ?_
  refine wp_iload rfl rfl ?_
  refine wp_icgt (tn := 9) rfl rfl (fun c1 => ?_) (fun c1 => ?_)
  · replace H := H.1 c1
    refine wp_iload rfl rfl ?_
    refine wp_iret rfl rfl ?_
    show Wp X _ 223 13 [vr 81, vi x1, vi x2, vu] [vi 60, vi 0, vr 81] _ _
    refine wp_call (k := 252) (ρ2 := 0) (L2 := [vi 0, vi 60]) rfl rfl rfl (Nat.le_of_ble_eq_true rfl) (Nat.le_of_ble_eq_true rfl) (Nat.le_of_ble_eq_true rfl) (rcv_S rfl) rfl ?_
    refine wp_iload rfl rfl ?_
    refine wp_iload rfl rfl ?_
    refine wp_icltT (tn := 9) rfl rfl (by decide) ?_
    refine wp_iload rfl rfl ?_
    refine wp_iret rfl rfl ?_
    show Wp X _ 223 16 [vr 81, vi x1, vi x2, vu] [vi 60, vr 81] _ _
    refine wp_putI (j := 2) rfl (congrArg Prod.fst (kf_81 X.1)) rfl rfl rfl ?_
    refine wp_iconst rfl ?_
    refine wp_istore (L2 := [vr 81, vi x1, vi x2, vi 0]) rfl (Nat.le_of_ble_eq_true rfl) rfl ?_
    exact H
  · replace H := H.2 c1
    refine wp_iload rfl rfl ?_
    refine wp_goto (tn := 10) rfl rfl ?_
    refine wp_iret rfl rfl ?_
    show Wp X _ 223 13 [vr 81, vi x1, vi x2, vu] [vi x2, vi 0, vr 81] _ _
    refine wp_call (k := 252) (ρ2 := 0) (L2 := [vi 0, vi x2]) rfl rfl rfl (Nat.le_of_ble_eq_true rfl) (Nat.le_of_ble_eq_true rfl) (Nat.le_of_ble_eq_true rfl) (rcv_S rfl) rfl ?_
    refine wp_iload rfl rfl ?_
    refine wp_iload rfl rfl ?_
    refine wp_iclt (tn := 9) rfl rfl (fun c2 => ?_) (fun c2 => ?_)
    · replace H := H.1 c2
      refine wp_iload rfl rfl ?_
      refine wp_iret rfl rfl ?_
      show Wp X _ 223 16 [vr 81, vi x1, vi x2, vu] [vi x2, vr 81] _ _
      refine wp_putI (j := 2) rfl (congrArg Prod.fst (kf_81 X.1)) rfl rfl rfl ?_
      refine wp_iconst rfl ?_
      refine wp_istore (L2 := [vr 81, vi x1, vi x2, vi 0]) rfl (Nat.le_of_ble_eq_true rfl) rfl ?_
      exact H
    · replace H := H.2 c2
      refine wp_iload rfl rfl ?_
      refine wp_goto (tn := 10) rfl rfl ?_
      refine wp_iret rfl rfl ?_
      show Wp X _ 223 16 [vr 81, vi x1, vi x2, vu] [vi 0, vr 81] _ _
      refine wp_putI (j := 2) rfl (congrArg Prod.fst (kf_81 X.1)) rfl rfl rfl ?_
      refine wp_iconst rfl ?_
      refine wp_istore (L2 := [vr 81, vi x1, vi x2, vi 0]) rfl (Nat.le_of_ble_eq_true rfl) rfl ?_
      exact H
/-- Sheet.begin(II)V, from 21 -/
theorem S223_81_21 {X : Nat × (Int → Int)} {h : HP} {Q : bQ} (zx1 : aV) (zx2 : aV) (x3 : Int) (H : (((h 81 2) ≤ x3 → Q none h) ∧ (x3 < (h 81 2) → ((0 ≤ x3 ∧ x3 < 60) ∧ Wp X 1 223 21 [vr 81, zx1, (clr1 zx2), vi (x3 + 1)] [] (upd2 h 82 x3 0) Q)))) : Wp X 1 223 21 [vr 81, zx1, zx2, vi x3] [] h Q := by
  refine wp_iload rfl rfl ?_
  refine wp_aload rfl rfl ?_
  refine wp_getI (j := 2) rfl (congrArg Prod.fst (kf_81 X.1)) rfl ?_
  refine wp_icge (tn := 42) rfl rfl (fun c1 => ?_) (fun c1 => ?_)
  · replace H := H.1 c1
    exact wp_vret rfl rfl H
  · replace H := H.2 c1
    refine wp_aload rfl rfl ?_
    refine wp_getR (r := 81) rfl (congrArg Prod.fst (kf_81 X.1)) rfl ?_
    refine wp_iload rfl rfl ?_
    refine wp_iconst rfl ?_
    have g2 := H.1
    replace H := H.2
    refine wp_iastore rfl (kf_82 X.1) g2 ?_
    refine wp_iincR (L2 := [vr 81, zx1, (clr1 zx2), vi (x3 + 1)]) rfl rfl (by clear H; unfold R32; omega) rfl ?_
    refine wp_goto (tn := 21) rfl rfl ?_
    exact H
/-- Sheet.begin(II)V, from 0 -/
theorem S223_83_0 {X : Nat × (Int → Int)} {h : HP} {Q : bQ} (x1 : Int) (x2 : Int) (H : ((60 < x2 → Wp X 1 223 21 [vr 83, vi x1, vi x2, vi 0] [] (upd2 (upd2 h 83 1 x1) 83 2 60) Q) ∧ (x2 ≤ 60 → ((0 < x2 → Wp X 1 223 21 [vr 83, vi x1, vi x2, vi 0] [] (upd2 (upd2 h 83 1 x1) 83 2 x2) Q) ∧ (x2 ≤ 0 → Wp X 1 223 21 [vr 83, vi x1, vi x2, vi 0] [] (upd2 (upd2 h 83 1 x1) 83 2 0) Q))))) : Wp X 1 223 0 [vr 83, vi x1, vi x2, vu] [] h Q := by
  refine wp_aload rfl rfl ?_
  refine wp_iload rfl rfl ?_
  refine wp_putI (j := 1) rfl (congrArg Prod.fst (kf_83 X.1)) rfl rfl rfl ?_
  refine wp_aload rfl rfl ?_
  refine wp_iconst rfl ?_
  refine wp_iload rfl rfl ?_
  refine wp_iconst rfl ?_
  refine wp_call (k := 253) (ρ2 := 0) (L2 := [vi x2, vi 60]) rfl rfl rfl (Nat.le_of_ble_eq_true rfl) (Nat.le_of_ble_eq_true rfl) (Nat.le_of_ble_eq_true rfl) (rcv_S rfl) rfl ?_
  refine wp_iload rfl rfl ?_
  refine wp_iload rfl rfl ?_
  refine wp_icgt (tn := 9) rfl rfl (fun c1 => ?_) (fun c1 => ?_)
  · replace H := H.1 c1
    refine wp_iload rfl rfl ?_
    refine wp_iret rfl rfl ?_
    show Wp X _ 223 13 [vr 83, vi x1, vi x2, vu] [vi 60, vi 0, vr 83] _ _
    refine wp_call (k := 252) (ρ2 := 0) (L2 := [vi 0, vi 60]) rfl rfl rfl (Nat.le_of_ble_eq_true rfl) (Nat.le_of_ble_eq_true rfl) (Nat.le_of_ble_eq_true rfl) (rcv_S rfl) rfl ?_
    refine wp_iload rfl rfl ?_
    refine wp_iload rfl rfl ?_
    refine wp_icltT (tn := 9) rfl rfl (by decide) ?_
    refine wp_iload rfl rfl ?_
    refine wp_iret rfl rfl ?_
    show Wp X _ 223 16 [vr 83, vi x1, vi x2, vu] [vi 60, vr 83] _ _
    refine wp_putI (j := 2) rfl (congrArg Prod.fst (kf_83 X.1)) rfl rfl rfl ?_
    refine wp_iconst rfl ?_
    refine wp_istore (L2 := [vr 83, vi x1, vi x2, vi 0]) rfl (Nat.le_of_ble_eq_true rfl) rfl ?_
    exact H
  · replace H := H.2 c1
    refine wp_iload rfl rfl ?_
    refine wp_goto (tn := 10) rfl rfl ?_
    refine wp_iret rfl rfl ?_
    show Wp X _ 223 13 [vr 83, vi x1, vi x2, vu] [vi x2, vi 0, vr 83] _ _
    refine wp_call (k := 252) (ρ2 := 0) (L2 := [vi 0, vi x2]) rfl rfl rfl (Nat.le_of_ble_eq_true rfl) (Nat.le_of_ble_eq_true rfl) (Nat.le_of_ble_eq_true rfl) (rcv_S rfl) rfl ?_
    refine wp_iload rfl rfl ?_
    refine wp_iload rfl rfl ?_
    refine wp_iclt (tn := 9) rfl rfl (fun c2 => ?_) (fun c2 => ?_)
    · replace H := H.1 c2
      refine wp_iload rfl rfl ?_
      refine wp_iret rfl rfl ?_
      show Wp X _ 223 16 [vr 83, vi x1, vi x2, vu] [vi x2, vr 83] _ _
      refine wp_putI (j := 2) rfl (congrArg Prod.fst (kf_83 X.1)) rfl rfl rfl ?_
      refine wp_iconst rfl ?_
      refine wp_istore (L2 := [vr 83, vi x1, vi x2, vi 0]) rfl (Nat.le_of_ble_eq_true rfl) rfl ?_
      exact H
    · replace H := H.2 c2
      refine wp_iload rfl rfl ?_
      refine wp_goto (tn := 10) rfl rfl ?_
      refine wp_iret rfl rfl ?_
      show Wp X _ 223 16 [vr 83, vi x1, vi x2, vu] [vi 0, vr 83] _ _
      refine wp_putI (j := 2) rfl (congrArg Prod.fst (kf_83 X.1)) rfl rfl rfl ?_
      refine wp_iconst rfl ?_
      refine wp_istore (L2 := [vr 83, vi x1, vi x2, vi 0]) rfl (Nat.le_of_ble_eq_true rfl) rfl ?_
      exact H
/-- Sheet.begin(II)V, from 21 -/
theorem S223_83_21 {X : Nat × (Int → Int)} {h : HP} {Q : bQ} (zx1 : aV) (zx2 : aV) (x3 : Int) (H : (((h 83 2) ≤ x3 → Q none h) ∧ (x3 < (h 83 2) → ((0 ≤ x3 ∧ x3 < 60) ∧ Wp X 1 223 21 [vr 83, zx1, (clr1 zx2), vi (x3 + 1)] [] (upd2 h 84 x3 0) Q)))) : Wp X 1 223 21 [vr 83, zx1, zx2, vi x3] [] h Q := by
  refine wp_iload rfl rfl ?_
  refine wp_aload rfl rfl ?_
  refine wp_getI (j := 2) rfl (congrArg Prod.fst (kf_83 X.1)) rfl ?_
  refine wp_icge (tn := 42) rfl rfl (fun c1 => ?_) (fun c1 => ?_)
  · replace H := H.1 c1
    exact wp_vret rfl rfl H
  · replace H := H.2 c1
    refine wp_aload rfl rfl ?_
    refine wp_getR (r := 83) rfl (congrArg Prod.fst (kf_83 X.1)) rfl ?_
    refine wp_iload rfl rfl ?_
    refine wp_iconst rfl ?_
    have g2 := H.1
    replace H := H.2
    refine wp_iastore rfl (kf_84 X.1) g2 ?_
    refine wp_iincR (L2 := [vr 83, zx1, (clr1 zx2), vi (x3 + 1)]) rfl rfl (by clear H; unfold R32; omega) rfl ?_
    refine wp_goto (tn := 21) rfl rfl ?_
    exact H
/-- Sheet.begin(II)V, from 0 -/
theorem S223_85_0 {X : Nat × (Int → Int)} {h : HP} {Q : bQ} (x1 : Int) (x2 : Int) (H : ((60 < x2 → Wp X 1 223 21 [vr 85, vi x1, vi x2, vi 0] [] (upd2 (upd2 h 85 1 x1) 85 2 60) Q) ∧ (x2 ≤ 60 → ((0 < x2 → Wp X 1 223 21 [vr 85, vi x1, vi x2, vi 0] [] (upd2 (upd2 h 85 1 x1) 85 2 x2) Q) ∧ (x2 ≤ 0 → Wp X 1 223 21 [vr 85, vi x1, vi x2, vi 0] [] (upd2 (upd2 h 85 1 x1) 85 2 0) Q))))) : Wp X 1 223 0 [vr 85, vi x1, vi x2, vu] [] h Q := by
  refine wp_aload rfl rfl ?_
  refine wp_iload rfl rfl ?_
  refine wp_putI (j := 1) rfl (congrArg Prod.fst (kf_85 X.1)) rfl rfl rfl ?_
  refine wp_aload rfl rfl ?_
  refine wp_iconst rfl ?_
  refine wp_iload rfl rfl ?_
  refine wp_iconst rfl ?_
  refine wp_call (k := 253) (ρ2 := 0) (L2 := [vi x2, vi 60]) rfl rfl rfl (Nat.le_of_ble_eq_true rfl) (Nat.le_of_ble_eq_true rfl) (Nat.le_of_ble_eq_true rfl) (rcv_S rfl) rfl ?_
  refine wp_iload rfl rfl ?_
  refine wp_iload rfl rfl ?_
  refine wp_icgt (tn := 9) rfl rfl (fun c1 => ?_) (fun c1 => ?_)
  · replace H := H.1 c1
    refine wp_iload rfl rfl ?_
    refine wp_iret rfl rfl ?_
    show Wp X _ 223 13 [vr 85, vi x1, vi x2, vu] [vi 60, vi 0, vr 85] _ _
    refine wp_call (k := 252) (ρ2 := 0) (L2 := [vi 0, vi 60]) rfl rfl rfl (Nat.le_of_ble_eq_true rfl) (Nat.le_of_ble_eq_true rfl) (Nat.le_of_ble_eq_true rfl) (rcv_S rfl) rfl ?_
    refine wp_iload rfl rfl ?_
    refine wp_iload rfl rfl ?_
    refine wp_icltT (tn := 9) rfl rfl (by decide) ?_
    refine wp_iload rfl rfl ?_
    refine wp_iret rfl rfl ?_
    show Wp X _ 223 16 [vr 85, vi x1, vi x2, vu] [vi 60, vr 85] _ _
    refine wp_putI (j := 2) rfl (congrArg Prod.fst (kf_85 X.1)) rfl rfl rfl ?_
    refine wp_iconst rfl ?_
    refine wp_istore (L2 := [vr 85, vi x1, vi x2, vi 0]) rfl (Nat.le_of_ble_eq_true rfl) rfl ?_
    exact H
  · replace H := H.2 c1
    refine wp_iload rfl rfl ?_
    refine wp_goto (tn := 10) rfl rfl ?_
    refine wp_iret rfl rfl ?_
    show Wp X _ 223 13 [vr 85, vi x1, vi x2, vu] [vi x2, vi 0, vr 85] _ _
    refine wp_call (k := 252) (ρ2 := 0) (L2 := [vi 0, vi x2]) rfl rfl rfl (Nat.le_of_ble_eq_true rfl) (Nat.le_of_ble_eq_true rfl) (Nat.le_of_ble_eq_true rfl) (rcv_S rfl) rfl ?_
    refine wp_iload rfl rfl ?_
    refine wp_iload rfl rfl ?_
    refine wp_iclt (tn := 9) rfl rfl (fun c2 => ?_) (fun c2 => ?_)
    · replace H := H.1 c2
      refine wp_iload rfl rfl ?_
      refine wp_iret rfl rfl ?_
      show Wp X _ 223 16 [vr 85, vi x1, vi x2, vu] [vi x2, vr 85] _ _
      refine wp_putI (j := 2) rfl (congrArg Prod.fst (kf_85 X.1)) rfl rfl rfl ?_
      refine wp_iconst rfl ?_
      refine wp_istore (L2 := [vr 85, vi x1, vi x2, vi 0]) rfl (Nat.le_of_ble_eq_true rfl) rfl ?_
      exact H
    · replace H := H.2 c2
      refine wp_iload rfl rfl ?_
      refine wp_goto (tn := 10) rfl rfl ?_
      refine wp_iret rfl rfl ?_
      show Wp X _ 223 16 [vr 85, vi x1, vi x2, vu] [vi 0, vr 85] _ _
      refine wp_putI (j := 2) rfl (congrArg Prod.fst (kf_85 X.1)) rfl rfl rfl ?_
      refine wp_iconst rfl ?_
      refine wp_istore (L2 := [vr 85, vi x1, vi x2, vi 0]) rfl (Nat.le_of_ble_eq_true rfl) rfl ?_
      exact H
/-- Sheet.begin(II)V, from 21 -/
theorem S223_85_21 {X : Nat × (Int → Int)} {h : HP} {Q : bQ} (zx1 : aV) (zx2 : aV) (x3 : Int) (H : (((h 85 2) ≤ x3 → Q none h) ∧ (x3 < (h 85 2) → ((0 ≤ x3 ∧ x3 < 60) ∧ Wp X 1 223 21 [vr 85, zx1, (clr1 zx2), vi (x3 + 1)] [] (upd2 h 86 x3 0) Q)))) : Wp X 1 223 21 [vr 85, zx1, zx2, vi x3] [] h Q := by
  refine wp_iload rfl rfl ?_
  refine wp_aload rfl rfl ?_
  refine wp_getI (j := 2) rfl (congrArg Prod.fst (kf_85 X.1)) rfl ?_
  refine wp_icge (tn := 42) rfl rfl (fun c1 => ?_) (fun c1 => ?_)
  · replace H := H.1 c1
    exact wp_vret rfl rfl H
  · replace H := H.2 c1
    refine wp_aload rfl rfl ?_
    refine wp_getR (r := 85) rfl (congrArg Prod.fst (kf_85 X.1)) rfl ?_
    refine wp_iload rfl rfl ?_
    refine wp_iconst rfl ?_
    have g2 := H.1
    replace H := H.2
    refine wp_iastore rfl (kf_86 X.1) g2 ?_
    refine wp_iincR (L2 := [vr 85, zx1, (clr1 zx2), vi (x3 + 1)]) rfl rfl (by clear H; unfold R32; omega) rfl ?_
    refine wp_goto (tn := 21) rfl rfl ?_
    exact H
/-- Sheet.begin(II)V, from 0 -/
theorem S223_87_0 {X : Nat × (Int → Int)} {h : HP} {Q : bQ} (x1 : Int) (x2 : Int) (H : ((60 < x2 → Wp X 1 223 21 [vr 87, vi x1, vi x2, vi 0] [] (upd2 (upd2 h 87 1 x1) 87 2 60) Q) ∧ (x2 ≤ 60 → ((0 < x2 → Wp X 1 223 21 [vr 87, vi x1, vi x2, vi 0] [] (upd2 (upd2 h 87 1 x1) 87 2 x2) Q) ∧ (x2 ≤ 0 → Wp X 1 223 21 [vr 87, vi x1, vi x2, vi 0] [] (upd2 (upd2 h 87 1 x1) 87 2 0) Q))))) : Wp X 1 223 0 [vr 87, vi x1, vi x2, vu] [] h Q := by
  refine wp_aload rfl rfl ?_
  refine wp_iload rfl rfl ?_
  refine wp_putI (j := 1) rfl (congrArg Prod.fst (kf_87 X.1)) rfl rfl rfl ?_
  refine wp_aload rfl rfl ?_
  refine wp_iconst rfl ?_
  refine wp_iload rfl rfl ?_
  refine wp_iconst rfl ?_
  refine wp_call (k := 253) (ρ2 := 0) (L2 := [vi x2, vi 60]) rfl rfl rfl (Nat.le_of_ble_eq_true rfl) (Nat.le_of_ble_eq_true rfl) (Nat.le_of_ble_eq_true rfl) (rcv_S rfl) rfl ?_
  refine wp_iload rfl rfl ?_
  refine wp_iload rfl rfl ?_
  refine wp_icgt (tn := 9) rfl rfl (fun c1 => ?_) (fun c1 => ?_)
  · replace H := H.1 c1
    refine wp_iload rfl rfl ?_
    refine wp_iret rfl rfl ?_
    show Wp X _ 223 13 [vr 87, vi x1, vi x2, vu] [vi 60, vi 0, vr 87] _ _
    refine wp_call (k := 252) (ρ2 := 0) (L2 := [vi 0, vi 60]) rfl rfl rfl (Nat.le_of_ble_eq_true rfl) (Nat.le_of_ble_eq_true rfl) (Nat.le_of_ble_eq_true rfl) (rcv_S rfl) rfl ?_
    refine wp_iload rfl rfl ?_
    refine wp_iload rfl rfl ?_
    refine wp_icltT (tn := 9) rfl rfl (by decide) ?_
    refine wp_iload rfl rfl ?_
    refine wp_iret rfl rfl ?_
    show Wp X _ 223 16 [vr 87, vi x1, vi x2, vu] [vi 60, vr 87] _ _
    refine wp_putI (j := 2) rfl (congrArg Prod.fst (kf_87 X.1)) rfl rfl rfl ?_
    refine wp_iconst rfl ?_
    refine wp_istore (L2 := [vr 87, vi x1, vi x2, vi 0]) rfl (Nat.le_of_ble_eq_true rfl) rfl ?_
    exact H
  · replace H := H.2 c1
    refine wp_iload rfl rfl ?_
    refine wp_goto (tn := 10) rfl rfl ?_
    refine wp_iret rfl rfl ?_
    show Wp X _ 223 13 [vr 87, vi x1, vi x2, vu] [vi x2, vi 0, vr 87] _ _
    refine wp_call (k := 252) (ρ2 := 0) (L2 := [vi 0, vi x2]) rfl rfl rfl (Nat.le_of_ble_eq_true rfl) (Nat.le_of_ble_eq_true rfl) (Nat.le_of_ble_eq_true rfl) (rcv_S rfl) rfl ?_
    refine wp_iload rfl rfl ?_
    refine wp_iload rfl rfl ?_
    refine wp_iclt (tn := 9) rfl rfl (fun c2 => ?_) (fun c2 => ?_)
    · replace H := H.1 c2
      refine wp_iload rfl rfl ?_
      refine wp_iret rfl rfl ?_
      show Wp X _ 223 16 [vr 87, vi x1, vi x2, vu] [vi x2, vr 87] _ _
      refine wp_putI (j := 2) rfl (congrArg Prod.fst (kf_87 X.1)) rfl rfl rfl ?_
      refine wp_iconst rfl ?_
      refine wp_istore (L2 := [vr 87, vi x1, vi x2, vi 0]) rfl (Nat.le_of_ble_eq_true rfl) rfl ?_
      exact H
    · replace H := H.2 c2
      refine wp_iload rfl rfl ?_
      refine wp_goto (tn := 10) rfl rfl ?_
      refine wp_iret rfl rfl ?_
      show Wp X _ 223 16 [vr 87, vi x1, vi x2, vu] [vi 0, vr 87] _ _
      refine wp_putI (j := 2) rfl (congrArg Prod.fst (kf_87 X.1)) rfl rfl rfl ?_
      refine wp_iconst rfl ?_
      refine wp_istore (L2 := [vr 87, vi x1, vi x2, vi 0]) rfl (Nat.le_of_ble_eq_true rfl) rfl ?_
      exact H
/-- Sheet.begin(II)V, from 21 -/
theorem S223_87_21 {X : Nat × (Int → Int)} {h : HP} {Q : bQ} (zx1 : aV) (zx2 : aV) (x3 : Int) (H : (((h 87 2) ≤ x3 → Q none h) ∧ (x3 < (h 87 2) → ((0 ≤ x3 ∧ x3 < 60) ∧ Wp X 1 223 21 [vr 87, zx1, (clr1 zx2), vi (x3 + 1)] [] (upd2 h 88 x3 0) Q)))) : Wp X 1 223 21 [vr 87, zx1, zx2, vi x3] [] h Q := by
  refine wp_iload rfl rfl ?_
  refine wp_aload rfl rfl ?_
  refine wp_getI (j := 2) rfl (congrArg Prod.fst (kf_87 X.1)) rfl ?_
  refine wp_icge (tn := 42) rfl rfl (fun c1 => ?_) (fun c1 => ?_)
  · replace H := H.1 c1
    exact wp_vret rfl rfl H
  · replace H := H.2 c1
    refine wp_aload rfl rfl ?_
    refine wp_getR (r := 87) rfl (congrArg Prod.fst (kf_87 X.1)) rfl ?_
    refine wp_iload rfl rfl ?_
    refine wp_iconst rfl ?_
    have g2 := H.1
    replace H := H.2
    refine wp_iastore rfl (kf_88 X.1) g2 ?_
    refine wp_iincR (L2 := [vr 87, zx1, (clr1 zx2), vi (x3 + 1)]) rfl rfl (by clear H; unfold R32; omega) rfl ?_
    refine wp_goto (tn := 21) rfl rfl ?_
    exact H
/-- Sums.run(L$Row;L$Lines;I)V, from 0 -/
theorem S231_74_37_36_0 {X : Nat × (Int → Int)} {h : HP} {Q : bQ} (x3 : Int) (H : ((R32 (60 * (h 36 0))) ∧ ((R32 (x3 * (60 * (h 36 0)))) ∧ ((20 < (h 37 6) → Wp X 2 231 30 [vr 74, vr 37, vr 36, vi x3, vi (x3 * (60 * (h 36 0))), vi 0, vi 0, vi 0, vu] [] (upd2 h 74 2 20) Q) ∧ ((h 37 6) ≤ 20 → Wp X 2 231 30 [vr 74, vr 37, vr 36, vi x3, vi (x3 * (60 * (h 36 0))), vi 0, vi 0, vi 0, vu] [] (upd2 h 74 2 (h 37 6)) Q))))) : Wp X 2 231 0 [vr 74, vr 37, vr 36, vi x3, vu, vu, vu, vu, vu] [] h Q := by
  refine wp_iload rfl rfl ?_
  refine wp_aload rfl rfl ?_
  refine wp_call (k := 162) (ρ2 := 0) (L2 := [vr 36]) rfl rfl rfl (Nat.le_of_ble_eq_true rfl) (Nat.le_of_ble_eq_true rfl) (Nat.le_of_ble_eq_true rfl) (rcv_V rfl (congrArg Prod.fst (kf_36 X.1))) rfl ?_
  refine wp_iconst rfl ?_
  refine wp_aload rfl rfl ?_
  refine wp_getI (j := 0) rfl (congrArg Prod.fst (kf_36 X.1)) rfl ?_
  refine wp_imul rfl ?_
  have g1 := H.1
  replace H := H.2
  refine Wp.topI (y := (60 * (h 36 0))) (w32_I g1) ?_
  refine wp_iret rfl rfl ?_
  show Wp X _ 231 5 [vr 74, vr 37, vr 36, vi x3, vu, vu, vu, vu, vu] [vi (60 * (h 36 0)), vi x3] _ _
  refine wp_imul rfl ?_
  have g2 := H.1
  replace H := H.2
  refine Wp.topI (y := (x3 * (60 * (h 36 0)))) (w32_I g2) ?_
  refine wp_istore (L2 := [vr 74, vr 37, vr 36, vi x3, vi (x3 * (60 * (h 36 0))), vu, vu, vu, vu]) rfl (Nat.le_of_ble_eq_true rfl) rfl ?_
  refine wp_iconst rfl ?_
  refine wp_istore (L2 := [vr 74, vr 37, vr 36, vi x3, vi (x3 * (60 * (h 36 0))), vi 0, vu, vu, vu]) rfl (Nat.le_of_ble_eq_true rfl) rfl ?_
  refine wp_iconst rfl ?_
  refine wp_istore (L2 := [vr 74, vr 37, vr 36, vi x3, vi (x3 * (60 * (h 36 0))), vi 0, vi 0, vu, vu]) rfl (Nat.le_of_ble_eq_true rfl) rfl ?_
  refine wp_aload rfl rfl ?_
  refine wp_aload rfl rfl ?_
  refine wp_call (k := 188) (ρ2 := 0) (L2 := [vr 37]) rfl rfl rfl (Nat.le_of_ble_eq_true rfl) (Nat.le_of_ble_eq_true rfl) (Nat.le_of_ble_eq_true rfl) (rcv_V rfl (congrArg Prod.fst (kf_37 X.1))) rfl ?_
  refine wp_aload rfl rfl ?_
  refine wp_getI (j := 6) rfl (congrArg Prod.fst (kf_37 X.1)) rfl ?_
  refine wp_iret rfl rfl ?_
  show Wp X _ 231 19 [vr 74, vr 37, vr 36, vi x3, vi (x3 * (60 * (h 36 0))), vi 0, vi 0, vu, vu] [vi (h 37 6), vr 74] _ _
  refine wp_iconst rfl ?_
  refine wp_call (k := 253) (ρ2 := 0) (L2 := [vi (h 37 6), vi 20]) rfl rfl rfl (Nat.le_of_ble_eq_true rfl) (Nat.le_of_ble_eq_true rfl) (Nat.le_of_ble_eq_true rfl) (rcv_S rfl) rfl ?_
  refine wp_iload rfl rfl ?_
  refine wp_iload rfl rfl ?_
  refine wp_icgt (tn := 9) rfl rfl (fun c3 => ?_) (fun c3 => ?_)
  · replace H := H.1 c3
    refine wp_iload rfl rfl ?_
    refine wp_iret rfl rfl ?_
    show Wp X _ 231 24 [vr 74, vr 37, vr 36, vi x3, vi (x3 * (60 * (h 36 0))), vi 0, vi 0, vu, vu] [vi 20, vr 74] _ _
    refine wp_putI (j := 2) rfl (congrArg Prod.fst (kf_74 X.1)) rfl rfl rfl ?_
    refine wp_iconst rfl ?_
    refine wp_istore (L2 := [vr 74, vr 37, vr 36, vi x3, vi (x3 * (60 * (h 36 0))), vi 0, vi 0, vi 0, vu]) rfl (Nat.le_of_ble_eq_true rfl) rfl ?_
    exact H
  · replace H := H.2 c3
    refine wp_iload rfl rfl ?_
    refine wp_goto (tn := 10) rfl rfl ?_
    refine wp_iret rfl rfl ?_
    show Wp X _ 231 24 [vr 74, vr 37, vr 36, vi x3, vi (x3 * (60 * (h 36 0))), vi 0, vi 0, vu, vu] [vi (h 37 6), vr 74] _ _
    refine wp_putI (j := 2) rfl (congrArg Prod.fst (kf_74 X.1)) rfl rfl rfl ?_
    refine wp_iconst rfl ?_
    refine wp_istore (L2 := [vr 74, vr 37, vr 36, vi x3, vi (x3 * (60 * (h 36 0))), vi 0, vi 0, vi 0, vu]) rfl (Nat.le_of_ble_eq_true rfl) rfl ?_
    exact H
/-- Sums.run(L$Row;L$Lines;I)V, from 30 -/
theorem S231_74_37_36_30 {X : Nat × (Int → Int)} {h : HP} {Q : bQ} (zx3 : aV) (x4 : Int) (x5 : Int) (x6 : Int) (x7 : Int) (zx8 : aV) (H : (((h 74 2) ≤ x7 → Q none h) ∧ (x7 < (h 74 2) → ((x7 < 0 → ((R32 ((0 * (h 36 0)) - (h 36 1))) ∧ ((R32 (x5 + ((0 * (h 36 0)) - (h 36 1)))) ∧ ((R32 ((x5 + ((0 * (h 36 0)) - (h 36 1))) - x4)) ∧ ((0 < ((x5 + ((0 * (h 36 0)) - (h 36 1))) - x4) → ((R32 (x6 - ((0 * (h 36 0)) - (h 36 1)))) ∧ ((R32 ((x6 - ((0 * (h 36 0)) - (h 36 1))) - x4)) ∧ ((0 < ((x6 - ((0 * (h 36 0)) - (h 36 1))) - x4) → ((0 ≤ x7 ∧ x7 < 20) ∧ Wp X 2 231 30 [vr 74, vr 37, vr 36, zx3, vi x4, vi ((x5 + ((0 * (h 36 0)) - (h 36 1))) - x4), vi ((x6 - ((0 * (h 36 0)) - (h 36 1))) - x4), vi (x7 + 1), vi ((0 * (h 36 0)) - (h 36 1))] [] (upd2 (upd2 h 75 x7 ((x5 + ((0 * (h 36 0)) - (h 36 1))) - x4)) 76 x7 ((x6 - ((0 * (h 36 0)) - (h 36 1))) - x4)) Q)) ∧ (((x6 - ((0 * (h 36 0)) - (h 36 1))) - x4) ≤ 0 → ((0 ≤ x7 ∧ x7 < 20) ∧ Wp X 2 231 30 [vr 74, vr 37, vr 36, zx3, vi x4, vi ((x5 + ((0 * (h 36 0)) - (h 36 1))) - x4), vi 0, vi (x7 + 1), vi ((0 * (h 36 0)) - (h 36 1))] [] (upd2 (upd2 h 75 x7 ((x5 + ((0 * (h 36 0)) - (h 36 1))) - x4)) 76 x7 0) Q)))))) ∧ (((x5 + ((0 * (h 36 0)) - (h 36 1))) - x4) ≤ 0 → ((R32 (x6 - ((0 * (h 36 0)) - (h 36 1)))) ∧ ((R32 ((x6 - ((0 * (h 36 0)) - (h 36 1))) - x4)) ∧ ((0 < ((x6 - ((0 * (h 36 0)) - (h 36 1))) - x4) → ((0 ≤ x7 ∧ x7 < 20) ∧ Wp X 2 231 30 [vr 74, vr 37, vr 36, zx3, vi x4, vi 0, vi ((x6 - ((0 * (h 36 0)) - (h 36 1))) - x4), vi (x7 + 1), vi ((0 * (h 36 0)) - (h 36 1))] [] (upd2 (upd2 h 75 x7 0) 76 x7 ((x6 - ((0 * (h 36 0)) - (h 36 1))) - x4)) Q)) ∧ (((x6 - ((0 * (h 36 0)) - (h 36 1))) - x4) ≤ 0 → ((0 ≤ x7 ∧ x7 < 20) ∧ Wp X 2 231 30 [vr 74, vr 37, vr 36, zx3, vi x4, vi 0, vi 0, vi (x7 + 1), vi ((0 * (h 36 0)) - (h 36 1))] [] (upd2 (upd2 h 75 x7 0) 76 x7 0) Q))))))))))) ∧ (0 ≤ x7 → (((h 37 6) ≤ x7 → ((R32 ((0 * (h 36 0)) - (h 36 1))) ∧ ((R32 (x5 + ((0 * (h 36 0)) - (h 36 1)))) ∧ ((R32 ((x5 + ((0 * (h 36 0)) - (h 36 1))) - x4)) ∧ ((0 < ((x5 + ((0 * (h 36 0)) - (h 36 1))) - x4) → ((R32 (x6 - ((0 * (h 36 0)) - (h 36 1)))) ∧ ((R32 ((x6 - ((0 * (h 36 0)) - (h 36 1))) - x4)) ∧ ((0 < ((x6 - ((0 * (h 36 0)) - (h 36 1))) - x4) → ((0 ≤ x7 ∧ x7 < 20) ∧ Wp X 2 231 30 [vr 74, vr 37, vr 36, zx3, vi x4, vi ((x5 + ((0 * (h 36 0)) - (h 36 1))) - x4), vi ((x6 - ((0 * (h 36 0)) - (h 36 1))) - x4), vi (x7 + 1), vi ((0 * (h 36 0)) - (h 36 1))] [] (upd2 (upd2 h 75 x7 ((x5 + ((0 * (h 36 0)) - (h 36 1))) - x4)) 76 x7 ((x6 - ((0 * (h 36 0)) - (h 36 1))) - x4)) Q)) ∧ (((x6 - ((0 * (h 36 0)) - (h 36 1))) - x4) ≤ 0 → ((0 ≤ x7 ∧ x7 < 20) ∧ Wp X 2 231 30 [vr 74, vr 37, vr 36, zx3, vi x4, vi ((x5 + ((0 * (h 36 0)) - (h 36 1))) - x4), vi 0, vi (x7 + 1), vi ((0 * (h 36 0)) - (h 36 1))] [] (upd2 (upd2 h 75 x7 ((x5 + ((0 * (h 36 0)) - (h 36 1))) - x4)) 76 x7 0) Q)))))) ∧ (((x5 + ((0 * (h 36 0)) - (h 36 1))) - x4) ≤ 0 → ((R32 (x6 - ((0 * (h 36 0)) - (h 36 1)))) ∧ ((R32 ((x6 - ((0 * (h 36 0)) - (h 36 1))) - x4)) ∧ ((0 < ((x6 - ((0 * (h 36 0)) - (h 36 1))) - x4) → ((0 ≤ x7 ∧ x7 < 20) ∧ Wp X 2 231 30 [vr 74, vr 37, vr 36, zx3, vi x4, vi 0, vi ((x6 - ((0 * (h 36 0)) - (h 36 1))) - x4), vi (x7 + 1), vi ((0 * (h 36 0)) - (h 36 1))] [] (upd2 (upd2 h 75 x7 0) 76 x7 ((x6 - ((0 * (h 36 0)) - (h 36 1))) - x4)) Q)) ∧ (((x6 - ((0 * (h 36 0)) - (h 36 1))) - x4) ≤ 0 → ((0 ≤ x7 ∧ x7 < 20) ∧ Wp X 2 231 30 [vr 74, vr 37, vr 36, zx3, vi x4, vi 0, vi 0, vi (x7 + 1), vi ((0 * (h 36 0)) - (h 36 1))] [] (upd2 (upd2 h 75 x7 0) 76 x7 0) Q))))))))))) ∧ (x7 < (h 37 6) → ((0 ≤ x7 ∧ x7 < 20) ∧ ((R32 ((h 39 x7) * (h 36 0))) ∧ ((R32 (((h 39 x7) * (h 36 0)) - (h 36 1))) ∧ ((R32 (x5 + (((h 39 x7) * (h 36 0)) - (h 36 1)))) ∧ ((R32 ((x5 + (((h 39 x7) * (h 36 0)) - (h 36 1))) - x4)) ∧ ((0 < ((x5 + (((h 39 x7) * (h 36 0)) - (h 36 1))) - x4) → ((R32 (x6 - (((h 39 x7) * (h 36 0)) - (h 36 1)))) ∧ ((R32 ((x6 - (((h 39 x7) * (h 36 0)) - (h 36 1))) - x4)) ∧ ((0 < ((x6 - (((h 39 x7) * (h 36 0)) - (h 36 1))) - x4) → Wp X 2 231 30 [vr 74, vr 37, vr 36, zx3, vi x4, vi ((x5 + (((h 39 x7) * (h 36 0)) - (h 36 1))) - x4), vi ((x6 - (((h 39 x7) * (h 36 0)) - (h 36 1))) - x4), vi (x7 + 1), vi (((h 39 x7) * (h 36 0)) - (h 36 1))] [] (upd2 (upd2 h 75 x7 ((x5 + (((h 39 x7) * (h 36 0)) - (h 36 1))) - x4)) 76 x7 ((x6 - (((h 39 x7) * (h 36 0)) - (h 36 1))) - x4)) Q) ∧ (((x6 - (((h 39 x7) * (h 36 0)) - (h 36 1))) - x4) ≤ 0 → Wp X 2 231 30 [vr 74, vr 37, vr 36, zx3, vi x4, vi ((x5 + (((h 39 x7) * (h 36 0)) - (h 36 1))) - x4), vi 0, vi (x7 + 1), vi (((h 39 x7) * (h 36 0)) - (h 36 1))] [] (upd2 (upd2 h 75 x7 ((x5 + (((h 39 x7) * (h 36 0)) - (h 36 1))) - x4)) 76 x7 0) Q))))) ∧ (((x5 + (((h 39 x7) * (h 36 0)) - (h 36 1))) - x4) ≤ 0 → ((R32 (x6 - (((h 39 x7) * (h 36 0)) - (h 36 1)))) ∧ ((R32 ((x6 - (((h 39 x7) * (h 36 0)) - (h 36 1))) - x4)) ∧ ((0 < ((x6 - (((h 39 x7) * (h 36 0)) - (h 36 1))) - x4) → Wp X 2 231 30 [vr 74, vr 37, vr 36, zx3, vi x4, vi 0, vi ((x6 - (((h 39 x7) * (h 36 0)) - (h 36 1))) - x4), vi (x7 + 1), vi (((h 39 x7) * (h 36 0)) - (h 36 1))] [] (upd2 (upd2 h 75 x7 0) 76 x7 ((x6 - (((h 39 x7) * (h 36 0)) - (h 36 1))) - x4)) Q) ∧ (((x6 - (((h 39 x7) * (h 36 0)) - (h 36 1))) - x4) ≤ 0 → Wp X 2 231 30 [vr 74, vr 37, vr 36, zx3, vi x4, vi 0, vi 0, vi (x7 + 1), vi (((h 39 x7) * (h 36 0)) - (h 36 1))] [] (upd2 (upd2 h 75 x7 0) 76 x7 0) Q)))))))))))))))))) : Wp X 2 231 30 [vr 74, vr 37, vr 36, zx3, vi x4, vi x5, vi x6, vi x7, zx8] [] h Q := by
  refine wp_iload rfl rfl ?_
  refine wp_aload rfl rfl ?_
  refine wp_getI (j := 2) rfl (congrArg Prod.fst (kf_74 X.1)) rfl ?_
  refine wp_icge (tn := 103) rfl rfl (fun c1 => ?_) (fun c1 => ?_)
  · replace H := H.1 c1
    exact wp_vret rfl rfl H
  · replace H := H.2 c1
    refine wp_aload rfl rfl ?_
    refine wp_aload rfl rfl ?_
    refine wp_iload rfl rfl ?_
    refine wp_call (k := 191) (ρ2 := 1) (L2 := [vr 37, vi x7]) rfl rfl rfl (Nat.le_of_ble_eq_true rfl) (Nat.le_of_ble_eq_true rfl) (Nat.le_of_ble_eq_true rfl) (rcv_V rfl (congrArg Prod.fst (kf_37 X.1))) rfl ?_
    refine wp_aload rfl rfl ?_
    refine wp_iload rfl rfl ?_
    refine wp_call (k := 189) (ρ2 := 0) (L2 := [vr 37, vi x7]) rfl rfl rfl (Nat.le_of_ble_eq_true rfl) (Nat.le_of_ble_eq_true rfl) (Nat.le_of_ble_eq_true rfl) (rcv_V rfl (congrArg Prod.fst (kf_37 X.1))) rfl ?_
    refine wp_iload rfl rfl ?_
    refine wp_iflt (tn := 16) rfl rfl (fun c2 => ?_) (fun c2 => ?_)
    · replace H := H.1 c2
      refine wp_iconst rfl ?_
      refine wp_zret rfl rfl (by decide) ?_
      show Wp X _ 191 5 [vr 37, vi x7] [vi 0] _ _
      refine wp_ifeqT (tn := 17) rfl rfl (by decide) ?_
      refine wp_iconst rfl ?_
      refine wp_iret rfl rfl ?_
      show Wp X _ 231 46 [vr 74, vr 37, vr 36, zx3, vi x4, vi x5, vi x6, vi x7, zx8] [vi 0, vr 36] _ _
      refine wp_call (k := 169) (ρ2 := 0) (L2 := [vr 36, vi 0]) rfl rfl rfl (Nat.le_of_ble_eq_true rfl) (Nat.le_of_ble_eq_true rfl) (Nat.le_of_ble_eq_true rfl) (rcv_V rfl (congrArg Prod.fst (kf_36 X.1))) rfl ?_
      refine wp_iload rfl rfl ?_
      refine wp_aload rfl rfl ?_
      refine wp_getI (j := 0) rfl (congrArg Prod.fst (kf_36 X.1)) rfl ?_
      refine wp_imul rfl ?_
      refine Wp.topI (y := (0 * (h 36 0))) (w32_I (by clear H; unfold R32; omega)) ?_
      refine wp_aload rfl rfl ?_
      refine wp_getI (j := 1) rfl (congrArg Prod.fst (kf_36 X.1)) rfl ?_
      refine wp_isub rfl ?_
      have g3 := H.1
      replace H := H.2
      refine Wp.topI (y := ((0 * (h 36 0)) - (h 36 1))) (w32_I g3) ?_
      refine wp_iret rfl rfl ?_
      show Wp X _ 231 49 [vr 74, vr 37, vr 36, zx3, vi x4, vi x5, vi x6, vi x7, zx8] [vi ((0 * (h 36 0)) - (h 36 1))] _ _
      refine wp_istore (L2 := [vr 74, vr 37, vr 36, zx3, vi x4, vi x5, vi x6, vi x7, vi ((0 * (h 36 0)) - (h 36 1))]) rfl (Nat.le_of_ble_eq_true rfl) rfl ?_
      refine wp_iconst rfl ?_
      refine wp_iload rfl rfl ?_
      refine wp_iload rfl rfl ?_
      refine wp_iadd rfl ?_
      have g4 := H.1
      replace H := H.2
      refine Wp.topI (y := (x5 + ((0 * (h 36 0)) - (h 36 1)))) (w32_I g4) ?_
      refine wp_iload rfl rfl ?_
      refine wp_isub rfl ?_
      have g5 := H.1
      replace H := H.2
      refine Wp.topI (y := ((x5 + ((0 * (h 36 0)) - (h 36 1))) - x4)) (w32_I g5) ?_
      refine wp_call (k := 252) (ρ2 := 0) (L2 := [vi 0, vi ((x5 + ((0 * (h 36 0)) - (h 36 1))) - x4)]) rfl rfl rfl (Nat.le_of_ble_eq_true rfl) (Nat.le_of_ble_eq_true rfl) (Nat.le_of_ble_eq_true rfl) (rcv_S rfl) rfl ?_
      refine wp_iload rfl rfl ?_
      refine wp_iload rfl rfl ?_
      refine wp_iclt (tn := 9) rfl rfl (fun c6 => ?_) (fun c6 => ?_)
      · replace H := H.1 c6
        refine wp_iload rfl rfl ?_
        refine wp_iret rfl rfl ?_
        show Wp X _ 231 63 [vr 74, vr 37, vr 36, zx3, vi x4, vi x5, vi x6, vi x7, vi ((0 * (h 36 0)) - (h 36 1))] [vi ((x5 + ((0 * (h 36 0)) - (h 36 1))) - x4)] _ _
        refine wp_istore (L2 := [vr 74, vr 37, vr 36, zx3, vi x4, vi ((x5 + ((0 * (h 36 0)) - (h 36 1))) - x4), vi x6, vi x7, vi ((0 * (h 36 0)) - (h 36 1))]) rfl (Nat.le_of_ble_eq_true rfl) rfl ?_
        refine wp_iconst rfl ?_
        refine wp_iload rfl rfl ?_
        refine wp_iload rfl rfl ?_
        refine wp_isub rfl ?_
        have g7 := H.1
        replace H := H.2
        refine Wp.topI (y := (x6 - ((0 * (h 36 0)) - (h 36 1)))) (w32_I g7) ?_
        refine wp_iload rfl rfl ?_
        refine wp_isub rfl ?_
        have g8 := H.1
        replace H := H.2
        refine Wp.topI (y := ((x6 - ((0 * (h 36 0)) - (h 36 1))) - x4)) (w32_I g8) ?_
        refine wp_call (k := 252) (ρ2 := 0) (L2 := [vi 0, vi ((x6 - ((0 * (h 36 0)) - (h 36 1))) - x4)]) rfl rfl rfl (Nat.le_of_ble_eq_true rfl) (Nat.le_of_ble_eq_true rfl) (Nat.le_of_ble_eq_true rfl) (rcv_S rfl) rfl ?_
        refine wp_iload rfl rfl ?_
        refine wp_iload rfl rfl ?_
        refine wp_iclt (tn := 9) rfl rfl (fun c9 => ?_) (fun c9 => ?_)
        · replace H := H.1 c9
          refine wp_iload rfl rfl ?_
          refine wp_iret rfl rfl ?_
          show Wp X _ 231 77 [vr 74, vr 37, vr 36, zx3, vi x4, vi ((x5 + ((0 * (h 36 0)) - (h 36 1))) - x4), vi x6, vi x7, vi ((0 * (h 36 0)) - (h 36 1))] [vi ((x6 - ((0 * (h 36 0)) - (h 36 1))) - x4)] _ _
          refine wp_istore (L2 := [vr 74, vr 37, vr 36, zx3, vi x4, vi ((x5 + ((0 * (h 36 0)) - (h 36 1))) - x4), vi ((x6 - ((0 * (h 36 0)) - (h 36 1))) - x4), vi x7, vi ((0 * (h 36 0)) - (h 36 1))]) rfl (Nat.le_of_ble_eq_true rfl) rfl ?_
          refine wp_aload rfl rfl ?_
          refine wp_getR (r := 74) rfl (congrArg Prod.fst (kf_74 X.1)) rfl ?_
          refine wp_iload rfl rfl ?_
          refine wp_iload rfl rfl ?_
          have g10 := H.1
          replace H := H.2
          refine wp_iastore rfl (kf_75 X.1) g10 ?_
          refine wp_aload rfl rfl ?_
          refine wp_getR (r := 75) rfl (congrArg Prod.fst (kf_74 X.1)) rfl ?_
          refine wp_iload rfl rfl ?_
          refine wp_iload rfl rfl ?_
          refine wp_iastore rfl (kf_76 X.1) ⟨g10.1, g10.2⟩ ?_
          refine wp_iincR (L2 := [vr 74, vr 37, vr 36, zx3, vi x4, vi ((x5 + ((0 * (h 36 0)) - (h 36 1))) - x4), vi ((x6 - ((0 * (h 36 0)) - (h 36 1))) - x4), vi (x7 + 1), vi ((0 * (h 36 0)) - (h 36 1))]) rfl rfl (by clear H; unfold R32; omega) rfl ?_
          refine wp_goto (tn := 30) rfl rfl ?_
          exact H
        · replace H := H.2 c9
          refine wp_iload rfl rfl ?_
          refine wp_goto (tn := 10) rfl rfl ?_
          refine wp_iret rfl rfl ?_
          show Wp X _ 231 77 [vr 74, vr 37, vr 36, zx3, vi x4, vi ((x5 + ((0 * (h 36 0)) - (h 36 1))) - x4), vi x6, vi x7, vi ((0 * (h 36 0)) - (h 36 1))] [vi 0] _ _
          refine wp_istore (L2 := [vr 74, vr 37, vr 36, zx3, vi x4, vi ((x5 + ((0 * (h 36 0)) - (h 36 1))) - x4), vi 0, vi x7, vi ((0 * (h 36 0)) - (h 36 1))]) rfl (Nat.le_of_ble_eq_true rfl) rfl ?_
          refine wp_aload rfl rfl ?_
          refine wp_getR (r := 74) rfl (congrArg Prod.fst (kf_74 X.1)) rfl ?_
          refine wp_iload rfl rfl ?_
          refine wp_iload rfl rfl ?_
          have g11 := H.1
          replace H := H.2
          refine wp_iastore rfl (kf_75 X.1) g11 ?_
          refine wp_aload rfl rfl ?_
          refine wp_getR (r := 75) rfl (congrArg Prod.fst (kf_74 X.1)) rfl ?_
          refine wp_iload rfl rfl ?_
          refine wp_iload rfl rfl ?_
          refine wp_iastore rfl (kf_76 X.1) ⟨g11.1, g11.2⟩ ?_
          refine wp_iincR (L2 := [vr 74, vr 37, vr 36, zx3, vi x4, vi ((x5 + ((0 * (h 36 0)) - (h 36 1))) - x4), vi 0, vi (x7 + 1), vi ((0 * (h 36 0)) - (h 36 1))]) rfl rfl (by clear H; unfold R32; omega) rfl ?_
          refine wp_goto (tn := 30) rfl rfl ?_
          exact H
      · replace H := H.2 c6
        refine wp_iload rfl rfl ?_
        refine wp_goto (tn := 10) rfl rfl ?_
        refine wp_iret rfl rfl ?_
        show Wp X _ 231 63 [vr 74, vr 37, vr 36, zx3, vi x4, vi x5, vi x6, vi x7, vi ((0 * (h 36 0)) - (h 36 1))] [vi 0] _ _
        refine wp_istore (L2 := [vr 74, vr 37, vr 36, zx3, vi x4, vi 0, vi x6, vi x7, vi ((0 * (h 36 0)) - (h 36 1))]) rfl (Nat.le_of_ble_eq_true rfl) rfl ?_
        refine wp_iconst rfl ?_
        refine wp_iload rfl rfl ?_
        refine wp_iload rfl rfl ?_
        refine wp_isub rfl ?_
        have g12 := H.1
        replace H := H.2
        refine Wp.topI (y := (x6 - ((0 * (h 36 0)) - (h 36 1)))) (w32_I g12) ?_
        refine wp_iload rfl rfl ?_
        refine wp_isub rfl ?_
        have g13 := H.1
        replace H := H.2
        refine Wp.topI (y := ((x6 - ((0 * (h 36 0)) - (h 36 1))) - x4)) (w32_I g13) ?_
        refine wp_call (k := 252) (ρ2 := 0) (L2 := [vi 0, vi ((x6 - ((0 * (h 36 0)) - (h 36 1))) - x4)]) rfl rfl rfl (Nat.le_of_ble_eq_true rfl) (Nat.le_of_ble_eq_true rfl) (Nat.le_of_ble_eq_true rfl) (rcv_S rfl) rfl ?_
        refine wp_iload rfl rfl ?_
        refine wp_iload rfl rfl ?_
        refine wp_iclt (tn := 9) rfl rfl (fun c14 => ?_) (fun c14 => ?_)
        · replace H := H.1 c14
          refine wp_iload rfl rfl ?_
          refine wp_iret rfl rfl ?_
          show Wp X _ 231 77 [vr 74, vr 37, vr 36, zx3, vi x4, vi 0, vi x6, vi x7, vi ((0 * (h 36 0)) - (h 36 1))] [vi ((x6 - ((0 * (h 36 0)) - (h 36 1))) - x4)] _ _
          refine wp_istore (L2 := [vr 74, vr 37, vr 36, zx3, vi x4, vi 0, vi ((x6 - ((0 * (h 36 0)) - (h 36 1))) - x4), vi x7, vi ((0 * (h 36 0)) - (h 36 1))]) rfl (Nat.le_of_ble_eq_true rfl) rfl ?_
          refine wp_aload rfl rfl ?_
          refine wp_getR (r := 74) rfl (congrArg Prod.fst (kf_74 X.1)) rfl ?_
          refine wp_iload rfl rfl ?_
          refine wp_iload rfl rfl ?_
          have g15 := H.1
          replace H := H.2
          refine wp_iastore rfl (kf_75 X.1) g15 ?_
          refine wp_aload rfl rfl ?_
          refine wp_getR (r := 75) rfl (congrArg Prod.fst (kf_74 X.1)) rfl ?_
          refine wp_iload rfl rfl ?_
          refine wp_iload rfl rfl ?_
          refine wp_iastore rfl (kf_76 X.1) ⟨g15.1, g15.2⟩ ?_
          refine wp_iincR (L2 := [vr 74, vr 37, vr 36, zx3, vi x4, vi 0, vi ((x6 - ((0 * (h 36 0)) - (h 36 1))) - x4), vi (x7 + 1), vi ((0 * (h 36 0)) - (h 36 1))]) rfl rfl (by clear H; unfold R32; omega) rfl ?_
          refine wp_goto (tn := 30) rfl rfl ?_
          exact H
        · replace H := H.2 c14
          refine wp_iload rfl rfl ?_
          refine wp_goto (tn := 10) rfl rfl ?_
          refine wp_iret rfl rfl ?_
          show Wp X _ 231 77 [vr 74, vr 37, vr 36, zx3, vi x4, vi 0, vi x6, vi x7, vi ((0 * (h 36 0)) - (h 36 1))] [vi 0] _ _
          refine wp_istore (L2 := [vr 74, vr 37, vr 36, zx3, vi x4, vi 0, vi 0, vi x7, vi ((0 * (h 36 0)) - (h 36 1))]) rfl (Nat.le_of_ble_eq_true rfl) rfl ?_
          refine wp_aload rfl rfl ?_
          refine wp_getR (r := 74) rfl (congrArg Prod.fst (kf_74 X.1)) rfl ?_
          refine wp_iload rfl rfl ?_
          refine wp_iload rfl rfl ?_
          have g16 := H.1
          replace H := H.2
          refine wp_iastore rfl (kf_75 X.1) g16 ?_
          refine wp_aload rfl rfl ?_
          refine wp_getR (r := 75) rfl (congrArg Prod.fst (kf_74 X.1)) rfl ?_
          refine wp_iload rfl rfl ?_
          refine wp_iload rfl rfl ?_
          refine wp_iastore rfl (kf_76 X.1) ⟨g16.1, g16.2⟩ ?_
          refine wp_iincR (L2 := [vr 74, vr 37, vr 36, zx3, vi x4, vi 0, vi 0, vi (x7 + 1), vi ((0 * (h 36 0)) - (h 36 1))]) rfl rfl (by clear H; unfold R32; omega) rfl ?_
          refine wp_goto (tn := 30) rfl rfl ?_
          exact H
    · replace H := H.2 c2
      refine wp_iload rfl rfl ?_
      refine wp_aload rfl rfl ?_
      refine wp_getI (j := 6) rfl (congrArg Prod.fst (kf_37 X.1)) rfl ?_
      refine wp_icge (tn := 16) rfl rfl (fun c17 => ?_) (fun c17 => ?_)
      · replace H := H.1 c17
        refine wp_iconst rfl ?_
        refine wp_zret rfl rfl (by decide) ?_
        show Wp X _ 191 5 [vr 37, vi x7] [vi 0] _ _
        refine wp_ifeqT (tn := 17) rfl rfl (by decide) ?_
        refine wp_iconst rfl ?_
        refine wp_iret rfl rfl ?_
        show Wp X _ 231 46 [vr 74, vr 37, vr 36, zx3, vi x4, vi x5, vi x6, vi x7, zx8] [vi 0, vr 36] _ _
        refine wp_call (k := 169) (ρ2 := 0) (L2 := [vr 36, vi 0]) rfl rfl rfl (Nat.le_of_ble_eq_true rfl) (Nat.le_of_ble_eq_true rfl) (Nat.le_of_ble_eq_true rfl) (rcv_V rfl (congrArg Prod.fst (kf_36 X.1))) rfl ?_
        refine wp_iload rfl rfl ?_
        refine wp_aload rfl rfl ?_
        refine wp_getI (j := 0) rfl (congrArg Prod.fst (kf_36 X.1)) rfl ?_
        refine wp_imul rfl ?_
        refine Wp.topI (y := (0 * (h 36 0))) (w32_I (by clear H; unfold R32; omega)) ?_
        refine wp_aload rfl rfl ?_
        refine wp_getI (j := 1) rfl (congrArg Prod.fst (kf_36 X.1)) rfl ?_
        refine wp_isub rfl ?_
        have g18 := H.1
        replace H := H.2
        refine Wp.topI (y := ((0 * (h 36 0)) - (h 36 1))) (w32_I g18) ?_
        refine wp_iret rfl rfl ?_
        show Wp X _ 231 49 [vr 74, vr 37, vr 36, zx3, vi x4, vi x5, vi x6, vi x7, zx8] [vi ((0 * (h 36 0)) - (h 36 1))] _ _
        refine wp_istore (L2 := [vr 74, vr 37, vr 36, zx3, vi x4, vi x5, vi x6, vi x7, vi ((0 * (h 36 0)) - (h 36 1))]) rfl (Nat.le_of_ble_eq_true rfl) rfl ?_
        refine wp_iconst rfl ?_
        refine wp_iload rfl rfl ?_
        refine wp_iload rfl rfl ?_
        refine wp_iadd rfl ?_
        have g19 := H.1
        replace H := H.2
        refine Wp.topI (y := (x5 + ((0 * (h 36 0)) - (h 36 1)))) (w32_I g19) ?_
        refine wp_iload rfl rfl ?_
        refine wp_isub rfl ?_
        have g20 := H.1
        replace H := H.2
        refine Wp.topI (y := ((x5 + ((0 * (h 36 0)) - (h 36 1))) - x4)) (w32_I g20) ?_
        refine wp_call (k := 252) (ρ2 := 0) (L2 := [vi 0, vi ((x5 + ((0 * (h 36 0)) - (h 36 1))) - x4)]) rfl rfl rfl (Nat.le_of_ble_eq_true rfl) (Nat.le_of_ble_eq_true rfl) (Nat.le_of_ble_eq_true rfl) (rcv_S rfl) rfl ?_
        refine wp_iload rfl rfl ?_
        refine wp_iload rfl rfl ?_
        refine wp_iclt (tn := 9) rfl rfl (fun c21 => ?_) (fun c21 => ?_)
        · replace H := H.1 c21
          refine wp_iload rfl rfl ?_
          refine wp_iret rfl rfl ?_
          show Wp X _ 231 63 [vr 74, vr 37, vr 36, zx3, vi x4, vi x5, vi x6, vi x7, vi ((0 * (h 36 0)) - (h 36 1))] [vi ((x5 + ((0 * (h 36 0)) - (h 36 1))) - x4)] _ _
          refine wp_istore (L2 := [vr 74, vr 37, vr 36, zx3, vi x4, vi ((x5 + ((0 * (h 36 0)) - (h 36 1))) - x4), vi x6, vi x7, vi ((0 * (h 36 0)) - (h 36 1))]) rfl (Nat.le_of_ble_eq_true rfl) rfl ?_
          refine wp_iconst rfl ?_
          refine wp_iload rfl rfl ?_
          refine wp_iload rfl rfl ?_
          refine wp_isub rfl ?_
          have g22 := H.1
          replace H := H.2
          refine Wp.topI (y := (x6 - ((0 * (h 36 0)) - (h 36 1)))) (w32_I g22) ?_
          refine wp_iload rfl rfl ?_
          refine wp_isub rfl ?_
          have g23 := H.1
          replace H := H.2
          refine Wp.topI (y := ((x6 - ((0 * (h 36 0)) - (h 36 1))) - x4)) (w32_I g23) ?_
          refine wp_call (k := 252) (ρ2 := 0) (L2 := [vi 0, vi ((x6 - ((0 * (h 36 0)) - (h 36 1))) - x4)]) rfl rfl rfl (Nat.le_of_ble_eq_true rfl) (Nat.le_of_ble_eq_true rfl) (Nat.le_of_ble_eq_true rfl) (rcv_S rfl) rfl ?_
          refine wp_iload rfl rfl ?_
          refine wp_iload rfl rfl ?_
          refine wp_iclt (tn := 9) rfl rfl (fun c24 => ?_) (fun c24 => ?_)
          · replace H := H.1 c24
            refine wp_iload rfl rfl ?_
            refine wp_iret rfl rfl ?_
            show Wp X _ 231 77 [vr 74, vr 37, vr 36, zx3, vi x4, vi ((x5 + ((0 * (h 36 0)) - (h 36 1))) - x4), vi x6, vi x7, vi ((0 * (h 36 0)) - (h 36 1))] [vi ((x6 - ((0 * (h 36 0)) - (h 36 1))) - x4)] _ _
            refine wp_istore (L2 := [vr 74, vr 37, vr 36, zx3, vi x4, vi ((x5 + ((0 * (h 36 0)) - (h 36 1))) - x4), vi ((x6 - ((0 * (h 36 0)) - (h 36 1))) - x4), vi x7, vi ((0 * (h 36 0)) - (h 36 1))]) rfl (Nat.le_of_ble_eq_true rfl) rfl ?_
            refine wp_aload rfl rfl ?_
            refine wp_getR (r := 74) rfl (congrArg Prod.fst (kf_74 X.1)) rfl ?_
            refine wp_iload rfl rfl ?_
            refine wp_iload rfl rfl ?_
            have g25 := H.1
            replace H := H.2
            refine wp_iastore rfl (kf_75 X.1) g25 ?_
            refine wp_aload rfl rfl ?_
            refine wp_getR (r := 75) rfl (congrArg Prod.fst (kf_74 X.1)) rfl ?_
            refine wp_iload rfl rfl ?_
            refine wp_iload rfl rfl ?_
            refine wp_iastore rfl (kf_76 X.1) ⟨g25.1, g25.2⟩ ?_
            refine wp_iincR (L2 := [vr 74, vr 37, vr 36, zx3, vi x4, vi ((x5 + ((0 * (h 36 0)) - (h 36 1))) - x4), vi ((x6 - ((0 * (h 36 0)) - (h 36 1))) - x4), vi (x7 + 1), vi ((0 * (h 36 0)) - (h 36 1))]) rfl rfl (by clear H; unfold R32; omega) rfl ?_
            refine wp_goto (tn := 30) rfl rfl ?_
            exact H
          · replace H := H.2 c24
            refine wp_iload rfl rfl ?_
            refine wp_goto (tn := 10) rfl rfl ?_
            refine wp_iret rfl rfl ?_
            show Wp X _ 231 77 [vr 74, vr 37, vr 36, zx3, vi x4, vi ((x5 + ((0 * (h 36 0)) - (h 36 1))) - x4), vi x6, vi x7, vi ((0 * (h 36 0)) - (h 36 1))] [vi 0] _ _
            refine wp_istore (L2 := [vr 74, vr 37, vr 36, zx3, vi x4, vi ((x5 + ((0 * (h 36 0)) - (h 36 1))) - x4), vi 0, vi x7, vi ((0 * (h 36 0)) - (h 36 1))]) rfl (Nat.le_of_ble_eq_true rfl) rfl ?_
            refine wp_aload rfl rfl ?_
            refine wp_getR (r := 74) rfl (congrArg Prod.fst (kf_74 X.1)) rfl ?_
            refine wp_iload rfl rfl ?_
            refine wp_iload rfl rfl ?_
            have g26 := H.1
            replace H := H.2
            refine wp_iastore rfl (kf_75 X.1) g26 ?_
            refine wp_aload rfl rfl ?_
            refine wp_getR (r := 75) rfl (congrArg Prod.fst (kf_74 X.1)) rfl ?_
            refine wp_iload rfl rfl ?_
            refine wp_iload rfl rfl ?_
            refine wp_iastore rfl (kf_76 X.1) ⟨g26.1, g26.2⟩ ?_
            refine wp_iincR (L2 := [vr 74, vr 37, vr 36, zx3, vi x4, vi ((x5 + ((0 * (h 36 0)) - (h 36 1))) - x4), vi 0, vi (x7 + 1), vi ((0 * (h 36 0)) - (h 36 1))]) rfl rfl (by clear H; unfold R32; omega) rfl ?_
            refine wp_goto (tn := 30) rfl rfl ?_
            exact H
        · replace H := H.2 c21
          refine wp_iload rfl rfl ?_
          refine wp_goto (tn := 10) rfl rfl ?_
          refine wp_iret rfl rfl ?_
          show Wp X _ 231 63 [vr 74, vr 37, vr 36, zx3, vi x4, vi x5, vi x6, vi x7, vi ((0 * (h 36 0)) - (h 36 1))] [vi 0] _ _
          refine wp_istore (L2 := [vr 74, vr 37, vr 36, zx3, vi x4, vi 0, vi x6, vi x7, vi ((0 * (h 36 0)) - (h 36 1))]) rfl (Nat.le_of_ble_eq_true rfl) rfl ?_
          refine wp_iconst rfl ?_
          refine wp_iload rfl rfl ?_
          refine wp_iload rfl rfl ?_
          refine wp_isub rfl ?_
          have g27 := H.1
          replace H := H.2
          refine Wp.topI (y := (x6 - ((0 * (h 36 0)) - (h 36 1)))) (w32_I g27) ?_
          refine wp_iload rfl rfl ?_
          refine wp_isub rfl ?_
          have g28 := H.1
          replace H := H.2
          refine Wp.topI (y := ((x6 - ((0 * (h 36 0)) - (h 36 1))) - x4)) (w32_I g28) ?_
          refine wp_call (k := 252) (ρ2 := 0) (L2 := [vi 0, vi ((x6 - ((0 * (h 36 0)) - (h 36 1))) - x4)]) rfl rfl rfl (Nat.le_of_ble_eq_true rfl) (Nat.le_of_ble_eq_true rfl) (Nat.le_of_ble_eq_true rfl) (rcv_S rfl) rfl ?_
          refine wp_iload rfl rfl ?_
          refine wp_iload rfl rfl ?_
          refine wp_iclt (tn := 9) rfl rfl (fun c29 => ?_) (fun c29 => ?_)
          · replace H := H.1 c29
            refine wp_iload rfl rfl ?_
            refine wp_iret rfl rfl ?_
            show Wp X _ 231 77 [vr 74, vr 37, vr 36, zx3, vi x4, vi 0, vi x6, vi x7, vi ((0 * (h 36 0)) - (h 36 1))] [vi ((x6 - ((0 * (h 36 0)) - (h 36 1))) - x4)] _ _
            refine wp_istore (L2 := [vr 74, vr 37, vr 36, zx3, vi x4, vi 0, vi ((x6 - ((0 * (h 36 0)) - (h 36 1))) - x4), vi x7, vi ((0 * (h 36 0)) - (h 36 1))]) rfl (Nat.le_of_ble_eq_true rfl) rfl ?_
            refine wp_aload rfl rfl ?_
            refine wp_getR (r := 74) rfl (congrArg Prod.fst (kf_74 X.1)) rfl ?_
            refine wp_iload rfl rfl ?_
            refine wp_iload rfl rfl ?_
            have g30 := H.1
            replace H := H.2
            refine wp_iastore rfl (kf_75 X.1) g30 ?_
            refine wp_aload rfl rfl ?_
            refine wp_getR (r := 75) rfl (congrArg Prod.fst (kf_74 X.1)) rfl ?_
            refine wp_iload rfl rfl ?_
            refine wp_iload rfl rfl ?_
            refine wp_iastore rfl (kf_76 X.1) ⟨g30.1, g30.2⟩ ?_
            refine wp_iincR (L2 := [vr 74, vr 37, vr 36, zx3, vi x4, vi 0, vi ((x6 - ((0 * (h 36 0)) - (h 36 1))) - x4), vi (x7 + 1), vi ((0 * (h 36 0)) - (h 36 1))]) rfl rfl (by clear H; unfold R32; omega) rfl ?_
            refine wp_goto (tn := 30) rfl rfl ?_
            exact H
          · replace H := H.2 c29
            refine wp_iload rfl rfl ?_
            refine wp_goto (tn := 10) rfl rfl ?_
            refine wp_iret rfl rfl ?_
            show Wp X _ 231 77 [vr 74, vr 37, vr 36, zx3, vi x4, vi 0, vi x6, vi x7, vi ((0 * (h 36 0)) - (h 36 1))] [vi 0] _ _
            refine wp_istore (L2 := [vr 74, vr 37, vr 36, zx3, vi x4, vi 0, vi 0, vi x7, vi ((0 * (h 36 0)) - (h 36 1))]) rfl (Nat.le_of_ble_eq_true rfl) rfl ?_
            refine wp_aload rfl rfl ?_
            refine wp_getR (r := 74) rfl (congrArg Prod.fst (kf_74 X.1)) rfl ?_
            refine wp_iload rfl rfl ?_
            refine wp_iload rfl rfl ?_
            have g31 := H.1
            replace H := H.2
            refine wp_iastore rfl (kf_75 X.1) g31 ?_
            refine wp_aload rfl rfl ?_
            refine wp_getR (r := 75) rfl (congrArg Prod.fst (kf_74 X.1)) rfl ?_
            refine wp_iload rfl rfl ?_
            refine wp_iload rfl rfl ?_
            refine wp_iastore rfl (kf_76 X.1) ⟨g31.1, g31.2⟩ ?_
            refine wp_iincR (L2 := [vr 74, vr 37, vr 36, zx3, vi x4, vi 0, vi 0, vi (x7 + 1), vi ((0 * (h 36 0)) - (h 36 1))]) rfl rfl (by clear H; unfold R32; omega) rfl ?_
            refine wp_goto (tn := 30) rfl rfl ?_
            exact H
      · replace H := H.2 c17
        refine wp_iconst rfl ?_
        refine wp_goto (tn := 17) rfl rfl ?_
        refine wp_zret rfl rfl (by decide) ?_
        show Wp X _ 191 5 [vr 37, vi x7] [vi 1] _ _
        refine wp_ifeqF (tn := 17) rfl rfl (by decide) ?_
        refine wp_aload rfl rfl ?_
        refine wp_getR (r := 38) rfl (congrArg Prod.fst (kf_37 X.1)) rfl ?_
        refine wp_iload rfl rfl ?_
        have g32 := H.1
        replace H := H.2
        refine wp_iaload rfl (kf_39 X.1) g32 ?_
        refine wp_goto (tn := 18) rfl rfl ?_
        refine wp_iret rfl rfl ?_
        show Wp X _ 231 46 [vr 74, vr 37, vr 36, zx3, vi x4, vi x5, vi x6, vi x7, zx8] [vi (h 39 x7), vr 36] _ _
        refine wp_call (k := 169) (ρ2 := 0) (L2 := [vr 36, vi (h 39 x7)]) rfl rfl rfl (Nat.le_of_ble_eq_true rfl) (Nat.le_of_ble_eq_true rfl) (Nat.le_of_ble_eq_true rfl) (rcv_V rfl (congrArg Prod.fst (kf_36 X.1))) rfl ?_
        refine wp_iload rfl rfl ?_
        refine wp_aload rfl rfl ?_
        refine wp_getI (j := 0) rfl (congrArg Prod.fst (kf_36 X.1)) rfl ?_
        refine wp_imul rfl ?_
        have g33 := H.1
        replace H := H.2
        refine Wp.topI (y := ((h 39 x7) * (h 36 0))) (w32_I g33) ?_
        refine wp_aload rfl rfl ?_
        refine wp_getI (j := 1) rfl (congrArg Prod.fst (kf_36 X.1)) rfl ?_
        refine wp_isub rfl ?_
        have g34 := H.1
        replace H := H.2
        refine Wp.topI (y := (((h 39 x7) * (h 36 0)) - (h 36 1))) (w32_I g34) ?_
        refine wp_iret rfl rfl ?_
        show Wp X _ 231 49 [vr 74, vr 37, vr 36, zx3, vi x4, vi x5, vi x6, vi x7, zx8] [vi (((h 39 x7) * (h 36 0)) - (h 36 1))] _ _
        refine wp_istore (L2 := [vr 74, vr 37, vr 36, zx3, vi x4, vi x5, vi x6, vi x7, vi (((h 39 x7) * (h 36 0)) - (h 36 1))]) rfl (Nat.le_of_ble_eq_true rfl) rfl ?_
        refine wp_iconst rfl ?_
        refine wp_iload rfl rfl ?_
        refine wp_iload rfl rfl ?_
        refine wp_iadd rfl ?_
        have g35 := H.1
        replace H := H.2
        refine Wp.topI (y := (x5 + (((h 39 x7) * (h 36 0)) - (h 36 1)))) (w32_I g35) ?_
        refine wp_iload rfl rfl ?_
        refine wp_isub rfl ?_
        have g36 := H.1
        replace H := H.2
        refine Wp.topI (y := ((x5 + (((h 39 x7) * (h 36 0)) - (h 36 1))) - x4)) (w32_I g36) ?_
        refine wp_call (k := 252) (ρ2 := 0) (L2 := [vi 0, vi ((x5 + (((h 39 x7) * (h 36 0)) - (h 36 1))) - x4)]) rfl rfl rfl (Nat.le_of_ble_eq_true rfl) (Nat.le_of_ble_eq_true rfl) (Nat.le_of_ble_eq_true rfl) (rcv_S rfl) rfl ?_
        refine wp_iload rfl rfl ?_
        refine wp_iload rfl rfl ?_
        refine wp_iclt (tn := 9) rfl rfl (fun c37 => ?_) (fun c37 => ?_)
        · replace H := H.1 c37
          refine wp_iload rfl rfl ?_
          refine wp_iret rfl rfl ?_
          show Wp X _ 231 63 [vr 74, vr 37, vr 36, zx3, vi x4, vi x5, vi x6, vi x7, vi (((h 39 x7) * (h 36 0)) - (h 36 1))] [vi ((x5 + (((h 39 x7) * (h 36 0)) - (h 36 1))) - x4)] _ _
          refine wp_istore (L2 := [vr 74, vr 37, vr 36, zx3, vi x4, vi ((x5 + (((h 39 x7) * (h 36 0)) - (h 36 1))) - x4), vi x6, vi x7, vi (((h 39 x7) * (h 36 0)) - (h 36 1))]) rfl (Nat.le_of_ble_eq_true rfl) rfl ?_
          refine wp_iconst rfl ?_
          refine wp_iload rfl rfl ?_
          refine wp_iload rfl rfl ?_
          refine wp_isub rfl ?_
          have g38 := H.1
          replace H := H.2
          refine Wp.topI (y := (x6 - (((h 39 x7) * (h 36 0)) - (h 36 1)))) (w32_I g38) ?_
          refine wp_iload rfl rfl ?_
          refine wp_isub rfl ?_
          have g39 := H.1
          replace H := H.2
          refine Wp.topI (y := ((x6 - (((h 39 x7) * (h 36 0)) - (h 36 1))) - x4)) (w32_I g39) ?_
          refine wp_call (k := 252) (ρ2 := 0) (L2 := [vi 0, vi ((x6 - (((h 39 x7) * (h 36 0)) - (h 36 1))) - x4)]) rfl rfl rfl (Nat.le_of_ble_eq_true rfl) (Nat.le_of_ble_eq_true rfl) (Nat.le_of_ble_eq_true rfl) (rcv_S rfl) rfl ?_
          refine wp_iload rfl rfl ?_
          refine wp_iload rfl rfl ?_
          refine wp_iclt (tn := 9) rfl rfl (fun c40 => ?_) (fun c40 => ?_)
          · replace H := H.1 c40
            refine wp_iload rfl rfl ?_
            refine wp_iret rfl rfl ?_
            show Wp X _ 231 77 [vr 74, vr 37, vr 36, zx3, vi x4, vi ((x5 + (((h 39 x7) * (h 36 0)) - (h 36 1))) - x4), vi x6, vi x7, vi (((h 39 x7) * (h 36 0)) - (h 36 1))] [vi ((x6 - (((h 39 x7) * (h 36 0)) - (h 36 1))) - x4)] _ _
            refine wp_istore (L2 := [vr 74, vr 37, vr 36, zx3, vi x4, vi ((x5 + (((h 39 x7) * (h 36 0)) - (h 36 1))) - x4), vi ((x6 - (((h 39 x7) * (h 36 0)) - (h 36 1))) - x4), vi x7, vi (((h 39 x7) * (h 36 0)) - (h 36 1))]) rfl (Nat.le_of_ble_eq_true rfl) rfl ?_
            refine wp_aload rfl rfl ?_
            refine wp_getR (r := 74) rfl (congrArg Prod.fst (kf_74 X.1)) rfl ?_
            refine wp_iload rfl rfl ?_
            refine wp_iload rfl rfl ?_
            refine wp_iastore rfl (kf_75 X.1) ⟨g32.1, g32.2⟩ ?_
            refine wp_aload rfl rfl ?_
            refine wp_getR (r := 75) rfl (congrArg Prod.fst (kf_74 X.1)) rfl ?_
            refine wp_iload rfl rfl ?_
            refine wp_iload rfl rfl ?_
            refine wp_iastore rfl (kf_76 X.1) ⟨g32.1, g32.2⟩ ?_
            refine wp_iincR (L2 := [vr 74, vr 37, vr 36, zx3, vi x4, vi ((x5 + (((h 39 x7) * (h 36 0)) - (h 36 1))) - x4), vi ((x6 - (((h 39 x7) * (h 36 0)) - (h 36 1))) - x4), vi (x7 + 1), vi (((h 39 x7) * (h 36 0)) - (h 36 1))]) rfl rfl (by clear H; unfold R32; omega) rfl ?_
            refine wp_goto (tn := 30) rfl rfl ?_
            exact H
          · replace H := H.2 c40
            refine wp_iload rfl rfl ?_
            refine wp_goto (tn := 10) rfl rfl ?_
            refine wp_iret rfl rfl ?_
            show Wp X _ 231 77 [vr 74, vr 37, vr 36, zx3, vi x4, vi ((x5 + (((h 39 x7) * (h 36 0)) - (h 36 1))) - x4), vi x6, vi x7, vi (((h 39 x7) * (h 36 0)) - (h 36 1))] [vi 0] _ _
            refine wp_istore (L2 := [vr 74, vr 37, vr 36, zx3, vi x4, vi ((x5 + (((h 39 x7) * (h 36 0)) - (h 36 1))) - x4), vi 0, vi x7, vi (((h 39 x7) * (h 36 0)) - (h 36 1))]) rfl (Nat.le_of_ble_eq_true rfl) rfl ?_
            refine wp_aload rfl rfl ?_
            refine wp_getR (r := 74) rfl (congrArg Prod.fst (kf_74 X.1)) rfl ?_
            refine wp_iload rfl rfl ?_
            refine wp_iload rfl rfl ?_
            refine wp_iastore rfl (kf_75 X.1) ⟨g32.1, g32.2⟩ ?_
            refine wp_aload rfl rfl ?_
            refine wp_getR (r := 75) rfl (congrArg Prod.fst (kf_74 X.1)) rfl ?_
            refine wp_iload rfl rfl ?_
            refine wp_iload rfl rfl ?_
            refine wp_iastore rfl (kf_76 X.1) ⟨g32.1, g32.2⟩ ?_
            refine wp_iincR (L2 := [vr 74, vr 37, vr 36, zx3, vi x4, vi ((x5 + (((h 39 x7) * (h 36 0)) - (h 36 1))) - x4), vi 0, vi (x7 + 1), vi (((h 39 x7) * (h 36 0)) - (h 36 1))]) rfl rfl (by clear H; unfold R32; omega) rfl ?_
            refine wp_goto (tn := 30) rfl rfl ?_
            exact H
        · replace H := H.2 c37
          refine wp_iload rfl rfl ?_
          refine wp_goto (tn := 10) rfl rfl ?_
          refine wp_iret rfl rfl ?_
          show Wp X _ 231 63 [vr 74, vr 37, vr 36, zx3, vi x4, vi x5, vi x6, vi x7, vi (((h 39 x7) * (h 36 0)) - (h 36 1))] [vi 0] _ _
          refine wp_istore (L2 := [vr 74, vr 37, vr 36, zx3, vi x4, vi 0, vi x6, vi x7, vi (((h 39 x7) * (h 36 0)) - (h 36 1))]) rfl (Nat.le_of_ble_eq_true rfl) rfl ?_
          refine wp_iconst rfl ?_
          refine wp_iload rfl rfl ?_
          refine wp_iload rfl rfl ?_
          refine wp_isub rfl ?_
          have g41 := H.1
          replace H := H.2
          refine Wp.topI (y := (x6 - (((h 39 x7) * (h 36 0)) - (h 36 1)))) (w32_I g41) ?_
          refine wp_iload rfl rfl ?_
          refine wp_isub rfl ?_
          have g42 := H.1
          replace H := H.2
          refine Wp.topI (y := ((x6 - (((h 39 x7) * (h 36 0)) - (h 36 1))) - x4)) (w32_I g42) ?_
          refine wp_call (k := 252) (ρ2 := 0) (L2 := [vi 0, vi ((x6 - (((h 39 x7) * (h 36 0)) - (h 36 1))) - x4)]) rfl rfl rfl (Nat.le_of_ble_eq_true rfl) (Nat.le_of_ble_eq_true rfl) (Nat.le_of_ble_eq_true rfl) (rcv_S rfl) rfl ?_
          refine wp_iload rfl rfl ?_
          refine wp_iload rfl rfl ?_
          refine wp_iclt (tn := 9) rfl rfl (fun c43 => ?_) (fun c43 => ?_)
          · replace H := H.1 c43
            refine wp_iload rfl rfl ?_
            refine wp_iret rfl rfl ?_
            show Wp X _ 231 77 [vr 74, vr 37, vr 36, zx3, vi x4, vi 0, vi x6, vi x7, vi (((h 39 x7) * (h 36 0)) - (h 36 1))] [vi ((x6 - (((h 39 x7) * (h 36 0)) - (h 36 1))) - x4)] _ _
            refine wp_istore (L2 := [vr 74, vr 37, vr 36, zx3, vi x4, vi 0, vi ((x6 - (((h 39 x7) * (h 36 0)) - (h 36 1))) - x4), vi x7, vi (((h 39 x7) * (h 36 0)) - (h 36 1))]) rfl (Nat.le_of_ble_eq_true rfl) rfl ?_
            refine wp_aload rfl rfl ?_
            refine wp_getR (r := 74) rfl (congrArg Prod.fst (kf_74 X.1)) rfl ?_
            refine wp_iload rfl rfl ?_
            refine wp_iload rfl rfl ?_
            refine wp_iastore rfl (kf_75 X.1) ⟨g32.1, g32.2⟩ ?_
            refine wp_aload rfl rfl ?_
            refine wp_getR (r := 75) rfl (congrArg Prod.fst (kf_74 X.1)) rfl ?_
            refine wp_iload rfl rfl ?_
            refine wp_iload rfl rfl ?_
            refine wp_iastore rfl (kf_76 X.1) ⟨g32.1, g32.2⟩ ?_
            refine wp_iincR (L2 := [vr 74, vr 37, vr 36, zx3, vi x4, vi 0, vi ((x6 - (((h 39 x7) * (h 36 0)) - (h 36 1))) - x4), vi (x7 + 1), vi (((h 39 x7) * (h 36 0)) - (h 36 1))]) rfl rfl (by clear H; unfold R32; omega) rfl ?_
            refine wp_goto (tn := 30) rfl rfl ?_
            exact H
          · replace H := H.2 c43
            refine wp_iload rfl rfl ?_
            refine wp_goto (tn := 10) rfl rfl ?_
            refine wp_iret rfl rfl ?_
            show Wp X _ 231 77 [vr 74, vr 37, vr 36, zx3, vi x4, vi 0, vi x6, vi x7, vi (((h 39 x7) * (h 36 0)) - (h 36 1))] [vi 0] _ _
            refine wp_istore (L2 := [vr 74, vr 37, vr 36, zx3, vi x4, vi 0, vi 0, vi x7, vi (((h 39 x7) * (h 36 0)) - (h 36 1))]) rfl (Nat.le_of_ble_eq_true rfl) rfl ?_
            refine wp_aload rfl rfl ?_
            refine wp_getR (r := 74) rfl (congrArg Prod.fst (kf_74 X.1)) rfl ?_
            refine wp_iload rfl rfl ?_
            refine wp_iload rfl rfl ?_
            refine wp_iastore rfl (kf_75 X.1) ⟨g32.1, g32.2⟩ ?_
            refine wp_aload rfl rfl ?_
            refine wp_getR (r := 75) rfl (congrArg Prod.fst (kf_74 X.1)) rfl ?_
            refine wp_iload rfl rfl ?_
            refine wp_iload rfl rfl ?_
            refine wp_iastore rfl (kf_76 X.1) ⟨g32.1, g32.2⟩ ?_
            refine wp_iincR (L2 := [vr 74, vr 37, vr 36, zx3, vi x4, vi 0, vi 0, vi (x7 + 1), vi (((h 39 x7) * (h 36 0)) - (h 36 1))]) rfl rfl (by clear H; unfold R32; omega) rfl ?_
            refine wp_goto (tn := 30) rfl rfl ?_
            exact H
/-- Sums.firstOver(I)I, from 0 -/
theorem S233_74_0 {X : Nat × (Int → Int)} {h : HP} {Q : bQ} (x1 : Int) (H : Wp X 2 233 2 [vr 74, vi x1, vi 0] [] h Q) : Wp X 2 233 0 [vr 74, vi x1, vu] [] h Q := by
  refine wp_iconst rfl ?_
  refine wp_istore (L2 := [vr 74, vi x1, vi 0]) rfl (Nat.le_of_ble_eq_true rfl) rfl ?_
  exact H
/-- Sums.firstOver(I)I, from 2 -/
theorem S233_74_2 {X : Nat × (Int → Int)} {h : HP} {Q : bQ} (x1 : Int) (x2 : Int) (H : (((h 74 2) ≤ x2 → Q (some (vi (-1))) h) ∧ (x2 < (h 74 2) → ((x2 < 0 → ((0 ≤ x1 → ((R32 (x2 + 1)) ∧ Wp X 2 233 2 [vr 74, vi x1, vi (x2 + 1)] [] h Q)) ∧ (x1 < 0 → Q (some (vi x2)) h))) ∧ (0 ≤ x2 → ((0 ≤ x2 ∧ x2 < 20) ∧ (((h 75 x2) ≤ x1 → (((h 76 x2) ≤ x1 → Wp X 2 233 2 [vr 74, vi x1, vi (x2 + 1)] [] h Q) ∧ (x1 < (h 76 x2) → Q (some (vi x2)) h))) ∧ (x1 < (h 75 x2) → Q (some (vi x2)) h)))))))) : Wp X 2 233 2 [vr 74, vi x1, vi x2] [] h Q := by
  refine wp_iload rfl rfl ?_
  refine wp_aload rfl rfl ?_
  refine wp_getI (j := 2) rfl (congrArg Prod.fst (kf_74 X.1)) rfl ?_
  refine wp_icge (tn := 27) rfl rfl (fun c1 => ?_) (fun c1 => ?_)
  · replace H := H.1 c1
    refine wp_iconst rfl ?_
    exact wp_iret rfl rfl H
  · replace H := H.2 c1
    refine wp_aload rfl rfl ?_
    refine wp_iload rfl rfl ?_
    refine wp_iload rfl rfl ?_
    refine wp_call (k := 234) (ρ2 := 1) (L2 := [vr 74, vi x2, vi x1]) rfl rfl rfl (Nat.le_of_ble_eq_true rfl) (Nat.le_of_ble_eq_true rfl) (Nat.le_of_ble_eq_true rfl) (rcv_V rfl (congrArg Prod.fst (kf_74 X.1))) rfl ?_
    refine wp_aload rfl rfl ?_
    refine wp_iconst rfl ?_
    refine wp_iload rfl rfl ?_
    refine wp_call (k := 232) (ρ2 := 0) (L2 := [vr 74, vi 1, vi x2]) rfl rfl rfl (Nat.le_of_ble_eq_true rfl) (Nat.le_of_ble_eq_true rfl) (Nat.le_of_ble_eq_true rfl) (rcv_V rfl (congrArg Prod.fst (kf_74 X.1))) rfl ?_
    refine wp_iload rfl rfl ?_
    refine wp_iflt (tn := 12) rfl rfl (fun c2 => ?_) (fun c2 => ?_)
    · replace H := H.1 c2
      refine wp_iconst rfl ?_
      refine wp_iret rfl rfl ?_
      show Wp X _ 234 6 [vr 74, vi x2, vi x1] [vi 0] _ _
      refine wp_iload rfl rfl ?_
      refine wp_icle (tn := 12) rfl rfl (fun c3 => ?_) (fun c3 => ?_)
      · replace H := H.1 c3
        refine wp_aload rfl rfl ?_
        refine wp_iconst rfl ?_
        refine wp_iload rfl rfl ?_
        refine wp_call (k := 232) (ρ2 := 0) (L2 := [vr 74, vi (-1), vi x2]) rfl rfl rfl (Nat.le_of_ble_eq_true rfl) (Nat.le_of_ble_eq_true rfl) (Nat.le_of_ble_eq_true rfl) (rcv_V rfl (congrArg Prod.fst (kf_74 X.1))) rfl ?_
        refine wp_iload rfl rfl ?_
        refine wp_ifltT (tn := 12) rfl rfl c2 ?_
        refine wp_iconst rfl ?_
        refine wp_iret rfl rfl ?_
        show Wp X _ 234 18 [vr 74, vi x2, vi x1] [vi 0] _ _
        refine wp_iload rfl rfl ?_
        refine wp_icleT (tn := 26) rfl rfl c3 ?_
        refine wp_iconst rfl ?_
        refine wp_iret rfl rfl ?_
        show Wp X _ 233 16 [vr 74, vi x1, vi x2] [vi 0] _ _
        refine wp_ifeqT (tn := 21) rfl rfl (by decide) ?_
        have g4 := H.1
        replace H := H.2
        refine wp_iincR (L2 := [vr 74, vi x1, vi (x2 + 1)]) rfl rfl g4 rfl ?_
        refine wp_goto (tn := 2) rfl rfl ?_
        exact H
      · replace H := H.2 c3
        refine wp_iconst rfl ?_
        refine wp_iret rfl rfl ?_
        show Wp X _ 233 16 [vr 74, vi x1, vi x2] [vi 1] _ _
        refine wp_ifeqF (tn := 21) rfl rfl (by decide) ?_
        refine wp_iload rfl rfl ?_
        exact wp_iret rfl rfl H
    · replace H := H.2 c2
      refine wp_iload rfl rfl ?_
      refine wp_aload rfl rfl ?_
      refine wp_getI (j := 2) rfl (congrArg Prod.fst (kf_74 X.1)) rfl ?_
      refine wp_icltT (tn := 14) rfl rfl c1 ?_
      refine wp_iload rfl rfl ?_
      refine wp_ifleF (tn := 27) rfl rfl (by decide) ?_
      refine wp_aload rfl rfl ?_
      refine wp_getR (r := 74) rfl (congrArg Prod.fst (kf_74 X.1)) rfl ?_
      refine wp_iload rfl rfl ?_
      have g5 := H.1
      replace H := H.2
      refine wp_iaload rfl (kf_75 X.1) g5 ?_
      refine wp_goto (tn := 33) rfl rfl ?_
      refine wp_iret rfl rfl ?_
      show Wp X _ 234 6 [vr 74, vi x2, vi x1] [vi (h 75 x2)] _ _
      refine wp_iload rfl rfl ?_
      refine wp_icle (tn := 12) rfl rfl (fun c6 => ?_) (fun c6 => ?_)
      · replace H := H.1 c6
        refine wp_aload rfl rfl ?_
        refine wp_iconst rfl ?_
        refine wp_iload rfl rfl ?_
        refine wp_call (k := 232) (ρ2 := 0) (L2 := [vr 74, vi (-1), vi x2]) rfl rfl rfl (Nat.le_of_ble_eq_true rfl) (Nat.le_of_ble_eq_true rfl) (Nat.le_of_ble_eq_true rfl) (rcv_V rfl (congrArg Prod.fst (kf_74 X.1))) rfl ?_
        refine wp_iload rfl rfl ?_
        refine wp_ifltF (tn := 12) rfl rfl g5.1 ?_
        refine wp_iload rfl rfl ?_
        refine wp_aload rfl rfl ?_
        refine wp_getI (j := 2) rfl (congrArg Prod.fst (kf_74 X.1)) rfl ?_
        refine wp_icltT (tn := 14) rfl rfl c1 ?_
        refine wp_iload rfl rfl ?_
        refine wp_ifleT (tn := 27) rfl rfl (by decide) ?_
        refine wp_aload rfl rfl ?_
        refine wp_getR (r := 75) rfl (congrArg Prod.fst (kf_74 X.1)) rfl ?_
        refine wp_iload rfl rfl ?_
        refine wp_iaload rfl (kf_76 X.1) ⟨g5.1, g5.2⟩ ?_
        refine wp_iret rfl rfl ?_
        show Wp X _ 234 18 [vr 74, vi x2, vi x1] [vi (h 76 x2)] _ _
        refine wp_iload rfl rfl ?_
        refine wp_icle (tn := 26) rfl rfl (fun c7 => ?_) (fun c7 => ?_)
        · replace H := H.1 c7
          refine wp_iconst rfl ?_
          refine wp_iret rfl rfl ?_
          show Wp X _ 233 16 [vr 74, vi x1, vi x2] [vi 0] _ _
          refine wp_ifeqT (tn := 21) rfl rfl (by decide) ?_
          refine wp_iincR (L2 := [vr 74, vi x1, vi (x2 + 1)]) rfl rfl (by clear H; unfold R32; omega) rfl ?_
          refine wp_goto (tn := 2) rfl rfl ?_
          exact H
        · replace H := H.2 c7
          refine wp_iconst rfl ?_
          refine wp_goto (tn := 27) rfl rfl ?_
          refine wp_iret rfl rfl ?_
          show Wp X _ 233 16 [vr 74, vi x1, vi x2] [vi (-1)] _ _
          refine wp_ifeqF (tn := 21) rfl rfl (by decide) ?_
          refine wp_iload rfl rfl ?_
          exact wp_iret rfl rfl H
      · replace H := H.2 c6
        refine wp_iconst rfl ?_
        refine wp_iret rfl rfl ?_
        show Wp X _ 233 16 [vr 74, vi x1, vi x2] [vi 1] _ _
        refine wp_ifeqF (tn := 21) rfl rfl (by decide) ?_
        refine wp_iload rfl rfl ?_
        exact wp_iret rfl rfl H
/-- Sums.began(II)I, from 0 -/
theorem S235_74_0 {X : Nat × (Int → Int)} {h : HP} {Q : bQ} (x1 : Int) (x2 : Int) (H : Wp X 1 235 2 [vr 74, vi x1, vi x2, vi x1] [] h Q) : Wp X 1 235 0 [vr 74, vi x1, vi x2, vu] [] h Q := by
  refine wp_iload rfl rfl ?_
  refine wp_istore (L2 := [vr 74, vi x1, vi x2, vi x1]) rfl (Nat.le_of_ble_eq_true rfl) rfl ?_
  exact H
/-- Sums.began(II)I, from 2 -/
theorem S235_74_2 {X : Nat × (Int → Int)} {h : HP} {Q : bQ} (zx1 : aV) (x2 : Int) (x3 : Int) (H : ((x3 ≤ 0 → Q (some (vi x3)) h) ∧ (0 < x3 → ((R32 (x3 - 1)) ∧ (((x3 - 1) < (h 74 2) → ((x2 ≤ 0 → ((0 ≤ (x3 - 1) ∧ (x3 - 1) < 20) ∧ (((h 76 (x3 - 1)) = 0 → Q (some (vi x3)) h) ∧ ((h 76 (x3 - 1)) ≠ 0 → Wp X 1 235 2 [vr 74, zx1, vi x2, vi (x3 + (-1))] [] h Q)))) ∧ (0 < x2 → ((0 ≤ (x3 - 1) ∧ (x3 - 1) < 20) ∧ (((h 75 (x3 - 1)) = 0 → Q (some (vi x3)) h) ∧ ((h 75 (x3 - 1)) ≠ 0 → Wp X 1 235 2 [vr 74, zx1, vi x2, vi (x3 + (-1))] [] h Q)))))) ∧ ((h 74 2) ≤ (x3 - 1) → Q (some (vi x3)) h)))))) : Wp X 1 235 2 [vr 74, zx1, vi x2, vi x3] [] h Q := by
  refine wp_iload rfl rfl ?_
  refine wp_ifle (tn := 23) rfl rfl (fun c1 => ?_) (fun c1 => ?_)
  · replace H := H.1 c1
    refine wp_iload rfl rfl ?_
    exact wp_iret rfl rfl H
  · replace H := H.2 c1
    refine wp_aload rfl rfl ?_
    refine wp_iload rfl rfl ?_
    refine wp_iload rfl rfl ?_
    refine wp_iconst rfl ?_
    refine wp_isub rfl ?_
    have g2 := H.1
    replace H := H.2
    refine Wp.topI (y := (x3 - 1)) (w32_I g2) ?_
    refine wp_call (k := 232) (ρ2 := 0) (L2 := [vr 74, vi x2, vi (x3 - 1)]) rfl rfl rfl (Nat.le_of_ble_eq_true rfl) (Nat.le_of_ble_eq_true rfl) (Nat.le_of_ble_eq_true rfl) (rcv_V rfl (congrArg Prod.fst (kf_74 X.1))) rfl ?_
    refine wp_iload rfl rfl ?_
    refine wp_ifltF (tn := 12) rfl rfl (by clear H; omega) ?_
    refine wp_iload rfl rfl ?_
    refine wp_aload rfl rfl ?_
    refine wp_getI (j := 2) rfl (congrArg Prod.fst (kf_74 X.1)) rfl ?_
    refine wp_iclt (tn := 14) rfl rfl (fun c3 => ?_) (fun c3 => ?_)
    · replace H := H.1 c3
      refine wp_iload rfl rfl ?_
      refine wp_ifle (tn := 27) rfl rfl (fun c4 => ?_) (fun c4 => ?_)
      · replace H := H.1 c4
        refine wp_aload rfl rfl ?_
        refine wp_getR (r := 75) rfl (congrArg Prod.fst (kf_74 X.1)) rfl ?_
        refine wp_iload rfl rfl ?_
        have g5 := H.1
        replace H := H.2
        refine wp_iaload rfl (kf_76 X.1) g5 ?_
        refine wp_iret rfl rfl ?_
        show Wp X _ 235 14 [vr 74, zx1, vi x2, vi x3] [vi (h 76 (x3 - 1))] _ _
        refine wp_ifeq (tn := 23) rfl rfl (fun c6 => ?_) (fun c6 => ?_)
        · replace H := H.1 c6
          refine wp_iload rfl rfl ?_
          exact wp_iret rfl rfl H
        · replace H := H.2 c6
          refine wp_iincR (L2 := [vr 74, zx1, vi x2, vi (x3 + (-1))]) rfl rfl (by clear H; unfold R32; omega) rfl ?_
          refine wp_goto (tn := 2) rfl rfl ?_
          exact H
      · replace H := H.2 c4
        refine wp_aload rfl rfl ?_
        refine wp_getR (r := 74) rfl (congrArg Prod.fst (kf_74 X.1)) rfl ?_
        refine wp_iload rfl rfl ?_
        have g7 := H.1
        replace H := H.2
        refine wp_iaload rfl (kf_75 X.1) g7 ?_
        refine wp_goto (tn := 33) rfl rfl ?_
        refine wp_iret rfl rfl ?_
        show Wp X _ 235 14 [vr 74, zx1, vi x2, vi x3] [vi (h 75 (x3 - 1))] _ _
        refine wp_ifeq (tn := 23) rfl rfl (fun c8 => ?_) (fun c8 => ?_)
        · replace H := H.1 c8
          refine wp_iload rfl rfl ?_
          exact wp_iret rfl rfl H
        · replace H := H.2 c8
          refine wp_iincR (L2 := [vr 74, zx1, vi x2, vi (x3 + (-1))]) rfl rfl (by clear H; unfold R32; omega) rfl ?_
          refine wp_goto (tn := 2) rfl rfl ?_
          exact H
    · replace H := H.2 c3
      refine wp_iconst rfl ?_
      refine wp_iret rfl rfl ?_
      show Wp X _ 235 14 [vr 74, zx1, vi x2, vi x3] [vi 0] _ _
      refine wp_ifeqT (tn := 23) rfl rfl (by decide) ?_
      refine wp_iload rfl rfl ?_
      exact wp_iret rfl rfl H
/-- ZoneRules.empty()V, from 0 -/
theorem S244_49_0 {X : Nat × (Int → Int)} {h : HP} {Q : bQ}  (H : Wp X 0 244 2 [vr 49, vi 0] [] h Q) : Wp X 0 244 0 [vr 49, vu] [] h Q := by
  refine wp_iconst rfl ?_
  refine wp_istore (L2 := [vr 49, vi 0]) rfl (Nat.le_of_ble_eq_true rfl) rfl ?_
  exact H
/-- ZoneRules.empty()V, from 2 -/
theorem S244_49_2 {X : Nat × (Int → Int)} {h : HP} {Q : bQ} (x1 : Int) (H : ((9 ≤ x1 → Wp X 0 244 30 [vr 49, vi 0] [] h Q) ∧ (x1 < 9 → ((0 ≤ x1 ∧ x1 < 9) ∧ Wp X 0 244 2 [vr 49, vi (x1 + 1)] [] (upd2 (upd2 h 50 x1 0) 51 x1 0) Q)))) : Wp X 0 244 2 [vr 49, vi x1] [] h Q := by
  refine wp_iload rfl rfl ?_
  refine wp_iconst rfl ?_
  refine wp_icge (tn := 28) rfl rfl (fun c1 => ?_) (fun c1 => ?_)
  · replace H := H.1 c1
    refine wp_iconst rfl ?_
    refine wp_istore (L2 := [vr 49, vi 0]) rfl (Nat.le_of_ble_eq_true rfl) rfl ?_
    exact H
  · replace H := H.2 c1
    refine wp_aload rfl rfl ?_
    refine wp_getR (r := 49) rfl (congrArg Prod.fst (kf_49 X.1)) rfl ?_
    refine wp_iload rfl rfl ?_
    refine wp_sipush rfl ?_
    have g2 := H.1
    replace H := H.2
    refine wp_lastore rfl (kf_50 X.1) g2 ?_
    refine wp_aload rfl rfl ?_
    refine wp_getR (r := 50) rfl (congrArg Prod.fst (kf_49 X.1)) rfl ?_
    refine wp_iload rfl rfl ?_
    refine wp_sipush rfl ?_
    refine wp_lastore rfl (kf_51 X.1) ⟨g2.1, g2.2⟩ ?_
    refine wp_iincR (L2 := [vr 49, vi (x1 + 1)]) rfl rfl (by clear H; unfold R32; omega) rfl ?_
    refine wp_goto (tn := 2) rfl rfl ?_
    exact H
/-- ZoneRules.empty()V, from 30 -/
theorem S244_49_30 {X : Nat × (Int → Int)} {h : HP} {Q : bQ} (x1 : Int) (H : ((5 ≤ x1 → Q none (upd2 (upd2 h 49 3 0) 49 4 0)) ∧ (x1 < 5 → ((0 ≤ x1 ∧ x1 < 5) ∧ Wp X 0 244 30 [vr 49, vi (x1 + 1)] [] (upd2 h 52 x1 0) Q)))) : Wp X 0 244 30 [vr 49, vi x1] [] h Q := by
  refine wp_iload rfl rfl ?_
  refine wp_iconst rfl ?_
  refine wp_icge (tn := 48) rfl rfl (fun c1 => ?_) (fun c1 => ?_)
  · replace H := H.1 c1
    refine wp_aload rfl rfl ?_
    refine wp_sipush rfl ?_
    refine wp_putL (j := 3) rfl (congrArg Prod.fst (kf_49 X.1)) rfl rfl rfl ?_
    refine wp_aload rfl rfl ?_
    refine wp_iconst rfl ?_
    refine wp_putI (j := 4) rfl (congrArg Prod.fst (kf_49 X.1)) rfl rfl rfl ?_
    exact wp_vret rfl rfl H
  · replace H := H.2 c1
    refine wp_aload rfl rfl ?_
    refine wp_getR (r := 51) rfl (congrArg Prod.fst (kf_49 X.1)) rfl ?_
    refine wp_iload rfl rfl ?_
    refine wp_sipush rfl ?_
    have g2 := H.1
    replace H := H.2
    refine wp_lastore rfl (kf_52 X.1) g2 ?_
    refine wp_iincR (L2 := [vr 49, vi (x1 + 1)]) rfl rfl (by clear H; unfold R32; omega) rfl ?_
    refine wp_goto (tn := 30) rfl rfl ?_
    exact H
/-- ZoneRules.empty()V, from 0 -/
theorem S244_57_0 {X : Nat × (Int → Int)} {h : HP} {Q : bQ}  (H : Wp X 0 244 2 [vr 57, vi 0] [] h Q) : Wp X 0 244 0 [vr 57, vu] [] h Q := by
  refine wp_iconst rfl ?_
  refine wp_istore (L2 := [vr 57, vi 0]) rfl (Nat.le_of_ble_eq_true rfl) rfl ?_
  exact H
/-- ZoneRules.empty()V, from 2 -/
theorem S244_57_2 {X : Nat × (Int → Int)} {h : HP} {Q : bQ} (x1 : Int) (H : ((9 ≤ x1 → Wp X 0 244 30 [vr 57, vi 0] [] h Q) ∧ (x1 < 9 → ((0 ≤ x1 ∧ x1 < 9) ∧ Wp X 0 244 2 [vr 57, vi (x1 + 1)] [] (upd2 (upd2 h 58 x1 0) 59 x1 0) Q)))) : Wp X 0 244 2 [vr 57, vi x1] [] h Q := by
  refine wp_iload rfl rfl ?_
  refine wp_iconst rfl ?_
  refine wp_icge (tn := 28) rfl rfl (fun c1 => ?_) (fun c1 => ?_)
  · replace H := H.1 c1
    refine wp_iconst rfl ?_
    refine wp_istore (L2 := [vr 57, vi 0]) rfl (Nat.le_of_ble_eq_true rfl) rfl ?_
    exact H
  · replace H := H.2 c1
    refine wp_aload rfl rfl ?_
    refine wp_getR (r := 57) rfl (congrArg Prod.fst (kf_57 X.1)) rfl ?_
    refine wp_iload rfl rfl ?_
    refine wp_sipush rfl ?_
    have g2 := H.1
    replace H := H.2
    refine wp_lastore rfl (kf_58 X.1) g2 ?_
    refine wp_aload rfl rfl ?_
    refine wp_getR (r := 58) rfl (congrArg Prod.fst (kf_57 X.1)) rfl ?_
    refine wp_iload rfl rfl ?_
    refine wp_sipush rfl ?_
    refine wp_lastore rfl (kf_59 X.1) ⟨g2.1, g2.2⟩ ?_
    refine wp_iincR (L2 := [vr 57, vi (x1 + 1)]) rfl rfl (by clear H; unfold R32; omega) rfl ?_
    refine wp_goto (tn := 2) rfl rfl ?_
    exact H
/-- ZoneRules.empty()V, from 30 -/
theorem S244_57_30 {X : Nat × (Int → Int)} {h : HP} {Q : bQ} (x1 : Int) (H : ((5 ≤ x1 → Q none (upd2 (upd2 h 57 3 0) 57 4 0)) ∧ (x1 < 5 → ((0 ≤ x1 ∧ x1 < 5) ∧ Wp X 0 244 30 [vr 57, vi (x1 + 1)] [] (upd2 h 60 x1 0) Q)))) : Wp X 0 244 30 [vr 57, vi x1] [] h Q := by
  refine wp_iload rfl rfl ?_
  refine wp_iconst rfl ?_
  refine wp_icge (tn := 48) rfl rfl (fun c1 => ?_) (fun c1 => ?_)
  · replace H := H.1 c1
    refine wp_aload rfl rfl ?_
    refine wp_sipush rfl ?_
    refine wp_putL (j := 3) rfl (congrArg Prod.fst (kf_57 X.1)) rfl rfl rfl ?_
    refine wp_aload rfl rfl ?_
    refine wp_iconst rfl ?_
    refine wp_putI (j := 4) rfl (congrArg Prod.fst (kf_57 X.1)) rfl rfl rfl ?_
    exact wp_vret rfl rfl H
  · replace H := H.2 c1
    refine wp_aload rfl rfl ?_
    refine wp_getR (r := 59) rfl (congrArg Prod.fst (kf_57 X.1)) rfl ?_
    refine wp_iload rfl rfl ?_
    refine wp_sipush rfl ?_
    have g2 := H.1
    replace H := H.2
    refine wp_lastore rfl (kf_60 X.1) g2 ?_
    refine wp_iincR (L2 := [vr 57, vi (x1 + 1)]) rfl rfl (by clear H; unfold R32; omega) rfl ?_
    refine wp_goto (tn := 30) rfl rfl ?_
    exact H
/-- ZoneRules.append(IIII)V, from 0 -/
theorem S245_49_0 {X : Nat × (Int → Int)} {h : HP} {Q : bQ} (x1 : Int) (x2 : Int) (x3 : Int) (x4 : Int) (H : ((R32 (8 * x1)) ∧ ((0 < x4 → Wp X 1 245 14 [vr 49, vi x1, vi x2, vi x3, vi x4, vi (8 * x1), vi x4] [] h Q) ∧ (x4 ≤ 0 → Wp X 1 245 14 [vr 49, vi x1, vi x2, vi x3, vi x4, vi (8 * x1), vi 0] [] h Q)))) : Wp X 1 245 0 [vr 49, vi x1, vi x2, vi x3, vi x4, vu, vu] [] h Q := by
  refine wp_iconst rfl ?_
  refine wp_iload rfl rfl ?_
  refine wp_imul rfl ?_
  have g1 := H.1
  replace H := H.2
  refine Wp.topI (y := (8 * x1)) (w32_I g1) ?_
  refine wp_istore (L2 := [vr 49, vi x1, vi x2, vi x3, vi x4, vi (8 * x1), vu]) rfl (Nat.le_of_ble_eq_true rfl) rfl ?_
  refine wp_iconst rfl ?_
  refine wp_iload rfl rfl ?_
  refine wp_call (k := 252) (ρ2 := 0) (L2 := [vi 0, vi x4]) rfl rfl rfl (Nat.le_of_ble_eq_true rfl) (Nat.le_of_ble_eq_true rfl) (Nat.le_of_ble_eq_true rfl) (rcv_S rfl) rfl ?_
  refine wp_iload rfl rfl ?_
  refine wp_iload rfl rfl ?_
  refine wp_iclt (tn := 9) rfl rfl (fun c2 => ?_) (fun c2 => ?_)
  · replace H := H.1 c2
    refine wp_iload rfl rfl ?_
    refine wp_iret rfl rfl ?_
    show Wp X _ 245 12 [vr 49, vi x1, vi x2, vi x3, vi x4, vi (8 * x1), vu] [vi x4] _ _
    refine wp_istore (L2 := [vr 49, vi x1, vi x2, vi x3, vi x4, vi (8 * x1), vi x4]) rfl (Nat.le_of_ble_eq_true rfl) rfl ?_
    exact H
  · replace H := H.2 c2
    refine wp_iload rfl rfl ?_
    refine wp_goto (tn := 10) rfl rfl ?_
    refine wp_iret rfl rfl ?_
    show Wp X _ 245 12 [vr 49, vi x1, vi x2, vi x3, vi x4, vi (8 * x1), vu] [vi 0] _ _
    refine wp_istore (L2 := [vr 49, vi x1, vi x2, vi x3, vi x4, vi (8 * x1), vi 0]) rfl (Nat.le_of_ble_eq_true rfl) rfl ?_
    exact H
/-- ZoneRules.append(IIII)V, from 14 -/
theorem S245_49_14 {X : Nat × (Int → Int)} {h : HP} {Q : bQ} (zx1 : aV) (x2 : Int) (x3 : Int) (zx4 : aV) (x5 : Int) (x6 : Int) (H : ((4 ≤ x6 → Wp X 1 245 61 [vr 49, zx1, vi x2, vi x3, zx4, vi x5, vi 0] [] h Q) ∧ (x6 < 4 → ((R32 (4 + x6)) ∧ ((0 ≤ (4 + x6) ∧ (4 + x6) < 9) ∧ Wp X 1 245 14 [vr 49, zx1, vi x2, vi x3, zx4, vi x5, vi (x6 + 1)] [] (upd2 (upd2 h 50 (4 + x6) ((i64 (h 50 (4 + x6)) ||| i64 ((i64 1 <<< ((i32 x5).toInt64 &&& 63)).toInt)).toInt)) 51 (3 - x6) ((i64 (h 51 (3 - x6)) ||| i64 ((i64 1 <<< ((i32 x5).toInt64 &&& 63)).toInt)).toInt)) Q))))) : Wp X 1 245 14 [vr 49, zx1, vi x2, vi x3, zx4, vi x5, vi x6] [] h Q := by
  refine wp_iload rfl rfl ?_
  refine wp_iconst rfl ?_
  refine wp_icge (tn := 58) rfl rfl (fun c1 => ?_) (fun c1 => ?_)
  · replace H := H.1 c1
    refine wp_iconst rfl ?_
    refine wp_istore (L2 := [vr 49, zx1, vi x2, vi x3, zx4, vi x5, vi 0]) rfl (Nat.le_of_ble_eq_true rfl) rfl ?_
    exact H
  · replace H := H.2 c1
    refine wp_aload rfl rfl ?_
    refine wp_getR (r := 49) rfl (congrArg Prod.fst (kf_49 X.1)) rfl ?_
    refine wp_iconst rfl ?_
    refine wp_iload rfl rfl ?_
    refine wp_iadd rfl ?_
    have g2 := H.1
    replace H := H.2
    refine Wp.topI (y := (4 + x6)) (w32_I g2) ?_
    refine wp_dup2 rfl ?_
    have g3 := H.1
    replace H := H.2
    refine wp_laload rfl (kf_50 X.1) g3 ?_
    refine wp_sipush rfl ?_
    refine wp_iload rfl rfl ?_
    refine wp_lshl rfl ?_
    refine wp_lor rfl ?_
    refine wp_lastore rfl (kf_50 X.1) ⟨g3.1, g3.2⟩ ?_
    refine wp_aload rfl rfl ?_
    refine wp_getR (r := 50) rfl (congrArg Prod.fst (kf_49 X.1)) rfl ?_
    refine wp_iconst rfl ?_
    refine wp_iload rfl rfl ?_
    refine wp_isub rfl ?_
    refine Wp.topI (y := (3 - x6)) (w32_I (by clear H; unfold R32; omega)) ?_
    refine wp_dup2 rfl ?_
    refine wp_laload rfl (kf_51 X.1) ⟨(by clear H; omega), (by clear H; omega)⟩ ?_
    refine Wp.topL (y := (h 51 (3 - x6))) (congrFun (upd2_ne (by decide)) _) ?_
    refine wp_sipush rfl ?_
    refine wp_iload rfl rfl ?_
    refine wp_lshl rfl ?_
    refine wp_lor rfl ?_
    refine wp_lastore rfl (kf_51 X.1) ⟨(by clear H; omega), (by clear H; omega)⟩ ?_
    refine wp_iincR (L2 := [vr 49, zx1, vi x2, vi x3, zx4, vi x5, vi (x6 + 1)]) rfl rfl (by clear H; unfold R32; omega) rfl ?_
    refine wp_goto (tn := 14) rfl rfl ?_
    exact H
/-- ZoneRules.append(IIII)V, from 61 -/
theorem S245_49_61 {X : Nat × (Int → Int)} {h : HP} {Q : bQ} (zx1 : aV) (x2 : Int) (x3 : Int) (zx4 : aV) (x5 : Int) (x6 : Int) (H : ((x3 ≤ x6 → ((R64 (128 - x2)) ∧ (((h 49 4) < x3 → Q none (upd2 (upd2 h 49 3 ((i64 (h 49 3) ||| i64 ((i64 (128 - x2) <<< ((i32 x5).toInt64 &&& 63)).toInt)).toInt)) 49 4 x3)) ∧ (x3 ≤ (h 49 4) → Q none (upd2 (upd2 h 49 3 ((i64 (h 49 3) ||| i64 ((i64 (128 - x2) <<< ((i32 x5).toInt64 &&& 63)).toInt)).toInt)) 49 4 (h 49 4)))))) ∧ (x6 < x3 → ((5 ≤ x6 → ((R64 (128 - x2)) ∧ (((h 49 4) < x3 → Q none (upd2 (upd2 h 49 3 ((i64 (h 49 3) ||| i64 ((i64 (128 - x2) <<< ((i32 x5).toInt64 &&& 63)).toInt)).toInt)) 49 4 x3)) ∧ (x3 ≤ (h 49 4) → Q none (upd2 (upd2 h 49 3 ((i64 (h 49 3) ||| i64 ((i64 (128 - x2) <<< ((i32 x5).toInt64 &&& 63)).toInt)).toInt)) 49 4 (h 49 4)))))) ∧ (x6 < 5 → ((0 ≤ x6 ∧ x6 < 5) ∧ Wp X 1 245 61 [vr 49, zx1, vi x2, vi x3, zx4, vi x5, vi (x6 + 1)] [] (upd2 h 52 x6 ((i64 (h 52 x6) ||| i64 ((i64 255 <<< ((i32 x5).toInt64 &&& 63)).toInt)).toInt)) Q)))))) : Wp X 1 245 61 [vr 49, zx1, vi x2, vi x3, zx4, vi x5, vi x6] [] h Q := by
  refine wp_iload rfl rfl ?_
  refine wp_iload rfl rfl ?_
  refine wp_icge (tn := 95) rfl rfl (fun c1 => ?_) (fun c1 => ?_)
  · replace H := H.1 c1
    refine wp_aload rfl rfl ?_
    refine wp_dupR rfl ?_
    refine wp_getL (j := 3) rfl (congrArg Prod.fst (kf_49 X.1)) rfl ?_
    refine wp_sipush rfl ?_
    refine wp_iload rfl rfl ?_
    refine wp_i2l rfl ?_
    refine wp_lsub rfl ?_
    have g2 := H.1
    replace H := H.2
    refine Wp.topL (y := (128 - x2)) (w64_I g2) ?_
    refine wp_iload rfl rfl ?_
    refine wp_lshl rfl ?_
    refine wp_lor rfl ?_
    refine wp_putL (j := 3) rfl (congrArg Prod.fst (kf_49 X.1)) rfl rfl rfl ?_
    refine wp_aload rfl rfl ?_
    refine wp_aload rfl rfl ?_
    refine wp_getI (j := 4) rfl (congrArg Prod.fst (kf_49 X.1)) rfl ?_
    refine Wp.topI (y := (h 49 4)) (upd2_o (by decide)) ?_
    refine wp_iload rfl rfl ?_
    refine wp_call (k := 252) (ρ2 := 0) (L2 := [vi (h 49 4), vi x3]) rfl rfl rfl (Nat.le_of_ble_eq_true rfl) (Nat.le_of_ble_eq_true rfl) (Nat.le_of_ble_eq_true rfl) (rcv_S rfl) rfl ?_
    refine wp_iload rfl rfl ?_
    refine wp_iload rfl rfl ?_
    refine wp_iclt (tn := 9) rfl rfl (fun c3 => ?_) (fun c3 => ?_)
    · replace H := H.1 c3
      refine wp_iload rfl rfl ?_
      refine wp_iret rfl rfl ?_
      show Wp X _ 245 122 [vr 49, zx1, vi x2, vi x3, zx4, vi x5, vi x6] [vi x3, vr 49] _ _
      refine wp_putI (j := 4) rfl (congrArg Prod.fst (kf_49 X.1)) rfl rfl rfl ?_
      exact wp_vret rfl rfl H
    · replace H := H.2 c3
      refine wp_iload rfl rfl ?_
      refine wp_goto (tn := 10) rfl rfl ?_
      refine wp_iret rfl rfl ?_
      show Wp X _ 245 122 [vr 49, zx1, vi x2, vi x3, zx4, vi x5, vi x6] [vi (h 49 4), vr 49] _ _
      refine wp_putI (j := 4) rfl (congrArg Prod.fst (kf_49 X.1)) rfl rfl rfl ?_
      exact wp_vret rfl rfl H
  · replace H := H.2 c1
    refine wp_iload rfl rfl ?_
    refine wp_iconst rfl ?_
    refine wp_icge (tn := 95) rfl rfl (fun c4 => ?_) (fun c4 => ?_)
    · replace H := H.1 c4
      refine wp_aload rfl rfl ?_
      refine wp_dupR rfl ?_
      refine wp_getL (j := 3) rfl (congrArg Prod.fst (kf_49 X.1)) rfl ?_
      refine wp_sipush rfl ?_
      refine wp_iload rfl rfl ?_
      refine wp_i2l rfl ?_
      refine wp_lsub rfl ?_
      have g5 := H.1
      replace H := H.2
      refine Wp.topL (y := (128 - x2)) (w64_I g5) ?_
      refine wp_iload rfl rfl ?_
      refine wp_lshl rfl ?_
      refine wp_lor rfl ?_
      refine wp_putL (j := 3) rfl (congrArg Prod.fst (kf_49 X.1)) rfl rfl rfl ?_
      refine wp_aload rfl rfl ?_
      refine wp_aload rfl rfl ?_
      refine wp_getI (j := 4) rfl (congrArg Prod.fst (kf_49 X.1)) rfl ?_
      refine Wp.topI (y := (h 49 4)) (upd2_o (by decide)) ?_
      refine wp_iload rfl rfl ?_
      refine wp_call (k := 252) (ρ2 := 0) (L2 := [vi (h 49 4), vi x3]) rfl rfl rfl (Nat.le_of_ble_eq_true rfl) (Nat.le_of_ble_eq_true rfl) (Nat.le_of_ble_eq_true rfl) (rcv_S rfl) rfl ?_
      refine wp_iload rfl rfl ?_
      refine wp_iload rfl rfl ?_
      refine wp_iclt (tn := 9) rfl rfl (fun c6 => ?_) (fun c6 => ?_)
      · replace H := H.1 c6
        refine wp_iload rfl rfl ?_
        refine wp_iret rfl rfl ?_
        show Wp X _ 245 122 [vr 49, zx1, vi x2, vi x3, zx4, vi x5, vi x6] [vi x3, vr 49] _ _
        refine wp_putI (j := 4) rfl (congrArg Prod.fst (kf_49 X.1)) rfl rfl rfl ?_
        exact wp_vret rfl rfl H
      · replace H := H.2 c6
        refine wp_iload rfl rfl ?_
        refine wp_goto (tn := 10) rfl rfl ?_
        refine wp_iret rfl rfl ?_
        show Wp X _ 245 122 [vr 49, zx1, vi x2, vi x3, zx4, vi x5, vi x6] [vi (h 49 4), vr 49] _ _
        refine wp_putI (j := 4) rfl (congrArg Prod.fst (kf_49 X.1)) rfl rfl rfl ?_
        exact wp_vret rfl rfl H
    · replace H := H.2 c4
      refine wp_aload rfl rfl ?_
      refine wp_getR (r := 51) rfl (congrArg Prod.fst (kf_49 X.1)) rfl ?_
      refine wp_iload rfl rfl ?_
      refine wp_dup2 rfl ?_
      have g7 := H.1
      replace H := H.2
      refine wp_laload rfl (kf_52 X.1) g7 ?_
      refine wp_sipush rfl ?_
      refine wp_iload rfl rfl ?_
      refine wp_lshl rfl ?_
      refine wp_lor rfl ?_
      refine wp_lastore rfl (kf_52 X.1) ⟨g7.1, g7.2⟩ ?_
      refine wp_iincR (L2 := [vr 49, zx1, vi x2, vi x3, zx4, vi x5, vi (x6 + 1)]) rfl rfl (by clear H; unfold R32; omega) rfl ?_
      refine wp_goto (tn := 61) rfl rfl ?_
      exact H
/-- ZoneRules.append(IIII)V, from 0 -/
theorem S245_57_0 {X : Nat × (Int → Int)} {h : HP} {Q : bQ} (x1 : Int) (x2 : Int) (x3 : Int) (x4 : Int) (H : ((R32 (8 * x1)) ∧ ((0 < x4 → Wp X 1 245 14 [vr 57, vi x1, vi x2, vi x3, vi x4, vi (8 * x1), vi x4] [] h Q) ∧ (x4 ≤ 0 → Wp X 1 245 14 [vr 57, vi x1, vi x2, vi x3, vi x4, vi (8 * x1), vi 0] [] h Q)))) : Wp X 1 245 0 [vr 57, vi x1, vi x2, vi x3, vi x4, vu, vu] [] h Q := by
  refine wp_iconst rfl ?_
  refine wp_iload rfl rfl ?_
  refine wp_imul rfl ?_
  have g1 := H.1
  replace H := H.2
  refine Wp.topI (y := (8 * x1)) (w32_I g1) ?_
  refine wp_istore (L2 := [vr 57, vi x1, vi x2, vi x3, vi x4, vi (8 * x1), vu]) rfl (Nat.le_of_ble_eq_true rfl) rfl ?_
  refine wp_iconst rfl ?_
  refine wp_iload rfl rfl ?_
  refine wp_call (k := 252) (ρ2 := 0) (L2 := [vi 0, vi x4]) rfl rfl rfl (Nat.le_of_ble_eq_true rfl) (Nat.le_of_ble_eq_true rfl) (Nat.le_of_ble_eq_true rfl) (rcv_S rfl) rfl ?_
  refine wp_iload rfl rfl ?_
  refine wp_iload rfl rfl ?_
  refine wp_iclt (tn := 9) rfl rfl (fun c2 => ?_) (fun c2 => ?_)
  · replace H := H.1 c2
    refine wp_iload rfl rfl ?_
    refine wp_iret rfl rfl ?_
    show Wp X _ 245 12 [vr 57, vi x1, vi x2, vi x3, vi x4, vi (8 * x1), vu] [vi x4] _ _
    refine wp_istore (L2 := [vr 57, vi x1, vi x2, vi x3, vi x4, vi (8 * x1), vi x4]) rfl (Nat.le_of_ble_eq_true rfl) rfl ?_
    exact H
  · replace H := H.2 c2
    refine wp_iload rfl rfl ?_
    refine wp_goto (tn := 10) rfl rfl ?_
    refine wp_iret rfl rfl ?_
    show Wp X _ 245 12 [vr 57, vi x1, vi x2, vi x3, vi x4, vi (8 * x1), vu] [vi 0] _ _
    refine wp_istore (L2 := [vr 57, vi x1, vi x2, vi x3, vi x4, vi (8 * x1), vi 0]) rfl (Nat.le_of_ble_eq_true rfl) rfl ?_
    exact H
/-- ZoneRules.append(IIII)V, from 14 -/
theorem S245_57_14 {X : Nat × (Int → Int)} {h : HP} {Q : bQ} (zx1 : aV) (x2 : Int) (x3 : Int) (zx4 : aV) (x5 : Int) (x6 : Int) (H : ((4 ≤ x6 → Wp X 1 245 61 [vr 57, zx1, vi x2, vi x3, zx4, vi x5, vi 0] [] h Q) ∧ (x6 < 4 → ((R32 (4 + x6)) ∧ ((0 ≤ (4 + x6) ∧ (4 + x6) < 9) ∧ Wp X 1 245 14 [vr 57, zx1, vi x2, vi x3, zx4, vi x5, vi (x6 + 1)] [] (upd2 (upd2 h 58 (4 + x6) ((i64 (h 58 (4 + x6)) ||| i64 ((i64 1 <<< ((i32 x5).toInt64 &&& 63)).toInt)).toInt)) 59 (3 - x6) ((i64 (h 59 (3 - x6)) ||| i64 ((i64 1 <<< ((i32 x5).toInt64 &&& 63)).toInt)).toInt)) Q))))) : Wp X 1 245 14 [vr 57, zx1, vi x2, vi x3, zx4, vi x5, vi x6] [] h Q := by
  refine wp_iload rfl rfl ?_
  refine wp_iconst rfl ?_
  refine wp_icge (tn := 58) rfl rfl (fun c1 => ?_) (fun c1 => ?_)
  · replace H := H.1 c1
    refine wp_iconst rfl ?_
    refine wp_istore (L2 := [vr 57, zx1, vi x2, vi x3, zx4, vi x5, vi 0]) rfl (Nat.le_of_ble_eq_true rfl) rfl ?_
    exact H
  · replace H := H.2 c1
    refine wp_aload rfl rfl ?_
    refine wp_getR (r := 57) rfl (congrArg Prod.fst (kf_57 X.1)) rfl ?_
    refine wp_iconst rfl ?_
    refine wp_iload rfl rfl ?_
    refine wp_iadd rfl ?_
    have g2 := H.1
    replace H := H.2
    refine Wp.topI (y := (4 + x6)) (w32_I g2) ?_
    refine wp_dup2 rfl ?_
    have g3 := H.1
    replace H := H.2
    refine wp_laload rfl (kf_58 X.1) g3 ?_
    refine wp_sipush rfl ?_
    refine wp_iload rfl rfl ?_
    refine wp_lshl rfl ?_
    refine wp_lor rfl ?_
    refine wp_lastore rfl (kf_58 X.1) ⟨g3.1, g3.2⟩ ?_
    refine wp_aload rfl rfl ?_
    refine wp_getR (r := 58) rfl (congrArg Prod.fst (kf_57 X.1)) rfl ?_
    refine wp_iconst rfl ?_
    refine wp_iload rfl rfl ?_
    refine wp_isub rfl ?_
    refine Wp.topI (y := (3 - x6)) (w32_I (by clear H; unfold R32; omega)) ?_
    refine wp_dup2 rfl ?_
    refine wp_laload rfl (kf_59 X.1) ⟨(by clear H; omega), (by clear H; omega)⟩ ?_
    refine Wp.topL (y := (h 59 (3 - x6))) (congrFun (upd2_ne (by decide)) _) ?_
    refine wp_sipush rfl ?_
    refine wp_iload rfl rfl ?_
    refine wp_lshl rfl ?_
    refine wp_lor rfl ?_
    refine wp_lastore rfl (kf_59 X.1) ⟨(by clear H; omega), (by clear H; omega)⟩ ?_
    refine wp_iincR (L2 := [vr 57, zx1, vi x2, vi x3, zx4, vi x5, vi (x6 + 1)]) rfl rfl (by clear H; unfold R32; omega) rfl ?_
    refine wp_goto (tn := 14) rfl rfl ?_
    exact H
/-- ZoneRules.append(IIII)V, from 61 -/
theorem S245_57_61 {X : Nat × (Int → Int)} {h : HP} {Q : bQ} (zx1 : aV) (x2 : Int) (x3 : Int) (zx4 : aV) (x5 : Int) (x6 : Int) (H : ((x3 ≤ x6 → ((R64 (128 - x2)) ∧ (((h 57 4) < x3 → Q none (upd2 (upd2 h 57 3 ((i64 (h 57 3) ||| i64 ((i64 (128 - x2) <<< ((i32 x5).toInt64 &&& 63)).toInt)).toInt)) 57 4 x3)) ∧ (x3 ≤ (h 57 4) → Q none (upd2 (upd2 h 57 3 ((i64 (h 57 3) ||| i64 ((i64 (128 - x2) <<< ((i32 x5).toInt64 &&& 63)).toInt)).toInt)) 57 4 (h 57 4)))))) ∧ (x6 < x3 → ((5 ≤ x6 → ((R64 (128 - x2)) ∧ (((h 57 4) < x3 → Q none (upd2 (upd2 h 57 3 ((i64 (h 57 3) ||| i64 ((i64 (128 - x2) <<< ((i32 x5).toInt64 &&& 63)).toInt)).toInt)) 57 4 x3)) ∧ (x3 ≤ (h 57 4) → Q none (upd2 (upd2 h 57 3 ((i64 (h 57 3) ||| i64 ((i64 (128 - x2) <<< ((i32 x5).toInt64 &&& 63)).toInt)).toInt)) 57 4 (h 57 4)))))) ∧ (x6 < 5 → ((0 ≤ x6 ∧ x6 < 5) ∧ Wp X 1 245 61 [vr 57, zx1, vi x2, vi x3, zx4, vi x5, vi (x6 + 1)] [] (upd2 h 60 x6 ((i64 (h 60 x6) ||| i64 ((i64 255 <<< ((i32 x5).toInt64 &&& 63)).toInt)).toInt)) Q)))))) : Wp X 1 245 61 [vr 57, zx1, vi x2, vi x3, zx4, vi x5, vi x6] [] h Q := by
  refine wp_iload rfl rfl ?_
  refine wp_iload rfl rfl ?_
  refine wp_icge (tn := 95) rfl rfl (fun c1 => ?_) (fun c1 => ?_)
  · replace H := H.1 c1
    refine wp_aload rfl rfl ?_
    refine wp_dupR rfl ?_
    refine wp_getL (j := 3) rfl (congrArg Prod.fst (kf_57 X.1)) rfl ?_
    refine wp_sipush rfl ?_
    refine wp_iload rfl rfl ?_
    refine wp_i2l rfl ?_
    refine wp_lsub rfl ?_
    have g2 := H.1
    replace H := H.2
    refine Wp.topL (y := (128 - x2)) (w64_I g2) ?_
    refine wp_iload rfl rfl ?_
    refine wp_lshl rfl ?_
    refine wp_lor rfl ?_
    refine wp_putL (j := 3) rfl (congrArg Prod.fst (kf_57 X.1)) rfl rfl rfl ?_
    refine wp_aload rfl rfl ?_
    refine wp_aload rfl rfl ?_
    refine wp_getI (j := 4) rfl (congrArg Prod.fst (kf_57 X.1)) rfl ?_
    refine Wp.topI (y := (h 57 4)) (upd2_o (by decide)) ?_
    refine wp_iload rfl rfl ?_
    refine wp_call (k := 252) (ρ2 := 0) (L2 := [vi (h 57 4), vi x3]) rfl rfl rfl (Nat.le_of_ble_eq_true rfl) (Nat.le_of_ble_eq_true rfl) (Nat.le_of_ble_eq_true rfl) (rcv_S rfl) rfl ?_
    refine wp_iload rfl rfl ?_
    refine wp_iload rfl rfl ?_
    refine wp_iclt (tn := 9) rfl rfl (fun c3 => ?_) (fun c3 => ?_)
    · replace H := H.1 c3
      refine wp_iload rfl rfl ?_
      refine wp_iret rfl rfl ?_
      show Wp X _ 245 122 [vr 57, zx1, vi x2, vi x3, zx4, vi x5, vi x6] [vi x3, vr 57] _ _
      refine wp_putI (j := 4) rfl (congrArg Prod.fst (kf_57 X.1)) rfl rfl rfl ?_
      exact wp_vret rfl rfl H
    · replace H := H.2 c3
      refine wp_iload rfl rfl ?_
      refine wp_goto (tn := 10) rfl rfl ?_
      refine wp_iret rfl rfl ?_
      show Wp X _ 245 122 [vr 57, zx1, vi x2, vi x3, zx4, vi x5, vi x6] [vi (h 57 4), vr 57] _ _
      refine wp_putI (j := 4) rfl (congrArg Prod.fst (kf_57 X.1)) rfl rfl rfl ?_
      exact wp_vret rfl rfl H
  · replace H := H.2 c1
    refine wp_iload rfl rfl ?_
    refine wp_iconst rfl ?_
    refine wp_icge (tn := 95) rfl rfl (fun c4 => ?_) (fun c4 => ?_)
    · replace H := H.1 c4
      refine wp_aload rfl rfl ?_
      refine wp_dupR rfl ?_
      refine wp_getL (j := 3) rfl (congrArg Prod.fst (kf_57 X.1)) rfl ?_
      refine wp_sipush rfl ?_
      refine wp_iload rfl rfl ?_
      refine wp_i2l rfl ?_
      refine wp_lsub rfl ?_
      have g5 := H.1
      replace H := H.2
      refine Wp.topL (y := (128 - x2)) (w64_I g5) ?_
      refine wp_iload rfl rfl ?_
      refine wp_lshl rfl ?_
      refine wp_lor rfl ?_
      refine wp_putL (j := 3) rfl (congrArg Prod.fst (kf_57 X.1)) rfl rfl rfl ?_
      refine wp_aload rfl rfl ?_
      refine wp_aload rfl rfl ?_
      refine wp_getI (j := 4) rfl (congrArg Prod.fst (kf_57 X.1)) rfl ?_
      refine Wp.topI (y := (h 57 4)) (upd2_o (by decide)) ?_
      refine wp_iload rfl rfl ?_
      refine wp_call (k := 252) (ρ2 := 0) (L2 := [vi (h 57 4), vi x3]) rfl rfl rfl (Nat.le_of_ble_eq_true rfl) (Nat.le_of_ble_eq_true rfl) (Nat.le_of_ble_eq_true rfl) (rcv_S rfl) rfl ?_
      refine wp_iload rfl rfl ?_
      refine wp_iload rfl rfl ?_
      refine wp_iclt (tn := 9) rfl rfl (fun c6 => ?_) (fun c6 => ?_)
      · replace H := H.1 c6
        refine wp_iload rfl rfl ?_
        refine wp_iret rfl rfl ?_
        show Wp X _ 245 122 [vr 57, zx1, vi x2, vi x3, zx4, vi x5, vi x6] [vi x3, vr 57] _ _
        refine wp_putI (j := 4) rfl (congrArg Prod.fst (kf_57 X.1)) rfl rfl rfl ?_
        exact wp_vret rfl rfl H
      · replace H := H.2 c6
        refine wp_iload rfl rfl ?_
        refine wp_goto (tn := 10) rfl rfl ?_
        refine wp_iret rfl rfl ?_
        show Wp X _ 245 122 [vr 57, zx1, vi x2, vi x3, zx4, vi x5, vi x6] [vi (h 57 4), vr 57] _ _
        refine wp_putI (j := 4) rfl (congrArg Prod.fst (kf_57 X.1)) rfl rfl rfl ?_
        exact wp_vret rfl rfl H
    · replace H := H.2 c4
      refine wp_aload rfl rfl ?_
      refine wp_getR (r := 59) rfl (congrArg Prod.fst (kf_57 X.1)) rfl ?_
      refine wp_iload rfl rfl ?_
      refine wp_dup2 rfl ?_
      have g7 := H.1
      replace H := H.2
      refine wp_laload rfl (kf_60 X.1) g7 ?_
      refine wp_sipush rfl ?_
      refine wp_iload rfl rfl ?_
      refine wp_lshl rfl ?_
      refine wp_lor rfl ?_
      refine wp_lastore rfl (kf_60 X.1) ⟨g7.1, g7.2⟩ ?_
      refine wp_iincR (L2 := [vr 57, zx1, vi x2, vi x3, zx4, vi x5, vi (x6 + 1)]) rfl rfl (by clear H; unfold R32; omega) rfl ?_
      refine wp_goto (tn := 61) rfl rfl ?_
      exact H
/-- ZoneRules.reachedAt(L$Row;I)J, from 0 -/
theorem S246_49_37_0 {X : Nat × (Int → Int)} {h : HP} {Q : bQ} (x2 : Int) (H : Wp X 2 246 14 [vr 49, vr 37, vi x2, vl (h 49 3), vu, vl (h 49 3), vu, vi 0, vu] [] h Q) : Wp X 2 246 0 [vr 49, vr 37, vi x2, vu, vu, vu, vu, vu, vu] [] h Q := by
  refine wp_aload rfl rfl ?_
  refine wp_getL (j := 3) rfl (congrArg Prod.fst (kf_49 X.1)) rfl ?_
  refine wp_lstore (L2 := [vr 49, vr 37, vi x2, vl (h 49 3), vu, vu, vu, vu, vu]) rfl (Nat.le_of_ble_eq_true rfl) rfl ?_
  refine wp_aload rfl rfl ?_
  refine wp_getL (j := 3) rfl (congrArg Prod.fst (kf_49 X.1)) rfl ?_
  refine wp_lstore (L2 := [vr 49, vr 37, vi x2, vl (h 49 3), vu, vl (h 49 3), vu, vu, vu]) rfl (Nat.le_of_ble_eq_true rfl) rfl ?_
  refine wp_iconst rfl ?_
  refine wp_istore (L2 := [vr 49, vr 37, vi x2, vl (h 49 3), vu, vl (h 49 3), vu, vi 0, vu]) rfl (Nat.le_of_ble_eq_true rfl) rfl ?_
  exact H
/-- ZoneRules.reachedAt(L$Row;I)J, from 14 -/
theorem S246_49_37_14 {X : Nat × (Int → Int)} {h : HP} {Q : bQ} (x2 : Int) (x3 : Int) (x5 : Int) (x7 : Int) (zx8 : aV) (H : (((h 49 4) ≤ x7 → Q (some (vl ((i64 ((i64 x3 ||| i64 x5).toInt) &&& i64 (-9187201950435737472)).toInt))) h) ∧ (x7 < (h 49 4) → ((x2 < x7 → Q (some (vl ((i64 ((i64 x3 ||| i64 x5).toInt) &&& i64 (-9187201950435737472)).toInt))) h) ∧ (x7 ≤ x2 → ((R32 (x2 - x7)) ∧ (((x2 - x7) < 0 → ((x7 < 0 → ((R64 (x3 + 0)) ∧ ((R64 (x5 + 0)) ∧ ((R32 (x7 + 1)) ∧ Wp X 2 246 14 [vr 49, vr 37, vi x2, vl (x3 + 0), vu, vl (x5 + 0), vu, vi (x7 + 1), vi 8] [] h Q)))) ∧ (0 ≤ x7 → ((x7 < 5 → ((R64 (x3 + ((i64 (h 50 8) &&& i64 (h 52 x7)).toInt))) ∧ ((R64 (x5 + ((i64 (h 51 8) &&& i64 (h 52 x7)).toInt))) ∧ Wp X 2 246 14 [vr 49, vr 37, vi x2, vl (x3 + ((i64 (h 50 8) &&& i64 (h 52 x7)).toInt)), vu, vl (x5 + ((i64 (h 51 8) &&& i64 (h 52 x7)).toInt)), vu, vi (x7 + 1), vi 8] [] h Q))) ∧ (5 ≤ x7 → ((R64 (x3 + 0)) ∧ ((R64 (x5 + 0)) ∧ ((R32 (x7 + 1)) ∧ Wp X 2 246 14 [vr 49, vr 37, vi x2, vl (x3 + 0), vu, vl (x5 + 0), vu, vi (x7 + 1), vi 8] [] h Q)))))))) ∧ (0 ≤ (x2 - x7) → (((h 37 6) ≤ (x2 - x7) → ((x7 < 0 → ((R64 (x3 + 0)) ∧ ((R64 (x5 + 0)) ∧ ((R32 (x7 + 1)) ∧ Wp X 2 246 14 [vr 49, vr 37, vi x2, vl (x3 + 0), vu, vl (x5 + 0), vu, vi (x7 + 1), vi 8] [] h Q)))) ∧ (0 ≤ x7 → ((x7 < 5 → ((R64 (x3 + ((i64 (h 50 8) &&& i64 (h 52 x7)).toInt))) ∧ ((R64 (x5 + ((i64 (h 51 8) &&& i64 (h 52 x7)).toInt))) ∧ Wp X 2 246 14 [vr 49, vr 37, vi x2, vl (x3 + ((i64 (h 50 8) &&& i64 (h 52 x7)).toInt)), vu, vl (x5 + ((i64 (h 51 8) &&& i64 (h 52 x7)).toInt)), vu, vi (x7 + 1), vi 8] [] h Q))) ∧ (5 ≤ x7 → ((R64 (x3 + 0)) ∧ ((R64 (x5 + 0)) ∧ ((R32 (x7 + 1)) ∧ Wp X 2 246 14 [vr 49, vr 37, vi x2, vl (x3 + 0), vu, vl (x5 + 0), vu, vi (x7 + 1), vi 8] [] h Q)))))))) ∧ ((x2 - x7) < (h 37 6) → ((0 ≤ (x2 - x7) ∧ (x2 - x7) < 20) ∧ (((h 40 (x2 - x7)) < 0 → ((R64 (x3 + 0)) ∧ ((R64 (x5 + 0)) ∧ ((R32 (x7 + 1)) ∧ Wp X 2 246 14 [vr 49, vr 37, vi x2, vl (x3 + 0), vu, vl (x5 + 0), vu, vi (x7 + 1), vi (h 40 (x2 - x7))] [] h Q)))) ∧ (0 ≤ (h 40 (x2 - x7)) → ((9 ≤ (h 40 (x2 - x7)) → ((R64 (x3 + 0)) ∧ ((R64 (x5 + 0)) ∧ ((R32 (x7 + 1)) ∧ Wp X 2 246 14 [vr 49, vr 37, vi x2, vl (x3 + 0), vu, vl (x5 + 0), vu, vi (x7 + 1), vi (h 40 (x2 - x7))] [] h Q)))) ∧ ((h 40 (x2 - x7)) < 9 → ((x7 < 0 → ((R64 (x3 + 0)) ∧ ((R64 (x5 + 0)) ∧ ((R32 (x7 + 1)) ∧ Wp X 2 246 14 [vr 49, vr 37, vi x2, vl (x3 + 0), vu, vl (x5 + 0), vu, vi (x7 + 1), vi (h 40 (x2 - x7))] [] h Q)))) ∧ (0 ≤ x7 → ((x7 < 5 → ((R64 (x3 + ((i64 (h 50 (h 40 (x2 - x7))) &&& i64 (h 52 x7)).toInt))) ∧ ((R64 (x5 + ((i64 (h 51 (h 40 (x2 - x7))) &&& i64 (h 52 x7)).toInt))) ∧ Wp X 2 246 14 [vr 49, vr 37, vi x2, vl (x3 + ((i64 (h 50 (h 40 (x2 - x7))) &&& i64 (h 52 x7)).toInt)), vu, vl (x5 + ((i64 (h 51 (h 40 (x2 - x7))) &&& i64 (h 52 x7)).toInt)), vu, vi (x7 + 1), vi (h 40 (x2 - x7))] [] h Q))) ∧ (5 ≤ x7 → ((R64 (x3 + 0)) ∧ ((R64 (x5 + 0)) ∧ ((R32 (x7 + 1)) ∧ Wp X 2 246 14 [vr 49, vr 37, vi x2, vl (x3 + 0), vu, vl (x5 + 0), vu, vi (x7 + 1), vi (h 40 (x2 - x7))] [] h Q)))))))))))))))))))))) : Wp X 2 246 14 [vr 49, vr 37, vi x2, vl x3, vu, vl x5, vu, vi x7, zx8] [] h Q := by
  refine wp_iload rfl rfl ?_
  refine wp_aload rfl rfl ?_
  refine wp_getI (j := 4) rfl (congrArg Prod.fst (kf_49 X.1)) rfl ?_
  refine wp_icge (tn := 69) rfl rfl (fun c1 => ?_) (fun c1 => ?_)
  · replace H := H.1 c1
    refine wp_lload rfl rfl ?_
    refine wp_lload rfl rfl ?_
    refine wp_lor rfl ?_
    refine wp_sipush rfl ?_
    refine wp_land rfl ?_
    exact wp_lret rfl rfl H
  · replace H := H.2 c1
    refine wp_iload rfl rfl ?_
    refine wp_iload rfl rfl ?_
    refine wp_icgt (tn := 69) rfl rfl (fun c2 => ?_) (fun c2 => ?_)
    · replace H := H.1 c2
      refine wp_lload rfl rfl ?_
      refine wp_lload rfl rfl ?_
      refine wp_lor rfl ?_
      refine wp_sipush rfl ?_
      refine wp_land rfl ?_
      exact wp_lret rfl rfl H
    · replace H := H.2 c2
      refine wp_aload rfl rfl ?_
      refine wp_iload rfl rfl ?_
      refine wp_iload rfl rfl ?_
      refine wp_isub rfl ?_
      have g3 := H.1
      replace H := H.2
      refine Wp.topI (y := (x2 - x7)) (w32_I g3) ?_
      refine wp_call (k := 192) (ρ2 := 1) (L2 := [vr 37, vi (x2 - x7)]) rfl rfl rfl (Nat.le_of_ble_eq_true rfl) (Nat.le_of_ble_eq_true rfl) (Nat.le_of_ble_eq_true rfl) (rcv_V rfl (congrArg Prod.fst (kf_37 X.1))) rfl ?_
      refine wp_aload rfl rfl ?_
      refine wp_iload rfl rfl ?_
      refine wp_call (k := 189) (ρ2 := 0) (L2 := [vr 37, vi (x2 - x7)]) rfl rfl rfl (Nat.le_of_ble_eq_true rfl) (Nat.le_of_ble_eq_true rfl) (Nat.le_of_ble_eq_true rfl) (rcv_V rfl (congrArg Prod.fst (kf_37 X.1))) rfl ?_
      refine wp_iload rfl rfl ?_
      refine wp_iflt (tn := 16) rfl rfl (fun c4 => ?_) (fun c4 => ?_)
      · replace H := H.1 c4
        refine wp_iconst rfl ?_
        refine wp_zret rfl rfl (by decide) ?_
        show Wp X _ 192 5 [vr 37, vi (x2 - x7)] [vi 0] _ _
        refine wp_ifeqT (tn := 17) rfl rfl (by decide) ?_
        refine wp_iconst rfl ?_
        refine wp_iret rfl rfl ?_
        show Wp X _ 246 37 [vr 49, vr 37, vi x2, vl x3, vu, vl x5, vu, vi x7, zx8] [vi 8] _ _
        refine wp_istore (L2 := [vr 49, vr 37, vi x2, vl x3, vu, vl x5, vu, vi x7, vi 8]) rfl (Nat.le_of_ble_eq_true rfl) rfl ?_
        refine wp_lload rfl rfl ?_
        refine wp_aload rfl rfl ?_
        refine wp_iload rfl rfl ?_
        refine wp_iload rfl rfl ?_
        refine wp_call (k := 239) (ρ2 := 0) (L2 := [vr 49, vi 8, vi x7]) rfl rfl rfl (Nat.le_of_ble_eq_true rfl) (Nat.le_of_ble_eq_true rfl) (Nat.le_of_ble_eq_true rfl) (rcv_V rfl (congrArg Prod.fst (kf_49 X.1))) rfl ?_
        refine wp_iload rfl rfl ?_
        refine wp_ifltF (tn := 19) rfl rfl (by decide) ?_
        refine wp_iload rfl rfl ?_
        refine wp_iconst rfl ?_
        refine wp_icgeF (tn := 19) rfl rfl (by decide) ?_
        refine wp_iload rfl rfl ?_
        refine wp_iflt (tn := 19) rfl rfl (fun c5 => ?_) (fun c5 => ?_)
        · replace H := H.1 c5
          refine wp_sipush rfl ?_
          refine wp_lret rfl rfl ?_
          show Wp X _ 246 48 [vr 49, vr 37, vi x2, vl x3, vu, vl x5, vu, vi x7, vi 8] [vl 0, vl x3] _ _
          refine wp_ladd rfl ?_
          have g6 := H.1
          replace H := H.2
          refine Wp.topL (y := (x3 + 0)) (w64_I g6) ?_
          refine wp_lstore (L2 := [vr 49, vr 37, vi x2, vl (x3 + 0), vu, vl x5, vu, vi x7, vi 8]) rfl (Nat.le_of_ble_eq_true rfl) rfl ?_
          refine wp_lload rfl rfl ?_
          refine wp_aload rfl rfl ?_
          refine wp_iload rfl rfl ?_
          refine wp_iload rfl rfl ?_
          refine wp_call (k := 240) (ρ2 := 0) (L2 := [vr 49, vi 8, vi x7]) rfl rfl rfl (Nat.le_of_ble_eq_true rfl) (Nat.le_of_ble_eq_true rfl) (Nat.le_of_ble_eq_true rfl) (rcv_V rfl (congrArg Prod.fst (kf_49 X.1))) rfl ?_
          refine wp_iload rfl rfl ?_
          refine wp_ifltF (tn := 19) rfl rfl (by decide) ?_
          refine wp_iload rfl rfl ?_
          refine wp_iconst rfl ?_
          refine wp_icgeF (tn := 19) rfl rfl (by decide) ?_
          refine wp_iload rfl rfl ?_
          refine wp_ifltT (tn := 19) rfl rfl c5 ?_
          refine wp_sipush rfl ?_
          refine wp_lret rfl rfl ?_
          show Wp X _ 246 60 [vr 49, vr 37, vi x2, vl (x3 + 0), vu, vl x5, vu, vi x7, vi 8] [vl 0, vl x5] _ _
          refine wp_ladd rfl ?_
          have g7 := H.1
          replace H := H.2
          refine Wp.topL (y := (x5 + 0)) (w64_I g7) ?_
          refine wp_lstore (L2 := [vr 49, vr 37, vi x2, vl (x3 + 0), vu, vl (x5 + 0), vu, vi x7, vi 8]) rfl (Nat.le_of_ble_eq_true rfl) rfl ?_
          have g8 := H.1
          replace H := H.2
          refine wp_iincR (L2 := [vr 49, vr 37, vi x2, vl (x3 + 0), vu, vl (x5 + 0), vu, vi (x7 + 1), vi 8]) rfl rfl g8 rfl ?_
          refine wp_goto (tn := 14) rfl rfl ?_
          exact H
        · replace H := H.2 c5
          refine wp_iload rfl rfl ?_
          refine wp_iconst rfl ?_
          refine wp_iclt (tn := 21) rfl rfl (fun c9 => ?_) (fun c9 => ?_)
          · replace H := H.1 c9
            refine wp_aload rfl rfl ?_
            refine wp_getR (r := 49) rfl (congrArg Prod.fst (kf_49 X.1)) rfl ?_
            refine wp_iload rfl rfl ?_
            refine wp_laload rfl (kf_50 X.1) (by decide) ?_
            refine wp_aload rfl rfl ?_
            refine wp_getR (r := 51) rfl (congrArg Prod.fst (kf_49 X.1)) rfl ?_
            refine wp_iload rfl rfl ?_
            refine wp_laload rfl (kf_52 X.1) ⟨c5, c9⟩ ?_
            refine wp_land rfl ?_
            refine wp_lret rfl rfl ?_
            show Wp X _ 246 48 [vr 49, vr 37, vi x2, vl x3, vu, vl x5, vu, vi x7, vi 8] [vl ((i64 (h 50 8) &&& i64 (h 52 x7)).toInt), vl x3] _ _
            refine wp_ladd rfl ?_
            have g10 := H.1
            replace H := H.2
            refine Wp.topL (y := (x3 + ((i64 (h 50 8) &&& i64 (h 52 x7)).toInt))) (w64_I g10) ?_
            refine wp_lstore (L2 := [vr 49, vr 37, vi x2, vl (x3 + ((i64 (h 50 8) &&& i64 (h 52 x7)).toInt)), vu, vl x5, vu, vi x7, vi 8]) rfl (Nat.le_of_ble_eq_true rfl) rfl ?_
            refine wp_lload rfl rfl ?_
            refine wp_aload rfl rfl ?_
            refine wp_iload rfl rfl ?_
            refine wp_iload rfl rfl ?_
            refine wp_call (k := 240) (ρ2 := 0) (L2 := [vr 49, vi 8, vi x7]) rfl rfl rfl (Nat.le_of_ble_eq_true rfl) (Nat.le_of_ble_eq_true rfl) (Nat.le_of_ble_eq_true rfl) (rcv_V rfl (congrArg Prod.fst (kf_49 X.1))) rfl ?_
            refine wp_iload rfl rfl ?_
            refine wp_ifltF (tn := 19) rfl rfl (by decide) ?_
            refine wp_iload rfl rfl ?_
            refine wp_iconst rfl ?_
            refine wp_icgeF (tn := 19) rfl rfl (by decide) ?_
            refine wp_iload rfl rfl ?_
            refine wp_ifltF (tn := 19) rfl rfl c5 ?_
            refine wp_iload rfl rfl ?_
            refine wp_iconst rfl ?_
            refine wp_icltT (tn := 21) rfl rfl c9 ?_
            refine wp_aload rfl rfl ?_
            refine wp_getR (r := 50) rfl (congrArg Prod.fst (kf_49 X.1)) rfl ?_
            refine wp_iload rfl rfl ?_
            refine wp_laload rfl (kf_51 X.1) (by decide) ?_
            refine wp_aload rfl rfl ?_
            refine wp_getR (r := 51) rfl (congrArg Prod.fst (kf_49 X.1)) rfl ?_
            refine wp_iload rfl rfl ?_
            refine wp_laload rfl (kf_52 X.1) ⟨c5, c9⟩ ?_
            refine wp_land rfl ?_
            refine wp_lret rfl rfl ?_
            show Wp X _ 246 60 [vr 49, vr 37, vi x2, vl (x3 + ((i64 (h 50 8) &&& i64 (h 52 x7)).toInt)), vu, vl x5, vu, vi x7, vi 8] [vl ((i64 (h 51 8) &&& i64 (h 52 x7)).toInt), vl x5] _ _
            refine wp_ladd rfl ?_
            have g11 := H.1
            replace H := H.2
            refine Wp.topL (y := (x5 + ((i64 (h 51 8) &&& i64 (h 52 x7)).toInt))) (w64_I g11) ?_
            refine wp_lstore (L2 := [vr 49, vr 37, vi x2, vl (x3 + ((i64 (h 50 8) &&& i64 (h 52 x7)).toInt)), vu, vl (x5 + ((i64 (h 51 8) &&& i64 (h 52 x7)).toInt)), vu, vi x7, vi 8]) rfl (Nat.le_of_ble_eq_true rfl) rfl ?_
            refine wp_iincR (L2 := [vr 49, vr 37, vi x2, vl (x3 + ((i64 (h 50 8) &&& i64 (h 52 x7)).toInt)), vu, vl (x5 + ((i64 (h 51 8) &&& i64 (h 52 x7)).toInt)), vu, vi (x7 + 1), vi 8]) rfl rfl (by clear H; unfold R32; omega) rfl ?_
            refine wp_goto (tn := 14) rfl rfl ?_
            exact H
          · replace H := H.2 c9
            refine wp_sipush rfl ?_
            refine wp_lret rfl rfl ?_
            show Wp X _ 246 48 [vr 49, vr 37, vi x2, vl x3, vu, vl x5, vu, vi x7, vi 8] [vl 0, vl x3] _ _
            refine wp_ladd rfl ?_
            have g12 := H.1
            replace H := H.2
            refine Wp.topL (y := (x3 + 0)) (w64_I g12) ?_
            refine wp_lstore (L2 := [vr 49, vr 37, vi x2, vl (x3 + 0), vu, vl x5, vu, vi x7, vi 8]) rfl (Nat.le_of_ble_eq_true rfl) rfl ?_
            refine wp_lload rfl rfl ?_
            refine wp_aload rfl rfl ?_
            refine wp_iload rfl rfl ?_
            refine wp_iload rfl rfl ?_
            refine wp_call (k := 240) (ρ2 := 0) (L2 := [vr 49, vi 8, vi x7]) rfl rfl rfl (Nat.le_of_ble_eq_true rfl) (Nat.le_of_ble_eq_true rfl) (Nat.le_of_ble_eq_true rfl) (rcv_V rfl (congrArg Prod.fst (kf_49 X.1))) rfl ?_
            refine wp_iload rfl rfl ?_
            refine wp_ifltF (tn := 19) rfl rfl (by decide) ?_
            refine wp_iload rfl rfl ?_
            refine wp_iconst rfl ?_
            refine wp_icgeF (tn := 19) rfl rfl (by decide) ?_
            refine wp_iload rfl rfl ?_
            refine wp_ifltF (tn := 19) rfl rfl c5 ?_
            refine wp_iload rfl rfl ?_
            refine wp_iconst rfl ?_
            refine wp_icltF (tn := 21) rfl rfl c9 ?_
            refine wp_sipush rfl ?_
            refine wp_lret rfl rfl ?_
            show Wp X _ 246 60 [vr 49, vr 37, vi x2, vl (x3 + 0), vu, vl x5, vu, vi x7, vi 8] [vl 0, vl x5] _ _
            refine wp_ladd rfl ?_
            have g13 := H.1
            replace H := H.2
            refine Wp.topL (y := (x5 + 0)) (w64_I g13) ?_
            refine wp_lstore (L2 := [vr 49, vr 37, vi x2, vl (x3 + 0), vu, vl (x5 + 0), vu, vi x7, vi 8]) rfl (Nat.le_of_ble_eq_true rfl) rfl ?_
            have g14 := H.1
            replace H := H.2
            refine wp_iincR (L2 := [vr 49, vr 37, vi x2, vl (x3 + 0), vu, vl (x5 + 0), vu, vi (x7 + 1), vi 8]) rfl rfl g14 rfl ?_
            refine wp_goto (tn := 14) rfl rfl ?_
            exact H
      · replace H := H.2 c4
        refine wp_iload rfl rfl ?_
        refine wp_aload rfl rfl ?_
        refine wp_getI (j := 6) rfl (congrArg Prod.fst (kf_37 X.1)) rfl ?_
        refine wp_icge (tn := 16) rfl rfl (fun c15 => ?_) (fun c15 => ?_)
        · replace H := H.1 c15
          refine wp_iconst rfl ?_
          refine wp_zret rfl rfl (by decide) ?_
          show Wp X _ 192 5 [vr 37, vi (x2 - x7)] [vi 0] _ _
          refine wp_ifeqT (tn := 17) rfl rfl (by decide) ?_
          refine wp_iconst rfl ?_
          refine wp_iret rfl rfl ?_
          show Wp X _ 246 37 [vr 49, vr 37, vi x2, vl x3, vu, vl x5, vu, vi x7, zx8] [vi 8] _ _
          refine wp_istore (L2 := [vr 49, vr 37, vi x2, vl x3, vu, vl x5, vu, vi x7, vi 8]) rfl (Nat.le_of_ble_eq_true rfl) rfl ?_
          refine wp_lload rfl rfl ?_
          refine wp_aload rfl rfl ?_
          refine wp_iload rfl rfl ?_
          refine wp_iload rfl rfl ?_
          refine wp_call (k := 239) (ρ2 := 0) (L2 := [vr 49, vi 8, vi x7]) rfl rfl rfl (Nat.le_of_ble_eq_true rfl) (Nat.le_of_ble_eq_true rfl) (Nat.le_of_ble_eq_true rfl) (rcv_V rfl (congrArg Prod.fst (kf_49 X.1))) rfl ?_
          refine wp_iload rfl rfl ?_
          refine wp_ifltF (tn := 19) rfl rfl (by decide) ?_
          refine wp_iload rfl rfl ?_
          refine wp_iconst rfl ?_
          refine wp_icgeF (tn := 19) rfl rfl (by decide) ?_
          refine wp_iload rfl rfl ?_
          refine wp_iflt (tn := 19) rfl rfl (fun c16 => ?_) (fun c16 => ?_)
          · replace H := H.1 c16
            refine wp_sipush rfl ?_
            refine wp_lret rfl rfl ?_
            show Wp X _ 246 48 [vr 49, vr 37, vi x2, vl x3, vu, vl x5, vu, vi x7, vi 8] [vl 0, vl x3] _ _
            refine wp_ladd rfl ?_
            have g17 := H.1
            replace H := H.2
            refine Wp.topL (y := (x3 + 0)) (w64_I g17) ?_
            refine wp_lstore (L2 := [vr 49, vr 37, vi x2, vl (x3 + 0), vu, vl x5, vu, vi x7, vi 8]) rfl (Nat.le_of_ble_eq_true rfl) rfl ?_
            refine wp_lload rfl rfl ?_
            refine wp_aload rfl rfl ?_
            refine wp_iload rfl rfl ?_
            refine wp_iload rfl rfl ?_
            refine wp_call (k := 240) (ρ2 := 0) (L2 := [vr 49, vi 8, vi x7]) rfl rfl rfl (Nat.le_of_ble_eq_true rfl) (Nat.le_of_ble_eq_true rfl) (Nat.le_of_ble_eq_true rfl) (rcv_V rfl (congrArg Prod.fst (kf_49 X.1))) rfl ?_
            refine wp_iload rfl rfl ?_
            refine wp_ifltF (tn := 19) rfl rfl (by decide) ?_
            refine wp_iload rfl rfl ?_
            refine wp_iconst rfl ?_
            refine wp_icgeF (tn := 19) rfl rfl (by decide) ?_
            refine wp_iload rfl rfl ?_
            refine wp_ifltT (tn := 19) rfl rfl c16 ?_
            refine wp_sipush rfl ?_
            refine wp_lret rfl rfl ?_
            show Wp X _ 246 60 [vr 49, vr 37, vi x2, vl (x3 + 0), vu, vl x5, vu, vi x7, vi 8] [vl 0, vl x5] _ _
            refine wp_ladd rfl ?_
            have g18 := H.1
            replace H := H.2
            refine Wp.topL (y := (x5 + 0)) (w64_I g18) ?_
            refine wp_lstore (L2 := [vr 49, vr 37, vi x2, vl (x3 + 0), vu, vl (x5 + 0), vu, vi x7, vi 8]) rfl (Nat.le_of_ble_eq_true rfl) rfl ?_
            have g19 := H.1
            replace H := H.2
            refine wp_iincR (L2 := [vr 49, vr 37, vi x2, vl (x3 + 0), vu, vl (x5 + 0), vu, vi (x7 + 1), vi 8]) rfl rfl g19 rfl ?_
            refine wp_goto (tn := 14) rfl rfl ?_
            exact H
          · replace H := H.2 c16
            refine wp_iload rfl rfl ?_
            refine wp_iconst rfl ?_
            refine wp_iclt (tn := 21) rfl rfl (fun c20 => ?_) (fun c20 => ?_)
            · replace H := H.1 c20
              refine wp_aload rfl rfl ?_
              refine wp_getR (r := 49) rfl (congrArg Prod.fst (kf_49 X.1)) rfl ?_
              refine wp_iload rfl rfl ?_
              refine wp_laload rfl (kf_50 X.1) (by decide) ?_
              refine wp_aload rfl rfl ?_
              refine wp_getR (r := 51) rfl (congrArg Prod.fst (kf_49 X.1)) rfl ?_
              refine wp_iload rfl rfl ?_
              refine wp_laload rfl (kf_52 X.1) ⟨c16, c20⟩ ?_
              refine wp_land rfl ?_
              refine wp_lret rfl rfl ?_
              show Wp X _ 246 48 [vr 49, vr 37, vi x2, vl x3, vu, vl x5, vu, vi x7, vi 8] [vl ((i64 (h 50 8) &&& i64 (h 52 x7)).toInt), vl x3] _ _
              refine wp_ladd rfl ?_
              have g21 := H.1
              replace H := H.2
              refine Wp.topL (y := (x3 + ((i64 (h 50 8) &&& i64 (h 52 x7)).toInt))) (w64_I g21) ?_
              refine wp_lstore (L2 := [vr 49, vr 37, vi x2, vl (x3 + ((i64 (h 50 8) &&& i64 (h 52 x7)).toInt)), vu, vl x5, vu, vi x7, vi 8]) rfl (Nat.le_of_ble_eq_true rfl) rfl ?_
              refine wp_lload rfl rfl ?_
              refine wp_aload rfl rfl ?_
              refine wp_iload rfl rfl ?_
              refine wp_iload rfl rfl ?_
              refine wp_call (k := 240) (ρ2 := 0) (L2 := [vr 49, vi 8, vi x7]) rfl rfl rfl (Nat.le_of_ble_eq_true rfl) (Nat.le_of_ble_eq_true rfl) (Nat.le_of_ble_eq_true rfl) (rcv_V rfl (congrArg Prod.fst (kf_49 X.1))) rfl ?_
              refine wp_iload rfl rfl ?_
              refine wp_ifltF (tn := 19) rfl rfl (by decide) ?_
              refine wp_iload rfl rfl ?_
              refine wp_iconst rfl ?_
              refine wp_icgeF (tn := 19) rfl rfl (by decide) ?_
              refine wp_iload rfl rfl ?_
              refine wp_ifltF (tn := 19) rfl rfl c16 ?_
              refine wp_iload rfl rfl ?_
              refine wp_iconst rfl ?_
              refine wp_icltT (tn := 21) rfl rfl c20 ?_
              refine wp_aload rfl rfl ?_
              refine wp_getR (r := 50) rfl (congrArg Prod.fst (kf_49 X.1)) rfl ?_
              refine wp_iload rfl rfl ?_
              refine wp_laload rfl (kf_51 X.1) (by decide) ?_
              refine wp_aload rfl rfl ?_
              refine wp_getR (r := 51) rfl (congrArg Prod.fst (kf_49 X.1)) rfl ?_
              refine wp_iload rfl rfl ?_
              refine wp_laload rfl (kf_52 X.1) ⟨c16, c20⟩ ?_
              refine wp_land rfl ?_
              refine wp_lret rfl rfl ?_
              show Wp X _ 246 60 [vr 49, vr 37, vi x2, vl (x3 + ((i64 (h 50 8) &&& i64 (h 52 x7)).toInt)), vu, vl x5, vu, vi x7, vi 8] [vl ((i64 (h 51 8) &&& i64 (h 52 x7)).toInt), vl x5] _ _
              refine wp_ladd rfl ?_
              have g22 := H.1
              replace H := H.2
              refine Wp.topL (y := (x5 + ((i64 (h 51 8) &&& i64 (h 52 x7)).toInt))) (w64_I g22) ?_
              refine wp_lstore (L2 := [vr 49, vr 37, vi x2, vl (x3 + ((i64 (h 50 8) &&& i64 (h 52 x7)).toInt)), vu, vl (x5 + ((i64 (h 51 8) &&& i64 (h 52 x7)).toInt)), vu, vi x7, vi 8]) rfl (Nat.le_of_ble_eq_true rfl) rfl ?_
              refine wp_iincR (L2 := [vr 49, vr 37, vi x2, vl (x3 + ((i64 (h 50 8) &&& i64 (h 52 x7)).toInt)), vu, vl (x5 + ((i64 (h 51 8) &&& i64 (h 52 x7)).toInt)), vu, vi (x7 + 1), vi 8]) rfl rfl (by clear H; unfold R32; omega) rfl ?_
              refine wp_goto (tn := 14) rfl rfl ?_
              exact H
            · replace H := H.2 c20
              refine wp_sipush rfl ?_
              refine wp_lret rfl rfl ?_
              show Wp X _ 246 48 [vr 49, vr 37, vi x2, vl x3, vu, vl x5, vu, vi x7, vi 8] [vl 0, vl x3] _ _
              refine wp_ladd rfl ?_
              have g23 := H.1
              replace H := H.2
              refine Wp.topL (y := (x3 + 0)) (w64_I g23) ?_
              refine wp_lstore (L2 := [vr 49, vr 37, vi x2, vl (x3 + 0), vu, vl x5, vu, vi x7, vi 8]) rfl (Nat.le_of_ble_eq_true rfl) rfl ?_
              refine wp_lload rfl rfl ?_
              refine wp_aload rfl rfl ?_
              refine wp_iload rfl rfl ?_
              refine wp_iload rfl rfl ?_
              refine wp_call (k := 240) (ρ2 := 0) (L2 := [vr 49, vi 8, vi x7]) rfl rfl rfl (Nat.le_of_ble_eq_true rfl) (Nat.le_of_ble_eq_true rfl) (Nat.le_of_ble_eq_true rfl) (rcv_V rfl (congrArg Prod.fst (kf_49 X.1))) rfl ?_
              refine wp_iload rfl rfl ?_
              refine wp_ifltF (tn := 19) rfl rfl (by decide) ?_
              refine wp_iload rfl rfl ?_
              refine wp_iconst rfl ?_
              refine wp_icgeF (tn := 19) rfl rfl (by decide) ?_
              refine wp_iload rfl rfl ?_
              refine wp_ifltF (tn := 19) rfl rfl c16 ?_
              refine wp_iload rfl rfl ?_
              refine wp_iconst rfl ?_
              refine wp_icltF (tn := 21) rfl rfl c20 ?_
              refine wp_sipush rfl ?_
              refine wp_lret rfl rfl ?_
              show Wp X _ 246 60 [vr 49, vr 37, vi x2, vl (x3 + 0), vu, vl x5, vu, vi x7, vi 8] [vl 0, vl x5] _ _
              refine wp_ladd rfl ?_
              have g24 := H.1
              replace H := H.2
              refine Wp.topL (y := (x5 + 0)) (w64_I g24) ?_
              refine wp_lstore (L2 := [vr 49, vr 37, vi x2, vl (x3 + 0), vu, vl (x5 + 0), vu, vi x7, vi 8]) rfl (Nat.le_of_ble_eq_true rfl) rfl ?_
              have g25 := H.1
              replace H := H.2
              refine wp_iincR (L2 := [vr 49, vr 37, vi x2, vl (x3 + 0), vu, vl (x5 + 0), vu, vi (x7 + 1), vi 8]) rfl rfl g25 rfl ?_
              refine wp_goto (tn := 14) rfl rfl ?_
              exact H
        · replace H := H.2 c15
          refine wp_iconst rfl ?_
          refine wp_goto (tn := 17) rfl rfl ?_
          refine wp_zret rfl rfl (by decide) ?_
          show Wp X _ 192 5 [vr 37, vi (x2 - x7)] [vi 1] _ _
          refine wp_ifeqF (tn := 17) rfl rfl (by decide) ?_
          refine wp_aload rfl rfl ?_
          refine wp_getR (r := 39) rfl (congrArg Prod.fst (kf_37 X.1)) rfl ?_
          refine wp_iload rfl rfl ?_
          have g26 := H.1
          replace H := H.2
          refine wp_iaload rfl (kf_40 X.1) g26 ?_
          refine wp_goto (tn := 19) rfl rfl ?_
          refine wp_iret rfl rfl ?_
          show Wp X _ 246 37 [vr 49, vr 37, vi x2, vl x3, vu, vl x5, vu, vi x7, zx8] [vi (h 40 (x2 - x7))] _ _
          refine wp_istore (L2 := [vr 49, vr 37, vi x2, vl x3, vu, vl x5, vu, vi x7, vi (h 40 (x2 - x7))]) rfl (Nat.le_of_ble_eq_true rfl) rfl ?_
          refine wp_lload rfl rfl ?_
          refine wp_aload rfl rfl ?_
          refine wp_iload rfl rfl ?_
          refine wp_iload rfl rfl ?_
          refine wp_call (k := 239) (ρ2 := 0) (L2 := [vr 49, vi (h 40 (x2 - x7)), vi x7]) rfl rfl rfl (Nat.le_of_ble_eq_true rfl) (Nat.le_of_ble_eq_true rfl) (Nat.le_of_ble_eq_true rfl) (rcv_V rfl (congrArg Prod.fst (kf_49 X.1))) rfl ?_
          refine wp_iload rfl rfl ?_
          refine wp_iflt (tn := 19) rfl rfl (fun c27 => ?_) (fun c27 => ?_)
          · replace H := H.1 c27
            refine wp_sipush rfl ?_
            refine wp_lret rfl rfl ?_
            show Wp X _ 246 48 [vr 49, vr 37, vi x2, vl x3, vu, vl x5, vu, vi x7, vi (h 40 (x2 - x7))] [vl 0, vl x3] _ _
            refine wp_ladd rfl ?_
            have g28 := H.1
            replace H := H.2
            refine Wp.topL (y := (x3 + 0)) (w64_I g28) ?_
            refine wp_lstore (L2 := [vr 49, vr 37, vi x2, vl (x3 + 0), vu, vl x5, vu, vi x7, vi (h 40 (x2 - x7))]) rfl (Nat.le_of_ble_eq_true rfl) rfl ?_
            refine wp_lload rfl rfl ?_
            refine wp_aload rfl rfl ?_
            refine wp_iload rfl rfl ?_
            refine wp_iload rfl rfl ?_
            refine wp_call (k := 240) (ρ2 := 0) (L2 := [vr 49, vi (h 40 (x2 - x7)), vi x7]) rfl rfl rfl (Nat.le_of_ble_eq_true rfl) (Nat.le_of_ble_eq_true rfl) (Nat.le_of_ble_eq_true rfl) (rcv_V rfl (congrArg Prod.fst (kf_49 X.1))) rfl ?_
            refine wp_iload rfl rfl ?_
            refine wp_ifltT (tn := 19) rfl rfl c27 ?_
            refine wp_sipush rfl ?_
            refine wp_lret rfl rfl ?_
            show Wp X _ 246 60 [vr 49, vr 37, vi x2, vl (x3 + 0), vu, vl x5, vu, vi x7, vi (h 40 (x2 - x7))] [vl 0, vl x5] _ _
            refine wp_ladd rfl ?_
            have g29 := H.1
            replace H := H.2
            refine Wp.topL (y := (x5 + 0)) (w64_I g29) ?_
            refine wp_lstore (L2 := [vr 49, vr 37, vi x2, vl (x3 + 0), vu, vl (x5 + 0), vu, vi x7, vi (h 40 (x2 - x7))]) rfl (Nat.le_of_ble_eq_true rfl) rfl ?_
            have g30 := H.1
            replace H := H.2
            refine wp_iincR (L2 := [vr 49, vr 37, vi x2, vl (x3 + 0), vu, vl (x5 + 0), vu, vi (x7 + 1), vi (h 40 (x2 - x7))]) rfl rfl g30 rfl ?_
            refine wp_goto (tn := 14) rfl rfl ?_
            exact H
          · replace H := H.2 c27
            refine wp_iload rfl rfl ?_
            refine wp_iconst rfl ?_
            refine wp_icge (tn := 19) rfl rfl (fun c31 => ?_) (fun c31 => ?_)
            · replace H := H.1 c31
              refine wp_sipush rfl ?_
              refine wp_lret rfl rfl ?_
              show Wp X _ 246 48 [vr 49, vr 37, vi x2, vl x3, vu, vl x5, vu, vi x7, vi (h 40 (x2 - x7))] [vl 0, vl x3] _ _
              refine wp_ladd rfl ?_
              have g32 := H.1
              replace H := H.2
              refine Wp.topL (y := (x3 + 0)) (w64_I g32) ?_
              refine wp_lstore (L2 := [vr 49, vr 37, vi x2, vl (x3 + 0), vu, vl x5, vu, vi x7, vi (h 40 (x2 - x7))]) rfl (Nat.le_of_ble_eq_true rfl) rfl ?_
              refine wp_lload rfl rfl ?_
              refine wp_aload rfl rfl ?_
              refine wp_iload rfl rfl ?_
              refine wp_iload rfl rfl ?_
              refine wp_call (k := 240) (ρ2 := 0) (L2 := [vr 49, vi (h 40 (x2 - x7)), vi x7]) rfl rfl rfl (Nat.le_of_ble_eq_true rfl) (Nat.le_of_ble_eq_true rfl) (Nat.le_of_ble_eq_true rfl) (rcv_V rfl (congrArg Prod.fst (kf_49 X.1))) rfl ?_
              refine wp_iload rfl rfl ?_
              refine wp_ifltF (tn := 19) rfl rfl c27 ?_
              refine wp_iload rfl rfl ?_
              refine wp_iconst rfl ?_
              refine wp_icgeT (tn := 19) rfl rfl c31 ?_
              refine wp_sipush rfl ?_
              refine wp_lret rfl rfl ?_
              show Wp X _ 246 60 [vr 49, vr 37, vi x2, vl (x3 + 0), vu, vl x5, vu, vi x7, vi (h 40 (x2 - x7))] [vl 0, vl x5] _ _
              refine wp_ladd rfl ?_
              have g33 := H.1
              replace H := H.2
              refine Wp.topL (y := (x5 + 0)) (w64_I g33) ?_
              refine wp_lstore (L2 := [vr 49, vr 37, vi x2, vl (x3 + 0), vu, vl (x5 + 0), vu, vi x7, vi (h 40 (x2 - x7))]) rfl (Nat.le_of_ble_eq_true rfl) rfl ?_
              have g34 := H.1
              replace H := H.2
              refine wp_iincR (L2 := [vr 49, vr 37, vi x2, vl (x3 + 0), vu, vl (x5 + 0), vu, vi (x7 + 1), vi (h 40 (x2 - x7))]) rfl rfl g34 rfl ?_
              refine wp_goto (tn := 14) rfl rfl ?_
              exact H
            · replace H := H.2 c31
              refine wp_iload rfl rfl ?_
              refine wp_iflt (tn := 19) rfl rfl (fun c35 => ?_) (fun c35 => ?_)
              · replace H := H.1 c35
                refine wp_sipush rfl ?_
                refine wp_lret rfl rfl ?_
                show Wp X _ 246 48 [vr 49, vr 37, vi x2, vl x3, vu, vl x5, vu, vi x7, vi (h 40 (x2 - x7))] [vl 0, vl x3] _ _
                refine wp_ladd rfl ?_
                have g36 := H.1
                replace H := H.2
                refine Wp.topL (y := (x3 + 0)) (w64_I g36) ?_
                refine wp_lstore (L2 := [vr 49, vr 37, vi x2, vl (x3 + 0), vu, vl x5, vu, vi x7, vi (h 40 (x2 - x7))]) rfl (Nat.le_of_ble_eq_true rfl) rfl ?_
                refine wp_lload rfl rfl ?_
                refine wp_aload rfl rfl ?_
                refine wp_iload rfl rfl ?_
                refine wp_iload rfl rfl ?_
                refine wp_call (k := 240) (ρ2 := 0) (L2 := [vr 49, vi (h 40 (x2 - x7)), vi x7]) rfl rfl rfl (Nat.le_of_ble_eq_true rfl) (Nat.le_of_ble_eq_true rfl) (Nat.le_of_ble_eq_true rfl) (rcv_V rfl (congrArg Prod.fst (kf_49 X.1))) rfl ?_
                refine wp_iload rfl rfl ?_
                refine wp_ifltF (tn := 19) rfl rfl c27 ?_
                refine wp_iload rfl rfl ?_
                refine wp_iconst rfl ?_
                refine wp_icgeF (tn := 19) rfl rfl c31 ?_
                refine wp_iload rfl rfl ?_
                refine wp_ifltT (tn := 19) rfl rfl c35 ?_
                refine wp_sipush rfl ?_
                refine wp_lret rfl rfl ?_
                show Wp X _ 246 60 [vr 49, vr 37, vi x2, vl (x3 + 0), vu, vl x5, vu, vi x7, vi (h 40 (x2 - x7))] [vl 0, vl x5] _ _
                refine wp_ladd rfl ?_
                have g37 := H.1
                replace H := H.2
                refine Wp.topL (y := (x5 + 0)) (w64_I g37) ?_
                refine wp_lstore (L2 := [vr 49, vr 37, vi x2, vl (x3 + 0), vu, vl (x5 + 0), vu, vi x7, vi (h 40 (x2 - x7))]) rfl (Nat.le_of_ble_eq_true rfl) rfl ?_
                have g38 := H.1
                replace H := H.2
                refine wp_iincR (L2 := [vr 49, vr 37, vi x2, vl (x3 + 0), vu, vl (x5 + 0), vu, vi (x7 + 1), vi (h 40 (x2 - x7))]) rfl rfl g38 rfl ?_
                refine wp_goto (tn := 14) rfl rfl ?_
                exact H
              · replace H := H.2 c35
                refine wp_iload rfl rfl ?_
                refine wp_iconst rfl ?_
                refine wp_iclt (tn := 21) rfl rfl (fun c39 => ?_) (fun c39 => ?_)
                · replace H := H.1 c39
                  refine wp_aload rfl rfl ?_
                  refine wp_getR (r := 49) rfl (congrArg Prod.fst (kf_49 X.1)) rfl ?_
                  refine wp_iload rfl rfl ?_
                  refine wp_laload rfl (kf_50 X.1) ⟨c27, c31⟩ ?_
                  refine wp_aload rfl rfl ?_
                  refine wp_getR (r := 51) rfl (congrArg Prod.fst (kf_49 X.1)) rfl ?_
                  refine wp_iload rfl rfl ?_
                  refine wp_laload rfl (kf_52 X.1) ⟨c35, c39⟩ ?_
                  refine wp_land rfl ?_
                  refine wp_lret rfl rfl ?_
                  show Wp X _ 246 48 [vr 49, vr 37, vi x2, vl x3, vu, vl x5, vu, vi x7, vi (h 40 (x2 - x7))] [vl ((i64 (h 50 (h 40 (x2 - x7))) &&& i64 (h 52 x7)).toInt), vl x3] _ _
                  refine wp_ladd rfl ?_
                  have g40 := H.1
                  replace H := H.2
                  refine Wp.topL (y := (x3 + ((i64 (h 50 (h 40 (x2 - x7))) &&& i64 (h 52 x7)).toInt))) (w64_I g40) ?_
                  refine wp_lstore (L2 := [vr 49, vr 37, vi x2, vl (x3 + ((i64 (h 50 (h 40 (x2 - x7))) &&& i64 (h 52 x7)).toInt)), vu, vl x5, vu, vi x7, vi (h 40 (x2 - x7))]) rfl (Nat.le_of_ble_eq_true rfl) rfl ?_
                  refine wp_lload rfl rfl ?_
                  refine wp_aload rfl rfl ?_
                  refine wp_iload rfl rfl ?_
                  refine wp_iload rfl rfl ?_
                  refine wp_call (k := 240) (ρ2 := 0) (L2 := [vr 49, vi (h 40 (x2 - x7)), vi x7]) rfl rfl rfl (Nat.le_of_ble_eq_true rfl) (Nat.le_of_ble_eq_true rfl) (Nat.le_of_ble_eq_true rfl) (rcv_V rfl (congrArg Prod.fst (kf_49 X.1))) rfl ?_
                  refine wp_iload rfl rfl ?_
                  refine wp_ifltF (tn := 19) rfl rfl c27 ?_
                  refine wp_iload rfl rfl ?_
                  refine wp_iconst rfl ?_
                  refine wp_icgeF (tn := 19) rfl rfl c31 ?_
                  refine wp_iload rfl rfl ?_
                  refine wp_ifltF (tn := 19) rfl rfl c35 ?_
                  refine wp_iload rfl rfl ?_
                  refine wp_iconst rfl ?_
                  refine wp_icltT (tn := 21) rfl rfl c39 ?_
                  refine wp_aload rfl rfl ?_
                  refine wp_getR (r := 50) rfl (congrArg Prod.fst (kf_49 X.1)) rfl ?_
                  refine wp_iload rfl rfl ?_
                  refine wp_laload rfl (kf_51 X.1) ⟨c27, c31⟩ ?_
                  refine wp_aload rfl rfl ?_
                  refine wp_getR (r := 51) rfl (congrArg Prod.fst (kf_49 X.1)) rfl ?_
                  refine wp_iload rfl rfl ?_
                  refine wp_laload rfl (kf_52 X.1) ⟨c35, c39⟩ ?_
                  refine wp_land rfl ?_
                  refine wp_lret rfl rfl ?_
                  show Wp X _ 246 60 [vr 49, vr 37, vi x2, vl (x3 + ((i64 (h 50 (h 40 (x2 - x7))) &&& i64 (h 52 x7)).toInt)), vu, vl x5, vu, vi x7, vi (h 40 (x2 - x7))] [vl ((i64 (h 51 (h 40 (x2 - x7))) &&& i64 (h 52 x7)).toInt), vl x5] _ _
                  refine wp_ladd rfl ?_
                  have g41 := H.1
                  replace H := H.2
                  refine Wp.topL (y := (x5 + ((i64 (h 51 (h 40 (x2 - x7))) &&& i64 (h 52 x7)).toInt))) (w64_I g41) ?_
                  refine wp_lstore (L2 := [vr 49, vr 37, vi x2, vl (x3 + ((i64 (h 50 (h 40 (x2 - x7))) &&& i64 (h 52 x7)).toInt)), vu, vl (x5 + ((i64 (h 51 (h 40 (x2 - x7))) &&& i64 (h 52 x7)).toInt)), vu, vi x7, vi (h 40 (x2 - x7))]) rfl (Nat.le_of_ble_eq_true rfl) rfl ?_
                  refine wp_iincR (L2 := [vr 49, vr 37, vi x2, vl (x3 + ((i64 (h 50 (h 40 (x2 - x7))) &&& i64 (h 52 x7)).toInt)), vu, vl (x5 + ((i64 (h 51 (h 40 (x2 - x7))) &&& i64 (h 52 x7)).toInt)), vu, vi (x7 + 1), vi (h 40 (x2 - x7))]) rfl rfl (by clear H; unfold R32; omega) rfl ?_
                  refine wp_goto (tn := 14) rfl rfl ?_
                  exact H
                · replace H := H.2 c39
                  refine wp_sipush rfl ?_
                  refine wp_lret rfl rfl ?_
                  show Wp X _ 246 48 [vr 49, vr 37, vi x2, vl x3, vu, vl x5, vu, vi x7, vi (h 40 (x2 - x7))] [vl 0, vl x3] _ _
                  refine wp_ladd rfl ?_
                  have g42 := H.1
                  replace H := H.2
                  refine Wp.topL (y := (x3 + 0)) (w64_I g42) ?_
                  refine wp_lstore (L2 := [vr 49, vr 37, vi x2, vl (x3 + 0), vu, vl x5, vu, vi x7, vi (h 40 (x2 - x7))]) rfl (Nat.le_of_ble_eq_true rfl) rfl ?_
                  refine wp_lload rfl rfl ?_
                  refine wp_aload rfl rfl ?_
                  refine wp_iload rfl rfl ?_
                  refine wp_iload rfl rfl ?_
                  refine wp_call (k := 240) (ρ2 := 0) (L2 := [vr 49, vi (h 40 (x2 - x7)), vi x7]) rfl rfl rfl (Nat.le_of_ble_eq_true rfl) (Nat.le_of_ble_eq_true rfl) (Nat.le_of_ble_eq_true rfl) (rcv_V rfl (congrArg Prod.fst (kf_49 X.1))) rfl ?_
                  refine wp_iload rfl rfl ?_
                  refine wp_ifltF (tn := 19) rfl rfl c27 ?_
                  refine wp_iload rfl rfl ?_
                  refine wp_iconst rfl ?_
                  refine wp_icgeF (tn := 19) rfl rfl c31 ?_
                  refine wp_iload rfl rfl ?_
                  refine wp_ifltF (tn := 19) rfl rfl c35 ?_
                  refine wp_iload rfl rfl ?_
                  refine wp_iconst rfl ?_
                  refine wp_icltF (tn := 21) rfl rfl c39 ?_
                  refine wp_sipush rfl ?_
                  refine wp_lret rfl rfl ?_
                  show Wp X _ 246 60 [vr 49, vr 37, vi x2, vl (x3 + 0), vu, vl x5, vu, vi x7, vi (h 40 (x2 - x7))] [vl 0, vl x5] _ _
                  refine wp_ladd rfl ?_
                  have g43 := H.1
                  replace H := H.2
                  refine Wp.topL (y := (x5 + 0)) (w64_I g43) ?_
                  refine wp_lstore (L2 := [vr 49, vr 37, vi x2, vl (x3 + 0), vu, vl (x5 + 0), vu, vi x7, vi (h 40 (x2 - x7))]) rfl (Nat.le_of_ble_eq_true rfl) rfl ?_
                  have g44 := H.1
                  replace H := H.2
                  refine wp_iincR (L2 := [vr 49, vr 37, vi x2, vl (x3 + 0), vu, vl (x5 + 0), vu, vi (x7 + 1), vi (h 40 (x2 - x7))]) rfl rfl g44 rfl ?_
                  refine wp_goto (tn := 14) rfl rfl ?_
                  exact H
/-- ZoneRules.reachedAt(L$Row;I)J, from 0 -/
theorem S246_49_62_0 {X : Nat × (Int → Int)} {h : HP} {Q : bQ} (x2 : Int) (H : Wp X 2 246 14 [vr 49, vr 62, vi x2, vl (h 49 3), vu, vl (h 49 3), vu, vi 0, vu] [] h Q) : Wp X 2 246 0 [vr 49, vr 62, vi x2, vu, vu, vu, vu, vu, vu] [] h Q := by
  refine wp_aload rfl rfl ?_
  refine wp_getL (j := 3) rfl (congrArg Prod.fst (kf_49 X.1)) rfl ?_
  refine wp_lstore (L2 := [vr 49, vr 62, vi x2, vl (h 49 3), vu, vu, vu, vu, vu]) rfl (Nat.le_of_ble_eq_true rfl) rfl ?_
  refine wp_aload rfl rfl ?_
  refine wp_getL (j := 3) rfl (congrArg Prod.fst (kf_49 X.1)) rfl ?_
  refine wp_lstore (L2 := [vr 49, vr 62, vi x2, vl (h 49 3), vu, vl (h 49 3), vu, vu, vu]) rfl (Nat.le_of_ble_eq_true rfl) rfl ?_
  refine wp_iconst rfl ?_
  refine wp_istore (L2 := [vr 49, vr 62, vi x2, vl (h 49 3), vu, vl (h 49 3), vu, vi 0, vu]) rfl (Nat.le_of_ble_eq_true rfl) rfl ?_
  exact H
/-- ZoneRules.reachedAt(L$Row;I)J, from 14 -/
theorem S246_49_62_14 {X : Nat × (Int → Int)} {h : HP} {Q : bQ} (x2 : Int) (x3 : Int) (x5 : Int) (x7 : Int) (zx8 : aV) (H : (((h 49 4) ≤ x7 → Q (some (vl ((i64 ((i64 x3 ||| i64 x5).toInt) &&& i64 (-9187201950435737472)).toInt))) h) ∧ (x7 < (h 49 4) → ((x2 < x7 → Q (some (vl ((i64 ((i64 x3 ||| i64 x5).toInt) &&& i64 (-9187201950435737472)).toInt))) h) ∧ (x7 ≤ x2 → ((R32 (x2 - x7)) ∧ (((x2 - x7) < 0 → ((x7 < 0 → ((R64 (x3 + 0)) ∧ ((R64 (x5 + 0)) ∧ ((R32 (x7 + 1)) ∧ Wp X 2 246 14 [vr 49, vr 62, vi x2, vl (x3 + 0), vu, vl (x5 + 0), vu, vi (x7 + 1), vi 8] [] h Q)))) ∧ (0 ≤ x7 → ((x7 < 5 → ((R64 (x3 + ((i64 (h 50 8) &&& i64 (h 52 x7)).toInt))) ∧ ((R64 (x5 + ((i64 (h 51 8) &&& i64 (h 52 x7)).toInt))) ∧ Wp X 2 246 14 [vr 49, vr 62, vi x2, vl (x3 + ((i64 (h 50 8) &&& i64 (h 52 x7)).toInt)), vu, vl (x5 + ((i64 (h 51 8) &&& i64 (h 52 x7)).toInt)), vu, vi (x7 + 1), vi 8] [] h Q))) ∧ (5 ≤ x7 → ((R64 (x3 + 0)) ∧ ((R64 (x5 + 0)) ∧ ((R32 (x7 + 1)) ∧ Wp X 2 246 14 [vr 49, vr 62, vi x2, vl (x3 + 0), vu, vl (x5 + 0), vu, vi (x7 + 1), vi 8] [] h Q)))))))) ∧ (0 ≤ (x2 - x7) → (((h 62 6) ≤ (x2 - x7) → ((x7 < 0 → ((R64 (x3 + 0)) ∧ ((R64 (x5 + 0)) ∧ ((R32 (x7 + 1)) ∧ Wp X 2 246 14 [vr 49, vr 62, vi x2, vl (x3 + 0), vu, vl (x5 + 0), vu, vi (x7 + 1), vi 8] [] h Q)))) ∧ (0 ≤ x7 → ((x7 < 5 → ((R64 (x3 + ((i64 (h 50 8) &&& i64 (h 52 x7)).toInt))) ∧ ((R64 (x5 + ((i64 (h 51 8) &&& i64 (h 52 x7)).toInt))) ∧ Wp X 2 246 14 [vr 49, vr 62, vi x2, vl (x3 + ((i64 (h 50 8) &&& i64 (h 52 x7)).toInt)), vu, vl (x5 + ((i64 (h 51 8) &&& i64 (h 52 x7)).toInt)), vu, vi (x7 + 1), vi 8] [] h Q))) ∧ (5 ≤ x7 → ((R64 (x3 + 0)) ∧ ((R64 (x5 + 0)) ∧ ((R32 (x7 + 1)) ∧ Wp X 2 246 14 [vr 49, vr 62, vi x2, vl (x3 + 0), vu, vl (x5 + 0), vu, vi (x7 + 1), vi 8] [] h Q)))))))) ∧ ((x2 - x7) < (h 62 6) → ((0 ≤ (x2 - x7) ∧ (x2 - x7) < 20) ∧ (((h 65 (x2 - x7)) < 0 → ((R64 (x3 + 0)) ∧ ((R64 (x5 + 0)) ∧ ((R32 (x7 + 1)) ∧ Wp X 2 246 14 [vr 49, vr 62, vi x2, vl (x3 + 0), vu, vl (x5 + 0), vu, vi (x7 + 1), vi (h 65 (x2 - x7))] [] h Q)))) ∧ (0 ≤ (h 65 (x2 - x7)) → ((9 ≤ (h 65 (x2 - x7)) → ((R64 (x3 + 0)) ∧ ((R64 (x5 + 0)) ∧ ((R32 (x7 + 1)) ∧ Wp X 2 246 14 [vr 49, vr 62, vi x2, vl (x3 + 0), vu, vl (x5 + 0), vu, vi (x7 + 1), vi (h 65 (x2 - x7))] [] h Q)))) ∧ ((h 65 (x2 - x7)) < 9 → ((x7 < 0 → ((R64 (x3 + 0)) ∧ ((R64 (x5 + 0)) ∧ ((R32 (x7 + 1)) ∧ Wp X 2 246 14 [vr 49, vr 62, vi x2, vl (x3 + 0), vu, vl (x5 + 0), vu, vi (x7 + 1), vi (h 65 (x2 - x7))] [] h Q)))) ∧ (0 ≤ x7 → ((x7 < 5 → ((R64 (x3 + ((i64 (h 50 (h 65 (x2 - x7))) &&& i64 (h 52 x7)).toInt))) ∧ ((R64 (x5 + ((i64 (h 51 (h 65 (x2 - x7))) &&& i64 (h 52 x7)).toInt))) ∧ Wp X 2 246 14 [vr 49, vr 62, vi x2, vl (x3 + ((i64 (h 50 (h 65 (x2 - x7))) &&& i64 (h 52 x7)).toInt)), vu, vl (x5 + ((i64 (h 51 (h 65 (x2 - x7))) &&& i64 (h 52 x7)).toInt)), vu, vi (x7 + 1), vi (h 65 (x2 - x7))] [] h Q))) ∧ (5 ≤ x7 → ((R64 (x3 + 0)) ∧ ((R64 (x5 + 0)) ∧ ((R32 (x7 + 1)) ∧ Wp X 2 246 14 [vr 49, vr 62, vi x2, vl (x3 + 0), vu, vl (x5 + 0), vu, vi (x7 + 1), vi (h 65 (x2 - x7))] [] h Q)))))))))))))))))))))) : Wp X 2 246 14 [vr 49, vr 62, vi x2, vl x3, vu, vl x5, vu, vi x7, zx8] [] h Q := by
  refine wp_iload rfl rfl ?_
  refine wp_aload rfl rfl ?_
  refine wp_getI (j := 4) rfl (congrArg Prod.fst (kf_49 X.1)) rfl ?_
  refine wp_icge (tn := 69) rfl rfl (fun c1 => ?_) (fun c1 => ?_)
  · replace H := H.1 c1
    refine wp_lload rfl rfl ?_
    refine wp_lload rfl rfl ?_
    refine wp_lor rfl ?_
    refine wp_sipush rfl ?_
    refine wp_land rfl ?_
    exact wp_lret rfl rfl H
  · replace H := H.2 c1
    refine wp_iload rfl rfl ?_
    refine wp_iload rfl rfl ?_
    refine wp_icgt (tn := 69) rfl rfl (fun c2 => ?_) (fun c2 => ?_)
    · replace H := H.1 c2
      refine wp_lload rfl rfl ?_
      refine wp_lload rfl rfl ?_
      refine wp_lor rfl ?_
      refine wp_sipush rfl ?_
      refine wp_land rfl ?_
      exact wp_lret rfl rfl H
    · replace H := H.2 c2
      refine wp_aload rfl rfl ?_
      refine wp_iload rfl rfl ?_
      refine wp_iload rfl rfl ?_
      refine wp_isub rfl ?_
      have g3 := H.1
      replace H := H.2
      refine Wp.topI (y := (x2 - x7)) (w32_I g3) ?_
      refine wp_call (k := 192) (ρ2 := 1) (L2 := [vr 62, vi (x2 - x7)]) rfl rfl rfl (Nat.le_of_ble_eq_true rfl) (Nat.le_of_ble_eq_true rfl) (Nat.le_of_ble_eq_true rfl) (rcv_V rfl (congrArg Prod.fst (kf_62 X.1))) rfl ?_
      refine wp_aload rfl rfl ?_
      refine wp_iload rfl rfl ?_
      refine wp_call (k := 189) (ρ2 := 0) (L2 := [vr 62, vi (x2 - x7)]) rfl rfl rfl (Nat.le_of_ble_eq_true rfl) (Nat.le_of_ble_eq_true rfl) (Nat.le_of_ble_eq_true rfl) (rcv_V rfl (congrArg Prod.fst (kf_62 X.1))) rfl ?_
      refine wp_iload rfl rfl ?_
      refine wp_iflt (tn := 16) rfl rfl (fun c4 => ?_) (fun c4 => ?_)
      · replace H := H.1 c4
        refine wp_iconst rfl ?_
        refine wp_zret rfl rfl (by decide) ?_
        show Wp X _ 192 5 [vr 62, vi (x2 - x7)] [vi 0] _ _
        refine wp_ifeqT (tn := 17) rfl rfl (by decide) ?_
        refine wp_iconst rfl ?_
        refine wp_iret rfl rfl ?_
        show Wp X _ 246 37 [vr 49, vr 62, vi x2, vl x3, vu, vl x5, vu, vi x7, zx8] [vi 8] _ _
        refine wp_istore (L2 := [vr 49, vr 62, vi x2, vl x3, vu, vl x5, vu, vi x7, vi 8]) rfl (Nat.le_of_ble_eq_true rfl) rfl ?_
        refine wp_lload rfl rfl ?_
        refine wp_aload rfl rfl ?_
        refine wp_iload rfl rfl ?_
        refine wp_iload rfl rfl ?_
        refine wp_call (k := 239) (ρ2 := 0) (L2 := [vr 49, vi 8, vi x7]) rfl rfl rfl (Nat.le_of_ble_eq_true rfl) (Nat.le_of_ble_eq_true rfl) (Nat.le_of_ble_eq_true rfl) (rcv_V rfl (congrArg Prod.fst (kf_49 X.1))) rfl ?_
        refine wp_iload rfl rfl ?_
        refine wp_ifltF (tn := 19) rfl rfl (by decide) ?_
        refine wp_iload rfl rfl ?_
        refine wp_iconst rfl ?_
        refine wp_icgeF (tn := 19) rfl rfl (by decide) ?_
        refine wp_iload rfl rfl ?_
        refine wp_iflt (tn := 19) rfl rfl (fun c5 => ?_) (fun c5 => ?_)
        · replace H := H.1 c5
          refine wp_sipush rfl ?_
          refine wp_lret rfl rfl ?_
          show Wp X _ 246 48 [vr 49, vr 62, vi x2, vl x3, vu, vl x5, vu, vi x7, vi 8] [vl 0, vl x3] _ _
          refine wp_ladd rfl ?_
          have g6 := H.1
          replace H := H.2
          refine Wp.topL (y := (x3 + 0)) (w64_I g6) ?_
          refine wp_lstore (L2 := [vr 49, vr 62, vi x2, vl (x3 + 0), vu, vl x5, vu, vi x7, vi 8]) rfl (Nat.le_of_ble_eq_true rfl) rfl ?_
          refine wp_lload rfl rfl ?_
          refine wp_aload rfl rfl ?_
          refine wp_iload rfl rfl ?_
          refine wp_iload rfl rfl ?_
          refine wp_call (k := 240) (ρ2 := 0) (L2 := [vr 49, vi 8, vi x7]) rfl rfl rfl (Nat.le_of_ble_eq_true rfl) (Nat.le_of_ble_eq_true rfl) (Nat.le_of_ble_eq_true rfl) (rcv_V rfl (congrArg Prod.fst (kf_49 X.1))) rfl ?_
          refine wp_iload rfl rfl ?_
          refine wp_ifltF (tn := 19) rfl rfl (by decide) ?_
          refine wp_iload rfl rfl ?_
          refine wp_iconst rfl ?_
          refine wp_icgeF (tn := 19) rfl rfl (by decide) ?_
          refine wp_iload rfl rfl ?_
          refine wp_ifltT (tn := 19) rfl rfl c5 ?_
          refine wp_sipush rfl ?_
          refine wp_lret rfl rfl ?_
          show Wp X _ 246 60 [vr 49, vr 62, vi x2, vl (x3 + 0), vu, vl x5, vu, vi x7, vi 8] [vl 0, vl x5] _ _
          refine wp_ladd rfl ?_
          have g7 := H.1
          replace H := H.2
          refine Wp.topL (y := (x5 + 0)) (w64_I g7) ?_
          refine wp_lstore (L2 := [vr 49, vr 62, vi x2, vl (x3 + 0), vu, vl (x5 + 0), vu, vi x7, vi 8]) rfl (Nat.le_of_ble_eq_true rfl) rfl ?_
          have g8 := H.1
          replace H := H.2
          refine wp_iincR (L2 := [vr 49, vr 62, vi x2, vl (x3 + 0), vu, vl (x5 + 0), vu, vi (x7 + 1), vi 8]) rfl rfl g8 rfl ?_
          refine wp_goto (tn := 14) rfl rfl ?_
          exact H
        · replace H := H.2 c5
          refine wp_iload rfl rfl ?_
          refine wp_iconst rfl ?_
          refine wp_iclt (tn := 21) rfl rfl (fun c9 => ?_) (fun c9 => ?_)
          · replace H := H.1 c9
            refine wp_aload rfl rfl ?_
            refine wp_getR (r := 49) rfl (congrArg Prod.fst (kf_49 X.1)) rfl ?_
            refine wp_iload rfl rfl ?_
            refine wp_laload rfl (kf_50 X.1) (by decide) ?_
            refine wp_aload rfl rfl ?_
            refine wp_getR (r := 51) rfl (congrArg Prod.fst (kf_49 X.1)) rfl ?_
            refine wp_iload rfl rfl ?_
            refine wp_laload rfl (kf_52 X.1) ⟨c5, c9⟩ ?_
            refine wp_land rfl ?_
            refine wp_lret rfl rfl ?_
            show Wp X _ 246 48 [vr 49, vr 62, vi x2, vl x3, vu, vl x5, vu, vi x7, vi 8] [vl ((i64 (h 50 8) &&& i64 (h 52 x7)).toInt), vl x3] _ _
            refine wp_ladd rfl ?_
            have g10 := H.1
            replace H := H.2
            refine Wp.topL (y := (x3 + ((i64 (h 50 8) &&& i64 (h 52 x7)).toInt))) (w64_I g10) ?_
            refine wp_lstore (L2 := [vr 49, vr 62, vi x2, vl (x3 + ((i64 (h 50 8) &&& i64 (h 52 x7)).toInt)), vu, vl x5, vu, vi x7, vi 8]) rfl (Nat.le_of_ble_eq_true rfl) rfl ?_
            refine wp_lload rfl rfl ?_
            refine wp_aload rfl rfl ?_
            refine wp_iload rfl rfl ?_
            refine wp_iload rfl rfl ?_
            refine wp_call (k := 240) (ρ2 := 0) (L2 := [vr 49, vi 8, vi x7]) rfl rfl rfl (Nat.le_of_ble_eq_true rfl) (Nat.le_of_ble_eq_true rfl) (Nat.le_of_ble_eq_true rfl) (rcv_V rfl (congrArg Prod.fst (kf_49 X.1))) rfl ?_
            refine wp_iload rfl rfl ?_
            refine wp_ifltF (tn := 19) rfl rfl (by decide) ?_
            refine wp_iload rfl rfl ?_
            refine wp_iconst rfl ?_
            refine wp_icgeF (tn := 19) rfl rfl (by decide) ?_
            refine wp_iload rfl rfl ?_
            refine wp_ifltF (tn := 19) rfl rfl c5 ?_
            refine wp_iload rfl rfl ?_
            refine wp_iconst rfl ?_
            refine wp_icltT (tn := 21) rfl rfl c9 ?_
            refine wp_aload rfl rfl ?_
            refine wp_getR (r := 50) rfl (congrArg Prod.fst (kf_49 X.1)) rfl ?_
            refine wp_iload rfl rfl ?_
            refine wp_laload rfl (kf_51 X.1) (by decide) ?_
            refine wp_aload rfl rfl ?_
            refine wp_getR (r := 51) rfl (congrArg Prod.fst (kf_49 X.1)) rfl ?_
            refine wp_iload rfl rfl ?_
            refine wp_laload rfl (kf_52 X.1) ⟨c5, c9⟩ ?_
            refine wp_land rfl ?_
            refine wp_lret rfl rfl ?_
            show Wp X _ 246 60 [vr 49, vr 62, vi x2, vl (x3 + ((i64 (h 50 8) &&& i64 (h 52 x7)).toInt)), vu, vl x5, vu, vi x7, vi 8] [vl ((i64 (h 51 8) &&& i64 (h 52 x7)).toInt), vl x5] _ _
            refine wp_ladd rfl ?_
            have g11 := H.1
            replace H := H.2
            refine Wp.topL (y := (x5 + ((i64 (h 51 8) &&& i64 (h 52 x7)).toInt))) (w64_I g11) ?_
            refine wp_lstore (L2 := [vr 49, vr 62, vi x2, vl (x3 + ((i64 (h 50 8) &&& i64 (h 52 x7)).toInt)), vu, vl (x5 + ((i64 (h 51 8) &&& i64 (h 52 x7)).toInt)), vu, vi x7, vi 8]) rfl (Nat.le_of_ble_eq_true rfl) rfl ?_
            refine wp_iincR (L2 := [vr 49, vr 62, vi x2, vl (x3 + ((i64 (h 50 8) &&& i64 (h 52 x7)).toInt)), vu, vl (x5 + ((i64 (h 51 8) &&& i64 (h 52 x7)).toInt)), vu, vi (x7 + 1), vi 8]) rfl rfl (by clear H; unfold R32; omega) rfl ?_
            refine wp_goto (tn := 14) rfl rfl ?_
            exact H
          · replace H := H.2 c9
            refine wp_sipush rfl ?_
            refine wp_lret rfl rfl ?_
            show Wp X _ 246 48 [vr 49, vr 62, vi x2, vl x3, vu, vl x5, vu, vi x7, vi 8] [vl 0, vl x3] _ _
            refine wp_ladd rfl ?_
            have g12 := H.1
            replace H := H.2
            refine Wp.topL (y := (x3 + 0)) (w64_I g12) ?_
            refine wp_lstore (L2 := [vr 49, vr 62, vi x2, vl (x3 + 0), vu, vl x5, vu, vi x7, vi 8]) rfl (Nat.le_of_ble_eq_true rfl) rfl ?_
            refine wp_lload rfl rfl ?_
            refine wp_aload rfl rfl ?_
            refine wp_iload rfl rfl ?_
            refine wp_iload rfl rfl ?_
            refine wp_call (k := 240) (ρ2 := 0) (L2 := [vr 49, vi 8, vi x7]) rfl rfl rfl (Nat.le_of_ble_eq_true rfl) (Nat.le_of_ble_eq_true rfl) (Nat.le_of_ble_eq_true rfl) (rcv_V rfl (congrArg Prod.fst (kf_49 X.1))) rfl ?_
            refine wp_iload rfl rfl ?_
            refine wp_ifltF (tn := 19) rfl rfl (by decide) ?_
            refine wp_iload rfl rfl ?_
            refine wp_iconst rfl ?_
            refine wp_icgeF (tn := 19) rfl rfl (by decide) ?_
            refine wp_iload rfl rfl ?_
            refine wp_ifltF (tn := 19) rfl rfl c5 ?_
            refine wp_iload rfl rfl ?_
            refine wp_iconst rfl ?_
            refine wp_icltF (tn := 21) rfl rfl c9 ?_
            refine wp_sipush rfl ?_
            refine wp_lret rfl rfl ?_
            show Wp X _ 246 60 [vr 49, vr 62, vi x2, vl (x3 + 0), vu, vl x5, vu, vi x7, vi 8] [vl 0, vl x5] _ _
            refine wp_ladd rfl ?_
            have g13 := H.1
            replace H := H.2
            refine Wp.topL (y := (x5 + 0)) (w64_I g13) ?_
            refine wp_lstore (L2 := [vr 49, vr 62, vi x2, vl (x3 + 0), vu, vl (x5 + 0), vu, vi x7, vi 8]) rfl (Nat.le_of_ble_eq_true rfl) rfl ?_
            have g14 := H.1
            replace H := H.2
            refine wp_iincR (L2 := [vr 49, vr 62, vi x2, vl (x3 + 0), vu, vl (x5 + 0), vu, vi (x7 + 1), vi 8]) rfl rfl g14 rfl ?_
            refine wp_goto (tn := 14) rfl rfl ?_
            exact H
      · replace H := H.2 c4
        refine wp_iload rfl rfl ?_
        refine wp_aload rfl rfl ?_
        refine wp_getI (j := 6) rfl (congrArg Prod.fst (kf_62 X.1)) rfl ?_
        refine wp_icge (tn := 16) rfl rfl (fun c15 => ?_) (fun c15 => ?_)
        · replace H := H.1 c15
          refine wp_iconst rfl ?_
          refine wp_zret rfl rfl (by decide) ?_
          show Wp X _ 192 5 [vr 62, vi (x2 - x7)] [vi 0] _ _
          refine wp_ifeqT (tn := 17) rfl rfl (by decide) ?_
          refine wp_iconst rfl ?_
          refine wp_iret rfl rfl ?_
          show Wp X _ 246 37 [vr 49, vr 62, vi x2, vl x3, vu, vl x5, vu, vi x7, zx8] [vi 8] _ _
          refine wp_istore (L2 := [vr 49, vr 62, vi x2, vl x3, vu, vl x5, vu, vi x7, vi 8]) rfl (Nat.le_of_ble_eq_true rfl) rfl ?_
          refine wp_lload rfl rfl ?_
          refine wp_aload rfl rfl ?_
          refine wp_iload rfl rfl ?_
          refine wp_iload rfl rfl ?_
          refine wp_call (k := 239) (ρ2 := 0) (L2 := [vr 49, vi 8, vi x7]) rfl rfl rfl (Nat.le_of_ble_eq_true rfl) (Nat.le_of_ble_eq_true rfl) (Nat.le_of_ble_eq_true rfl) (rcv_V rfl (congrArg Prod.fst (kf_49 X.1))) rfl ?_
          refine wp_iload rfl rfl ?_
          refine wp_ifltF (tn := 19) rfl rfl (by decide) ?_
          refine wp_iload rfl rfl ?_
          refine wp_iconst rfl ?_
          refine wp_icgeF (tn := 19) rfl rfl (by decide) ?_
          refine wp_iload rfl rfl ?_
          refine wp_iflt (tn := 19) rfl rfl (fun c16 => ?_) (fun c16 => ?_)
          · replace H := H.1 c16
            refine wp_sipush rfl ?_
            refine wp_lret rfl rfl ?_
            show Wp X _ 246 48 [vr 49, vr 62, vi x2, vl x3, vu, vl x5, vu, vi x7, vi 8] [vl 0, vl x3] _ _
            refine wp_ladd rfl ?_
            have g17 := H.1
            replace H := H.2
            refine Wp.topL (y := (x3 + 0)) (w64_I g17) ?_
            refine wp_lstore (L2 := [vr 49, vr 62, vi x2, vl (x3 + 0), vu, vl x5, vu, vi x7, vi 8]) rfl (Nat.le_of_ble_eq_true rfl) rfl ?_
            refine wp_lload rfl rfl ?_
            refine wp_aload rfl rfl ?_
            refine wp_iload rfl rfl ?_
            refine wp_iload rfl rfl ?_
            refine wp_call (k := 240) (ρ2 := 0) (L2 := [vr 49, vi 8, vi x7]) rfl rfl rfl (Nat.le_of_ble_eq_true rfl) (Nat.le_of_ble_eq_true rfl) (Nat.le_of_ble_eq_true rfl) (rcv_V rfl (congrArg Prod.fst (kf_49 X.1))) rfl ?_
            refine wp_iload rfl rfl ?_
            refine wp_ifltF (tn := 19) rfl rfl (by decide) ?_
            refine wp_iload rfl rfl ?_
            refine wp_iconst rfl ?_
            refine wp_icgeF (tn := 19) rfl rfl (by decide) ?_
            refine wp_iload rfl rfl ?_
            refine wp_ifltT (tn := 19) rfl rfl c16 ?_
            refine wp_sipush rfl ?_
            refine wp_lret rfl rfl ?_
            show Wp X _ 246 60 [vr 49, vr 62, vi x2, vl (x3 + 0), vu, vl x5, vu, vi x7, vi 8] [vl 0, vl x5] _ _
            refine wp_ladd rfl ?_
            have g18 := H.1
            replace H := H.2
            refine Wp.topL (y := (x5 + 0)) (w64_I g18) ?_
            refine wp_lstore (L2 := [vr 49, vr 62, vi x2, vl (x3 + 0), vu, vl (x5 + 0), vu, vi x7, vi 8]) rfl (Nat.le_of_ble_eq_true rfl) rfl ?_
            have g19 := H.1
            replace H := H.2
            refine wp_iincR (L2 := [vr 49, vr 62, vi x2, vl (x3 + 0), vu, vl (x5 + 0), vu, vi (x7 + 1), vi 8]) rfl rfl g19 rfl ?_
            refine wp_goto (tn := 14) rfl rfl ?_
            exact H
          · replace H := H.2 c16
            refine wp_iload rfl rfl ?_
            refine wp_iconst rfl ?_
            refine wp_iclt (tn := 21) rfl rfl (fun c20 => ?_) (fun c20 => ?_)
            · replace H := H.1 c20
              refine wp_aload rfl rfl ?_
              refine wp_getR (r := 49) rfl (congrArg Prod.fst (kf_49 X.1)) rfl ?_
              refine wp_iload rfl rfl ?_
              refine wp_laload rfl (kf_50 X.1) (by decide) ?_
              refine wp_aload rfl rfl ?_
              refine wp_getR (r := 51) rfl (congrArg Prod.fst (kf_49 X.1)) rfl ?_
              refine wp_iload rfl rfl ?_
              refine wp_laload rfl (kf_52 X.1) ⟨c16, c20⟩ ?_
              refine wp_land rfl ?_
              refine wp_lret rfl rfl ?_
              show Wp X _ 246 48 [vr 49, vr 62, vi x2, vl x3, vu, vl x5, vu, vi x7, vi 8] [vl ((i64 (h 50 8) &&& i64 (h 52 x7)).toInt), vl x3] _ _
              refine wp_ladd rfl ?_
              have g21 := H.1
              replace H := H.2
              refine Wp.topL (y := (x3 + ((i64 (h 50 8) &&& i64 (h 52 x7)).toInt))) (w64_I g21) ?_
              refine wp_lstore (L2 := [vr 49, vr 62, vi x2, vl (x3 + ((i64 (h 50 8) &&& i64 (h 52 x7)).toInt)), vu, vl x5, vu, vi x7, vi 8]) rfl (Nat.le_of_ble_eq_true rfl) rfl ?_
              refine wp_lload rfl rfl ?_
              refine wp_aload rfl rfl ?_
              refine wp_iload rfl rfl ?_
              refine wp_iload rfl rfl ?_
              refine wp_call (k := 240) (ρ2 := 0) (L2 := [vr 49, vi 8, vi x7]) rfl rfl rfl (Nat.le_of_ble_eq_true rfl) (Nat.le_of_ble_eq_true rfl) (Nat.le_of_ble_eq_true rfl) (rcv_V rfl (congrArg Prod.fst (kf_49 X.1))) rfl ?_
              refine wp_iload rfl rfl ?_
              refine wp_ifltF (tn := 19) rfl rfl (by decide) ?_
              refine wp_iload rfl rfl ?_
              refine wp_iconst rfl ?_
              refine wp_icgeF (tn := 19) rfl rfl (by decide) ?_
              refine wp_iload rfl rfl ?_
              refine wp_ifltF (tn := 19) rfl rfl c16 ?_
              refine wp_iload rfl rfl ?_
              refine wp_iconst rfl ?_
              refine wp_icltT (tn := 21) rfl rfl c20 ?_
              refine wp_aload rfl rfl ?_
              refine wp_getR (r := 50) rfl (congrArg Prod.fst (kf_49 X.1)) rfl ?_
              refine wp_iload rfl rfl ?_
              refine wp_laload rfl (kf_51 X.1) (by decide) ?_
              refine wp_aload rfl rfl ?_
              refine wp_getR (r := 51) rfl (congrArg Prod.fst (kf_49 X.1)) rfl ?_
              refine wp_iload rfl rfl ?_
              refine wp_laload rfl (kf_52 X.1) ⟨c16, c20⟩ ?_
              refine wp_land rfl ?_
              refine wp_lret rfl rfl ?_
              show Wp X _ 246 60 [vr 49, vr 62, vi x2, vl (x3 + ((i64 (h 50 8) &&& i64 (h 52 x7)).toInt)), vu, vl x5, vu, vi x7, vi 8] [vl ((i64 (h 51 8) &&& i64 (h 52 x7)).toInt), vl x5] _ _
              refine wp_ladd rfl ?_
              have g22 := H.1
              replace H := H.2
              refine Wp.topL (y := (x5 + ((i64 (h 51 8) &&& i64 (h 52 x7)).toInt))) (w64_I g22) ?_
              refine wp_lstore (L2 := [vr 49, vr 62, vi x2, vl (x3 + ((i64 (h 50 8) &&& i64 (h 52 x7)).toInt)), vu, vl (x5 + ((i64 (h 51 8) &&& i64 (h 52 x7)).toInt)), vu, vi x7, vi 8]) rfl (Nat.le_of_ble_eq_true rfl) rfl ?_
              refine wp_iincR (L2 := [vr 49, vr 62, vi x2, vl (x3 + ((i64 (h 50 8) &&& i64 (h 52 x7)).toInt)), vu, vl (x5 + ((i64 (h 51 8) &&& i64 (h 52 x7)).toInt)), vu, vi (x7 + 1), vi 8]) rfl rfl (by clear H; unfold R32; omega) rfl ?_
              refine wp_goto (tn := 14) rfl rfl ?_
              exact H
            · replace H := H.2 c20
              refine wp_sipush rfl ?_
              refine wp_lret rfl rfl ?_
              show Wp X _ 246 48 [vr 49, vr 62, vi x2, vl x3, vu, vl x5, vu, vi x7, vi 8] [vl 0, vl x3] _ _
              refine wp_ladd rfl ?_
              have g23 := H.1
              replace H := H.2
              refine Wp.topL (y := (x3 + 0)) (w64_I g23) ?_
              refine wp_lstore (L2 := [vr 49, vr 62, vi x2, vl (x3 + 0), vu, vl x5, vu, vi x7, vi 8]) rfl (Nat.le_of_ble_eq_true rfl) rfl ?_
              refine wp_lload rfl rfl ?_
              refine wp_aload rfl rfl ?_
              refine wp_iload rfl rfl ?_
              refine wp_iload rfl rfl ?_
              refine wp_call (k := 240) (ρ2 := 0) (L2 := [vr 49, vi 8, vi x7]) rfl rfl rfl (Nat.le_of_ble_eq_true rfl) (Nat.le_of_ble_eq_true rfl) (Nat.le_of_ble_eq_true rfl) (rcv_V rfl (congrArg Prod.fst (kf_49 X.1))) rfl ?_
              refine wp_iload rfl rfl ?_
              refine wp_ifltF (tn := 19) rfl rfl (by decide) ?_
              refine wp_iload rfl rfl ?_
              refine wp_iconst rfl ?_
              refine wp_icgeF (tn := 19) rfl rfl (by decide) ?_
              refine wp_iload rfl rfl ?_
              refine wp_ifltF (tn := 19) rfl rfl c16 ?_
              refine wp_iload rfl rfl ?_
              refine wp_iconst rfl ?_
              refine wp_icltF (tn := 21) rfl rfl c20 ?_
              refine wp_sipush rfl ?_
              refine wp_lret rfl rfl ?_
              show Wp X _ 246 60 [vr 49, vr 62, vi x2, vl (x3 + 0), vu, vl x5, vu, vi x7, vi 8] [vl 0, vl x5] _ _
              refine wp_ladd rfl ?_
              have g24 := H.1
              replace H := H.2
              refine Wp.topL (y := (x5 + 0)) (w64_I g24) ?_
              refine wp_lstore (L2 := [vr 49, vr 62, vi x2, vl (x3 + 0), vu, vl (x5 + 0), vu, vi x7, vi 8]) rfl (Nat.le_of_ble_eq_true rfl) rfl ?_
              have g25 := H.1
              replace H := H.2
              refine wp_iincR (L2 := [vr 49, vr 62, vi x2, vl (x3 + 0), vu, vl (x5 + 0), vu, vi (x7 + 1), vi 8]) rfl rfl g25 rfl ?_
              refine wp_goto (tn := 14) rfl rfl ?_
              exact H
        · replace H := H.2 c15
          refine wp_iconst rfl ?_
          refine wp_goto (tn := 17) rfl rfl ?_
          refine wp_zret rfl rfl (by decide) ?_
          show Wp X _ 192 5 [vr 62, vi (x2 - x7)] [vi 1] _ _
          refine wp_ifeqF (tn := 17) rfl rfl (by decide) ?_
          refine wp_aload rfl rfl ?_
          refine wp_getR (r := 64) rfl (congrArg Prod.fst (kf_62 X.1)) rfl ?_
          refine wp_iload rfl rfl ?_
          have g26 := H.1
          replace H := H.2
          refine wp_iaload rfl (kf_65 X.1) g26 ?_
          refine wp_goto (tn := 19) rfl rfl ?_
          refine wp_iret rfl rfl ?_
          show Wp X _ 246 37 [vr 49, vr 62, vi x2, vl x3, vu, vl x5, vu, vi x7, zx8] [vi (h 65 (x2 - x7))] _ _
          refine wp_istore (L2 := [vr 49, vr 62, vi x2, vl x3, vu, vl x5, vu, vi x7, vi (h 65 (x2 - x7))]) rfl (Nat.le_of_ble_eq_true rfl) rfl ?_
          refine wp_lload rfl rfl ?_
          refine wp_aload rfl rfl ?_
          refine wp_iload rfl rfl ?_
          refine wp_iload rfl rfl ?_
          refine wp_call (k := 239) (ρ2 := 0) (L2 := [vr 49, vi (h 65 (x2 - x7)), vi x7]) rfl rfl rfl (Nat.le_of_ble_eq_true rfl) (Nat.le_of_ble_eq_true rfl) (Nat.le_of_ble_eq_true rfl) (rcv_V rfl (congrArg Prod.fst (kf_49 X.1))) rfl ?_
          refine wp_iload rfl rfl ?_
          refine wp_iflt (tn := 19) rfl rfl (fun c27 => ?_) (fun c27 => ?_)
          · replace H := H.1 c27
            refine wp_sipush rfl ?_
            refine wp_lret rfl rfl ?_
            show Wp X _ 246 48 [vr 49, vr 62, vi x2, vl x3, vu, vl x5, vu, vi x7, vi (h 65 (x2 - x7))] [vl 0, vl x3] _ _
            refine wp_ladd rfl ?_
            have g28 := H.1
            replace H := H.2
            refine Wp.topL (y := (x3 + 0)) (w64_I g28) ?_
            refine wp_lstore (L2 := [vr 49, vr 62, vi x2, vl (x3 + 0), vu, vl x5, vu, vi x7, vi (h 65 (x2 - x7))]) rfl (Nat.le_of_ble_eq_true rfl) rfl ?_
            refine wp_lload rfl rfl ?_
            refine wp_aload rfl rfl ?_
            refine wp_iload rfl rfl ?_
            refine wp_iload rfl rfl ?_
            refine wp_call (k := 240) (ρ2 := 0) (L2 := [vr 49, vi (h 65 (x2 - x7)), vi x7]) rfl rfl rfl (Nat.le_of_ble_eq_true rfl) (Nat.le_of_ble_eq_true rfl) (Nat.le_of_ble_eq_true rfl) (rcv_V rfl (congrArg Prod.fst (kf_49 X.1))) rfl ?_
            refine wp_iload rfl rfl ?_
            refine wp_ifltT (tn := 19) rfl rfl c27 ?_
            refine wp_sipush rfl ?_
            refine wp_lret rfl rfl ?_
            show Wp X _ 246 60 [vr 49, vr 62, vi x2, vl (x3 + 0), vu, vl x5, vu, vi x7, vi (h 65 (x2 - x7))] [vl 0, vl x5] _ _
            refine wp_ladd rfl ?_
            have g29 := H.1
            replace H := H.2
            refine Wp.topL (y := (x5 + 0)) (w64_I g29) ?_
            refine wp_lstore (L2 := [vr 49, vr 62, vi x2, vl (x3 + 0), vu, vl (x5 + 0), vu, vi x7, vi (h 65 (x2 - x7))]) rfl (Nat.le_of_ble_eq_true rfl) rfl ?_
            have g30 := H.1
            replace H := H.2
            refine wp_iincR (L2 := [vr 49, vr 62, vi x2, vl (x3 + 0), vu, vl (x5 + 0), vu, vi (x7 + 1), vi (h 65 (x2 - x7))]) rfl rfl g30 rfl ?_
            refine wp_goto (tn := 14) rfl rfl ?_
            exact H
          · replace H := H.2 c27
            refine wp_iload rfl rfl ?_
            refine wp_iconst rfl ?_
            refine wp_icge (tn := 19) rfl rfl (fun c31 => ?_) (fun c31 => ?_)
            · replace H := H.1 c31
              refine wp_sipush rfl ?_
              refine wp_lret rfl rfl ?_
              show Wp X _ 246 48 [vr 49, vr 62, vi x2, vl x3, vu, vl x5, vu, vi x7, vi (h 65 (x2 - x7))] [vl 0, vl x3] _ _
              refine wp_ladd rfl ?_
              have g32 := H.1
              replace H := H.2
              refine Wp.topL (y := (x3 + 0)) (w64_I g32) ?_
              refine wp_lstore (L2 := [vr 49, vr 62, vi x2, vl (x3 + 0), vu, vl x5, vu, vi x7, vi (h 65 (x2 - x7))]) rfl (Nat.le_of_ble_eq_true rfl) rfl ?_
              refine wp_lload rfl rfl ?_
              refine wp_aload rfl rfl ?_
              refine wp_iload rfl rfl ?_
              refine wp_iload rfl rfl ?_
              refine wp_call (k := 240) (ρ2 := 0) (L2 := [vr 49, vi (h 65 (x2 - x7)), vi x7]) rfl rfl rfl (Nat.le_of_ble_eq_true rfl) (Nat.le_of_ble_eq_true rfl) (Nat.le_of_ble_eq_true rfl) (rcv_V rfl (congrArg Prod.fst (kf_49 X.1))) rfl ?_
              refine wp_iload rfl rfl ?_
              refine wp_ifltF (tn := 19) rfl rfl c27 ?_
              refine wp_iload rfl rfl ?_
              refine wp_iconst rfl ?_
              refine wp_icgeT (tn := 19) rfl rfl c31 ?_
              refine wp_sipush rfl ?_
              refine wp_lret rfl rfl ?_
              show Wp X _ 246 60 [vr 49, vr 62, vi x2, vl (x3 + 0), vu, vl x5, vu, vi x7, vi (h 65 (x2 - x7))] [vl 0, vl x5] _ _
              refine wp_ladd rfl ?_
              have g33 := H.1
              replace H := H.2
              refine Wp.topL (y := (x5 + 0)) (w64_I g33) ?_
              refine wp_lstore (L2 := [vr 49, vr 62, vi x2, vl (x3 + 0), vu, vl (x5 + 0), vu, vi x7, vi (h 65 (x2 - x7))]) rfl (Nat.le_of_ble_eq_true rfl) rfl ?_
              have g34 := H.1
              replace H := H.2
              refine wp_iincR (L2 := [vr 49, vr 62, vi x2, vl (x3 + 0), vu, vl (x5 + 0), vu, vi (x7 + 1), vi (h 65 (x2 - x7))]) rfl rfl g34 rfl ?_
              refine wp_goto (tn := 14) rfl rfl ?_
              exact H
            · replace H := H.2 c31
              refine wp_iload rfl rfl ?_
              refine wp_iflt (tn := 19) rfl rfl (fun c35 => ?_) (fun c35 => ?_)
              · replace H := H.1 c35
                refine wp_sipush rfl ?_
                refine wp_lret rfl rfl ?_
                show Wp X _ 246 48 [vr 49, vr 62, vi x2, vl x3, vu, vl x5, vu, vi x7, vi (h 65 (x2 - x7))] [vl 0, vl x3] _ _
                refine wp_ladd rfl ?_
                have g36 := H.1
                replace H := H.2
                refine Wp.topL (y := (x3 + 0)) (w64_I g36) ?_
                refine wp_lstore (L2 := [vr 49, vr 62, vi x2, vl (x3 + 0), vu, vl x5, vu, vi x7, vi (h 65 (x2 - x7))]) rfl (Nat.le_of_ble_eq_true rfl) rfl ?_
                refine wp_lload rfl rfl ?_
                refine wp_aload rfl rfl ?_
                refine wp_iload rfl rfl ?_
                refine wp_iload rfl rfl ?_
                refine wp_call (k := 240) (ρ2 := 0) (L2 := [vr 49, vi (h 65 (x2 - x7)), vi x7]) rfl rfl rfl (Nat.le_of_ble_eq_true rfl) (Nat.le_of_ble_eq_true rfl) (Nat.le_of_ble_eq_true rfl) (rcv_V rfl (congrArg Prod.fst (kf_49 X.1))) rfl ?_
                refine wp_iload rfl rfl ?_
                refine wp_ifltF (tn := 19) rfl rfl c27 ?_
                refine wp_iload rfl rfl ?_
                refine wp_iconst rfl ?_
                refine wp_icgeF (tn := 19) rfl rfl c31 ?_
                refine wp_iload rfl rfl ?_
                refine wp_ifltT (tn := 19) rfl rfl c35 ?_
                refine wp_sipush rfl ?_
                refine wp_lret rfl rfl ?_
                show Wp X _ 246 60 [vr 49, vr 62, vi x2, vl (x3 + 0), vu, vl x5, vu, vi x7, vi (h 65 (x2 - x7))] [vl 0, vl x5] _ _
                refine wp_ladd rfl ?_
                have g37 := H.1
                replace H := H.2
                refine Wp.topL (y := (x5 + 0)) (w64_I g37) ?_
                refine wp_lstore (L2 := [vr 49, vr 62, vi x2, vl (x3 + 0), vu, vl (x5 + 0), vu, vi x7, vi (h 65 (x2 - x7))]) rfl (Nat.le_of_ble_eq_true rfl) rfl ?_
                have g38 := H.1
                replace H := H.2
                refine wp_iincR (L2 := [vr 49, vr 62, vi x2, vl (x3 + 0), vu, vl (x5 + 0), vu, vi (x7 + 1), vi (h 65 (x2 - x7))]) rfl rfl g38 rfl ?_
                refine wp_goto (tn := 14) rfl rfl ?_
                exact H
              · replace H := H.2 c35
                refine wp_iload rfl rfl ?_
                refine wp_iconst rfl ?_
                refine wp_iclt (tn := 21) rfl rfl (fun c39 => ?_) (fun c39 => ?_)
                · replace H := H.1 c39
                  refine wp_aload rfl rfl ?_
                  refine wp_getR (r := 49) rfl (congrArg Prod.fst (kf_49 X.1)) rfl ?_
                  refine wp_iload rfl rfl ?_
                  refine wp_laload rfl (kf_50 X.1) ⟨c27, c31⟩ ?_
                  refine wp_aload rfl rfl ?_
                  refine wp_getR (r := 51) rfl (congrArg Prod.fst (kf_49 X.1)) rfl ?_
                  refine wp_iload rfl rfl ?_
                  refine wp_laload rfl (kf_52 X.1) ⟨c35, c39⟩ ?_
                  refine wp_land rfl ?_
                  refine wp_lret rfl rfl ?_
                  show Wp X _ 246 48 [vr 49, vr 62, vi x2, vl x3, vu, vl x5, vu, vi x7, vi (h 65 (x2 - x7))] [vl ((i64 (h 50 (h 65 (x2 - x7))) &&& i64 (h 52 x7)).toInt), vl x3] _ _
                  refine wp_ladd rfl ?_
                  have g40 := H.1
                  replace H := H.2
                  refine Wp.topL (y := (x3 + ((i64 (h 50 (h 65 (x2 - x7))) &&& i64 (h 52 x7)).toInt))) (w64_I g40) ?_
                  refine wp_lstore (L2 := [vr 49, vr 62, vi x2, vl (x3 + ((i64 (h 50 (h 65 (x2 - x7))) &&& i64 (h 52 x7)).toInt)), vu, vl x5, vu, vi x7, vi (h 65 (x2 - x7))]) rfl (Nat.le_of_ble_eq_true rfl) rfl ?_
                  refine wp_lload rfl rfl ?_
                  refine wp_aload rfl rfl ?_
                  refine wp_iload rfl rfl ?_
                  refine wp_iload rfl rfl ?_
                  refine wp_call (k := 240) (ρ2 := 0) (L2 := [vr 49, vi (h 65 (x2 - x7)), vi x7]) rfl rfl rfl (Nat.le_of_ble_eq_true rfl) (Nat.le_of_ble_eq_true rfl) (Nat.le_of_ble_eq_true rfl) (rcv_V rfl (congrArg Prod.fst (kf_49 X.1))) rfl ?_
                  refine wp_iload rfl rfl ?_
                  refine wp_ifltF (tn := 19) rfl rfl c27 ?_
                  refine wp_iload rfl rfl ?_
                  refine wp_iconst rfl ?_
                  refine wp_icgeF (tn := 19) rfl rfl c31 ?_
                  refine wp_iload rfl rfl ?_
                  refine wp_ifltF (tn := 19) rfl rfl c35 ?_
                  refine wp_iload rfl rfl ?_
                  refine wp_iconst rfl ?_
                  refine wp_icltT (tn := 21) rfl rfl c39 ?_
                  refine wp_aload rfl rfl ?_
                  refine wp_getR (r := 50) rfl (congrArg Prod.fst (kf_49 X.1)) rfl ?_
                  refine wp_iload rfl rfl ?_
                  refine wp_laload rfl (kf_51 X.1) ⟨c27, c31⟩ ?_
                  refine wp_aload rfl rfl ?_
                  refine wp_getR (r := 51) rfl (congrArg Prod.fst (kf_49 X.1)) rfl ?_
                  refine wp_iload rfl rfl ?_
                  refine wp_laload rfl (kf_52 X.1) ⟨c35, c39⟩ ?_
                  refine wp_land rfl ?_
                  refine wp_lret rfl rfl ?_
                  show Wp X _ 246 60 [vr 49, vr 62, vi x2, vl (x3 + ((i64 (h 50 (h 65 (x2 - x7))) &&& i64 (h 52 x7)).toInt)), vu, vl x5, vu, vi x7, vi (h 65 (x2 - x7))] [vl ((i64 (h 51 (h 65 (x2 - x7))) &&& i64 (h 52 x7)).toInt), vl x5] _ _
                  refine wp_ladd rfl ?_
                  have g41 := H.1
                  replace H := H.2
                  refine Wp.topL (y := (x5 + ((i64 (h 51 (h 65 (x2 - x7))) &&& i64 (h 52 x7)).toInt))) (w64_I g41) ?_
                  refine wp_lstore (L2 := [vr 49, vr 62, vi x2, vl (x3 + ((i64 (h 50 (h 65 (x2 - x7))) &&& i64 (h 52 x7)).toInt)), vu, vl (x5 + ((i64 (h 51 (h 65 (x2 - x7))) &&& i64 (h 52 x7)).toInt)), vu, vi x7, vi (h 65 (x2 - x7))]) rfl (Nat.le_of_ble_eq_true rfl) rfl ?_
                  refine wp_iincR (L2 := [vr 49, vr 62, vi x2, vl (x3 + ((i64 (h 50 (h 65 (x2 - x7))) &&& i64 (h 52 x7)).toInt)), vu, vl (x5 + ((i64 (h 51 (h 65 (x2 - x7))) &&& i64 (h 52 x7)).toInt)), vu, vi (x7 + 1), vi (h 65 (x2 - x7))]) rfl rfl (by clear H; unfold R32; omega) rfl ?_
                  refine wp_goto (tn := 14) rfl rfl ?_
                  exact H
                · replace H := H.2 c39
                  refine wp_sipush rfl ?_
                  refine wp_lret rfl rfl ?_
                  show Wp X _ 246 48 [vr 49, vr 62, vi x2, vl x3, vu, vl x5, vu, vi x7, vi (h 65 (x2 - x7))] [vl 0, vl x3] _ _
                  refine wp_ladd rfl ?_
                  have g42 := H.1
                  replace H := H.2
                  refine Wp.topL (y := (x3 + 0)) (w64_I g42) ?_
                  refine wp_lstore (L2 := [vr 49, vr 62, vi x2, vl (x3 + 0), vu, vl x5, vu, vi x7, vi (h 65 (x2 - x7))]) rfl (Nat.le_of_ble_eq_true rfl) rfl ?_
                  refine wp_lload rfl rfl ?_
                  refine wp_aload rfl rfl ?_
                  refine wp_iload rfl rfl ?_
                  refine wp_iload rfl rfl ?_
                  refine wp_call (k := 240) (ρ2 := 0) (L2 := [vr 49, vi (h 65 (x2 - x7)), vi x7]) rfl rfl rfl (Nat.le_of_ble_eq_true rfl) (Nat.le_of_ble_eq_true rfl) (Nat.le_of_ble_eq_true rfl) (rcv_V rfl (congrArg Prod.fst (kf_49 X.1))) rfl ?_
                  refine wp_iload rfl rfl ?_
                  refine wp_ifltF (tn := 19) rfl rfl c27 ?_
                  refine wp_iload rfl rfl ?_
                  refine wp_iconst rfl ?_
                  refine wp_icgeF (tn := 19) rfl rfl c31 ?_
                  refine wp_iload rfl rfl ?_
                  refine wp_ifltF (tn := 19) rfl rfl c35 ?_
                  refine wp_iload rfl rfl ?_
                  refine wp_iconst rfl ?_
                  refine wp_icltF (tn := 21) rfl rfl c39 ?_
                  refine wp_sipush rfl ?_
                  refine wp_lret rfl rfl ?_
                  show Wp X _ 246 60 [vr 49, vr 62, vi x2, vl (x3 + 0), vu, vl x5, vu, vi x7, vi (h 65 (x2 - x7))] [vl 0, vl x5] _ _
                  refine wp_ladd rfl ?_
                  have g43 := H.1
                  replace H := H.2
                  refine Wp.topL (y := (x5 + 0)) (w64_I g43) ?_
                  refine wp_lstore (L2 := [vr 49, vr 62, vi x2, vl (x3 + 0), vu, vl (x5 + 0), vu, vi x7, vi (h 65 (x2 - x7))]) rfl (Nat.le_of_ble_eq_true rfl) rfl ?_
                  have g44 := H.1
                  replace H := H.2
                  refine wp_iincR (L2 := [vr 49, vr 62, vi x2, vl (x3 + 0), vu, vl (x5 + 0), vu, vi (x7 + 1), vi (h 65 (x2 - x7))]) rfl rfl g44 rfl ?_
                  refine wp_goto (tn := 14) rfl rfl ?_
                  exact H
/-- ZoneRules.reachedAt(L$Row;I)J, from 0 -/
theorem S246_57_37_0 {X : Nat × (Int → Int)} {h : HP} {Q : bQ} (x2 : Int) (H : Wp X 2 246 14 [vr 57, vr 37, vi x2, vl (h 57 3), vu, vl (h 57 3), vu, vi 0, vu] [] h Q) : Wp X 2 246 0 [vr 57, vr 37, vi x2, vu, vu, vu, vu, vu, vu] [] h Q := by
  refine wp_aload rfl rfl ?_
  refine wp_getL (j := 3) rfl (congrArg Prod.fst (kf_57 X.1)) rfl ?_
  refine wp_lstore (L2 := [vr 57, vr 37, vi x2, vl (h 57 3), vu, vu, vu, vu, vu]) rfl (Nat.le_of_ble_eq_true rfl) rfl ?_
  refine wp_aload rfl rfl ?_
  refine wp_getL (j := 3) rfl (congrArg Prod.fst (kf_57 X.1)) rfl ?_
  refine wp_lstore (L2 := [vr 57, vr 37, vi x2, vl (h 57 3), vu, vl (h 57 3), vu, vu, vu]) rfl (Nat.le_of_ble_eq_true rfl) rfl ?_
  refine wp_iconst rfl ?_
  refine wp_istore (L2 := [vr 57, vr 37, vi x2, vl (h 57 3), vu, vl (h 57 3), vu, vi 0, vu]) rfl (Nat.le_of_ble_eq_true rfl) rfl ?_
  exact H
/-- ZoneRules.reachedAt(L$Row;I)J, from 14 -/
theorem S246_57_37_14 {X : Nat × (Int → Int)} {h : HP} {Q : bQ} (x2 : Int) (x3 : Int) (x5 : Int) (x7 : Int) (zx8 : aV) (H : (((h 57 4) ≤ x7 → Q (some (vl ((i64 ((i64 x3 ||| i64 x5).toInt) &&& i64 (-9187201950435737472)).toInt))) h) ∧ (x7 < (h 57 4) → ((x2 < x7 → Q (some (vl ((i64 ((i64 x3 ||| i64 x5).toInt) &&& i64 (-9187201950435737472)).toInt))) h) ∧ (x7 ≤ x2 → ((R32 (x2 - x7)) ∧ (((x2 - x7) < 0 → ((x7 < 0 → ((R64 (x3 + 0)) ∧ ((R64 (x5 + 0)) ∧ ((R32 (x7 + 1)) ∧ Wp X 2 246 14 [vr 57, vr 37, vi x2, vl (x3 + 0), vu, vl (x5 + 0), vu, vi (x7 + 1), vi 8] [] h Q)))) ∧ (0 ≤ x7 → ((x7 < 5 → ((R64 (x3 + ((i64 (h 58 8) &&& i64 (h 60 x7)).toInt))) ∧ ((R64 (x5 + ((i64 (h 59 8) &&& i64 (h 60 x7)).toInt))) ∧ Wp X 2 246 14 [vr 57, vr 37, vi x2, vl (x3 + ((i64 (h 58 8) &&& i64 (h 60 x7)).toInt)), vu, vl (x5 + ((i64 (h 59 8) &&& i64 (h 60 x7)).toInt)), vu, vi (x7 + 1), vi 8] [] h Q))) ∧ (5 ≤ x7 → ((R64 (x3 + 0)) ∧ ((R64 (x5 + 0)) ∧ ((R32 (x7 + 1)) ∧ Wp X 2 246 14 [vr 57, vr 37, vi x2, vl (x3 + 0), vu, vl (x5 + 0), vu, vi (x7 + 1), vi 8] [] h Q)))))))) ∧ (0 ≤ (x2 - x7) → (((h 37 6) ≤ (x2 - x7) → ((x7 < 0 → ((R64 (x3 + 0)) ∧ ((R64 (x5 + 0)) ∧ ((R32 (x7 + 1)) ∧ Wp X 2 246 14 [vr 57, vr 37, vi x2, vl (x3 + 0), vu, vl (x5 + 0), vu, vi (x7 + 1), vi 8] [] h Q)))) ∧ (0 ≤ x7 → ((x7 < 5 → ((R64 (x3 + ((i64 (h 58 8) &&& i64 (h 60 x7)).toInt))) ∧ ((R64 (x5 + ((i64 (h 59 8) &&& i64 (h 60 x7)).toInt))) ∧ Wp X 2 246 14 [vr 57, vr 37, vi x2, vl (x3 + ((i64 (h 58 8) &&& i64 (h 60 x7)).toInt)), vu, vl (x5 + ((i64 (h 59 8) &&& i64 (h 60 x7)).toInt)), vu, vi (x7 + 1), vi 8] [] h Q))) ∧ (5 ≤ x7 → ((R64 (x3 + 0)) ∧ ((R64 (x5 + 0)) ∧ ((R32 (x7 + 1)) ∧ Wp X 2 246 14 [vr 57, vr 37, vi x2, vl (x3 + 0), vu, vl (x5 + 0), vu, vi (x7 + 1), vi 8] [] h Q)))))))) ∧ ((x2 - x7) < (h 37 6) → ((0 ≤ (x2 - x7) ∧ (x2 - x7) < 20) ∧ (((h 40 (x2 - x7)) < 0 → ((R64 (x3 + 0)) ∧ ((R64 (x5 + 0)) ∧ ((R32 (x7 + 1)) ∧ Wp X 2 246 14 [vr 57, vr 37, vi x2, vl (x3 + 0), vu, vl (x5 + 0), vu, vi (x7 + 1), vi (h 40 (x2 - x7))] [] h Q)))) ∧ (0 ≤ (h 40 (x2 - x7)) → ((9 ≤ (h 40 (x2 - x7)) → ((R64 (x3 + 0)) ∧ ((R64 (x5 + 0)) ∧ ((R32 (x7 + 1)) ∧ Wp X 2 246 14 [vr 57, vr 37, vi x2, vl (x3 + 0), vu, vl (x5 + 0), vu, vi (x7 + 1), vi (h 40 (x2 - x7))] [] h Q)))) ∧ ((h 40 (x2 - x7)) < 9 → ((x7 < 0 → ((R64 (x3 + 0)) ∧ ((R64 (x5 + 0)) ∧ ((R32 (x7 + 1)) ∧ Wp X 2 246 14 [vr 57, vr 37, vi x2, vl (x3 + 0), vu, vl (x5 + 0), vu, vi (x7 + 1), vi (h 40 (x2 - x7))] [] h Q)))) ∧ (0 ≤ x7 → ((x7 < 5 → ((R64 (x3 + ((i64 (h 58 (h 40 (x2 - x7))) &&& i64 (h 60 x7)).toInt))) ∧ ((R64 (x5 + ((i64 (h 59 (h 40 (x2 - x7))) &&& i64 (h 60 x7)).toInt))) ∧ Wp X 2 246 14 [vr 57, vr 37, vi x2, vl (x3 + ((i64 (h 58 (h 40 (x2 - x7))) &&& i64 (h 60 x7)).toInt)), vu, vl (x5 + ((i64 (h 59 (h 40 (x2 - x7))) &&& i64 (h 60 x7)).toInt)), vu, vi (x7 + 1), vi (h 40 (x2 - x7))] [] h Q))) ∧ (5 ≤ x7 → ((R64 (x3 + 0)) ∧ ((R64 (x5 + 0)) ∧ ((R32 (x7 + 1)) ∧ Wp X 2 246 14 [vr 57, vr 37, vi x2, vl (x3 + 0), vu, vl (x5 + 0), vu, vi (x7 + 1), vi (h 40 (x2 - x7))] [] h Q)))))))))))))))))))))) : Wp X 2 246 14 [vr 57, vr 37, vi x2, vl x3, vu, vl x5, vu, vi x7, zx8] [] h Q := by
  refine wp_iload rfl rfl ?_
  refine wp_aload rfl rfl ?_
  refine wp_getI (j := 4) rfl (congrArg Prod.fst (kf_57 X.1)) rfl ?_
  refine wp_icge (tn := 69) rfl rfl (fun c1 => ?_) (fun c1 => ?_)
  · replace H := H.1 c1
    refine wp_lload rfl rfl ?_
    refine wp_lload rfl rfl ?_
    refine wp_lor rfl ?_
    refine wp_sipush rfl ?_
    refine wp_land rfl ?_
    exact wp_lret rfl rfl H
  · replace H := H.2 c1
    refine wp_iload rfl rfl ?_
    refine wp_iload rfl rfl ?_
    refine wp_icgt (tn := 69) rfl rfl (fun c2 => ?_) (fun c2 => ?_)
    · replace H := H.1 c2
      refine wp_lload rfl rfl ?_
      refine wp_lload rfl rfl ?_
      refine wp_lor rfl ?_
      refine wp_sipush rfl ?_
      refine wp_land rfl ?_
      exact wp_lret rfl rfl H
    · replace H := H.2 c2
      refine wp_aload rfl rfl ?_
      refine wp_iload rfl rfl ?_
      refine wp_iload rfl rfl ?_
      refine wp_isub rfl ?_
      have g3 := H.1
      replace H := H.2
      refine Wp.topI (y := (x2 - x7)) (w32_I g3) ?_
      refine wp_call (k := 192) (ρ2 := 1) (L2 := [vr 37, vi (x2 - x7)]) rfl rfl rfl (Nat.le_of_ble_eq_true rfl) (Nat.le_of_ble_eq_true rfl) (Nat.le_of_ble_eq_true rfl) (rcv_V rfl (congrArg Prod.fst (kf_37 X.1))) rfl ?_
      refine wp_aload rfl rfl ?_
      refine wp_iload rfl rfl ?_
      refine wp_call (k := 189) (ρ2 := 0) (L2 := [vr 37, vi (x2 - x7)]) rfl rfl rfl (Nat.le_of_ble_eq_true rfl) (Nat.le_of_ble_eq_true rfl) (Nat.le_of_ble_eq_true rfl) (rcv_V rfl (congrArg Prod.fst (kf_37 X.1))) rfl ?_
      refine wp_iload rfl rfl ?_
      refine wp_iflt (tn := 16) rfl rfl (fun c4 => ?_) (fun c4 => ?_)
      · replace H := H.1 c4
        refine wp_iconst rfl ?_
        refine wp_zret rfl rfl (by decide) ?_
        show Wp X _ 192 5 [vr 37, vi (x2 - x7)] [vi 0] _ _
        refine wp_ifeqT (tn := 17) rfl rfl (by decide) ?_
        refine wp_iconst rfl ?_
        refine wp_iret rfl rfl ?_
        show Wp X _ 246 37 [vr 57, vr 37, vi x2, vl x3, vu, vl x5, vu, vi x7, zx8] [vi 8] _ _
        refine wp_istore (L2 := [vr 57, vr 37, vi x2, vl x3, vu, vl x5, vu, vi x7, vi 8]) rfl (Nat.le_of_ble_eq_true rfl) rfl ?_
        refine wp_lload rfl rfl ?_
        refine wp_aload rfl rfl ?_
        refine wp_iload rfl rfl ?_
        refine wp_iload rfl rfl ?_
        refine wp_call (k := 239) (ρ2 := 0) (L2 := [vr 57, vi 8, vi x7]) rfl rfl rfl (Nat.le_of_ble_eq_true rfl) (Nat.le_of_ble_eq_true rfl) (Nat.le_of_ble_eq_true rfl) (rcv_V rfl (congrArg Prod.fst (kf_57 X.1))) rfl ?_
        refine wp_iload rfl rfl ?_
        refine wp_ifltF (tn := 19) rfl rfl (by decide) ?_
        refine wp_iload rfl rfl ?_
        refine wp_iconst rfl ?_
        refine wp_icgeF (tn := 19) rfl rfl (by decide) ?_
        refine wp_iload rfl rfl ?_
        refine wp_iflt (tn := 19) rfl rfl (fun c5 => ?_) (fun c5 => ?_)
        · replace H := H.1 c5
          refine wp_sipush rfl ?_
          refine wp_lret rfl rfl ?_
          show Wp X _ 246 48 [vr 57, vr 37, vi x2, vl x3, vu, vl x5, vu, vi x7, vi 8] [vl 0, vl x3] _ _
          refine wp_ladd rfl ?_
          have g6 := H.1
          replace H := H.2
          refine Wp.topL (y := (x3 + 0)) (w64_I g6) ?_
          refine wp_lstore (L2 := [vr 57, vr 37, vi x2, vl (x3 + 0), vu, vl x5, vu, vi x7, vi 8]) rfl (Nat.le_of_ble_eq_true rfl) rfl ?_
          refine wp_lload rfl rfl ?_
          refine wp_aload rfl rfl ?_
          refine wp_iload rfl rfl ?_
          refine wp_iload rfl rfl ?_
          refine wp_call (k := 240) (ρ2 := 0) (L2 := [vr 57, vi 8, vi x7]) rfl rfl rfl (Nat.le_of_ble_eq_true rfl) (Nat.le_of_ble_eq_true rfl) (Nat.le_of_ble_eq_true rfl) (rcv_V rfl (congrArg Prod.fst (kf_57 X.1))) rfl ?_
          refine wp_iload rfl rfl ?_
          refine wp_ifltF (tn := 19) rfl rfl (by decide) ?_
          refine wp_iload rfl rfl ?_
          refine wp_iconst rfl ?_
          refine wp_icgeF (tn := 19) rfl rfl (by decide) ?_
          refine wp_iload rfl rfl ?_
          refine wp_ifltT (tn := 19) rfl rfl c5 ?_
          refine wp_sipush rfl ?_
          refine wp_lret rfl rfl ?_
          show Wp X _ 246 60 [vr 57, vr 37, vi x2, vl (x3 + 0), vu, vl x5, vu, vi x7, vi 8] [vl 0, vl x5] _ _
          refine wp_ladd rfl ?_
          have g7 := H.1
          replace H := H.2
          refine Wp.topL (y := (x5 + 0)) (w64_I g7) ?_
          refine wp_lstore (L2 := [vr 57, vr 37, vi x2, vl (x3 + 0), vu, vl (x5 + 0), vu, vi x7, vi 8]) rfl (Nat.le_of_ble_eq_true rfl) rfl ?_
          have g8 := H.1
          replace H := H.2
          refine wp_iincR (L2 := [vr 57, vr 37, vi x2, vl (x3 + 0), vu, vl (x5 + 0), vu, vi (x7 + 1), vi 8]) rfl rfl g8 rfl ?_
          refine wp_goto (tn := 14) rfl rfl ?_
          exact H
        · replace H := H.2 c5
          refine wp_iload rfl rfl ?_
          refine wp_iconst rfl ?_
          refine wp_iclt (tn := 21) rfl rfl (fun c9 => ?_) (fun c9 => ?_)
          · replace H := H.1 c9
            refine wp_aload rfl rfl ?_
            refine wp_getR (r := 57) rfl (congrArg Prod.fst (kf_57 X.1)) rfl ?_
            refine wp_iload rfl rfl ?_
            refine wp_laload rfl (kf_58 X.1) (by decide) ?_
            refine wp_aload rfl rfl ?_
            refine wp_getR (r := 59) rfl (congrArg Prod.fst (kf_57 X.1)) rfl ?_
            refine wp_iload rfl rfl ?_
            refine wp_laload rfl (kf_60 X.1) ⟨c5, c9⟩ ?_
            refine wp_land rfl ?_
            refine wp_lret rfl rfl ?_
            show Wp X _ 246 48 [vr 57, vr 37, vi x2, vl x3, vu, vl x5, vu, vi x7, vi 8] [vl ((i64 (h 58 8) &&& i64 (h 60 x7)).toInt), vl x3] _ _
            refine wp_ladd rfl ?_
            have g10 := H.1
            replace H := H.2
            refine Wp.topL (y := (x3 + ((i64 (h 58 8) &&& i64 (h 60 x7)).toInt))) (w64_I g10) ?_
            refine wp_lstore (L2 := [vr 57, vr 37, vi x2, vl (x3 + ((i64 (h 58 8) &&& i64 (h 60 x7)).toInt)), vu, vl x5, vu, vi x7, vi 8]) rfl (Nat.le_of_ble_eq_true rfl) rfl ?_
            refine wp_lload rfl rfl ?_
            refine wp_aload rfl rfl ?_
            refine wp_iload rfl rfl ?_
            refine wp_iload rfl rfl ?_
            refine wp_call (k := 240) (ρ2 := 0) (L2 := [vr 57, vi 8, vi x7]) rfl rfl rfl (Nat.le_of_ble_eq_true rfl) (Nat.le_of_ble_eq_true rfl) (Nat.le_of_ble_eq_true rfl) (rcv_V rfl (congrArg Prod.fst (kf_57 X.1))) rfl ?_
            refine wp_iload rfl rfl ?_
            refine wp_ifltF (tn := 19) rfl rfl (by decide) ?_
            refine wp_iload rfl rfl ?_
            refine wp_iconst rfl ?_
            refine wp_icgeF (tn := 19) rfl rfl (by decide) ?_
            refine wp_iload rfl rfl ?_
            refine wp_ifltF (tn := 19) rfl rfl c5 ?_
            refine wp_iload rfl rfl ?_
            refine wp_iconst rfl ?_
            refine wp_icltT (tn := 21) rfl rfl c9 ?_
            refine wp_aload rfl rfl ?_
            refine wp_getR (r := 58) rfl (congrArg Prod.fst (kf_57 X.1)) rfl ?_
            refine wp_iload rfl rfl ?_
            refine wp_laload rfl (kf_59 X.1) (by decide) ?_
            refine wp_aload rfl rfl ?_
            refine wp_getR (r := 59) rfl (congrArg Prod.fst (kf_57 X.1)) rfl ?_
            refine wp_iload rfl rfl ?_
            refine wp_laload rfl (kf_60 X.1) ⟨c5, c9⟩ ?_
            refine wp_land rfl ?_
            refine wp_lret rfl rfl ?_
            show Wp X _ 246 60 [vr 57, vr 37, vi x2, vl (x3 + ((i64 (h 58 8) &&& i64 (h 60 x7)).toInt)), vu, vl x5, vu, vi x7, vi 8] [vl ((i64 (h 59 8) &&& i64 (h 60 x7)).toInt), vl x5] _ _
            refine wp_ladd rfl ?_
            have g11 := H.1
            replace H := H.2
            refine Wp.topL (y := (x5 + ((i64 (h 59 8) &&& i64 (h 60 x7)).toInt))) (w64_I g11) ?_
            refine wp_lstore (L2 := [vr 57, vr 37, vi x2, vl (x3 + ((i64 (h 58 8) &&& i64 (h 60 x7)).toInt)), vu, vl (x5 + ((i64 (h 59 8) &&& i64 (h 60 x7)).toInt)), vu, vi x7, vi 8]) rfl (Nat.le_of_ble_eq_true rfl) rfl ?_
            refine wp_iincR (L2 := [vr 57, vr 37, vi x2, vl (x3 + ((i64 (h 58 8) &&& i64 (h 60 x7)).toInt)), vu, vl (x5 + ((i64 (h 59 8) &&& i64 (h 60 x7)).toInt)), vu, vi (x7 + 1), vi 8]) rfl rfl (by clear H; unfold R32; omega) rfl ?_
            refine wp_goto (tn := 14) rfl rfl ?_
            exact H
          · replace H := H.2 c9
            refine wp_sipush rfl ?_
            refine wp_lret rfl rfl ?_
            show Wp X _ 246 48 [vr 57, vr 37, vi x2, vl x3, vu, vl x5, vu, vi x7, vi 8] [vl 0, vl x3] _ _
            refine wp_ladd rfl ?_
            have g12 := H.1
            replace H := H.2
            refine Wp.topL (y := (x3 + 0)) (w64_I g12) ?_
            refine wp_lstore (L2 := [vr 57, vr 37, vi x2, vl (x3 + 0), vu, vl x5, vu, vi x7, vi 8]) rfl (Nat.le_of_ble_eq_true rfl) rfl ?_
            refine wp_lload rfl rfl ?_
            refine wp_aload rfl rfl ?_
            refine wp_iload rfl rfl ?_
            refine wp_iload rfl rfl ?_
            refine wp_call (k := 240) (ρ2 := 0) (L2 := [vr 57, vi 8, vi x7]) rfl rfl rfl (Nat.le_of_ble_eq_true rfl) (Nat.le_of_ble_eq_true rfl) (Nat.le_of_ble_eq_true rfl) (rcv_V rfl (congrArg Prod.fst (kf_57 X.1))) rfl ?_
            refine wp_iload rfl rfl ?_
            refine wp_ifltF (tn := 19) rfl rfl (by decide) ?_
            refine wp_iload rfl rfl ?_
            refine wp_iconst rfl ?_
            refine wp_icgeF (tn := 19) rfl rfl (by decide) ?_
            refine wp_iload rfl rfl ?_
            refine wp_ifltF (tn := 19) rfl rfl c5 ?_
            refine wp_iload rfl rfl ?_
            refine wp_iconst rfl ?_
            refine wp_icltF (tn := 21) rfl rfl c9 ?_
            refine wp_sipush rfl ?_
            refine wp_lret rfl rfl ?_
            show Wp X _ 246 60 [vr 57, vr 37, vi x2, vl (x3 + 0), vu, vl x5, vu, vi x7, vi 8] [vl 0, vl x5] _ _
            refine wp_ladd rfl ?_
            have g13 := H.1
            replace H := H.2
            refine Wp.topL (y := (x5 + 0)) (w64_I g13) ?_
            refine wp_lstore (L2 := [vr 57, vr 37, vi x2, vl (x3 + 0), vu, vl (x5 + 0), vu, vi x7, vi 8]) rfl (Nat.le_of_ble_eq_true rfl) rfl ?_
            have g14 := H.1
            replace H := H.2
            refine wp_iincR (L2 := [vr 57, vr 37, vi x2, vl (x3 + 0), vu, vl (x5 + 0), vu, vi (x7 + 1), vi 8]) rfl rfl g14 rfl ?_
            refine wp_goto (tn := 14) rfl rfl ?_
            exact H
      · replace H := H.2 c4
        refine wp_iload rfl rfl ?_
        refine wp_aload rfl rfl ?_
        refine wp_getI (j := 6) rfl (congrArg Prod.fst (kf_37 X.1)) rfl ?_
        refine wp_icge (tn := 16) rfl rfl (fun c15 => ?_) (fun c15 => ?_)
        · replace H := H.1 c15
          refine wp_iconst rfl ?_
          refine wp_zret rfl rfl (by decide) ?_
          show Wp X _ 192 5 [vr 37, vi (x2 - x7)] [vi 0] _ _
          refine wp_ifeqT (tn := 17) rfl rfl (by decide) ?_
          refine wp_iconst rfl ?_
          refine wp_iret rfl rfl ?_
          show Wp X _ 246 37 [vr 57, vr 37, vi x2, vl x3, vu, vl x5, vu, vi x7, zx8] [vi 8] _ _
          refine wp_istore (L2 := [vr 57, vr 37, vi x2, vl x3, vu, vl x5, vu, vi x7, vi 8]) rfl (Nat.le_of_ble_eq_true rfl) rfl ?_
          refine wp_lload rfl rfl ?_
          refine wp_aload rfl rfl ?_
          refine wp_iload rfl rfl ?_
          refine wp_iload rfl rfl ?_
          refine wp_call (k := 239) (ρ2 := 0) (L2 := [vr 57, vi 8, vi x7]) rfl rfl rfl (Nat.le_of_ble_eq_true rfl) (Nat.le_of_ble_eq_true rfl) (Nat.le_of_ble_eq_true rfl) (rcv_V rfl (congrArg Prod.fst (kf_57 X.1))) rfl ?_
          refine wp_iload rfl rfl ?_
          refine wp_ifltF (tn := 19) rfl rfl (by decide) ?_
          refine wp_iload rfl rfl ?_
          refine wp_iconst rfl ?_
          refine wp_icgeF (tn := 19) rfl rfl (by decide) ?_
          refine wp_iload rfl rfl ?_
          refine wp_iflt (tn := 19) rfl rfl (fun c16 => ?_) (fun c16 => ?_)
          · replace H := H.1 c16
            refine wp_sipush rfl ?_
            refine wp_lret rfl rfl ?_
            show Wp X _ 246 48 [vr 57, vr 37, vi x2, vl x3, vu, vl x5, vu, vi x7, vi 8] [vl 0, vl x3] _ _
            refine wp_ladd rfl ?_
            have g17 := H.1
            replace H := H.2
            refine Wp.topL (y := (x3 + 0)) (w64_I g17) ?_
            refine wp_lstore (L2 := [vr 57, vr 37, vi x2, vl (x3 + 0), vu, vl x5, vu, vi x7, vi 8]) rfl (Nat.le_of_ble_eq_true rfl) rfl ?_
            refine wp_lload rfl rfl ?_
            refine wp_aload rfl rfl ?_
            refine wp_iload rfl rfl ?_
            refine wp_iload rfl rfl ?_
            refine wp_call (k := 240) (ρ2 := 0) (L2 := [vr 57, vi 8, vi x7]) rfl rfl rfl (Nat.le_of_ble_eq_true rfl) (Nat.le_of_ble_eq_true rfl) (Nat.le_of_ble_eq_true rfl) (rcv_V rfl (congrArg Prod.fst (kf_57 X.1))) rfl ?_
            refine wp_iload rfl rfl ?_
            refine wp_ifltF (tn := 19) rfl rfl (by decide) ?_
            refine wp_iload rfl rfl ?_
            refine wp_iconst rfl ?_
            refine wp_icgeF (tn := 19) rfl rfl (by decide) ?_
            refine wp_iload rfl rfl ?_
            refine wp_ifltT (tn := 19) rfl rfl c16 ?_
            refine wp_sipush rfl ?_
            refine wp_lret rfl rfl ?_
            show Wp X _ 246 60 [vr 57, vr 37, vi x2, vl (x3 + 0), vu, vl x5, vu, vi x7, vi 8] [vl 0, vl x5] _ _
            refine wp_ladd rfl ?_
            have g18 := H.1
            replace H := H.2
            refine Wp.topL (y := (x5 + 0)) (w64_I g18) ?_
            refine wp_lstore (L2 := [vr 57, vr 37, vi x2, vl (x3 + 0), vu, vl (x5 + 0), vu, vi x7, vi 8]) rfl (Nat.le_of_ble_eq_true rfl) rfl ?_
            have g19 := H.1
            replace H := H.2
            refine wp_iincR (L2 := [vr 57, vr 37, vi x2, vl (x3 + 0), vu, vl (x5 + 0), vu, vi (x7 + 1), vi 8]) rfl rfl g19 rfl ?_
            refine wp_goto (tn := 14) rfl rfl ?_
            exact H
          · replace H := H.2 c16
            refine wp_iload rfl rfl ?_
            refine wp_iconst rfl ?_
            refine wp_iclt (tn := 21) rfl rfl (fun c20 => ?_) (fun c20 => ?_)
            · replace H := H.1 c20
              refine wp_aload rfl rfl ?_
              refine wp_getR (r := 57) rfl (congrArg Prod.fst (kf_57 X.1)) rfl ?_
              refine wp_iload rfl rfl ?_
              refine wp_laload rfl (kf_58 X.1) (by decide) ?_
              refine wp_aload rfl rfl ?_
              refine wp_getR (r := 59) rfl (congrArg Prod.fst (kf_57 X.1)) rfl ?_
              refine wp_iload rfl rfl ?_
              refine wp_laload rfl (kf_60 X.1) ⟨c16, c20⟩ ?_
              refine wp_land rfl ?_
              refine wp_lret rfl rfl ?_
              show Wp X _ 246 48 [vr 57, vr 37, vi x2, vl x3, vu, vl x5, vu, vi x7, vi 8] [vl ((i64 (h 58 8) &&& i64 (h 60 x7)).toInt), vl x3] _ _
              refine wp_ladd rfl ?_
              have g21 := H.1
              replace H := H.2
              refine Wp.topL (y := (x3 + ((i64 (h 58 8) &&& i64 (h 60 x7)).toInt))) (w64_I g21) ?_
              refine wp_lstore (L2 := [vr 57, vr 37, vi x2, vl (x3 + ((i64 (h 58 8) &&& i64 (h 60 x7)).toInt)), vu, vl x5, vu, vi x7, vi 8]) rfl (Nat.le_of_ble_eq_true rfl) rfl ?_
              refine wp_lload rfl rfl ?_
              refine wp_aload rfl rfl ?_
              refine wp_iload rfl rfl ?_
              refine wp_iload rfl rfl ?_
              refine wp_call (k := 240) (ρ2 := 0) (L2 := [vr 57, vi 8, vi x7]) rfl rfl rfl (Nat.le_of_ble_eq_true rfl) (Nat.le_of_ble_eq_true rfl) (Nat.le_of_ble_eq_true rfl) (rcv_V rfl (congrArg Prod.fst (kf_57 X.1))) rfl ?_
              refine wp_iload rfl rfl ?_
              refine wp_ifltF (tn := 19) rfl rfl (by decide) ?_
              refine wp_iload rfl rfl ?_
              refine wp_iconst rfl ?_
              refine wp_icgeF (tn := 19) rfl rfl (by decide) ?_
              refine wp_iload rfl rfl ?_
              refine wp_ifltF (tn := 19) rfl rfl c16 ?_
              refine wp_iload rfl rfl ?_
              refine wp_iconst rfl ?_
              refine wp_icltT (tn := 21) rfl rfl c20 ?_
              refine wp_aload rfl rfl ?_
              refine wp_getR (r := 58) rfl (congrArg Prod.fst (kf_57 X.1)) rfl ?_
              refine wp_iload rfl rfl ?_
              refine wp_laload rfl (kf_59 X.1) (by decide) ?_
              refine wp_aload rfl rfl ?_
              refine wp_getR (r := 59) rfl (congrArg Prod.fst (kf_57 X.1)) rfl ?_
              refine wp_iload rfl rfl ?_
              refine wp_laload rfl (kf_60 X.1) ⟨c16, c20⟩ ?_
              refine wp_land rfl ?_
              refine wp_lret rfl rfl ?_
              show Wp X _ 246 60 [vr 57, vr 37, vi x2, vl (x3 + ((i64 (h 58 8) &&& i64 (h 60 x7)).toInt)), vu, vl x5, vu, vi x7, vi 8] [vl ((i64 (h 59 8) &&& i64 (h 60 x7)).toInt), vl x5] _ _
              refine wp_ladd rfl ?_
              have g22 := H.1
              replace H := H.2
              refine Wp.topL (y := (x5 + ((i64 (h 59 8) &&& i64 (h 60 x7)).toInt))) (w64_I g22) ?_
              refine wp_lstore (L2 := [vr 57, vr 37, vi x2, vl (x3 + ((i64 (h 58 8) &&& i64 (h 60 x7)).toInt)), vu, vl (x5 + ((i64 (h 59 8) &&& i64 (h 60 x7)).toInt)), vu, vi x7, vi 8]) rfl (Nat.le_of_ble_eq_true rfl) rfl ?_
              refine wp_iincR (L2 := [vr 57, vr 37, vi x2, vl (x3 + ((i64 (h 58 8) &&& i64 (h 60 x7)).toInt)), vu, vl (x5 + ((i64 (h 59 8) &&& i64 (h 60 x7)).toInt)), vu, vi (x7 + 1), vi 8]) rfl rfl (by clear H; unfold R32; omega) rfl ?_
              refine wp_goto (tn := 14) rfl rfl ?_
              exact H
            · replace H := H.2 c20
              refine wp_sipush rfl ?_
              refine wp_lret rfl rfl ?_
              show Wp X _ 246 48 [vr 57, vr 37, vi x2, vl x3, vu, vl x5, vu, vi x7, vi 8] [vl 0, vl x3] _ _
              refine wp_ladd rfl ?_
              have g23 := H.1
              replace H := H.2
              refine Wp.topL (y := (x3 + 0)) (w64_I g23) ?_
              refine wp_lstore (L2 := [vr 57, vr 37, vi x2, vl (x3 + 0), vu, vl x5, vu, vi x7, vi 8]) rfl (Nat.le_of_ble_eq_true rfl) rfl ?_
              refine wp_lload rfl rfl ?_
              refine wp_aload rfl rfl ?_
              refine wp_iload rfl rfl ?_
              refine wp_iload rfl rfl ?_
              refine wp_call (k := 240) (ρ2 := 0) (L2 := [vr 57, vi 8, vi x7]) rfl rfl rfl (Nat.le_of_ble_eq_true rfl) (Nat.le_of_ble_eq_true rfl) (Nat.le_of_ble_eq_true rfl) (rcv_V rfl (congrArg Prod.fst (kf_57 X.1))) rfl ?_
              refine wp_iload rfl rfl ?_
              refine wp_ifltF (tn := 19) rfl rfl (by decide) ?_
              refine wp_iload rfl rfl ?_
              refine wp_iconst rfl ?_
              refine wp_icgeF (tn := 19) rfl rfl (by decide) ?_
              refine wp_iload rfl rfl ?_
              refine wp_ifltF (tn := 19) rfl rfl c16 ?_
              refine wp_iload rfl rfl ?_
              refine wp_iconst rfl ?_
              refine wp_icltF (tn := 21) rfl rfl c20 ?_
              refine wp_sipush rfl ?_
              refine wp_lret rfl rfl ?_
              show Wp X _ 246 60 [vr 57, vr 37, vi x2, vl (x3 + 0), vu, vl x5, vu, vi x7, vi 8] [vl 0, vl x5] _ _
              refine wp_ladd rfl ?_
              have g24 := H.1
              replace H := H.2
              refine Wp.topL (y := (x5 + 0)) (w64_I g24) ?_
              refine wp_lstore (L2 := [vr 57, vr 37, vi x2, vl (x3 + 0), vu, vl (x5 + 0), vu, vi x7, vi 8]) rfl (Nat.le_of_ble_eq_true rfl) rfl ?_
              have g25 := H.1
              replace H := H.2
              refine wp_iincR (L2 := [vr 57, vr 37, vi x2, vl (x3 + 0), vu, vl (x5 + 0), vu, vi (x7 + 1), vi 8]) rfl rfl g25 rfl ?_
              refine wp_goto (tn := 14) rfl rfl ?_
              exact H
        · replace H := H.2 c15
          refine wp_iconst rfl ?_
          refine wp_goto (tn := 17) rfl rfl ?_
          refine wp_zret rfl rfl (by decide) ?_
          show Wp X _ 192 5 [vr 37, vi (x2 - x7)] [vi 1] _ _
          refine wp_ifeqF (tn := 17) rfl rfl (by decide) ?_
          refine wp_aload rfl rfl ?_
          refine wp_getR (r := 39) rfl (congrArg Prod.fst (kf_37 X.1)) rfl ?_
          refine wp_iload rfl rfl ?_
          have g26 := H.1
          replace H := H.2
          refine wp_iaload rfl (kf_40 X.1) g26 ?_
          refine wp_goto (tn := 19) rfl rfl ?_
          refine wp_iret rfl rfl ?_
          show Wp X _ 246 37 [vr 57, vr 37, vi x2, vl x3, vu, vl x5, vu, vi x7, zx8] [vi (h 40 (x2 - x7))] _ _
          refine wp_istore (L2 := [vr 57, vr 37, vi x2, vl x3, vu, vl x5, vu, vi x7, vi (h 40 (x2 - x7))]) rfl (Nat.le_of_ble_eq_true rfl) rfl ?_
          refine wp_lload rfl rfl ?_
          refine wp_aload rfl rfl ?_
          refine wp_iload rfl rfl ?_
          refine wp_iload rfl rfl ?_
          refine wp_call (k := 239) (ρ2 := 0) (L2 := [vr 57, vi (h 40 (x2 - x7)), vi x7]) rfl rfl rfl (Nat.le_of_ble_eq_true rfl) (Nat.le_of_ble_eq_true rfl) (Nat.le_of_ble_eq_true rfl) (rcv_V rfl (congrArg Prod.fst (kf_57 X.1))) rfl ?_
          refine wp_iload rfl rfl ?_
          refine wp_iflt (tn := 19) rfl rfl (fun c27 => ?_) (fun c27 => ?_)
          · replace H := H.1 c27
            refine wp_sipush rfl ?_
            refine wp_lret rfl rfl ?_
            show Wp X _ 246 48 [vr 57, vr 37, vi x2, vl x3, vu, vl x5, vu, vi x7, vi (h 40 (x2 - x7))] [vl 0, vl x3] _ _
            refine wp_ladd rfl ?_
            have g28 := H.1
            replace H := H.2
            refine Wp.topL (y := (x3 + 0)) (w64_I g28) ?_
            refine wp_lstore (L2 := [vr 57, vr 37, vi x2, vl (x3 + 0), vu, vl x5, vu, vi x7, vi (h 40 (x2 - x7))]) rfl (Nat.le_of_ble_eq_true rfl) rfl ?_
            refine wp_lload rfl rfl ?_
            refine wp_aload rfl rfl ?_
            refine wp_iload rfl rfl ?_
            refine wp_iload rfl rfl ?_
            refine wp_call (k := 240) (ρ2 := 0) (L2 := [vr 57, vi (h 40 (x2 - x7)), vi x7]) rfl rfl rfl (Nat.le_of_ble_eq_true rfl) (Nat.le_of_ble_eq_true rfl) (Nat.le_of_ble_eq_true rfl) (rcv_V rfl (congrArg Prod.fst (kf_57 X.1))) rfl ?_
            refine wp_iload rfl rfl ?_
            refine wp_ifltT (tn := 19) rfl rfl c27 ?_
            refine wp_sipush rfl ?_
            refine wp_lret rfl rfl ?_
            show Wp X _ 246 60 [vr 57, vr 37, vi x2, vl (x3 + 0), vu, vl x5, vu, vi x7, vi (h 40 (x2 - x7))] [vl 0, vl x5] _ _
            refine wp_ladd rfl ?_
            have g29 := H.1
            replace H := H.2
            refine Wp.topL (y := (x5 + 0)) (w64_I g29) ?_
            refine wp_lstore (L2 := [vr 57, vr 37, vi x2, vl (x3 + 0), vu, vl (x5 + 0), vu, vi x7, vi (h 40 (x2 - x7))]) rfl (Nat.le_of_ble_eq_true rfl) rfl ?_
            have g30 := H.1
            replace H := H.2
            refine wp_iincR (L2 := [vr 57, vr 37, vi x2, vl (x3 + 0), vu, vl (x5 + 0), vu, vi (x7 + 1), vi (h 40 (x2 - x7))]) rfl rfl g30 rfl ?_
            refine wp_goto (tn := 14) rfl rfl ?_
            exact H
          · replace H := H.2 c27
            refine wp_iload rfl rfl ?_
            refine wp_iconst rfl ?_
            refine wp_icge (tn := 19) rfl rfl (fun c31 => ?_) (fun c31 => ?_)
            · replace H := H.1 c31
              refine wp_sipush rfl ?_
              refine wp_lret rfl rfl ?_
              show Wp X _ 246 48 [vr 57, vr 37, vi x2, vl x3, vu, vl x5, vu, vi x7, vi (h 40 (x2 - x7))] [vl 0, vl x3] _ _
              refine wp_ladd rfl ?_
              have g32 := H.1
              replace H := H.2
              refine Wp.topL (y := (x3 + 0)) (w64_I g32) ?_
              refine wp_lstore (L2 := [vr 57, vr 37, vi x2, vl (x3 + 0), vu, vl x5, vu, vi x7, vi (h 40 (x2 - x7))]) rfl (Nat.le_of_ble_eq_true rfl) rfl ?_
              refine wp_lload rfl rfl ?_
              refine wp_aload rfl rfl ?_
              refine wp_iload rfl rfl ?_
              refine wp_iload rfl rfl ?_
              refine wp_call (k := 240) (ρ2 := 0) (L2 := [vr 57, vi (h 40 (x2 - x7)), vi x7]) rfl rfl rfl (Nat.le_of_ble_eq_true rfl) (Nat.le_of_ble_eq_true rfl) (Nat.le_of_ble_eq_true rfl) (rcv_V rfl (congrArg Prod.fst (kf_57 X.1))) rfl ?_
              refine wp_iload rfl rfl ?_
              refine wp_ifltF (tn := 19) rfl rfl c27 ?_
              refine wp_iload rfl rfl ?_
              refine wp_iconst rfl ?_
              refine wp_icgeT (tn := 19) rfl rfl c31 ?_
              refine wp_sipush rfl ?_
              refine wp_lret rfl rfl ?_
              show Wp X _ 246 60 [vr 57, vr 37, vi x2, vl (x3 + 0), vu, vl x5, vu, vi x7, vi (h 40 (x2 - x7))] [vl 0, vl x5] _ _
              refine wp_ladd rfl ?_
              have g33 := H.1
              replace H := H.2
              refine Wp.topL (y := (x5 + 0)) (w64_I g33) ?_
              refine wp_lstore (L2 := [vr 57, vr 37, vi x2, vl (x3 + 0), vu, vl (x5 + 0), vu, vi x7, vi (h 40 (x2 - x7))]) rfl (Nat.le_of_ble_eq_true rfl) rfl ?_
              have g34 := H.1
              replace H := H.2
              refine wp_iincR (L2 := [vr 57, vr 37, vi x2, vl (x3 + 0), vu, vl (x5 + 0), vu, vi (x7 + 1), vi (h 40 (x2 - x7))]) rfl rfl g34 rfl ?_
              refine wp_goto (tn := 14) rfl rfl ?_
              exact H
            · replace H := H.2 c31
              refine wp_iload rfl rfl ?_
              refine wp_iflt (tn := 19) rfl rfl (fun c35 => ?_) (fun c35 => ?_)
              · replace H := H.1 c35
                refine wp_sipush rfl ?_
                refine wp_lret rfl rfl ?_
                show Wp X _ 246 48 [vr 57, vr 37, vi x2, vl x3, vu, vl x5, vu, vi x7, vi (h 40 (x2 - x7))] [vl 0, vl x3] _ _
                refine wp_ladd rfl ?_
                have g36 := H.1
                replace H := H.2
                refine Wp.topL (y := (x3 + 0)) (w64_I g36) ?_
                refine wp_lstore (L2 := [vr 57, vr 37, vi x2, vl (x3 + 0), vu, vl x5, vu, vi x7, vi (h 40 (x2 - x7))]) rfl (Nat.le_of_ble_eq_true rfl) rfl ?_
                refine wp_lload rfl rfl ?_
                refine wp_aload rfl rfl ?_
                refine wp_iload rfl rfl ?_
                refine wp_iload rfl rfl ?_
                refine wp_call (k := 240) (ρ2 := 0) (L2 := [vr 57, vi (h 40 (x2 - x7)), vi x7]) rfl rfl rfl (Nat.le_of_ble_eq_true rfl) (Nat.le_of_ble_eq_true rfl) (Nat.le_of_ble_eq_true rfl) (rcv_V rfl (congrArg Prod.fst (kf_57 X.1))) rfl ?_
                refine wp_iload rfl rfl ?_
                refine wp_ifltF (tn := 19) rfl rfl c27 ?_
                refine wp_iload rfl rfl ?_
                refine wp_iconst rfl ?_
                refine wp_icgeF (tn := 19) rfl rfl c31 ?_
                refine wp_iload rfl rfl ?_
                refine wp_ifltT (tn := 19) rfl rfl c35 ?_
                refine wp_sipush rfl ?_
                refine wp_lret rfl rfl ?_
                show Wp X _ 246 60 [vr 57, vr 37, vi x2, vl (x3 + 0), vu, vl x5, vu, vi x7, vi (h 40 (x2 - x7))] [vl 0, vl x5] _ _
                refine wp_ladd rfl ?_
                have g37 := H.1
                replace H := H.2
                refine Wp.topL (y := (x5 + 0)) (w64_I g37) ?_
                refine wp_lstore (L2 := [vr 57, vr 37, vi x2, vl (x3 + 0), vu, vl (x5 + 0), vu, vi x7, vi (h 40 (x2 - x7))]) rfl (Nat.le_of_ble_eq_true rfl) rfl ?_
                have g38 := H.1
                replace H := H.2
                refine wp_iincR (L2 := [vr 57, vr 37, vi x2, vl (x3 + 0), vu, vl (x5 + 0), vu, vi (x7 + 1), vi (h 40 (x2 - x7))]) rfl rfl g38 rfl ?_
                refine wp_goto (tn := 14) rfl rfl ?_
                exact H
              · replace H := H.2 c35
                refine wp_iload rfl rfl ?_
                refine wp_iconst rfl ?_
                refine wp_iclt (tn := 21) rfl rfl (fun c39 => ?_) (fun c39 => ?_)
                · replace H := H.1 c39
                  refine wp_aload rfl rfl ?_
                  refine wp_getR (r := 57) rfl (congrArg Prod.fst (kf_57 X.1)) rfl ?_
                  refine wp_iload rfl rfl ?_
                  refine wp_laload rfl (kf_58 X.1) ⟨c27, c31⟩ ?_
                  refine wp_aload rfl rfl ?_
                  refine wp_getR (r := 59) rfl (congrArg Prod.fst (kf_57 X.1)) rfl ?_
                  refine wp_iload rfl rfl ?_
                  refine wp_laload rfl (kf_60 X.1) ⟨c35, c39⟩ ?_
                  refine wp_land rfl ?_
                  refine wp_lret rfl rfl ?_
                  show Wp X _ 246 48 [vr 57, vr 37, vi x2, vl x3, vu, vl x5, vu, vi x7, vi (h 40 (x2 - x7))] [vl ((i64 (h 58 (h 40 (x2 - x7))) &&& i64 (h 60 x7)).toInt), vl x3] _ _
                  refine wp_ladd rfl ?_
                  have g40 := H.1
                  replace H := H.2
                  refine Wp.topL (y := (x3 + ((i64 (h 58 (h 40 (x2 - x7))) &&& i64 (h 60 x7)).toInt))) (w64_I g40) ?_
                  refine wp_lstore (L2 := [vr 57, vr 37, vi x2, vl (x3 + ((i64 (h 58 (h 40 (x2 - x7))) &&& i64 (h 60 x7)).toInt)), vu, vl x5, vu, vi x7, vi (h 40 (x2 - x7))]) rfl (Nat.le_of_ble_eq_true rfl) rfl ?_
                  refine wp_lload rfl rfl ?_
                  refine wp_aload rfl rfl ?_
                  refine wp_iload rfl rfl ?_
                  refine wp_iload rfl rfl ?_
                  refine wp_call (k := 240) (ρ2 := 0) (L2 := [vr 57, vi (h 40 (x2 - x7)), vi x7]) rfl rfl rfl (Nat.le_of_ble_eq_true rfl) (Nat.le_of_ble_eq_true rfl) (Nat.le_of_ble_eq_true rfl) (rcv_V rfl (congrArg Prod.fst (kf_57 X.1))) rfl ?_
                  refine wp_iload rfl rfl ?_
                  refine wp_ifltF (tn := 19) rfl rfl c27 ?_
                  refine wp_iload rfl rfl ?_
                  refine wp_iconst rfl ?_
                  refine wp_icgeF (tn := 19) rfl rfl c31 ?_
                  refine wp_iload rfl rfl ?_
                  refine wp_ifltF (tn := 19) rfl rfl c35 ?_
                  refine wp_iload rfl rfl ?_
                  refine wp_iconst rfl ?_
                  refine wp_icltT (tn := 21) rfl rfl c39 ?_
                  refine wp_aload rfl rfl ?_
                  refine wp_getR (r := 58) rfl (congrArg Prod.fst (kf_57 X.1)) rfl ?_
                  refine wp_iload rfl rfl ?_
                  refine wp_laload rfl (kf_59 X.1) ⟨c27, c31⟩ ?_
                  refine wp_aload rfl rfl ?_
                  refine wp_getR (r := 59) rfl (congrArg Prod.fst (kf_57 X.1)) rfl ?_
                  refine wp_iload rfl rfl ?_
                  refine wp_laload rfl (kf_60 X.1) ⟨c35, c39⟩ ?_
                  refine wp_land rfl ?_
                  refine wp_lret rfl rfl ?_
                  show Wp X _ 246 60 [vr 57, vr 37, vi x2, vl (x3 + ((i64 (h 58 (h 40 (x2 - x7))) &&& i64 (h 60 x7)).toInt)), vu, vl x5, vu, vi x7, vi (h 40 (x2 - x7))] [vl ((i64 (h 59 (h 40 (x2 - x7))) &&& i64 (h 60 x7)).toInt), vl x5] _ _
                  refine wp_ladd rfl ?_
                  have g41 := H.1
                  replace H := H.2
                  refine Wp.topL (y := (x5 + ((i64 (h 59 (h 40 (x2 - x7))) &&& i64 (h 60 x7)).toInt))) (w64_I g41) ?_
                  refine wp_lstore (L2 := [vr 57, vr 37, vi x2, vl (x3 + ((i64 (h 58 (h 40 (x2 - x7))) &&& i64 (h 60 x7)).toInt)), vu, vl (x5 + ((i64 (h 59 (h 40 (x2 - x7))) &&& i64 (h 60 x7)).toInt)), vu, vi x7, vi (h 40 (x2 - x7))]) rfl (Nat.le_of_ble_eq_true rfl) rfl ?_
                  refine wp_iincR (L2 := [vr 57, vr 37, vi x2, vl (x3 + ((i64 (h 58 (h 40 (x2 - x7))) &&& i64 (h 60 x7)).toInt)), vu, vl (x5 + ((i64 (h 59 (h 40 (x2 - x7))) &&& i64 (h 60 x7)).toInt)), vu, vi (x7 + 1), vi (h 40 (x2 - x7))]) rfl rfl (by clear H; unfold R32; omega) rfl ?_
                  refine wp_goto (tn := 14) rfl rfl ?_
                  exact H
                · replace H := H.2 c39
                  refine wp_sipush rfl ?_
                  refine wp_lret rfl rfl ?_
                  show Wp X _ 246 48 [vr 57, vr 37, vi x2, vl x3, vu, vl x5, vu, vi x7, vi (h 40 (x2 - x7))] [vl 0, vl x3] _ _
                  refine wp_ladd rfl ?_
                  have g42 := H.1
                  replace H := H.2
                  refine Wp.topL (y := (x3 + 0)) (w64_I g42) ?_
                  refine wp_lstore (L2 := [vr 57, vr 37, vi x2, vl (x3 + 0), vu, vl x5, vu, vi x7, vi (h 40 (x2 - x7))]) rfl (Nat.le_of_ble_eq_true rfl) rfl ?_
                  refine wp_lload rfl rfl ?_
                  refine wp_aload rfl rfl ?_
                  refine wp_iload rfl rfl ?_
                  refine wp_iload rfl rfl ?_
                  refine wp_call (k := 240) (ρ2 := 0) (L2 := [vr 57, vi (h 40 (x2 - x7)), vi x7]) rfl rfl rfl (Nat.le_of_ble_eq_true rfl) (Nat.le_of_ble_eq_true rfl) (Nat.le_of_ble_eq_true rfl) (rcv_V rfl (congrArg Prod.fst (kf_57 X.1))) rfl ?_
                  refine wp_iload rfl rfl ?_
                  refine wp_ifltF (tn := 19) rfl rfl c27 ?_
                  refine wp_iload rfl rfl ?_
                  refine wp_iconst rfl ?_
                  refine wp_icgeF (tn := 19) rfl rfl c31 ?_
                  refine wp_iload rfl rfl ?_
                  refine wp_ifltF (tn := 19) rfl rfl c35 ?_
                  refine wp_iload rfl rfl ?_
                  refine wp_iconst rfl ?_
                  refine wp_icltF (tn := 21) rfl rfl c39 ?_
                  refine wp_sipush rfl ?_
                  refine wp_lret rfl rfl ?_
                  show Wp X _ 246 60 [vr 57, vr 37, vi x2, vl (x3 + 0), vu, vl x5, vu, vi x7, vi (h 40 (x2 - x7))] [vl 0, vl x5] _ _
                  refine wp_ladd rfl ?_
                  have g43 := H.1
                  replace H := H.2
                  refine Wp.topL (y := (x5 + 0)) (w64_I g43) ?_
                  refine wp_lstore (L2 := [vr 57, vr 37, vi x2, vl (x3 + 0), vu, vl (x5 + 0), vu, vi x7, vi (h 40 (x2 - x7))]) rfl (Nat.le_of_ble_eq_true rfl) rfl ?_
                  have g44 := H.1
                  replace H := H.2
                  refine wp_iincR (L2 := [vr 57, vr 37, vi x2, vl (x3 + 0), vu, vl (x5 + 0), vu, vi (x7 + 1), vi (h 40 (x2 - x7))]) rfl rfl g44 rfl ?_
                  refine wp_goto (tn := 14) rfl rfl ?_
                  exact H
/-- ZoneRules.reachedAt(L$Row;I)J, from 0 -/
theorem S246_57_62_0 {X : Nat × (Int → Int)} {h : HP} {Q : bQ} (x2 : Int) (H : Wp X 2 246 14 [vr 57, vr 62, vi x2, vl (h 57 3), vu, vl (h 57 3), vu, vi 0, vu] [] h Q) : Wp X 2 246 0 [vr 57, vr 62, vi x2, vu, vu, vu, vu, vu, vu] [] h Q := by
  refine wp_aload rfl rfl ?_
  refine wp_getL (j := 3) rfl (congrArg Prod.fst (kf_57 X.1)) rfl ?_
  refine wp_lstore (L2 := [vr 57, vr 62, vi x2, vl (h 57 3), vu, vu, vu, vu, vu]) rfl (Nat.le_of_ble_eq_true rfl) rfl ?_
  refine wp_aload rfl rfl ?_
  refine wp_getL (j := 3) rfl (congrArg Prod.fst (kf_57 X.1)) rfl ?_
  refine wp_lstore (L2 := [vr 57, vr 62, vi x2, vl (h 57 3), vu, vl (h 57 3), vu, vu, vu]) rfl (Nat.le_of_ble_eq_true rfl) rfl ?_
  refine wp_iconst rfl ?_
  refine wp_istore (L2 := [vr 57, vr 62, vi x2, vl (h 57 3), vu, vl (h 57 3), vu, vi 0, vu]) rfl (Nat.le_of_ble_eq_true rfl) rfl ?_
  exact H
/-- ZoneRules.reachedAt(L$Row;I)J, from 14 -/
theorem S246_57_62_14 {X : Nat × (Int → Int)} {h : HP} {Q : bQ} (x2 : Int) (x3 : Int) (x5 : Int) (x7 : Int) (zx8 : aV) (H : (((h 57 4) ≤ x7 → Q (some (vl ((i64 ((i64 x3 ||| i64 x5).toInt) &&& i64 (-9187201950435737472)).toInt))) h) ∧ (x7 < (h 57 4) → ((x2 < x7 → Q (some (vl ((i64 ((i64 x3 ||| i64 x5).toInt) &&& i64 (-9187201950435737472)).toInt))) h) ∧ (x7 ≤ x2 → ((R32 (x2 - x7)) ∧ (((x2 - x7) < 0 → ((x7 < 0 → ((R64 (x3 + 0)) ∧ ((R64 (x5 + 0)) ∧ ((R32 (x7 + 1)) ∧ Wp X 2 246 14 [vr 57, vr 62, vi x2, vl (x3 + 0), vu, vl (x5 + 0), vu, vi (x7 + 1), vi 8] [] h Q)))) ∧ (0 ≤ x7 → ((x7 < 5 → ((R64 (x3 + ((i64 (h 58 8) &&& i64 (h 60 x7)).toInt))) ∧ ((R64 (x5 + ((i64 (h 59 8) &&& i64 (h 60 x7)).toInt))) ∧ Wp X 2 246 14 [vr 57, vr 62, vi x2, vl (x3 + ((i64 (h 58 8) &&& i64 (h 60 x7)).toInt)), vu, vl (x5 + ((i64 (h 59 8) &&& i64 (h 60 x7)).toInt)), vu, vi (x7 + 1), vi 8] [] h Q))) ∧ (5 ≤ x7 → ((R64 (x3 + 0)) ∧ ((R64 (x5 + 0)) ∧ ((R32 (x7 + 1)) ∧ Wp X 2 246 14 [vr 57, vr 62, vi x2, vl (x3 + 0), vu, vl (x5 + 0), vu, vi (x7 + 1), vi 8] [] h Q)))))))) ∧ (0 ≤ (x2 - x7) → (((h 62 6) ≤ (x2 - x7) → ((x7 < 0 → ((R64 (x3 + 0)) ∧ ((R64 (x5 + 0)) ∧ ((R32 (x7 + 1)) ∧ Wp X 2 246 14 [vr 57, vr 62, vi x2, vl (x3 + 0), vu, vl (x5 + 0), vu, vi (x7 + 1), vi 8] [] h Q)))) ∧ (0 ≤ x7 → ((x7 < 5 → ((R64 (x3 + ((i64 (h 58 8) &&& i64 (h 60 x7)).toInt))) ∧ ((R64 (x5 + ((i64 (h 59 8) &&& i64 (h 60 x7)).toInt))) ∧ Wp X 2 246 14 [vr 57, vr 62, vi x2, vl (x3 + ((i64 (h 58 8) &&& i64 (h 60 x7)).toInt)), vu, vl (x5 + ((i64 (h 59 8) &&& i64 (h 60 x7)).toInt)), vu, vi (x7 + 1), vi 8] [] h Q))) ∧ (5 ≤ x7 → ((R64 (x3 + 0)) ∧ ((R64 (x5 + 0)) ∧ ((R32 (x7 + 1)) ∧ Wp X 2 246 14 [vr 57, vr 62, vi x2, vl (x3 + 0), vu, vl (x5 + 0), vu, vi (x7 + 1), vi 8] [] h Q)))))))) ∧ ((x2 - x7) < (h 62 6) → ((0 ≤ (x2 - x7) ∧ (x2 - x7) < 20) ∧ (((h 65 (x2 - x7)) < 0 → ((R64 (x3 + 0)) ∧ ((R64 (x5 + 0)) ∧ ((R32 (x7 + 1)) ∧ Wp X 2 246 14 [vr 57, vr 62, vi x2, vl (x3 + 0), vu, vl (x5 + 0), vu, vi (x7 + 1), vi (h 65 (x2 - x7))] [] h Q)))) ∧ (0 ≤ (h 65 (x2 - x7)) → ((9 ≤ (h 65 (x2 - x7)) → ((R64 (x3 + 0)) ∧ ((R64 (x5 + 0)) ∧ ((R32 (x7 + 1)) ∧ Wp X 2 246 14 [vr 57, vr 62, vi x2, vl (x3 + 0), vu, vl (x5 + 0), vu, vi (x7 + 1), vi (h 65 (x2 - x7))] [] h Q)))) ∧ ((h 65 (x2 - x7)) < 9 → ((x7 < 0 → ((R64 (x3 + 0)) ∧ ((R64 (x5 + 0)) ∧ ((R32 (x7 + 1)) ∧ Wp X 2 246 14 [vr 57, vr 62, vi x2, vl (x3 + 0), vu, vl (x5 + 0), vu, vi (x7 + 1), vi (h 65 (x2 - x7))] [] h Q)))) ∧ (0 ≤ x7 → ((x7 < 5 → ((R64 (x3 + ((i64 (h 58 (h 65 (x2 - x7))) &&& i64 (h 60 x7)).toInt))) ∧ ((R64 (x5 + ((i64 (h 59 (h 65 (x2 - x7))) &&& i64 (h 60 x7)).toInt))) ∧ Wp X 2 246 14 [vr 57, vr 62, vi x2, vl (x3 + ((i64 (h 58 (h 65 (x2 - x7))) &&& i64 (h 60 x7)).toInt)), vu, vl (x5 + ((i64 (h 59 (h 65 (x2 - x7))) &&& i64 (h 60 x7)).toInt)), vu, vi (x7 + 1), vi (h 65 (x2 - x7))] [] h Q))) ∧ (5 ≤ x7 → ((R64 (x3 + 0)) ∧ ((R64 (x5 + 0)) ∧ ((R32 (x7 + 1)) ∧ Wp X 2 246 14 [vr 57, vr 62, vi x2, vl (x3 + 0), vu, vl (x5 + 0), vu, vi (x7 + 1), vi (h 65 (x2 - x7))] [] h Q)))))))))))))))))))))) : Wp X 2 246 14 [vr 57, vr 62, vi x2, vl x3, vu, vl x5, vu, vi x7, zx8] [] h Q := by
  refine wp_iload rfl rfl ?_
  refine wp_aload rfl rfl ?_
  refine wp_getI (j := 4) rfl (congrArg Prod.fst (kf_57 X.1)) rfl ?_
  refine wp_icge (tn := 69) rfl rfl (fun c1 => ?_) (fun c1 => ?_)
  · replace H := H.1 c1
    refine wp_lload rfl rfl ?_
    refine wp_lload rfl rfl ?_
    refine wp_lor rfl ?_
    refine wp_sipush rfl ?_
    refine wp_land rfl ?_
    exact wp_lret rfl rfl H
  · replace H := H.2 c1
    refine wp_iload rfl rfl ?_
    refine wp_iload rfl rfl ?_
    refine wp_icgt (tn := 69) rfl rfl (fun c2 => ?_) (fun c2 => ?_)
    · replace H := H.1 c2
      refine wp_lload rfl rfl ?_
      refine wp_lload rfl rfl ?_
      refine wp_lor rfl ?_
      refine wp_sipush rfl ?_
      refine wp_land rfl ?_
      exact wp_lret rfl rfl H
    · replace H := H.2 c2
      refine wp_aload rfl rfl ?_
      refine wp_iload rfl rfl ?_
      refine wp_iload rfl rfl ?_
      refine wp_isub rfl ?_
      have g3 := H.1
      replace H := H.2
      refine Wp.topI (y := (x2 - x7)) (w32_I g3) ?_
      refine wp_call (k := 192) (ρ2 := 1) (L2 := [vr 62, vi (x2 - x7)]) rfl rfl rfl (Nat.le_of_ble_eq_true rfl) (Nat.le_of_ble_eq_true rfl) (Nat.le_of_ble_eq_true rfl) (rcv_V rfl (congrArg Prod.fst (kf_62 X.1))) rfl ?_
      refine wp_aload rfl rfl ?_
      refine wp_iload rfl rfl ?_
      refine wp_call (k := 189) (ρ2 := 0) (L2 := [vr 62, vi (x2 - x7)]) rfl rfl rfl (Nat.le_of_ble_eq_true rfl) (Nat.le_of_ble_eq_true rfl) (Nat.le_of_ble_eq_true rfl) (rcv_V rfl (congrArg Prod.fst (kf_62 X.1))) rfl ?_
      refine wp_iload rfl rfl ?_
      refine wp_iflt (tn := 16) rfl rfl (fun c4 => ?_) (fun c4 => ?_)
      · replace H := H.1 c4
        refine wp_iconst rfl ?_
        refine wp_zret rfl rfl (by decide) ?_
        show Wp X _ 192 5 [vr 62, vi (x2 - x7)] [vi 0] _ _
        refine wp_ifeqT (tn := 17) rfl rfl (by decide) ?_
        refine wp_iconst rfl ?_
        refine wp_iret rfl rfl ?_
        show Wp X _ 246 37 [vr 57, vr 62, vi x2, vl x3, vu, vl x5, vu, vi x7, zx8] [vi 8] _ _
        refine wp_istore (L2 := [vr 57, vr 62, vi x2, vl x3, vu, vl x5, vu, vi x7, vi 8]) rfl (Nat.le_of_ble_eq_true rfl) rfl ?_
        refine wp_lload rfl rfl ?_
        refine wp_aload rfl rfl ?_
        refine wp_iload rfl rfl ?_
        refine wp_iload rfl rfl ?_
        refine wp_call (k := 239) (ρ2 := 0) (L2 := [vr 57, vi 8, vi x7]) rfl rfl rfl (Nat.le_of_ble_eq_true rfl) (Nat.le_of_ble_eq_true rfl) (Nat.le_of_ble_eq_true rfl) (rcv_V rfl (congrArg Prod.fst (kf_57 X.1))) rfl ?_
        refine wp_iload rfl rfl ?_
        refine wp_ifltF (tn := 19) rfl rfl (by decide) ?_
        refine wp_iload rfl rfl ?_
        refine wp_iconst rfl ?_
        refine wp_icgeF (tn := 19) rfl rfl (by decide) ?_
        refine wp_iload rfl rfl ?_
        refine wp_iflt (tn := 19) rfl rfl (fun c5 => ?_) (fun c5 => ?_)
        · replace H := H.1 c5
          refine wp_sipush rfl ?_
          refine wp_lret rfl rfl ?_
          show Wp X _ 246 48 [vr 57, vr 62, vi x2, vl x3, vu, vl x5, vu, vi x7, vi 8] [vl 0, vl x3] _ _
          refine wp_ladd rfl ?_
          have g6 := H.1
          replace H := H.2
          refine Wp.topL (y := (x3 + 0)) (w64_I g6) ?_
          refine wp_lstore (L2 := [vr 57, vr 62, vi x2, vl (x3 + 0), vu, vl x5, vu, vi x7, vi 8]) rfl (Nat.le_of_ble_eq_true rfl) rfl ?_
          refine wp_lload rfl rfl ?_
          refine wp_aload rfl rfl ?_
          refine wp_iload rfl rfl ?_
          refine wp_iload rfl rfl ?_
          refine wp_call (k := 240) (ρ2 := 0) (L2 := [vr 57, vi 8, vi x7]) rfl rfl rfl (Nat.le_of_ble_eq_true rfl) (Nat.le_of_ble_eq_true rfl) (Nat.le_of_ble_eq_true rfl) (rcv_V rfl (congrArg Prod.fst (kf_57 X.1))) rfl ?_
          refine wp_iload rfl rfl ?_
          refine wp_ifltF (tn := 19) rfl rfl (by decide) ?_
          refine wp_iload rfl rfl ?_
          refine wp_iconst rfl ?_
          refine wp_icgeF (tn := 19) rfl rfl (by decide) ?_
          refine wp_iload rfl rfl ?_
          refine wp_ifltT (tn := 19) rfl rfl c5 ?_
          refine wp_sipush rfl ?_
          refine wp_lret rfl rfl ?_
          show Wp X _ 246 60 [vr 57, vr 62, vi x2, vl (x3 + 0), vu, vl x5, vu, vi x7, vi 8] [vl 0, vl x5] _ _
          refine wp_ladd rfl ?_
          have g7 := H.1
          replace H := H.2
          refine Wp.topL (y := (x5 + 0)) (w64_I g7) ?_
          refine wp_lstore (L2 := [vr 57, vr 62, vi x2, vl (x3 + 0), vu, vl (x5 + 0), vu, vi x7, vi 8]) rfl (Nat.le_of_ble_eq_true rfl) rfl ?_
          have g8 := H.1
          replace H := H.2
          refine wp_iincR (L2 := [vr 57, vr 62, vi x2, vl (x3 + 0), vu, vl (x5 + 0), vu, vi (x7 + 1), vi 8]) rfl rfl g8 rfl ?_
          refine wp_goto (tn := 14) rfl rfl ?_
          exact H
        · replace H := H.2 c5
          refine wp_iload rfl rfl ?_
          refine wp_iconst rfl ?_
          refine wp_iclt (tn := 21) rfl rfl (fun c9 => ?_) (fun c9 => ?_)
          · replace H := H.1 c9
            refine wp_aload rfl rfl ?_
            refine wp_getR (r := 57) rfl (congrArg Prod.fst (kf_57 X.1)) rfl ?_
            refine wp_iload rfl rfl ?_
            refine wp_laload rfl (kf_58 X.1) (by decide) ?_
            refine wp_aload rfl rfl ?_
            refine wp_getR (r := 59) rfl (congrArg Prod.fst (kf_57 X.1)) rfl ?_
            refine wp_iload rfl rfl ?_
            refine wp_laload rfl (kf_60 X.1) ⟨c5, c9⟩ ?_
            refine wp_land rfl ?_
            refine wp_lret rfl rfl ?_
            show Wp X _ 246 48 [vr 57, vr 62, vi x2, vl x3, vu, vl x5, vu, vi x7, vi 8] [vl ((i64 (h 58 8) &&& i64 (h 60 x7)).toInt), vl x3] _ _
            refine wp_ladd rfl ?_
            have g10 := H.1
            replace H := H.2
            refine Wp.topL (y := (x3 + ((i64 (h 58 8) &&& i64 (h 60 x7)).toInt))) (w64_I g10) ?_
            refine wp_lstore (L2 := [vr 57, vr 62, vi x2, vl (x3 + ((i64 (h 58 8) &&& i64 (h 60 x7)).toInt)), vu, vl x5, vu, vi x7, vi 8]) rfl (Nat.le_of_ble_eq_true rfl) rfl ?_
            refine wp_lload rfl rfl ?_
            refine wp_aload rfl rfl ?_
            refine wp_iload rfl rfl ?_
            refine wp_iload rfl rfl ?_
            refine wp_call (k := 240) (ρ2 := 0) (L2 := [vr 57, vi 8, vi x7]) rfl rfl rfl (Nat.le_of_ble_eq_true rfl) (Nat.le_of_ble_eq_true rfl) (Nat.le_of_ble_eq_true rfl) (rcv_V rfl (congrArg Prod.fst (kf_57 X.1))) rfl ?_
            refine wp_iload rfl rfl ?_
            refine wp_ifltF (tn := 19) rfl rfl (by decide) ?_
            refine wp_iload rfl rfl ?_
            refine wp_iconst rfl ?_
            refine wp_icgeF (tn := 19) rfl rfl (by decide) ?_
            refine wp_iload rfl rfl ?_
            refine wp_ifltF (tn := 19) rfl rfl c5 ?_
            refine wp_iload rfl rfl ?_
            refine wp_iconst rfl ?_
            refine wp_icltT (tn := 21) rfl rfl c9 ?_
            refine wp_aload rfl rfl ?_
            refine wp_getR (r := 58) rfl (congrArg Prod.fst (kf_57 X.1)) rfl ?_
            refine wp_iload rfl rfl ?_
            refine wp_laload rfl (kf_59 X.1) (by decide) ?_
            refine wp_aload rfl rfl ?_
            refine wp_getR (r := 59) rfl (congrArg Prod.fst (kf_57 X.1)) rfl ?_
            refine wp_iload rfl rfl ?_
            refine wp_laload rfl (kf_60 X.1) ⟨c5, c9⟩ ?_
            refine wp_land rfl ?_
            refine wp_lret rfl rfl ?_
            show Wp X _ 246 60 [vr 57, vr 62, vi x2, vl (x3 + ((i64 (h 58 8) &&& i64 (h 60 x7)).toInt)), vu, vl x5, vu, vi x7, vi 8] [vl ((i64 (h 59 8) &&& i64 (h 60 x7)).toInt), vl x5] _ _
            refine wp_ladd rfl ?_
            have g11 := H.1
            replace H := H.2
            refine Wp.topL (y := (x5 + ((i64 (h 59 8) &&& i64 (h 60 x7)).toInt))) (w64_I g11) ?_
            refine wp_lstore (L2 := [vr 57, vr 62, vi x2, vl (x3 + ((i64 (h 58 8) &&& i64 (h 60 x7)).toInt)), vu, vl (x5 + ((i64 (h 59 8) &&& i64 (h 60 x7)).toInt)), vu, vi x7, vi 8]) rfl (Nat.le_of_ble_eq_true rfl) rfl ?_
            refine wp_iincR (L2 := [vr 57, vr 62, vi x2, vl (x3 + ((i64 (h 58 8) &&& i64 (h 60 x7)).toInt)), vu, vl (x5 + ((i64 (h 59 8) &&& i64 (h 60 x7)).toInt)), vu, vi (x7 + 1), vi 8]) rfl rfl (by clear H; unfold R32; omega) rfl ?_
            refine wp_goto (tn := 14) rfl rfl ?_
            exact H
          · replace H := H.2 c9
            refine wp_sipush rfl ?_
            refine wp_lret rfl rfl ?_
            show Wp X _ 246 48 [vr 57, vr 62, vi x2, vl x3, vu, vl x5, vu, vi x7, vi 8] [vl 0, vl x3] _ _
            refine wp_ladd rfl ?_
            have g12 := H.1
            replace H := H.2
            refine Wp.topL (y := (x3 + 0)) (w64_I g12) ?_
            refine wp_lstore (L2 := [vr 57, vr 62, vi x2, vl (x3 + 0), vu, vl x5, vu, vi x7, vi 8]) rfl (Nat.le_of_ble_eq_true rfl) rfl ?_
            refine wp_lload rfl rfl ?_
            refine wp_aload rfl rfl ?_
            refine wp_iload rfl rfl ?_
            refine wp_iload rfl rfl ?_
            refine wp_call (k := 240) (ρ2 := 0) (L2 := [vr 57, vi 8, vi x7]) rfl rfl rfl (Nat.le_of_ble_eq_true rfl) (Nat.le_of_ble_eq_true rfl) (Nat.le_of_ble_eq_true rfl) (rcv_V rfl (congrArg Prod.fst (kf_57 X.1))) rfl ?_
            refine wp_iload rfl rfl ?_
            refine wp_ifltF (tn := 19) rfl rfl (by decide) ?_
            refine wp_iload rfl rfl ?_
            refine wp_iconst rfl ?_
            refine wp_icgeF (tn := 19) rfl rfl (by decide) ?_
            refine wp_iload rfl rfl ?_
            refine wp_ifltF (tn := 19) rfl rfl c5 ?_
            refine wp_iload rfl rfl ?_
            refine wp_iconst rfl ?_
            refine wp_icltF (tn := 21) rfl rfl c9 ?_
            refine wp_sipush rfl ?_
            refine wp_lret rfl rfl ?_
            show Wp X _ 246 60 [vr 57, vr 62, vi x2, vl (x3 + 0), vu, vl x5, vu, vi x7, vi 8] [vl 0, vl x5] _ _
            refine wp_ladd rfl ?_
            have g13 := H.1
            replace H := H.2
            refine Wp.topL (y := (x5 + 0)) (w64_I g13) ?_
            refine wp_lstore (L2 := [vr 57, vr 62, vi x2, vl (x3 + 0), vu, vl (x5 + 0), vu, vi x7, vi 8]) rfl (Nat.le_of_ble_eq_true rfl) rfl ?_
            have g14 := H.1
            replace H := H.2
            refine wp_iincR (L2 := [vr 57, vr 62, vi x2, vl (x3 + 0), vu, vl (x5 + 0), vu, vi (x7 + 1), vi 8]) rfl rfl g14 rfl ?_
            refine wp_goto (tn := 14) rfl rfl ?_
            exact H
      · replace H := H.2 c4
        refine wp_iload rfl rfl ?_
        refine wp_aload rfl rfl ?_
        refine wp_getI (j := 6) rfl (congrArg Prod.fst (kf_62 X.1)) rfl ?_
        refine wp_icge (tn := 16) rfl rfl (fun c15 => ?_) (fun c15 => ?_)
        · replace H := H.1 c15
          refine wp_iconst rfl ?_
          refine wp_zret rfl rfl (by decide) ?_
          show Wp X _ 192 5 [vr 62, vi (x2 - x7)] [vi 0] _ _
          refine wp_ifeqT (tn := 17) rfl rfl (by decide) ?_
          refine wp_iconst rfl ?_
          refine wp_iret rfl rfl ?_
          show Wp X _ 246 37 [vr 57, vr 62, vi x2, vl x3, vu, vl x5, vu, vi x7, zx8] [vi 8] _ _
          refine wp_istore (L2 := [vr 57, vr 62, vi x2, vl x3, vu, vl x5, vu, vi x7, vi 8]) rfl (Nat.le_of_ble_eq_true rfl) rfl ?_
          refine wp_lload rfl rfl ?_
          refine wp_aload rfl rfl ?_
          refine wp_iload rfl rfl ?_
          refine wp_iload rfl rfl ?_
          refine wp_call (k := 239) (ρ2 := 0) (L2 := [vr 57, vi 8, vi x7]) rfl rfl rfl (Nat.le_of_ble_eq_true rfl) (Nat.le_of_ble_eq_true rfl) (Nat.le_of_ble_eq_true rfl) (rcv_V rfl (congrArg Prod.fst (kf_57 X.1))) rfl ?_
          refine wp_iload rfl rfl ?_
          refine wp_ifltF (tn := 19) rfl rfl (by decide) ?_
          refine wp_iload rfl rfl ?_
          refine wp_iconst rfl ?_
          refine wp_icgeF (tn := 19) rfl rfl (by decide) ?_
          refine wp_iload rfl rfl ?_
          refine wp_iflt (tn := 19) rfl rfl (fun c16 => ?_) (fun c16 => ?_)
          · replace H := H.1 c16
            refine wp_sipush rfl ?_
            refine wp_lret rfl rfl ?_
            show Wp X _ 246 48 [vr 57, vr 62, vi x2, vl x3, vu, vl x5, vu, vi x7, vi 8] [vl 0, vl x3] _ _
            refine wp_ladd rfl ?_
            have g17 := H.1
            replace H := H.2
            refine Wp.topL (y := (x3 + 0)) (w64_I g17) ?_
            refine wp_lstore (L2 := [vr 57, vr 62, vi x2, vl (x3 + 0), vu, vl x5, vu, vi x7, vi 8]) rfl (Nat.le_of_ble_eq_true rfl) rfl ?_
            refine wp_lload rfl rfl ?_
            refine wp_aload rfl rfl ?_
            refine wp_iload rfl rfl ?_
            refine wp_iload rfl rfl ?_
            refine wp_call (k := 240) (ρ2 := 0) (L2 := [vr 57, vi 8, vi x7]) rfl rfl rfl (Nat.le_of_ble_eq_true rfl) (Nat.le_of_ble_eq_true rfl) (Nat.le_of_ble_eq_true rfl) (rcv_V rfl (congrArg Prod.fst (kf_57 X.1))) rfl ?_
            refine wp_iload rfl rfl ?_
            refine wp_ifltF (tn := 19) rfl rfl (by decide) ?_
            refine wp_iload rfl rfl ?_
            refine wp_iconst rfl ?_
            refine wp_icgeF (tn := 19) rfl rfl (by decide) ?_
            refine wp_iload rfl rfl ?_
            refine wp_ifltT (tn := 19) rfl rfl c16 ?_
            refine wp_sipush rfl ?_
            refine wp_lret rfl rfl ?_
            show Wp X _ 246 60 [vr 57, vr 62, vi x2, vl (x3 + 0), vu, vl x5, vu, vi x7, vi 8] [vl 0, vl x5] _ _
            refine wp_ladd rfl ?_
            have g18 := H.1
            replace H := H.2
            refine Wp.topL (y := (x5 + 0)) (w64_I g18) ?_
            refine wp_lstore (L2 := [vr 57, vr 62, vi x2, vl (x3 + 0), vu, vl (x5 + 0), vu, vi x7, vi 8]) rfl (Nat.le_of_ble_eq_true rfl) rfl ?_
            have g19 := H.1
            replace H := H.2
            refine wp_iincR (L2 := [vr 57, vr 62, vi x2, vl (x3 + 0), vu, vl (x5 + 0), vu, vi (x7 + 1), vi 8]) rfl rfl g19 rfl ?_
            refine wp_goto (tn := 14) rfl rfl ?_
            exact H
          · replace H := H.2 c16
            refine wp_iload rfl rfl ?_
            refine wp_iconst rfl ?_
            refine wp_iclt (tn := 21) rfl rfl (fun c20 => ?_) (fun c20 => ?_)
            · replace H := H.1 c20
              refine wp_aload rfl rfl ?_
              refine wp_getR (r := 57) rfl (congrArg Prod.fst (kf_57 X.1)) rfl ?_
              refine wp_iload rfl rfl ?_
              refine wp_laload rfl (kf_58 X.1) (by decide) ?_
              refine wp_aload rfl rfl ?_
              refine wp_getR (r := 59) rfl (congrArg Prod.fst (kf_57 X.1)) rfl ?_
              refine wp_iload rfl rfl ?_
              refine wp_laload rfl (kf_60 X.1) ⟨c16, c20⟩ ?_
              refine wp_land rfl ?_
              refine wp_lret rfl rfl ?_
              show Wp X _ 246 48 [vr 57, vr 62, vi x2, vl x3, vu, vl x5, vu, vi x7, vi 8] [vl ((i64 (h 58 8) &&& i64 (h 60 x7)).toInt), vl x3] _ _
              refine wp_ladd rfl ?_
              have g21 := H.1
              replace H := H.2
              refine Wp.topL (y := (x3 + ((i64 (h 58 8) &&& i64 (h 60 x7)).toInt))) (w64_I g21) ?_
              refine wp_lstore (L2 := [vr 57, vr 62, vi x2, vl (x3 + ((i64 (h 58 8) &&& i64 (h 60 x7)).toInt)), vu, vl x5, vu, vi x7, vi 8]) rfl (Nat.le_of_ble_eq_true rfl) rfl ?_
              refine wp_lload rfl rfl ?_
              refine wp_aload rfl rfl ?_
              refine wp_iload rfl rfl ?_
              refine wp_iload rfl rfl ?_
              refine wp_call (k := 240) (ρ2 := 0) (L2 := [vr 57, vi 8, vi x7]) rfl rfl rfl (Nat.le_of_ble_eq_true rfl) (Nat.le_of_ble_eq_true rfl) (Nat.le_of_ble_eq_true rfl) (rcv_V rfl (congrArg Prod.fst (kf_57 X.1))) rfl ?_
              refine wp_iload rfl rfl ?_
              refine wp_ifltF (tn := 19) rfl rfl (by decide) ?_
              refine wp_iload rfl rfl ?_
              refine wp_iconst rfl ?_
              refine wp_icgeF (tn := 19) rfl rfl (by decide) ?_
              refine wp_iload rfl rfl ?_
              refine wp_ifltF (tn := 19) rfl rfl c16 ?_
              refine wp_iload rfl rfl ?_
              refine wp_iconst rfl ?_
              refine wp_icltT (tn := 21) rfl rfl c20 ?_
              refine wp_aload rfl rfl ?_
              refine wp_getR (r := 58) rfl (congrArg Prod.fst (kf_57 X.1)) rfl ?_
              refine wp_iload rfl rfl ?_
              refine wp_laload rfl (kf_59 X.1) (by decide) ?_
              refine wp_aload rfl rfl ?_
              refine wp_getR (r := 59) rfl (congrArg Prod.fst (kf_57 X.1)) rfl ?_
              refine wp_iload rfl rfl ?_
              refine wp_laload rfl (kf_60 X.1) ⟨c16, c20⟩ ?_
              refine wp_land rfl ?_
              refine wp_lret rfl rfl ?_
              show Wp X _ 246 60 [vr 57, vr 62, vi x2, vl (x3 + ((i64 (h 58 8) &&& i64 (h 60 x7)).toInt)), vu, vl x5, vu, vi x7, vi 8] [vl ((i64 (h 59 8) &&& i64 (h 60 x7)).toInt), vl x5] _ _
              refine wp_ladd rfl ?_
              have g22 := H.1
              replace H := H.2
              refine Wp.topL (y := (x5 + ((i64 (h 59 8) &&& i64 (h 60 x7)).toInt))) (w64_I g22) ?_
              refine wp_lstore (L2 := [vr 57, vr 62, vi x2, vl (x3 + ((i64 (h 58 8) &&& i64 (h 60 x7)).toInt)), vu, vl (x5 + ((i64 (h 59 8) &&& i64 (h 60 x7)).toInt)), vu, vi x7, vi 8]) rfl (Nat.le_of_ble_eq_true rfl) rfl ?_
              refine wp_iincR (L2 := [vr 57, vr 62, vi x2, vl (x3 + ((i64 (h 58 8) &&& i64 (h 60 x7)).toInt)), vu, vl (x5 + ((i64 (h 59 8) &&& i64 (h 60 x7)).toInt)), vu, vi (x7 + 1), vi 8]) rfl rfl (by clear H; unfold R32; omega) rfl ?_
              refine wp_goto (tn := 14) rfl rfl ?_
              exact H
            · replace H := H.2 c20
              refine wp_sipush rfl ?_
              refine wp_lret rfl rfl ?_
              show Wp X _ 246 48 [vr 57, vr 62, vi x2, vl x3, vu, vl x5, vu, vi x7, vi 8] [vl 0, vl x3] _ _
              refine wp_ladd rfl ?_
              have g23 := H.1
              replace H := H.2
              refine Wp.topL (y := (x3 + 0)) (w64_I g23) ?_
              refine wp_lstore (L2 := [vr 57, vr 62, vi x2, vl (x3 + 0), vu, vl x5, vu, vi x7, vi 8]) rfl (Nat.le_of_ble_eq_true rfl) rfl ?_
              refine wp_lload rfl rfl ?_
              refine wp_aload rfl rfl ?_
              refine wp_iload rfl rfl ?_
              refine wp_iload rfl rfl ?_
              refine wp_call (k := 240) (ρ2 := 0) (L2 := [vr 57, vi 8, vi x7]) rfl rfl rfl (Nat.le_of_ble_eq_true rfl) (Nat.le_of_ble_eq_true rfl) (Nat.le_of_ble_eq_true rfl) (rcv_V rfl (congrArg Prod.fst (kf_57 X.1))) rfl ?_
              refine wp_iload rfl rfl ?_
              refine wp_ifltF (tn := 19) rfl rfl (by decide) ?_
              refine wp_iload rfl rfl ?_
              refine wp_iconst rfl ?_
              refine wp_icgeF (tn := 19) rfl rfl (by decide) ?_
              refine wp_iload rfl rfl ?_
              refine wp_ifltF (tn := 19) rfl rfl c16 ?_
              refine wp_iload rfl rfl ?_
              refine wp_iconst rfl ?_
              refine wp_icltF (tn := 21) rfl rfl c20 ?_
              refine wp_sipush rfl ?_
              refine wp_lret rfl rfl ?_
              show Wp X _ 246 60 [vr 57, vr 62, vi x2, vl (x3 + 0), vu, vl x5, vu, vi x7, vi 8] [vl 0, vl x5] _ _
              refine wp_ladd rfl ?_
              have g24 := H.1
              replace H := H.2
              refine Wp.topL (y := (x5 + 0)) (w64_I g24) ?_
              refine wp_lstore (L2 := [vr 57, vr 62, vi x2, vl (x3 + 0), vu, vl (x5 + 0), vu, vi x7, vi 8]) rfl (Nat.le_of_ble_eq_true rfl) rfl ?_
              have g25 := H.1
              replace H := H.2
              refine wp_iincR (L2 := [vr 57, vr 62, vi x2, vl (x3 + 0), vu, vl (x5 + 0), vu, vi (x7 + 1), vi 8]) rfl rfl g25 rfl ?_
              refine wp_goto (tn := 14) rfl rfl ?_
              exact H
        · replace H := H.2 c15
          refine wp_iconst rfl ?_
          refine wp_goto (tn := 17) rfl rfl ?_
          refine wp_zret rfl rfl (by decide) ?_
          show Wp X _ 192 5 [vr 62, vi (x2 - x7)] [vi 1] _ _
          refine wp_ifeqF (tn := 17) rfl rfl (by decide) ?_
          refine wp_aload rfl rfl ?_
          refine wp_getR (r := 64) rfl (congrArg Prod.fst (kf_62 X.1)) rfl ?_
          refine wp_iload rfl rfl ?_
          have g26 := H.1
          replace H := H.2
          refine wp_iaload rfl (kf_65 X.1) g26 ?_
          refine wp_goto (tn := 19) rfl rfl ?_
          refine wp_iret rfl rfl ?_
          show Wp X _ 246 37 [vr 57, vr 62, vi x2, vl x3, vu, vl x5, vu, vi x7, zx8] [vi (h 65 (x2 - x7))] _ _
          refine wp_istore (L2 := [vr 57, vr 62, vi x2, vl x3, vu, vl x5, vu, vi x7, vi (h 65 (x2 - x7))]) rfl (Nat.le_of_ble_eq_true rfl) rfl ?_
          refine wp_lload rfl rfl ?_
          refine wp_aload rfl rfl ?_
          refine wp_iload rfl rfl ?_
          refine wp_iload rfl rfl ?_
          refine wp_call (k := 239) (ρ2 := 0) (L2 := [vr 57, vi (h 65 (x2 - x7)), vi x7]) rfl rfl rfl (Nat.le_of_ble_eq_true rfl) (Nat.le_of_ble_eq_true rfl) (Nat.le_of_ble_eq_true rfl) (rcv_V rfl (congrArg Prod.fst (kf_57 X.1))) rfl ?_
          refine wp_iload rfl rfl ?_
          refine wp_iflt (tn := 19) rfl rfl (fun c27 => ?_) (fun c27 => ?_)
          · replace H := H.1 c27
            refine wp_sipush rfl ?_
            refine wp_lret rfl rfl ?_
            show Wp X _ 246 48 [vr 57, vr 62, vi x2, vl x3, vu, vl x5, vu, vi x7, vi (h 65 (x2 - x7))] [vl 0, vl x3] _ _
            refine wp_ladd rfl ?_
            have g28 := H.1
            replace H := H.2
            refine Wp.topL (y := (x3 + 0)) (w64_I g28) ?_
            refine wp_lstore (L2 := [vr 57, vr 62, vi x2, vl (x3 + 0), vu, vl x5, vu, vi x7, vi (h 65 (x2 - x7))]) rfl (Nat.le_of_ble_eq_true rfl) rfl ?_
            refine wp_lload rfl rfl ?_
            refine wp_aload rfl rfl ?_
            refine wp_iload rfl rfl ?_
            refine wp_iload rfl rfl ?_
            refine wp_call (k := 240) (ρ2 := 0) (L2 := [vr 57, vi (h 65 (x2 - x7)), vi x7]) rfl rfl rfl (Nat.le_of_ble_eq_true rfl) (Nat.le_of_ble_eq_true rfl) (Nat.le_of_ble_eq_true rfl) (rcv_V rfl (congrArg Prod.fst (kf_57 X.1))) rfl ?_
            refine wp_iload rfl rfl ?_
            refine wp_ifltT (tn := 19) rfl rfl c27 ?_
            refine wp_sipush rfl ?_
            refine wp_lret rfl rfl ?_
            show Wp X _ 246 60 [vr 57, vr 62, vi x2, vl (x3 + 0), vu, vl x5, vu, vi x7, vi (h 65 (x2 - x7))] [vl 0, vl x5] _ _
            refine wp_ladd rfl ?_
            have g29 := H.1
            replace H := H.2
            refine Wp.topL (y := (x5 + 0)) (w64_I g29) ?_
            refine wp_lstore (L2 := [vr 57, vr 62, vi x2, vl (x3 + 0), vu, vl (x5 + 0), vu, vi x7, vi (h 65 (x2 - x7))]) rfl (Nat.le_of_ble_eq_true rfl) rfl ?_
            have g30 := H.1
            replace H := H.2
            refine wp_iincR (L2 := [vr 57, vr 62, vi x2, vl (x3 + 0), vu, vl (x5 + 0), vu, vi (x7 + 1), vi (h 65 (x2 - x7))]) rfl rfl g30 rfl ?_
            refine wp_goto (tn := 14) rfl rfl ?_
            exact H
          · replace H := H.2 c27
            refine wp_iload rfl rfl ?_
            refine wp_iconst rfl ?_
            refine wp_icge (tn := 19) rfl rfl (fun c31 => ?_) (fun c31 => ?_)
            · replace H := H.1 c31
              refine wp_sipush rfl ?_
              refine wp_lret rfl rfl ?_
              show Wp X _ 246 48 [vr 57, vr 62, vi x2, vl x3, vu, vl x5, vu, vi x7, vi (h 65 (x2 - x7))] [vl 0, vl x3] _ _
              refine wp_ladd rfl ?_
              have g32 := H.1
              replace H := H.2
              refine Wp.topL (y := (x3 + 0)) (w64_I g32) ?_
              refine wp_lstore (L2 := [vr 57, vr 62, vi x2, vl (x3 + 0), vu, vl x5, vu, vi x7, vi (h 65 (x2 - x7))]) rfl (Nat.le_of_ble_eq_true rfl) rfl ?_
              refine wp_lload rfl rfl ?_
              refine wp_aload rfl rfl ?_
              refine wp_iload rfl rfl ?_
              refine wp_iload rfl rfl ?_
              refine wp_call (k := 240) (ρ2 := 0) (L2 := [vr 57, vi (h 65 (x2 - x7)), vi x7]) rfl rfl rfl (Nat.le_of_ble_eq_true rfl) (Nat.le_of_ble_eq_true rfl) (Nat.le_of_ble_eq_true rfl) (rcv_V rfl (congrArg Prod.fst (kf_57 X.1))) rfl ?_
              refine wp_iload rfl rfl ?_
              refine wp_ifltF (tn := 19) rfl rfl c27 ?_
              refine wp_iload rfl rfl ?_
              refine wp_iconst rfl ?_
              refine wp_icgeT (tn := 19) rfl rfl c31 ?_
              refine wp_sipush rfl ?_
              refine wp_lret rfl rfl ?_
              show Wp X _ 246 60 [vr 57, vr 62, vi x2, vl (x3 + 0), vu, vl x5, vu, vi x7, vi (h 65 (x2 - x7))] [vl 0, vl x5] _ _
              refine wp_ladd rfl ?_
              have g33 := H.1
              replace H := H.2
              refine Wp.topL (y := (x5 + 0)) (w64_I g33) ?_
              refine wp_lstore (L2 := [vr 57, vr 62, vi x2, vl (x3 + 0), vu, vl (x5 + 0), vu, vi x7, vi (h 65 (x2 - x7))]) rfl (Nat.le_of_ble_eq_true rfl) rfl ?_
              have g34 := H.1
              replace H := H.2
              refine wp_iincR (L2 := [vr 57, vr 62, vi x2, vl (x3 + 0), vu, vl (x5 + 0), vu, vi (x7 + 1), vi (h 65 (x2 - x7))]) rfl rfl g34 rfl ?_
              refine wp_goto (tn := 14) rfl rfl ?_
              exact H
            · replace H := H.2 c31
              refine wp_iload rfl rfl ?_
              refine wp_iflt (tn := 19) rfl rfl (fun c35 => ?_) (fun c35 => ?_)
              · replace H := H.1 c35
                refine wp_sipush rfl ?_
                refine wp_lret rfl rfl ?_
                show Wp X _ 246 48 [vr 57, vr 62, vi x2, vl x3, vu, vl x5, vu, vi x7, vi (h 65 (x2 - x7))] [vl 0, vl x3] _ _
                refine wp_ladd rfl ?_
                have g36 := H.1
                replace H := H.2
                refine Wp.topL (y := (x3 + 0)) (w64_I g36) ?_
                refine wp_lstore (L2 := [vr 57, vr 62, vi x2, vl (x3 + 0), vu, vl x5, vu, vi x7, vi (h 65 (x2 - x7))]) rfl (Nat.le_of_ble_eq_true rfl) rfl ?_
                refine wp_lload rfl rfl ?_
                refine wp_aload rfl rfl ?_
                refine wp_iload rfl rfl ?_
                refine wp_iload rfl rfl ?_
                refine wp_call (k := 240) (ρ2 := 0) (L2 := [vr 57, vi (h 65 (x2 - x7)), vi x7]) rfl rfl rfl (Nat.le_of_ble_eq_true rfl) (Nat.le_of_ble_eq_true rfl) (Nat.le_of_ble_eq_true rfl) (rcv_V rfl (congrArg Prod.fst (kf_57 X.1))) rfl ?_
                refine wp_iload rfl rfl ?_
                refine wp_ifltF (tn := 19) rfl rfl c27 ?_
                refine wp_iload rfl rfl ?_
                refine wp_iconst rfl ?_
                refine wp_icgeF (tn := 19) rfl rfl c31 ?_
                refine wp_iload rfl rfl ?_
                refine wp_ifltT (tn := 19) rfl rfl c35 ?_
                refine wp_sipush rfl ?_
                refine wp_lret rfl rfl ?_
                show Wp X _ 246 60 [vr 57, vr 62, vi x2, vl (x3 + 0), vu, vl x5, vu, vi x7, vi (h 65 (x2 - x7))] [vl 0, vl x5] _ _
                refine wp_ladd rfl ?_
                have g37 := H.1
                replace H := H.2
                refine Wp.topL (y := (x5 + 0)) (w64_I g37) ?_
                refine wp_lstore (L2 := [vr 57, vr 62, vi x2, vl (x3 + 0), vu, vl (x5 + 0), vu, vi x7, vi (h 65 (x2 - x7))]) rfl (Nat.le_of_ble_eq_true rfl) rfl ?_
                have g38 := H.1
                replace H := H.2
                refine wp_iincR (L2 := [vr 57, vr 62, vi x2, vl (x3 + 0), vu, vl (x5 + 0), vu, vi (x7 + 1), vi (h 65 (x2 - x7))]) rfl rfl g38 rfl ?_
                refine wp_goto (tn := 14) rfl rfl ?_
                exact H
              · replace H := H.2 c35
                refine wp_iload rfl rfl ?_
                refine wp_iconst rfl ?_
                refine wp_iclt (tn := 21) rfl rfl (fun c39 => ?_) (fun c39 => ?_)
                · replace H := H.1 c39
                  refine wp_aload rfl rfl ?_
                  refine wp_getR (r := 57) rfl (congrArg Prod.fst (kf_57 X.1)) rfl ?_
                  refine wp_iload rfl rfl ?_
                  refine wp_laload rfl (kf_58 X.1) ⟨c27, c31⟩ ?_
                  refine wp_aload rfl rfl ?_
                  refine wp_getR (r := 59) rfl (congrArg Prod.fst (kf_57 X.1)) rfl ?_
                  refine wp_iload rfl rfl ?_
                  refine wp_laload rfl (kf_60 X.1) ⟨c35, c39⟩ ?_
                  refine wp_land rfl ?_
                  refine wp_lret rfl rfl ?_
                  show Wp X _ 246 48 [vr 57, vr 62, vi x2, vl x3, vu, vl x5, vu, vi x7, vi (h 65 (x2 - x7))] [vl ((i64 (h 58 (h 65 (x2 - x7))) &&& i64 (h 60 x7)).toInt), vl x3] _ _
                  refine wp_ladd rfl ?_
                  have g40 := H.1
                  replace H := H.2
                  refine Wp.topL (y := (x3 + ((i64 (h 58 (h 65 (x2 - x7))) &&& i64 (h 60 x7)).toInt))) (w64_I g40) ?_
                  refine wp_lstore (L2 := [vr 57, vr 62, vi x2, vl (x3 + ((i64 (h 58 (h 65 (x2 - x7))) &&& i64 (h 60 x7)).toInt)), vu, vl x5, vu, vi x7, vi (h 65 (x2 - x7))]) rfl (Nat.le_of_ble_eq_true rfl) rfl ?_
                  refine wp_lload rfl rfl ?_
                  refine wp_aload rfl rfl ?_
                  refine wp_iload rfl rfl ?_
                  refine wp_iload rfl rfl ?_
                  refine wp_call (k := 240) (ρ2 := 0) (L2 := [vr 57, vi (h 65 (x2 - x7)), vi x7]) rfl rfl rfl (Nat.le_of_ble_eq_true rfl) (Nat.le_of_ble_eq_true rfl) (Nat.le_of_ble_eq_true rfl) (rcv_V rfl (congrArg Prod.fst (kf_57 X.1))) rfl ?_
                  refine wp_iload rfl rfl ?_
                  refine wp_ifltF (tn := 19) rfl rfl c27 ?_
                  refine wp_iload rfl rfl ?_
                  refine wp_iconst rfl ?_
                  refine wp_icgeF (tn := 19) rfl rfl c31 ?_
                  refine wp_iload rfl rfl ?_
                  refine wp_ifltF (tn := 19) rfl rfl c35 ?_
                  refine wp_iload rfl rfl ?_
                  refine wp_iconst rfl ?_
                  refine wp_icltT (tn := 21) rfl rfl c39 ?_
                  refine wp_aload rfl rfl ?_
                  refine wp_getR (r := 58) rfl (congrArg Prod.fst (kf_57 X.1)) rfl ?_
                  refine wp_iload rfl rfl ?_
                  refine wp_laload rfl (kf_59 X.1) ⟨c27, c31⟩ ?_
                  refine wp_aload rfl rfl ?_
                  refine wp_getR (r := 59) rfl (congrArg Prod.fst (kf_57 X.1)) rfl ?_
                  refine wp_iload rfl rfl ?_
                  refine wp_laload rfl (kf_60 X.1) ⟨c35, c39⟩ ?_
                  refine wp_land rfl ?_
                  refine wp_lret rfl rfl ?_
                  show Wp X _ 246 60 [vr 57, vr 62, vi x2, vl (x3 + ((i64 (h 58 (h 65 (x2 - x7))) &&& i64 (h 60 x7)).toInt)), vu, vl x5, vu, vi x7, vi (h 65 (x2 - x7))] [vl ((i64 (h 59 (h 65 (x2 - x7))) &&& i64 (h 60 x7)).toInt), vl x5] _ _
                  refine wp_ladd rfl ?_
                  have g41 := H.1
                  replace H := H.2
                  refine Wp.topL (y := (x5 + ((i64 (h 59 (h 65 (x2 - x7))) &&& i64 (h 60 x7)).toInt))) (w64_I g41) ?_
                  refine wp_lstore (L2 := [vr 57, vr 62, vi x2, vl (x3 + ((i64 (h 58 (h 65 (x2 - x7))) &&& i64 (h 60 x7)).toInt)), vu, vl (x5 + ((i64 (h 59 (h 65 (x2 - x7))) &&& i64 (h 60 x7)).toInt)), vu, vi x7, vi (h 65 (x2 - x7))]) rfl (Nat.le_of_ble_eq_true rfl) rfl ?_
                  refine wp_iincR (L2 := [vr 57, vr 62, vi x2, vl (x3 + ((i64 (h 58 (h 65 (x2 - x7))) &&& i64 (h 60 x7)).toInt)), vu, vl (x5 + ((i64 (h 59 (h 65 (x2 - x7))) &&& i64 (h 60 x7)).toInt)), vu, vi (x7 + 1), vi (h 65 (x2 - x7))]) rfl rfl (by clear H; unfold R32; omega) rfl ?_
                  refine wp_goto (tn := 14) rfl rfl ?_
                  exact H
                · replace H := H.2 c39
                  refine wp_sipush rfl ?_
                  refine wp_lret rfl rfl ?_
                  show Wp X _ 246 48 [vr 57, vr 62, vi x2, vl x3, vu, vl x5, vu, vi x7, vi (h 65 (x2 - x7))] [vl 0, vl x3] _ _
                  refine wp_ladd rfl ?_
                  have g42 := H.1
                  replace H := H.2
                  refine Wp.topL (y := (x3 + 0)) (w64_I g42) ?_
                  refine wp_lstore (L2 := [vr 57, vr 62, vi x2, vl (x3 + 0), vu, vl x5, vu, vi x7, vi (h 65 (x2 - x7))]) rfl (Nat.le_of_ble_eq_true rfl) rfl ?_
                  refine wp_lload rfl rfl ?_
                  refine wp_aload rfl rfl ?_
                  refine wp_iload rfl rfl ?_
                  refine wp_iload rfl rfl ?_
                  refine wp_call (k := 240) (ρ2 := 0) (L2 := [vr 57, vi (h 65 (x2 - x7)), vi x7]) rfl rfl rfl (Nat.le_of_ble_eq_true rfl) (Nat.le_of_ble_eq_true rfl) (Nat.le_of_ble_eq_true rfl) (rcv_V rfl (congrArg Prod.fst (kf_57 X.1))) rfl ?_
                  refine wp_iload rfl rfl ?_
                  refine wp_ifltF (tn := 19) rfl rfl c27 ?_
                  refine wp_iload rfl rfl ?_
                  refine wp_iconst rfl ?_
                  refine wp_icgeF (tn := 19) rfl rfl c31 ?_
                  refine wp_iload rfl rfl ?_
                  refine wp_ifltF (tn := 19) rfl rfl c35 ?_
                  refine wp_iload rfl rfl ?_
                  refine wp_iconst rfl ?_
                  refine wp_icltF (tn := 21) rfl rfl c39 ?_
                  refine wp_sipush rfl ?_
                  refine wp_lret rfl rfl ?_
                  show Wp X _ 246 60 [vr 57, vr 62, vi x2, vl (x3 + 0), vu, vl x5, vu, vi x7, vi (h 65 (x2 - x7))] [vl 0, vl x5] _ _
                  refine wp_ladd rfl ?_
                  have g43 := H.1
                  replace H := H.2
                  refine Wp.topL (y := (x5 + 0)) (w64_I g43) ?_
                  refine wp_lstore (L2 := [vr 57, vr 62, vi x2, vl (x3 + 0), vu, vl (x5 + 0), vu, vi x7, vi (h 65 (x2 - x7))]) rfl (Nat.le_of_ble_eq_true rfl) rfl ?_
                  have g44 := H.1
                  replace H := H.2
                  refine wp_iincR (L2 := [vr 57, vr 62, vi x2, vl (x3 + 0), vu, vl (x5 + 0), vu, vi (x7 + 1), vi (h 65 (x2 - x7))]) rfl rfl g44 rfl ?_
                  refine wp_goto (tn := 14) rfl rfl ?_
                  exact H
